/-! ===== the class's widest sets ===== -/
/-- the first n words of row j: sets of S, none below another, each of S below one -/
def WD (F : CT) (j n : Nat) (S : Nat → Prop) : Prop := ∃ e : Nat → Nat, (∀ p, p < n → F.1 j p = nI (e p) ∧ e p < 4096 ∧ S (e p)) ∧ (∀ p p', p < n → p' < n → p ≠ p' → ¬ sbs (e p) (e p')) ∧ ∀ x, S x → ∃ p, p < n ∧ sbs x (e p)
theorem dif_0 {a b : Nat} : dif a b = 0 ↔ sbs a b := by
  constructor
  · intro h k hk
    cases e : b.testBit k with
    | true => rfl
    | false =>
      have := dif_bit a b k
      rw [h, hk, e, Nat.zero_testBit] at this
      cases this
  · intro h
    refine sbs_0 fun k hk => ?_
    rw [dif_bit] at hk
    obtain ⟨h1, h2⟩ := Bool.and_eq_true_iff.mp hk
    rw [h k h1] at h2
    cases h2
theorem dif_lt {a b n : Nat} (h : a < 2 ^ n) : dif a b < 2 ^ n := sbs_lt (sbs_dif a b) h
theorem addWidest_ok {F : CT} {j n a : Nat} {S : Nat → Prop} {Q : Int32 → CT → Prop} (W : WD F j n S) (hn : n < 756) (ha : a < 4096) (hQ : ∀ n' F', n' ≤ n + 1 → (∀ j' k, j' ≠ j → F'.1 j' k = F.1 j' k) → WD F' j n' (fun x => S x ∨ x = a) → Q (nI n') F') : k_X1_addWidest F j (nI n) (nI a) Q := by
  obtain ⟨e, w1, w2, w3⟩ := W
  unfold k_X1_addWidest
  refine upl3 (N := n) (a := 0) (s := (0 : Int32)) (by omega) (fun i s c => ∃ (k : Nat) (g : Nat → Nat), s = nI k ∧ k ≤ i ∧ (∀ j' k, j' ≠ j → c.1 j' k = F.1 j' k) ∧ (∀ p, i ≤ p → c.1 j p = F.1 j p) ∧ (∀ p, p < k → g p < i ∧ c.1 j p = nI (e (g p)) ∧ ¬ sbs (e (g p)) a) ∧ (∀ p p', p < k → p' < k → p ≠ p' → g p ≠ g p') ∧ (∀ o, o < i → ¬ sbs a (e o) ∧ (sbs (e o) a ∨ ∃ p, p < k ∧ g p = o)) ∧ ((k = i ∧ ∀ p, c.1 j p = F.1 j p) ∨ ∃ o, o < i ∧ sbs (e o) a)) ?_ ?_ (by omega) ⟨0, id, rfl, by omega, fun _ _ _ => rfl, fun _ _ => rfl, fun p h => absurd h (by omega), fun p p' h => absurd h (by omega), fun o h => absurd h (by omega), Or.inl ⟨rfl, fun _ => rfl⟩⟩
  · rintro R i s c - hi ⟨k, g, rfl, hk, c1, c2, c3, c4, c5, c6⟩ ih
    obtain ⟨x1, x2, x3⟩ := w1 i hi
    have d1 : dif a (e i) < 2 ^ 12 := dif_lt (n := 12) ha
    have d2 : dif (e i) a < 2 ^ 12 := dif_lt (n := 12) x2
    rw [if_neg (nI_ge hi (by omega)), rdI_n (by omega) (by omega), c2 i (Nat.le_refl _), x1, dif_n (by omega) (by omega), dif_n (by omega) (by omega)]
    by_cases h1 : sbs a (e i)
    · rw [dif_0.mpr h1, if_neg (fun z => z rfl)]
      rcases c6 with ⟨-, c6⟩ | ⟨o, o1, o2⟩
      · refine hQ n c (by omega) c1 ⟨e, fun p hp => ⟨(c6 p).trans (w1 p hp).1, (w1 p hp).2.1, Or.inl (w1 p hp).2.2⟩, w2, ?_⟩
        rintro x (hx | rfl)
        · exact w3 x hx
        · exact ⟨i, hi, h1⟩
      · exact absurd (o2.trans h1) (w2 o i (by omega) hi (by omega))
    · have n1 : dif a (e i) ≠ 0 := fun z => h1 (dif_0.mp z)
      rw [if_pos (show nI (dif a (e i)) ≠ 0 from fun z => n1 ((nI_eq (b := 0) (by omega) (by omega)).mp z))]
      by_cases h2 : sbs (e i) a
      · rw [dif_0.mpr h2, if_pos (show nI 0 = 0 from rfl), nI_1]
        refine ih _ _ ⟨k, g, rfl, by omega, c1, fun p hp => c2 p (by omega), fun p hp => ⟨by have := (c3 p hp).1; omega, (c3 p hp).2⟩, c4, fun o ho => ?_, Or.inr ⟨i, by omega, h2⟩⟩
        by_cases hoi : o = i
        · subst hoi
          exact ⟨h1, Or.inl h2⟩
        · exact c5 o (by omega)
      · have n2 : dif (e i) a ≠ 0 := fun z => h2 (dif_0.mp z)
        rw [if_neg (show ¬ nI (dif (e i) a) = 0 from fun z => n2 ((nI_eq (b := 0) (by omega) (by omega)).mp z)), wrI_n (by omega) (by omega), nI_1, nI_1]
        refine ih _ _ ⟨k + 1, fun p => if p = k then i else g p, rfl, by omega, fun j' k' h => ?_, fun p hp => ?_, fun p hp => ?_, fun p p' hp hp' hne => ?_, fun o ho => ?_, ?_⟩
        · rw [sI_ne (by omega)]
          exact c1 j' k' h
        · rw [sI_ne (by omega)]
          exact c2 p (by omega)
        · dsimp only
          by_cases hpk : p = k
          · subst hpk
            rw [if_pos rfl, sI_same]
            exact ⟨by omega, rfl, h2⟩
          · rw [if_neg hpk, sI_ne (by omega)]
            have := c3 p (by omega)
            exact ⟨by omega, this.2⟩
        · dsimp only
          have q1 := c3 p
          have q2 := c3 p'
          have q3 := c4 p p'
          by_cases hpk : p = k
          · rw [if_pos hpk, if_neg (by omega)]
            have := (q2 (by omega)).1
            omega
          · rw [if_neg hpk]
            have := (q1 (by omega)).1
            by_cases hpk' : p' = k
            · rw [if_pos hpk']
              omega
            · rw [if_neg hpk']
              exact q3 (by omega) (by omega) hne
        · by_cases hoi : o = i
          · subst hoi
            exact ⟨h1, Or.inr ⟨k, by omega, if_pos rfl⟩⟩
          · obtain ⟨y1, y2⟩ := c5 o (by omega)
            refine ⟨y1, ?_⟩
            rcases y2 with y2 | ⟨p, y2, y3⟩
            · exact Or.inl y2
            · exact Or.inr ⟨p, by omega, by dsimp only; rw [if_neg (by omega)]; exact y3⟩
        · rcases c6 with ⟨rfl, c6⟩ | ⟨o, o1, o2⟩
          · refine Or.inl ⟨rfl, fun p => ?_⟩
            by_cases hp : p = k
            · subst hp
              rw [sI_same, x1]
            · rw [sI_ne (by omega)]
              exact c6 p
          · exact Or.inr ⟨o, by omega, o2⟩
  · rintro R s c ⟨k, g, rfl, hk, c1, c2, c3, c4, c5, c6⟩
    rw [if_pos (Int32.le_refl _), li_756, if_neg (nI_ge (by omega) (by omega)), wrI_n (by omega) (by omega), nI_1]
    refine hQ (k + 1) _ (by omega) (fun j' k' h => by rw [sI_ne (by omega)]; exact c1 j' k' h) ⟨fun p => if p = k then a else e (g p), fun p hp => ?_, fun p p' hp hp' hne => ?_, ?_⟩
    · dsimp only
      by_cases hpk : p = k
      · subst hpk
        rw [if_pos rfl, sI_same]
        exact ⟨rfl, ha, Or.inr rfl⟩
      · rw [if_neg hpk, sI_ne (by omega)]
        obtain ⟨y1, y2, -⟩ := c3 p (by omega)
        exact ⟨y2, (w1 _ y1).2.1, Or.inl (w1 _ y1).2.2⟩
    · dsimp only
      by_cases hpk : p = k
      · rw [if_pos hpk, if_neg (by omega)]
        exact (c5 _ (c3 p' (by omega)).1).1
      · rw [if_neg hpk]
        obtain ⟨y1, y2, y3⟩ := c3 p (by omega)
        by_cases hpk' : p' = k
        · rw [if_pos hpk']
          exact y3
        · rw [if_neg hpk']
          exact w2 _ _ y1 (c3 p' (by omega)).1 (c4 p p' (by omega) (by omega) hne)
    · rintro x (hx | rfl)
      · obtain ⟨o, h1, h2⟩ := w3 x hx
        rcases (c5 o h1).2 with y | ⟨p, y1, y2⟩
        · exact ⟨k, by omega, by dsimp only; rw [if_pos rfl]; exact h2.trans y⟩
        · exact ⟨p, by omega, by dsimp only; rw [if_neg (by omega), y2]; exact h2⟩
      · exact ⟨k, by omega, by dsimp only; rw [if_pos rfl]; exact sbs.refl x⟩
