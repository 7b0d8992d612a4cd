/-! ===== swaps: the class's tables of rounds ===== -/
def bl : Nat → Nat
  | 0 => 0
  | s + 1 => if s + 1 = 2 ^ bl s then bl s + 1 else bl s
theorem bl_s {s : Nat} : bl (s + 1) = if s + 1 = 2 ^ bl s then bl s + 1 else bl s := rfl
theorem bl_ok : ∀ s, s < 2 ^ bl s ∧ ((bl s = 0 ∧ s = 0) ∨ (1 ≤ bl s ∧ 2 ^ (bl s - 1) ≤ s))
  | 0 => ⟨by decide, Or.inl ⟨rfl, rfl⟩⟩
  | s + 1 => by
    obtain ⟨h1, h2⟩ := bl_ok s
    rw [bl_s]
    by_cases e : s + 1 = 2 ^ bl s
    · rw [if_pos e, Nat.add_sub_cancel, Nat.pow_succ, ← e]
      exact ⟨by omega, Or.inr ⟨by omega, Nat.le_refl _⟩⟩
    · rw [if_neg e]
      refine ⟨by omega, ?_⟩
      rcases h2 with ⟨a, b⟩ | ⟨a, b⟩
      · rw [a, b] at e
        exact absurd rfl e
      · exact Or.inr ⟨a, by omega⟩
theorem m0a : nI (bl 0) + -1 = -1 := by
  rw [show bl 0 = 0 from rfl]
  decide
section Tab
variable {P T U : CT} {V : VW} {f m h b : Nat}
theorem sq_surj (V : VW) : ∀ k y, y < k → ∃ i, i < k ∧ sq V k i = y
  | 0, y, h => absurd h (by omega)
  | k + 1, y, h => by
    have hp := posB_le (bhS V) (sq V k) k k
    have e : sq V (k + 1) = insF (sq V k) (posB (bhS V) (sq V k) k k) k := rfl
    rw [e]
    generalize posB (bhS V) (sq V k) k k = p at hp
    unfold insF
    by_cases z : y = k
    · exact ⟨p, by omega, by rw [if_neg (by omega), if_pos rfl, z]⟩
    · obtain ⟨i, i1, i2⟩ := sq_surj V k y (by omega)
      by_cases w : i < p
      · exact ⟨i, by omega, by rw [if_pos w]; exact i2⟩
      · exact ⟨i + 1, by omega, by rw [if_neg (by omega), if_neg (by omega), Nat.add_sub_cancel]; exact i2⟩
/-- the last house of a set of ranks -/
theorem tp_last {S : Nat} : ∀ k, (S < 2 ^ k) → (tp V h b (S.testBit) k).1 = (if S = 0 then none else some (sq V h (bl S - 1)))
  | 0, hS => by
    rw [if_pos (show S = 0 by omega)]
    rfl
  | k + 1, hS => by
    obtain ⟨l1, l2⟩ := bl_ok S
    rw [tp_s]
    by_cases e : S.testBit k = true
    · rw [if_pos e, if_neg (nz_bit e)]
      have : bl S = k + 1 := by
        have g1 : 2 ^ k ≤ S := Nat.ge_two_pow_of_testBit e
        apply Nat.le_antisymm
        · apply Nat.le_of_not_lt
          intro z
          rcases l2 with ⟨a, -⟩ | ⟨a, c⟩
          · omega
          · have : 2 ^ (k + 1) ≤ 2 ^ (bl S - 1) := Nat.pow_le_pow_right (by decide) (by omega)
            omega
        · apply Nat.le_of_not_lt
          intro z
          have : 2 ^ bl S ≤ 2 ^ k := Nat.pow_le_pow_right (by decide) (by omega)
          omega
      rw [this]
      rfl
    · rw [if_neg e]
      exact tp_last k (lt_top hS (by cases q : S.testBit k with | false => rfl | true => exact absurd q e))
theorem tp_up {S k : Nat} (hS : S < 2 ^ k) : ∀ j, tp V h b (S.testBit) (k + j) = tp V h b (S.testBit) k
  | 0 => rfl
  | j + 1 => by
    show tp V h b (S.testBit) (k + j + 1) = _
    rw [tp_s, if_neg]
    · exact tp_up hS j
    · rw [Nat.testBit_lt_two_pow (Nat.lt_of_lt_of_le hS (Nat.pow_le_pow_right (by decide) (by omega)))]
      decide
theorem tr_set {S k : Nat} (hS : S < 2 ^ k) (hk : k ≤ h) : trN V h b (S.testBit) = (tp V h b (S.testBit) k).2 + bkN V b (tp V h b (S.testBit) k).1 := by
  unfold trN
  have := tp_up (V := V) (h := h) (b := b) hS (h - k)
  rw [show k + (h - k) = h by omega] at this
  rw [this]
/-- one house more at the end -/
theorem tr_end {S k : Nat} (hS : S < 2 ^ k) (hk : k < h) : trN V h b ((S + 2 ^ k).testBit) = (tp V h b (S.testBit) k).2 + stN V b (tp V h b (S.testBit) k).1 (sq V h k) + hmN V b (sq V h k) := by
  have lt : S + 2 ^ k < 2 ^ (k + 1) := by
    rw [Nat.pow_succ]
    omega
  have cg : tp V h b ((S + 2 ^ k).testBit) k = tp V h b (S.testBit) k := tp_cg fun r hr => by rw [Nat.add_comm, Nat.testBit_two_pow_add_gt hr]
  have bt : (S + 2 ^ k).testBit k = true := by
    rw [Nat.add_comm, Nat.testBit_two_pow_add_eq, Nat.testBit_lt_two_pow hS]
    rfl
  rw [tr_set lt (by omega), tp_s, if_pos bt, cg]
  rfl
def UTB (U : CT) (V : VW) (h b k : Nat) : Prop := ∀ S, S < 2 ^ k → U.1 0 (1024 * b + S) = nI (trN V h b (S.testBit))
theorem fromSt {B : Int32 → Prop} {v : Int32} {o : Option Nat} (h9 : h ≤ 10) (r3 : ∀ i, i < h → T.1 3 i = nI (sq V h i)) (hv : (v = -1 ∧ o = none) ∨ ∃ e, e < h ∧ v = nI e ∧ o = some (sq V h e)) (hB : B (oH2 o)) : jn (fun (t28 : Int32) => B t28) (fun J40 => (if v ≠ (-1 : Int32) then rdI T 3 10 v (fun t42 => J40 t42) else J40 (-1 : Int32))) := by
  rw [jn_eq]
  rcases hv with ⟨rfl, rfl⟩ | ⟨e, he, rfl, rfl⟩
  · rw [if_neg (fun z => z rfl)]
    exact hB
  · rw [if_pos (by rw [ne_eq, m1_ne (by omega)]; exact id), rdI_n (by omega) (by omega), r3 e he]
    exact hB
theorem endingAt_ok {k : Nat} {Q : CT → Prop} (h9 : h ≤ 10) (hb : b < 3) (gm : PMan P.1 V b) (gh : ∀ i, i < h → PHou P.1 V f m i) (hk : k < h) (r3 : ∀ i, i < h → T.1 3 i = nI (sq V h i)) (u0 : UTB U V h b k) (hQ : ∀ U', (∀ j x, ¬ (j = 0 ∧ 1024 * b ≤ x ∧ x < 1024 * b + 1024) → U'.1 j x = U.1 j x) → UTB U' V h b (k + 1) → Q U') : k_X9_prepareToursEndingAt P T U (nI b) (nI k) Q := by
  have sk := (sq_ok V h).1 k hk
  have pk : 2 ^ k ≤ 2 ^ 9 := Nat.pow_le_pow_right (by decide) (by omega)
  unfold k_X9_prepareToursEndingAt
  have hb10 : nI b <<< ((10 : Int32) &&& 31) = nI (1024 * b) := by
    rw [li_10, shl_n (by omega) (by omega), Nat.mul_comm]
  rw [hb10, vK_eq, rdI_n (by omega) (by omega), r3 k hk, shl_1 (by omega)]
  refine upl3 (N := 2 ^ k) (a := 0) (by omega) (fun i s c => s = nI (bl (i - 1)) + -1 ∧ (∀ j x, ¬ (j = 0 ∧ 1024 * b ≤ x ∧ x < 1024 * b + 1024) → c.1 j x = U.1 j x) ∧ (∀ S, S < 2 ^ k → c.1 0 (1024 * b + S) = U.1 0 (1024 * b + S)) ∧ ∀ S, S < i → c.1 0 (1024 * b + (S + 2 ^ k)) = nI (trN V h b ((S + 2 ^ k).testBit))) ?_ ?_ (Nat.zero_le _) ⟨by decide, fun _ _ _ => rfl, fun _ _ => rfl, fun S hS => absurd hS (by omega)⟩
  · rintro R i s c - hi ⟨rfl, c1, c2, c3⟩ ih
    rw [if_neg (nI_ge hi (by omega)), p1m]
    obtain ⟨l1, l2⟩ := bl_ok (i - 1)
    obtain ⟨m1, m2⟩ := bl_ok i
    have bl10 : bl (i - 1) ≤ 10 := by
      rcases l2 with ⟨a, -⟩ | ⟨a, c⟩
      · omega
      · apply Nat.le_of_not_lt
        intro z
        have : 2 ^ 10 ≤ 2 ^ (bl (i - 1) - 1) := Nat.pow_le_pow_right (by decide) (by omega)
        omega
    have ib : bl i ≤ k := by
      rcases m2 with ⟨a, -⟩ | ⟨a, c⟩
      · omega
      · apply Nat.le_of_not_lt
        intro z
        have : 2 ^ k ≤ 2 ^ (bl i - 1) := Nat.pow_le_pow_right (by decide) (by omega)
        omega
    have p10 : 2 ^ bl (i - 1) ≤ 2 ^ 10 := Nat.pow_le_pow_right (by decide) bl10
    rw [shl_1 (by omega)]
    obtain ⟨t1, t2⟩ := tp_b (p := i.testBit) gm gh k (by omega)
    have tl := tp_last (V := V) (h := h) (b := b) k hi
    have new := tr_end (V := V) (b := b) hi hk
    have old := tr_set (V := V) (b := b) hi (by omega : k ≤ h)
    have main : ∀ o : Option Nat, o = (tp V h b (i.testBit) k).1 → R (nI (bl i) + -1) (nI (i + 1)) (sI c 0 (1024 * b + (i + 2 ^ k)) (nI (trN V h b ((i + 2 ^ k).testBit)))) → rdI c 0 3072 (nI (1024 * b) + nI i) (fun t30 => k_X6_homeward P (nI b) (oH2 o) (fun t32 => k_X6_onward P (nI b) (oH2 o) (nI (sq V h k)) (fun t33 => k_X6_homeward P (nI b) (nI (sq V h k)) (fun t34 => wrI c 0 3072 (nI (1024 * b) + (nI i ||| nI (2 ^ k))) (((t30 - t32) + t33) + t34) (fun c35 => R (nI (bl i) + -1) (nI i + 1) c35))))) := fun o ho hr => by
      subst ho
      have bk : bkN V b (tp V h b (i.testBit) k).1 ≤ trN V h b (i.testBit) := by rw [old]; omega
      rw [nI_add, rdI_n (by omega) (by omega), c2 i hi, u0 i hi, homewardN gm gh hb h9 t2, onwardN gm gh hb h9 sk t2, homeward_ok gm (gh _ sk) hb (by omega), (hm_n gm (gh _ sk)).1, or_n]
      have eo : i ||| 2 ^ k = i + 2 ^ k := by
        have := Nat.two_pow_add_eq_or_of_lt hi 1
        rw [Nat.mul_one] at this
        rw [Nat.or_comm, ← this, Nat.add_comm]
      rw [eo, nI_add, pk_sub bk, nI_add, nI_add, wrI_n (by omega) (by omega), nI_1]
      rw [new] at hr
      rw [old, Nat.add_sub_cancel]
      exact hr
    have nxt : R (nI (bl i) + -1) (nI (i + 1)) (sI c 0 (1024 * b + (i + 2 ^ k)) (nI (trN V h b ((i + 2 ^ k).testBit)))) := by
      refine ih _ _ ⟨by rw [Nat.add_sub_cancel], fun j x hj => (sI_ne (by omega)).trans (c1 j x hj), fun S hS => (sI_ne (by omega)).trans (c2 S hS), fun S hS => ?_⟩
      by_cases e : S = i
      · subst e
        rw [sI_same]
      · rw [sI_ne (by omega)]
        exact c3 S (by omega)
    have go : ∀ v : Int32, v = nI (bl i) + -1 → jn (fun (t28 : Int32) => rdI c 0 3072 (nI (1024 * b) + nI i) (fun t30 => k_X6_homeward P (nI b) t28 (fun t32 => k_X6_onward P (nI b) t28 (nI (sq V h k)) (fun t33 => k_X6_homeward P (nI b) (nI (sq V h k)) (fun t34 => wrI c 0 3072 (nI (1024 * b) + (nI i ||| nI (2 ^ k))) (((t30 - t32) + t33) + t34) (fun c35 => R v (nI i + 1) c35)))))) (fun J40 => (if v ≠ (-1 : Int32) then rdI T 3 10 v (fun t42 => J40 t42) else J40 (-1 : Int32))) := fun v ev => by
      subst ev
      have hv : (nI (bl i) + -1 = -1 ∧ (tp V h b (i.testBit) k).1 = none) ∨ ∃ e, e < h ∧ nI (bl i) + -1 = nI e ∧ (tp V h b (i.testBit) k).1 = some (sq V h e) := by
        rcases m2 with ⟨x, y⟩ | ⟨x, y⟩
        · left
          rw [if_pos y] at tl
          exact ⟨by rw [x]; decide, tl⟩
        · right
          have ipos : i ≠ 0 := fun z => by
            rw [z] at y
            exact absurd y (Nat.not_le.mpr (Nat.two_pow_pos _))
          rw [if_neg ipos] at tl
          refine ⟨bl i - 1, by omega, ?_, tl⟩
          have e1 := m1_add (bl i - 1)
          rw [show bl i - 1 + 1 = bl i by omega] at e1
          exact e1
      exact fromSt (B := fun t28 => rdI c 0 3072 (nI (1024 * b) + nI i) (fun t30 => k_X6_homeward P (nI b) t28 (fun t32 => k_X6_onward P (nI b) t28 (nI (sq V h k)) (fun t33 => k_X6_homeward P (nI b) (nI (sq V h k)) (fun t34 => wrI c 0 3072 (nI (1024 * b) + (nI i ||| nI (2 ^ k))) (((t30 - t32) + t33) + t34) (fun c35 => R (nI (bl i) + -1) (nI i + 1) c35)))))) h9 r3 hv (main _ rfl nxt)
    rw [jn_eq]
    cases i with
    | zero =>
      rw [if_pos (show nI 0 ≠ nI (2 ^ bl (0 - 1)) from fun z => by have := (nI_eq (a := 0) (b := 1) (by omega) (by omega)).mp z; omega)]
      exact go _ rfl
    | succ i =>
      rw [Nat.add_sub_cancel] at *
      by_cases e : i + 1 = 2 ^ bl i
      · rw [if_neg (fun z => z (by rw [← e]))]
        refine go _ ?_
        rw [bl_s, if_pos e]
        exact (m1_add _).symm
      · rw [if_pos (fun z => e ((nI_eq (by omega) (by omega)).mp z))]
        refine go _ ?_
        rw [bl_s, if_neg e]
  · rintro R s c ⟨-, c1, c2, c3⟩
    rw [if_pos (Int32.le_refl _)]
    refine hQ c c1 fun S hS => ?_
    by_cases z : S < 2 ^ k
    · rw [c2 S z]
      exact u0 S z
    · rw [Nat.pow_succ] at hS
      have := c3 (S - 2 ^ k) (by omega)
      rw [Nat.sub_add_cancel (by omega)] at this
      exact this
/-- the walker's tables -/
def TTB (T U : CT) (V : VW) (m h : Nat) : Prop := (∀ i, i < h → T.1 3 i = nI (sq V h i) ∧ T.1 4 (sq V h i) = nI i) ∧ ∀ b, b < m → UTB U V h b h
theorem prepareTours_ok {Q : CT → CT → Prop} (m3 : m ≤ 3) (h9 : h ≤ 10) (pm : P.1 0 2 = nI m) (ph : P.1 0 3 = nI h) (gm : ∀ b, b < m → PMan P.1 V b) (gh : ∀ i, i < h → PHou P.1 V f m i) (ht : T.1 0 8 = 0 ∨ (T.1 0 8 = 1 ∧ TTB T U V m h)) (hQ : ∀ T' U', (∀ j k, j ≠ 3 → j ≠ 4 → ¬ (j = 0 ∧ k = 8) → T'.1 j k = T.1 j k) → T'.1 0 8 = 1 → TTB T' U' V m h → Q T' U') : k_X9_prepareTours P T U Q := by
  unfold k_X9_prepareTours
  rcases ht with t8 | ⟨t8, tt⟩
  · rw [if_pos t8, wrF_eq]
    refine sortHouses_ok ph h9 gh fun T' t1 t2 => ?_
    rw [jn_eq]
    refine upl2 (N := m) (a := 0) (by omega) (fun i c => ∀ b, b < i → UTB c V h b h) ?_ ?_ (by omega) fun b hb => absurd hb (by omega)
    · rintro R i c - hi c1 ih
      have hb10 : nI i <<< ((10 : Int32) &&& 31) = nI (1024 * i) := by
        rw [li_10, shl_n (by omega) (by omega), Nat.mul_comm]
      rw [pm, if_neg (nI_ge hi (by omega)), hb10, wrI_n (by omega) (by omega)]
      refine upl2 (N := h) (a := 0) (by omega) (fun k c' => (∀ b, b < i → UTB c' V h b h) ∧ UTB c' V h i k) ?_ ?_ (by omega) ⟨fun b hb S hS => ?_, fun S hS => ?_⟩
      · rintro R2 k c' - hk ⟨d1, d2⟩ ih2
        rw [ph, if_neg (nI_ge hk (by omega))]
        refine endingAt_ok h9 (by omega) (gm i hi) gh hk (fun j hj => (t2 j hj).1) d2 fun U' u1 u2 => ?_
        rw [nI_1]
        refine ih2 _ ⟨fun b hb S hS => ?_, u2⟩
        have ps : 2 ^ h ≤ 2 ^ 10 := Nat.pow_le_pow_right (by decide) h9
        rw [u1 0 _ (by omega)]
        exact d1 b hb S hS
      · rintro R2 c' ⟨d1, d2⟩
        rw [ph, if_pos (Int32.le_refl _), nI_1]
        refine ih _ fun b hb => ?_
        by_cases e : b = i
        · subst e
          exact d2
        · exact d1 b (by omega)
      · have ps : 2 ^ h ≤ 2 ^ 10 := Nat.pow_le_pow_right (by decide) h9
        rw [sI_ne (by omega)]
        exact c1 b hb S hS
      · have : S = 0 := by omega
        subst this
        rw [Nat.add_zero, sI_same]
        have := tr_set (V := V) (h := h) (b := i) (S := 0) (k := 0) (by decide) (by omega)
        rw [this]
        rfl
    · rintro R c c1
      rw [pm, if_pos (Int32.le_refl _)]
      exact hQ T' c (fun j k h3 h4 h5 => (t1 j k h3 h4).trans (sI_ne h5)) ((t1 0 8 (by omega) (by omega)).trans sI_same) ⟨t2, c1⟩
  · rw [t8, if_neg (by decide)]
    exact hQ T U (fun _ _ _ _ _ => rfl) t8 tt
end Tab
