/-! ===== the class's day: turns, a round ===== -/
def WTr (W0 W : CT) (tn : Nat) (T : Nat → Nat) : Prop := W.1 0 6 = nI tn ∧ (∀ k, k < tn → W.1 3 k = nI (T k)) ∧ ∀ j k, j = 1 ∨ j = 2 → W.1 j k = W0.1 j k
theorem posF_le (d : Nat → Int32) (T : Nat → Nat) (i : Nat) : ∀ p, posF d T i p ≤ p
  | 0 => Nat.le_refl 0
  | p + 1 => by
    unfold posF
    split
    · exact Nat.le_refl _
    · exact Nat.le_succ_of_le (posF_le d T i p)
theorem posF_s {d : Nat → Int32} {T : Nat → Nat} {i p : Nat} : posF d T i (p + 1) = if d (T p) ≤ d i then p + 1 else posF d T i p := rfl
section DayC2
variable {P K0 K W0 W M : CT} {V B : VW} {L : List (Nat × Nat)} {kn tk : Nat → Int32} {l q f m h D : Nat}
theorem addTurn_ok {i tn : Nat} {T : Nat → Nat} {d : Nat → Int32} {Q : CT → Prop} (hi : i < 10) (ht : tn < 10) (hT : ∀ k, k < tn → T k < 10) (hW : WTr W0 W tn T) (hd : ∀ k, k < tn → K.1 2 (T k) = d (T k)) (hdi : K.1 2 i = d i) (hQ : ∀ W', WTr W0 W' (tn + 1) (insF T (posF d T i tn) i) → Q W') : k_X10_addTurn K W (nI i) Q := by
  obtain ⟨w1, w2, w3⟩ := hW
  unfold k_X10_addTurn
  rw [vK_eq, vK_eq, w1]
  refine jn_of (fun J => ∀ p c, p ≤ tn → posF d T i tn = p → c.1 0 6 = nI tn → (∀ k, k < p → c.1 3 k = nI (T k)) → (∀ k, p ≤ k → k < tn → c.1 3 (k + 1) = nI (T k)) → (∀ j k, j = 1 ∨ j = 2 → c.1 j k = W0.1 j k) → J (nI p) c) ?_ ?_
  · intro p c hp e c1 c2 c3 c4
    rw [wrI_n (by omega) (by omega), wrF_eq, sI_ne (by omega), c1, nI_1]
    refine hQ _ ⟨sI_same, fun k hk => ?_, fun j k hj => ?_⟩
    · rw [sI_ne (by omega), sI_at, e]
      unfold insF
      by_cases k1 : k < p
      · rw [if_neg (by omega), if_pos k1]
        exact c2 k k1
      · by_cases k2 : k = p
        · rw [if_pos ⟨rfl, k2⟩, if_neg k1, if_pos k2]
        · rw [if_neg (by omega), if_neg k1, if_neg k2]
          obtain ⟨k', rfl⟩ : ∃ k', k = k' + 1 := ⟨k - 1, by omega⟩
          exact c3 k' (by omega) (by omega)
    · rw [sI_ne (by omega), sI_ne (by omega)]
      exact c4 j k hj
  intro J hJ
  refine LP3.ind (fun a v c => ∃ p, p ≤ tn ∧ a = nI p ∧ v = nI p ∧ posF d T i p = posF d T i tn ∧ c.1 0 6 = nI tn ∧ (∀ k, k < p → c.1 3 k = nI (T k)) ∧ (∀ k, p ≤ k → k < tn → c.1 3 (k + 1) = nI (T k)) ∧ ∀ j k, j = 1 ∨ j = 2 → c.1 j k = W0.1 j k) (fun _ v _ => v.toNatClampNeg) ?_ ⟨tn, by omega, rfl, rfl, rfl, w1, w2, fun k h1 h2 => by omega, w3⟩
  rintro R a v c ⟨p, hp, rfl, rfl, e, c1, c2, c3, c4⟩ ih
  cases p with
  | zero =>
    rw [if_pos (show nI 0 ≤ 0 from by decide)]
    exact hJ 0 c hp e.symm c1 c2 c3 c4
  | succ p =>
    rw [if_neg (nI_nle (by omega) (by omega)), nI_pred]
    have hTp := hT p (by omega)
    simp (disch := omega) only [rdI_n, c2 p (by omega), hd p (by omega), hdi]
    refine ite_b (fun z => ?_) fun z => ?_
    · rw [posF_s, if_pos z] at e
      exact hJ (p + 1) c hp e.symm c1 c2 c3 c4
    · rw [posF_s, if_neg z] at e
      simp (disch := omega) only [wrI_n, vK_eq]
      rw [m1_add]
      refine ih _ _ _ ⟨p, by omega, rfl, rfl, e, ?_, fun k hk => ?_, fun k h1 h2 => ?_, fun j k hj => ?_⟩ (by rw [nI_clamp (by omega), nI_clamp (by omega)]; omega)
      · rw [sI_ne (by omega)]; exact c1
      · rw [sI_ne (by omega)]; exact c2 k (by omega)
      · rw [sI_at]
        by_cases y : k = p
        · rw [if_pos ⟨rfl, by omega⟩, y]
        · rw [if_neg (by omega)]
          exact c3 k (by omega) h2
      · rw [sI_ne (by omega)]; exact c4 j k hj
theorem lsB_row {kn : Nat → Int32} {D man b k : Nat} {B0 : VW} : ∀ i j x, j ≠ 4 → (lsB V kn D man b k B0 i).1 j x = B0 j x
  | 0, _, _, _ => rfl
  | i + 1, j, x, hj => by
    have ih := lsB_row (kn := kn) (D := D) (man := man) (b := b) (k := k) (B0 := B0) i j x hj
    rw [lsB_s]
    split
    · split
      · show up2 _ 4 i _ j x = _
        rw [up2_ne hj]
        exact ih
      · exact ih
    · exact ih
theorem lsB_T {kn : Nat → Int32} {D man b k : Nat} {B0 : VW} : ∀ i, (lsB V kn D man b k B0 i).2.1 ≤ i ∧ ∀ x, x < (lsB V kn D man b k B0 i).2.1 → (lsB V kn D man b k B0 i).2.2 x < i ∧ B0 1 ((lsB V kn D man b k B0 i).2.2 x) = nI man ∧ B0 2 ((lsB V kn D man b k B0 i).2.2 x) ≤ nI D
  | 0 => ⟨Nat.le_refl 0, fun x hx => absurd hx (Nat.not_lt_zero x)⟩
  | i + 1 => by
    obtain ⟨i1, i2⟩ := lsB_T (kn := kn) (D := D) (man := man) (b := b) (k := k) (B0 := B0) i
    rw [lsB_s]
    split
    · rename_i hc
      split
      · exact ⟨Nat.le_succ_of_le i1, fun x hx => ⟨Nat.lt_succ_of_lt (i2 x hx).1, (i2 x hx).2⟩⟩
      · refine ⟨Nat.succ_le_succ i1, fun x hx => ?_⟩
        have hp := posF_le (B0 2) (lsB V kn D man b k B0 i).2.2 i (lsB V kn D man b k B0 i).2.1
        dsimp only at hx ⊢
        unfold insF
        split
        · have := i2 x (by omega)
          exact ⟨Nat.lt_succ_of_lt this.1, this.2⟩
        · split
          · exact ⟨Nat.lt_succ_self i, hc⟩
          · have := i2 (x - 1) (by omega)
            exact ⟨Nat.lt_succ_of_lt this.1, this.2⟩
    · exact ⟨Nat.le_succ_of_le i1, fun x hx => ⟨Nat.lt_succ_of_lt (i2 x hx).1, (i2 x hx).2⟩⟩
theorem planTurns_ok {man b k : Nat} {B0 : VW} {Q : CT → CT → Prop} (hD : D < 200) (h9 : h ≤ 10) (h3 : P.1 0 3 = nI h) (gh : ∀ i, i < h → PHou P.1 V f m i) (hn : P.1 13 0 = nI k) (hR : RulR (P.1 14) V b k) (hkn : ∀ i, i < h → W0.1 1 i = kn i) (hW : ∀ j x, j = 1 ∨ j = 2 → W.1 j x = W0.1 j x) (g : KBr K0 K B0 L h D)
    (hQ : ∀ K' W', KBr K0 K' (lsB V kn D man b k B0 h).1 L h D → WTr W0 W' (lsB V kn D man b k B0 h).2.1 (lsB V kn D man b k B0 h).2.2 → Q K' W') : k_X10_planTurns P K W (nI man) (nI D) Q := by
  unfold k_X10_planTurns
  rw [wrF_eq]
  refine LP3.ind (fun v c w => ∃ i, i ≤ h ∧ v = nI i ∧ KBr K0 c (lsB V kn D man b k B0 i).1 L h D ∧ WTr W0 w (lsB V kn D man b k B0 i).2.1 (lsB V kn D man b k B0 i).2.2) (fun v _ _ => h - v.toNatClampNeg) ?_ ⟨0, by omega, rfl, g, sI_same, fun x hx => absurd hx (Nat.not_lt_zero x), fun j x hj => by rw [sI_ne (by omega)]; exact hW j x hj⟩
  rintro R v c w ⟨i, hi, rfl, gc, gw⟩ ih
  rw [h3]
  by_cases hin : i < h
  · obtain ⟨t1, t2⟩ := lsB_T (V := V) (kn := kn) (D := D) (man := man) (b := b) (k := k) (B0 := B0) i
    have row := lsB_row (V := V) (kn := kn) (D := D) (man := man) (b := b) (k := k) (B0 := B0) i
    have c1 : c.1 1 i = B0 1 i := (gc.1 i 1 hin (by omega) (by omega)).trans (row 1 i (by decide))
    have c2 : ∀ x, x < h → c.1 2 x = B0 2 x := fun x hx => (gc.1 x 2 hx (by omega) (by omega)).trans (row 2 x (by decide))
    have nx : ∀ c' w', KBr K0 c' (lsB V kn D man b k B0 (i + 1)).1 L h D → WTr W0 w' (lsB V kn D man b k B0 (i + 1)).2.1 (lsB V kn D man b k B0 (i + 1)).2.2 → R (nI (i + 1)) c' w' := fun c' w' q1 q2 => ih _ _ _ ⟨i + 1, by omega, rfl, q1, q2⟩ (by rw [nI_clamp (by omega), nI_clamp (by omega)]; omega)
    rw [if_neg (nI_ge hin (by omega)), nI_1]
    by_cases hm : B0 1 i = nI man ∧ B0 2 i ≤ nI D
    · rw [lsB_s, if_pos hm] at nx
      have letter : outS V (lsB V kn D man b k B0 i).1 kn D i b k → ∀ w', w'.1 = w.1 → wrI c 4 10 (nI i) (c.1 4 i + (1 : Int32)) (fun c31 => R (nI (i + 1)) c31 w') := by
        intro ho w' hw'
        rw [if_pos ho] at nx
        rw [wrI_n (by omega) (by omega)]
        refine nx _ _ ?_ ?_
        · have := gc.up (j := 4) (i := i) (x := c.1 4 i + 1) (by omega)
          rw [gc.1 i 4 hin (by omega) (by omega)] at this ⊢
          exact this
        · unfold WTr at gw ⊢
          rw [hw']
          exact gw
      have turn : ¬ outS V (lsB V kn D man b k B0 i).1 kn D i b k → ∀ w', w'.1 = w.1 → k_X10_addTurn c w' (nI i) (fun c80 => R (nI (i + 1)) c c80) := by
        intro ho w' hw'
        rw [if_neg ho] at nx
        refine addTurn_ok (W0 := W0) (T := (lsB V kn D man b k B0 i).2.2) (tn := (lsB V kn D man b k B0 i).2.1) (d := B0 2) (by omega) (by omega) (fun x hx => by have := (t2 x hx).1; omega) ?_ (fun x hx => c2 _ (by have := (t2 x hx).1; omega)) (c2 i hin) fun W' hW' => nx _ _ gc hW'
        unfold WTr at gw ⊢
        rw [hw']
        exact gw
      simp (disch := omega) only [rdI_n, c1, hm.1, ne_eq, not_true_eq_false, if_false, c2, hin, hm.2, if_true, ixN_n, rem7, letsIn_ok (gh i hin), jn_eq]
      by_cases ho : bitI (V 25 i) D = true ∨ (V 27 i ≠ 0 ∧ ¬ bitI (V 29 i) D = true)
      · rw [if_pos ho, if_pos rfl]
        exact letter (ho.elim Or.inl fun y => Or.inr (Or.inl y)) w rfl
      · rw [if_neg ho, if_neg (by decide), hn]
        refine ite_b (fun z => ?_) fun z => ?_
        · have k0 : k = 0 := by rw [show (0 : Int32) = nI 0 from rfl, nI_eq (by have := hR.1; omega) (by omega)] at z; exact z
          refine turn ?_ w rfl
          rintro (y | y | y)
          · exact ho (Or.inl y)
          · exact ho (Or.inr y)
          · omega
        · have k0 : 0 < k := Nat.pos_of_ne_zero fun e => z (by rw [e]; rfl)
          refine holds_ok (r := 1) (a := b) (n := k) (B := (lsB V kn D man b k B0 i).1) (kn := kn) (gh i hin) (by omega) (by omega) hn k0 hR ((gw.2.2 1 i (Or.inl rfl)).trans (hkn i hin)) (gc.1 i 2 hin (by omega) (by omega)) (gc.1 i 3 hin (by omega) (by omega)) (gc.1 i 8 hin (by omega) (by omega)) fun W' hW' => ⟨fun hr => ?_, fun hr => ?_⟩
          · rw [if_neg (by decide)]
            refine turn ?_ W' hW'
            rintro (y | y | y)
            · exact ho (Or.inl y)
            · exact ho (Or.inr y)
            · exact y.2 hr
          · rw [if_pos rfl]
            exact letter (Or.inr (Or.inr ⟨k0, hr⟩)) W' hW'
    · rw [lsB_s, if_neg hm] at nx
      simp (disch := omega) only [rdI_n, c1, c2, hin, jn_eq]
      refine ite_b (fun z => nx _ _ gc gw) fun z => ?_
      rw [if_neg (fun y => hm ⟨Classical.not_not.mp z, y⟩)]
      exact nx _ _ gc gw
  · have e : i = h := by omega
    subst e
    rw [if_pos (Int32.le_refl _)]
    exact hQ _ _ gc gw
theorem wipeC_ok {i : Nat} {Q : CT → Prop} (hD : D < 200) (h9 : h ≤ 10) (hi : i < h) (g : PHou P.1 V f m i) (hk : W.1 1 i = kn i) (gc : KBr K0 K B L h D) (hQ : ∀ K', KBr K0 K' (wpB V B kn D i) L h D → Q K') : k_X10_wipe P K W (nI i) (nI D) Q := by
  unfold k_X10_wipe
  have r3 := gc.1 i 3 hi (by omega) (by omega)
  have r8 := gc.1 i 8 hi (by omega) (by omega)
  have g1 := (((gc.up (j := 3) (i := i) (x := B 3 i + 1) (by omega)).up (j := 7) (i := i) (x := nI D) (by omega)).up (j := 2) (i := i) (x := nI D + 7 * V 24 i) (by omega)).up (j := 6) (i := i) (x := 0) (by omega)
  unfold wpB at hQ
  simp (disch := omega) only [ixN_n, rdI_n, wrI_n, r3, g.2.2.2.2.1.1, bo0, rem7, isOpenC g, it10]
  refine ite_b (fun z => ?_) fun z => ?_
  · dsimp only at hQ
    rw [if_neg z] at hQ
    exact hQ _ g1
  · dsimp only at hQ
    rw [if_pos (Classical.not_not.mp z)] at hQ
    rw [owesC (kn := kn) g (by omega) hk]
    simp (disch := omega) only [sI_ne, sI_same, r8]
    refine hQ _ ?_
    have := g1.up (j := 8) (i := i) (x := B 8 i + mxI 0 ((B 3 i + 1) * V 26 i - (B 8 i + kn i))) (by omega)
    exact this
end DayC2
