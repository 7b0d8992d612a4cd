/-! ===== the class's day, whole ===== -/
def ENV (P : CT) (V : VW) (kn : Nat → Int32) (f m h a n b k : Nat) : Prop := (h ≤ 10 ∧ m ≤ 3 ∧ P.1 0 2 = nI m ∧ P.1 0 3 = nI h) ∧ (∀ i, i < m → PMan P.1 V i) ∧ (∀ i, i < h → PHou P.1 V f m i) ∧ (P.1 11 0 = nI n ∧ RulR (P.1 12) V a n) ∧ (P.1 13 0 = nI k ∧ RulR (P.1 14) V b k) ∧ (∀ d, d < 200 → P.1 10 d = V 30 d) ∧ ∀ i, i < h → ∃ s : Nat, s ≤ 600000 ∧ kn i = nI s
section DayE
variable {P K0 K W0 W M : CT} {V B : VW} {L : List (Nat × Nat)} {kn tk : Nat → Int32} {f m h D a n b k : Nat}
theorem dmB_DI {B0 : VW} (E : ENV P V kn f m h a n b k) (hD : D < 200) (g : DI B0 [] h m D) : ∀ mn, mn ≤ m → DI (dmB V kn tk D b k h B0 mn).1 (dmB V kn tk D b k h B0 mn).2 h m D
  | 0, _ => g
  | mn + 1, hm => by
    have ih := dmB_DI E hD g mn (by omega)
    obtain ⟨⟨h9, m3, -, -⟩, -, gh, -, -, -, hk⟩ := E
    obtain ⟨t1, t2⟩ := lsB_T (V := V) (kn := kn) (D := D) (man := mn) (b := b) (k := k) (B0 := (dmB V kn tk D b k h B0 mn).1) h
    have row := lsB_row (V := V) (kn := kn) (D := D) (man := mn) (b := b) (k := k) (B0 := (dmB V kn tk D b k h B0 mn).1) h
    exact (goB_DI (tk := tk) (lf := V 18 mn) hD h9 m3 (lsB_DI ih) gh (by omega) hk (fun x hx => ⟨(t2 x hx).1, by rw [row 2 _ (by decide)]; exact (t2 x hx).2.2⟩) (lsB_inj h) _ (Nat.le_refl _)).1
theorem cmB_DI {B0 : VW} (g : DI B0 L h m D) : ∀ i, DI (cmB V kn D a n B0 i) L h m D := by
  have nb : ∀ i x, x < h → NBo (cmB V kn D a n B0 i) m x := by
    intro i
    induction i with
    | zero => exact g.1
    | succ i ih =>
      intro x hx
      rw [cmB_s]
      split
      · have := ih x hx
        unfold NBo at this ⊢
        rw [up2_ne (by decide), up2_ne (by decide), up2_ne (by decide), up2_ne (by decide), up2_ne (by decide), up2_ne (by decide), up2_ne (by decide), up2_ne (by decide), up2_ne (by decide), up2_at]
        refine ⟨this.1, this.2.1, ?_⟩
        split
        · exact Or.inr rfl
        · exact this.2.2
      · exact ih x hx
  exact fun i => ⟨nb i, g.2.1, g.2.2.1, fun c hc => by rw [cmB_row i 2 c (by decide) (by decide)]; exact g.2.2.2 c hc⟩
theorem dyL_DI {B0 : VW} (E : ENV P V kn f m h a n b k) (hD : D < 200) (g : DI B0 [] h m D) : DI (dyL V kn tk D b k h m B0).1 (dyL V kn tk D b k h m B0).2 h m D := by
  unfold dyL
  split
  · exact g
  · exact dmB_DI E hD g m (Nat.le_refl m)
theorem workDay_ok {B0 : VW} {Q : CT → CT → Prop} (E : ENV P V kn f m h a n b k) (hD : D < 200) (hkn : ∀ i, i < h → W0.1 1 i = kn i) (htk : ∀ i, i < h → W0.1 2 i = tk i) (hW : ∀ j x, j = 1 ∨ j = 2 → W.1 j x = W0.1 j x) (hB : ∀ i j, i < h → 1 ≤ j → j ≤ 8 → K.1 j i = B0 j i) (g : DI B0 [] h m D)
    (hQ : ∀ K' W', KBr K K' (dyB V kn tk D a n b k h m B0) (dyL V kn tk D b k h m B0).2 h D → (∀ j x, j = 1 ∨ j = 2 → W'.1 j x = W0.1 j x) → Q K' W') : k_X10_workDay P K W (nI D) Q := by
  have gL := dyL_DI (tk := tk) E hD g
  have gM := dmB_DI (tk := tk) E hD g
  obtain ⟨⟨h9, m3, p2, p3⟩, gm, gh, ⟨n11, r11⟩, ⟨n13, r13⟩, gw, hk⟩ := E
  unfold k_X10_workDay
  refine openDay_ok (h := h) hD fun K1 hK1 => ?_
  replace hK1 : KBr K K1 B0 [] h D := ⟨fun i j q1 q2 q3 => (hK1.1 i j q1 q2 q3).trans (hB i j q1 q2 q3), hK1.2⟩
  refine jn_of (fun J => ∀ c w, KBr K c (dyL V kn tk D b k h m B0).1 (dyL V kn tk D b k h m B0).2 h D → (∀ j x, j = 1 ∨ j = 2 → w.1 j x = W0.1 j x) → J c w) ?_ ?_
  · intro c0 w0 hc0 hw0
    refine LP3.ind (fun v c w => ∃ i, i ≤ h ∧ v = nI i ∧ KBr K c (cmB V kn D a n (dyL V kn tk D b k h m B0).1 i) (dyL V kn tk D b k h m B0).2 h D ∧ ∀ j x, j = 1 ∨ j = 2 → w.1 j x = W0.1 j x) (fun v _ _ => h - v.toNatClampNeg) ?_ ⟨0, by omega, rfl, hc0, hw0⟩
    rintro R v c w ⟨i, hi, rfl, hc, hw⟩ ih
    rw [p3]
    by_cases hin : i < h
    · have nb := (cmB_DI (V := V) (kn := kn) (a := a) (n := n) gL i).1 i hin
      have nx : ∀ c' w', KBr K c' (cmB V kn D a n (dyL V kn tk D b k h m B0).1 (i + 1)) (dyL V kn tk D b k h m B0).2 h D → (∀ j x, j = 1 ∨ j = 2 → w'.1 j x = W0.1 j x) → R (nI (i + 1)) c' w' := fun c' w' q1 q2 => ih _ _ _ ⟨i + 1, by omega, rfl, q1, q2⟩ (by rw [nI_clamp (by omega), nI_clamp (by omega)]; omega)
      rw [cmB_s] at nx
      rw [if_neg (nI_ge hin (by omega)), nI_1]
      refine hearComplaint_ok (a := a) (n := n) (kn := kn) hD h9 hin (gh i hin) n11 r11 ((hw 1 i (Or.inl rfl)).trans (hkn i hin)) hc nb.2.2 (fun y K' W' hW' hK' => ?_) (fun y W' hW' => ?_)
      · rw [if_pos y] at nx
        exact nx K' W' hK' fun j x hj => by rw [hW']; exact hw j x hj
      · rw [if_neg y] at nx
        exact nx c W' hc fun j x hj => by rw [hW']; exact hw j x hj
    · have e : i = h := by omega
      subst e
      rw [if_pos (Int32.le_refl _)]
      exact hQ c w hc hw
  intro J hJ
  rw [rdI_n hD (by omega), gw D hD]
  unfold dyL at hJ
  refine ite_b (fun z => ?_) fun z => ?_
  · rw [if_pos z] at hJ
    exact hJ K1 W hK1 hW
  · rw [if_neg z] at hJ
    refine LP3.ind (fun v c w => ∃ mn, mn ≤ m ∧ v = nI mn ∧ KBr K c (dmB V kn tk D b k h B0 mn).1 (dmB V kn tk D b k h B0 mn).2 h D ∧ ∀ j x, j = 1 ∨ j = 2 → w.1 j x = W0.1 j x) (fun v _ _ => m - v.toNatClampNeg) ?_ ⟨0, by omega, rfl, hK1, hW⟩
    rintro R v c w ⟨mn, hmn, rfl, hc, hw⟩ ih
    rw [p2]
    by_cases hin : mn < m
    · have ig := gM mn hmn
      obtain ⟨t1, t2⟩ := lsB_T (V := V) (kn := kn) (D := D) (man := mn) (b := b) (k := k) (B0 := (dmB V kn tk D b k h B0 mn).1) h
      have row := lsB_row (V := V) (kn := kn) (D := D) (man := mn) (b := b) (k := k) (B0 := (dmB V kn tk D b k h B0 mn).1) h
      rw [if_neg (nI_ge hin (by omega)), nI_1]
      refine planTurns_ok (W0 := W0) (kn := kn) hD h9 p3 gh n13 r13 hkn hw hc fun K2 W2 hK2 hW2 => ?_
      refine goRound_ok (W0 := W0) (kn := kn) (tk := tk) hD h9 m3 (by omega) (gm mn hin) gh hin hkn htk hk (lsB_DI ig) (fun x hx => ⟨(t2 x hx).1, by rw [row 2 _ (by decide)]; exact (t2 x hx).2.2⟩) (lsB_inj h) hK2 hW2 fun K3 hK3 => ?_
      exact ih _ _ _ ⟨mn + 1, by omega, rfl, hK3, hW2.2.2⟩ (by rw [nI_clamp (by omega), nI_clamp (by omega)]; omega)
    · have e : mn = m := by omega
      subst e
      rw [if_pos (Int32.le_refl _)]
      exact hJ c w hc hw
end DayE
