/-! ===== several days ===== -/
section DayW
variable {P M : CT} {V : VW} {kn tk N49 N50 : Nat → Int32} {l q f m h D a n b k nn : Nat}
/-- rows behind i days -/
noncomputable def bq (V : VW) (kn tk : Nat → Int32) (D a n b k h m : Nat) (B0 : VW) : Nat → VW
  | 0 => B0
  | i + 1 => dyB V kn tk (D + i) a n b k h m (bq V kn tk D a n b k h m B0 i)
/-- the class's book behind i days -/
def CK (V : VW) (kn tk : Nat → Int32) (D a n b k h m : Nat) (B0 : VW) (K0 : CT) : Nat → CT → Prop
  | 0, K => K = K0
  | i + 1, K => ∃ K1 K2, CK V kn tk D a n b k h m B0 K0 i K1 ∧ KBr K1 K2 (bq V kn tk D a n b k h m B0 (i + 1)) (dyL V kn tk (D + i) b k h m (bq V kn tk D a n b k h m B0 i)).2 h (D + i) ∧ K = sI K2 0 0 (nI (D + i + 1))
theorem CK.row {B0 : VW} {K0 : CT} (h0 : ∀ i j, i < h → 1 ≤ j → j ≤ 8 → K0.1 j i = B0 j i) : ∀ {i : Nat} {K : CT}, CK V kn tk D a n b k h m B0 K0 i K → ∀ x j, x < h → 1 ≤ j → j ≤ 8 → K.1 j x = bq V kn tk D a n b k h m B0 i j x
  | 0, K, hK, x, j, q1, q2, q3 => by rw [hK]; exact h0 x j q1 q2 q3
  | i + 1, K, hK, x, j, q1, q2, q3 => by
    obtain ⟨K1, K2, -, hB, rfl⟩ := hK
    rw [sI_ne (by omega)]
    exact hB.1 x j q1 q2 q3
theorem CK.nxt {B0 : VW} {K0 : CT} (h0 : K0.1 0 0 = nI D) : ∀ {i : Nat} {K : CT}, CK V kn tk D a n b k h m B0 K0 i K → K.1 0 0 = nI (D + i)
  | 0, K, hK => by rw [hK]; exact h0
  | i + 1, K, hK => by
    obtain ⟨K1, K2, -, hB, rfl⟩ := hK
    exact sI_same
theorem DI.nil {B : VW} {L : List (Nat × Nat)} {D' : Nat} (g : DI B L h m D) : DI B [] h m D' := ⟨g.1, fun p hp => absurd hp List.not_mem_nil, List.nodup_nil, fun x hx => absurd hx List.not_mem_nil⟩
theorem dyB_DI {B0 : VW} (E : ENV P V kn f m h a n b k) (hD : D < 200) (g : DI B0 [] h m D) : DI (dyB V kn tk D a n b k h m B0) (dyL V kn tk D b k h m B0).2 h m D := cmB_DI (dyL_DI E hD g) h
theorem bq_DI {B0 : VW} (E : ENV P V kn f m h a n b k) (g : DI B0 [] h m D) : ∀ i, D + i ≤ 200 → DI (bq V kn tk D a n b k h m B0 i) [] h m (D + i)
  | 0, _ => g
  | i + 1, hi => (dyB_DI E (by omega) (bq_DI E g i (by omega))).nil
theorem goB_1 {man : Nat} {T : Nat → Nat} {s0 : GSt} : ∀ j x, (goB V kn tk D man T s0 j).2.2.1 1 x = s0.2.2.1 1 x
  | 0, _ => rfl
  | j + 1, x => by
    rw [goB_s]
    split
    · exact wpB_1.trans (goB_1 j x)
    · exact goB_1 j x
theorem dmB_1 {B0 : VW} : ∀ mn x, (dmB V kn tk D b k h B0 mn).1 1 x = B0 1 x
  | 0, _ => rfl
  | mn + 1, x => by
    show (goB _ _ _ _ _ _ _ _).2.2.1 1 x = _
    rw [goB_1]
    exact (lsB_row h 1 x (by decide)).trans (dmB_1 mn x)
theorem dyB_1 {B0 : VW} (x : Nat) : dyB V kn tk D a n b k h m B0 1 x = B0 1 x := by
  unfold dyB
  rw [cmB_row h 1 x (by decide) (by decide)]
  unfold dyL
  split
  · rfl
  · exact dmB_1 m x
/-- the class goes on for x days -/
theorem goDays_ok {K0 W0 W F : CT} {B0 : VW} {x : Nat} {Q : CT → CT → CT → Prop} (E : ENV P V kn f m h a n b k) (hx : D + x ≤ 200) (hkn : ∀ i, i < h → W0.1 1 i = kn i) (htk : ∀ i, i < h → W0.1 2 i = tk i) (hW : ∀ j y, j = 1 ∨ j = 2 → W.1 j y = W0.1 j y) (h00 : K0.1 0 0 = nI D) (hB : ∀ i j, i < h → 1 ≤ j → j ≤ 8 → K0.1 j i = B0 j i) (g : DI B0 [] h m D)
    (hQ : ∀ K W', CK V kn tk D a n b k h m B0 K0 x K → Q K F W') : LP3 (fun R63 (v60 : Int32) (c61 : CT) (c62 : CT) => (if (nI x) ≤ v60 then Q c61 F c62 else (if (200 : Int32) ≤ (c61.1 0 0) then Q c61 F c62 else k_X10_workDay P c61 c62 (c61.1 0 0) (fun c72 c73 => wrF c72 0 0 ((c72.1 0 0) + (1 : Int32)) (fun c74 => R63 (v60 + 1) c74 c73))))) (0 : Int32) K0 W := by
  refine LP3.ind (fun v c w => ∃ i, i ≤ x ∧ v = nI i ∧ CK V kn tk D a n b k h m B0 K0 i c ∧ ∀ j y, j = 1 ∨ j = 2 → w.1 j y = W0.1 j y) (fun v _ _ => x - v.toNatClampNeg) ?_ ⟨0, by omega, rfl, rfl, hW⟩
  rintro R v c w ⟨i, hi, rfl, hc, hw⟩ ih
  by_cases hin : i < x
  · rw [if_neg (nI_ge hin (by omega)), hc.nxt h00, li_200, if_neg (nI_ge (by omega) (by omega)), nI_1]
    refine workDay_ok (W0 := W0) (kn := kn) (tk := tk) (B0 := bq V kn tk D a n b k h m B0 i) E (by omega) hkn htk hw (hc.row hB) (bq_DI E g i (by omega)) fun K' W' hK' hW' => ?_
    rw [wrF_eq, hK'.2.2.2.1 0 0 (Or.inl rfl) (by omega), hc.nxt h00, nI_1]
    exact ih _ _ _ ⟨i + 1, by omega, rfl, ⟨c, K', hc, hK', rfl⟩, hW'⟩ (by rw [nI_clamp (by omega), nI_clamp (by omega)]; omega)
  · have e : i = x := by omega
    subst e
    rw [if_pos (Int32.le_refl _)]
    exact hQ _ _ hc
theorem RE.nxt {M2 : CT} (g : RE M2 V kn tk N49 N50 nn D m h a n b k) : RE (sI M2 0 77 (nI (D + 1))) V kn tk N49 N50 nn (D + 1) m h a n b k := by
  obtain ⟨⟨g1, g2⟩, ⟨g3, g4, g5, g6⟩, g7, g8, g9⟩ := g
  refine ⟨⟨fun j x h1 h2 hx => (sI_ne (by omega)).trans (g1 j x h1 h2 hx), fun x h1 h2 => (sI_ne (by omega)).trans (g2 x h1 h2)⟩, ⟨sI_same, (sI_ne (by omega)).trans g4, ?_, ?_⟩, fun i hi => ?_, g8, g9⟩
  · rw [← g5]; funext x; exact sI_ne (by omega)
  · rw [← g6]; funext x; exact sI_ne (by omega)
  · obtain ⟨y, q1, q2, q3⟩ := g7 i hi
    exact ⟨y, q1, q2, (sI_ne (by omega)).trans q3⟩
theorem CK.pred {B0 : VW} {K0 : CT} : ∀ {x i : Nat}, i ≤ x → (∃ K, CK V kn tk D a n b k h m B0 K0 x K) → ∃ K, CK V kn tk D a n b k h m B0 K0 i K := by
  intro x i hi
  induction hi with
  | refl => exact id
  | step _ ih =>
    rintro ⟨K, K1, -, hK, -⟩
    exact ih ⟨K1, hK⟩
/-- the reference goes on for x days -/
theorem daysR_ok {H I K0 : CT} {B0 : VW} {x nt : Nat} {Q : Int32 → CT → Prop} (E : ENV P V kn f m h a n b k) (R0 : RE M V kn tk N49 N50 nn D m h a n b k) (hx : D + x ≤ 200) (hB : ∀ i j, i < h → 1 ≤ j → j ≤ 8 → K0.1 j i = B0 j i) (g : DI B0 [] h m D) (hne : ∃ K, CK V kn tk D a n b k h m B0 K0 x K) (gc : CO H P K0 I M l q f m h D nt)
    (hQ : ∀ M', RE M' V kn tk N49 N50 nn (D + x) m h a n b k → (∀ K, CK V kn tk D a n b k h m B0 K0 x K → CO H P K I M' l q f m h (D + x) nt) → Q (nI (D + x)) M') : LP2 (fun R39 (v37 : Int32) (c38 : CT) => (if (nI x) ≤ v37 then Q (c38.1 0 77) c38 else k_X12_passes c38 (fun c47 => R39 (v37 + 1) c47))) (0 : Int32) M := by
  refine LP2.ind (fun v c => ∃ i, i ≤ x ∧ v = nI i ∧ RE c V kn tk N49 N50 nn (D + i) m h a n b k ∧ ∀ K, CK V kn tk D a n b k h m B0 K0 i K → CO H P K I c l q f m h (D + i) nt) (fun v _ => x - v.toNatClampNeg) ?_ ⟨0, by omega, rfl, R0, fun K hK => by rw [hK]; exact gc⟩
  rintro R v c ⟨i, hi, rfl, hR, hc⟩ ih
  by_cases hin : i < x
  · rw [if_neg (nI_ge hin (by omega)), nI_1]
    obtain ⟨K1, hK1⟩ := CK.pred hi hne
    have co := hc K1 hK1
    have rowM : ∀ y j, y < h → 1 ≤ j → j ≤ 8 → c.1 (mr j) y = bq V kn tk D a n b k h m B0 i j y := by
      intro y j q1 q2 q3
      rw [← hK1.row hB y j q1 q2 q3]
      obtain ⟨⟨e1, -⟩, ⟨e2, e3, -⟩, e4, e5, ⟨e6, -⟩, e7, e8⟩ := co.2.2.2.1.1.2.1 y q1
      rw [show oT false + y = y from Nat.zero_add y] at e1 e2 e3 e4 e5 e6 e7 e8
      rcases (show j = 1 ∨ j = 2 ∨ j = 3 ∨ j = 4 ∨ j = 5 ∨ j = 6 ∨ j = 7 ∨ j = 8 by omega) with rfl | rfl | rfl | rfl | rfl | rfl | rfl | rfl
      · exact e1.symm
      · exact e2.symm
      · exact e3.symm
      · exact e4.symm
      · exact e5.symm
      · exact e6.symm
      · exact e7.symm
      · exact e8.symm
    refine passes_ok (B0 := bq V kn tk D a n b k h m B0 i) E hR (by omega) rowM (bq_DI E g i (by omega)) fun M2 hM2 => ?_
    refine ih _ _ ⟨i + 1, by omega, rfl, (hR.mv hM2.2.2.2).nxt, fun K hK => ?_⟩ (by rw [nI_clamp (by omega), nI_clamp (by omega)]; omega)
    obtain ⟨Ka, Kb, ha, hb, rfl⟩ := hK
    exact (hc Ka ha).day (by omega) hb hM2 (dyB_DI E (by omega) (bq_DI E g i (by omega))) fun y hy => by
      rw [ha.row hB y 1 hy (by omega) (by omega)]
      exact dyB_1 y
  · have e : i = x := by omega
    subst e
    rw [if_pos (Int32.le_refl _), hR.2.1.1]
    exact hQ c hR hc
end DayW
