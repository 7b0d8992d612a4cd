/-! ===== the class's day, whole ===== -/
noncomputable def dmB (V : VW) (kn tk : Nat → Int32) (D b k h : Nat) (B0 : VW) : Nat → VW × List (Nat × Nat)
  | 0 => (B0, [])
  | mn + 1 => ((goB V kn tk D mn (lsB V kn D mn b k (dmB V kn tk D b k h B0 mn).1 h).2.2 (V 18 mn, -1, (lsB V kn D mn b k (dmB V kn tk D b k h B0 mn).1 h).1, (dmB V kn tk D b k h B0 mn).2) (lsB V kn D mn b k (dmB V kn tk D b k h B0 mn).1 h).2.1).2.2.1, (goB V kn tk D mn (lsB V kn D mn b k (dmB V kn tk D b k h B0 mn).1 h).2.2 (V 18 mn, -1, (lsB V kn D mn b k (dmB V kn tk D b k h B0 mn).1 h).1, (dmB V kn tk D b k h B0 mn).2) (lsB V kn D mn b k (dmB V kn tk D b k h B0 mn).1 h).2.1).2.2.2)
noncomputable def cmB (V : VW) (kn : Nat → Int32) (D a n : Nat) (B0 : VW) : Nat → VW
  | 0 => B0
  | i + 1 => @ite _ (0 < n ∧ cmB V kn D a n B0 i 2 i ≤ nI D ∧ cmB V kn D a n B0 i 6 i = 0 ∧ ruB V (cmB V kn D a n B0 i) kn D i a n) (Classical.propDecidable _) (up2 (up2 (cmB V kn D a n B0 i) 6 i 1) 5 i (cmB V kn D a n B0 i 5 i + 1)) (cmB V kn D a n B0 i)
noncomputable def dyL (V : VW) (kn tk : Nat → Int32) (D b k h m : Nat) (B0 : VW) : VW × List (Nat × Nat) := if V 30 D ≠ 0 then (B0, []) else dmB V kn tk D b k h B0 m
noncomputable def dyB (V : VW) (kn tk : Nat → Int32) (D a n b k h m : Nat) (B0 : VW) : VW := cmB V kn D a n (dyL V kn tk D b k h m B0).1 h
theorem cmB_s {V : VW} {kn : Nat → Int32} {D a n : Nat} {B0 : VW} {i : Nat} : cmB V kn D a n B0 (i + 1) = @ite _ (0 < n ∧ cmB V kn D a n B0 i 2 i ≤ nI D ∧ cmB V kn D a n B0 i 6 i = 0 ∧ ruB V (cmB V kn D a n B0 i) kn D i a n) (Classical.propDecidable _) (up2 (up2 (cmB V kn D a n B0 i) 6 i 1) 5 i (cmB V kn D a n B0 i 5 i + 1)) (cmB V kn D a n B0 i) := rfl
section DayD
variable {P K0 K W0 W M : CT} {V B : VW} {L : List (Nat × Nat)} {kn tk : Nat → Int32} {l q f m h D : Nat}
theorem fromHome_ok {man i : Nat} {Q : Int32 → Prop} (gm : PMan P.1 V man) (gi : PHou P.1 V f m i) (hm : man < 3) (hi : i < 10) : k_X6_fromHome P (nI man) (nI i) Q = Q (hmS V man i) := by
  unfold k_X6_fromHome hmS
  simp (disch := omega) only [ixN_n, gm.2.1, gm.2.2.1, gi.2.2.1.1, gi.2.2.2.1.1]
theorem homeward_ok {man i : Nat} {Q : Int32 → Prop} (gm : PMan P.1 V man) (gi : PHou P.1 V f m i) (hm : man < 3) (hi : i < 10) : k_X6_homeward P (nI man) (nI i) Q = Q (hmS V man i) := by
  unfold k_X6_homeward
  rw [jn_eq, if_pos (by rw [ne_eq, m1_ne (by omega)]; exact id), fromHome_ok gm gi hm hi]
theorem onward_ok {man i : Nat} {wh : Int32} {Q : Int32 → Prop} (gm : PMan P.1 V man) (gh : ∀ i, i < h → PHou P.1 V f m i) (hm : man < 3) (hi : i < h) (h9 : h ≤ 10) (hw : wh = -1 ∨ ∃ a : Nat, a < h ∧ wh = nI a) : k_X6_onward P (nI man) wh (nI i) Q = Q (wkS V man i wh) := by
  unfold k_X6_onward wkS
  rw [jn_eq]
  rcases hw with e | ⟨a, ha, e⟩
  · subst e
    rw [if_neg (fun z => z rfl), if_pos rfl, fromHome_ok gm (gh i hi) hm (by omega)]
  · subst e
    rw [if_pos (by rw [ne_eq, m1_ne (by omega)]; exact id), if_neg (by rw [m1_ne (by omega)]; exact id), nv_n (by omega)]
    unfold k_X6_apart btS
    simp (disch := omega) only [ixN_n, (gh i hi).2.2.1.1, (gh i hi).2.2.2.1.1, (gh a ha).2.2.1.1, (gh a ha).2.2.2.1.1]
theorem goRound_ok {man tn : Nat} {T : Nat → Nat} {B0 : VW} {L0 : List (Nat × Nat)} {Q : CT → Prop} (hD : D < 200) (h9 : h ≤ 10) (m3 : m ≤ 3) (t9 : tn ≤ 10) (gm : PMan P.1 V man) (gh : ∀ i, i < h → PHou P.1 V f m i) (hm : man < m) (hkn : ∀ i, i < h → W0.1 1 i = kn i) (htk : ∀ i, i < h → W0.1 2 i = tk i) (hk : ∀ i, i < h → ∃ s : Nat, s ≤ 600000 ∧ kn i = nI s) (g : DI B0 L0 h m D) (hT : ∀ x, x < tn → T x < h ∧ B0 2 (T x) ≤ nI D) (hinj : ∀ x y, x < y → y < tn → T x ≠ T y) (gc : KBr K0 K B0 L0 h D) (gw : WTr W0 W tn T)
    (hQ : ∀ K', KBr K0 K' (goB V kn tk D man T (V 18 man, -1, B0, L0) tn).2.2.1 (goB V kn tk D man T (V 18 man, -1, B0, L0) tn).2.2.2 h D → Q K') : k_X10_goRound P K W (nI man) (nI D) Q := by
  have inv := goB_DI (tk := tk) (lf := V 18 man) hD h9 m3 g gh hm hk hT hinj
  unfold k_X10_goRound
  rw [ixN_n (by omega) (by omega), vK_eq, gm.2.2.2.1]
  refine LP4.ind (fun lf wh v c => ∃ j, j ≤ tn ∧ v = nI j ∧ lf = (goB V kn tk D man T (V 18 man, -1, B0, L0) j).1 ∧ wh = (goB V kn tk D man T (V 18 man, -1, B0, L0) j).2.1 ∧ KBr K0 c (goB V kn tk D man T (V 18 man, -1, B0, L0) j).2.2.1 (goB V kn tk D man T (V 18 man, -1, B0, L0) j).2.2.2 h D) (fun _ _ v _ => tn - v.toNatClampNeg) ?_ ⟨0, by omega, rfl, rfl, rfl, gc⟩
  rintro R lf wh v c ⟨j, hj, rfl, rfl, rfl, gcj⟩ ih
  obtain ⟨d1, d2, d3⟩ := inv j hj
  rw [gw.1]
  by_cases hjt : j < tn
  · obtain ⟨hTh, -⟩ := hT j hjt
    have nx : ∀ lf' wh' c', lf' = (goB V kn tk D man T (V 18 man, -1, B0, L0) (j + 1)).1 → wh' = (goB V kn tk D man T (V 18 man, -1, B0, L0) (j + 1)).2.1 → KBr K0 c' (goB V kn tk D man T (V 18 man, -1, B0, L0) (j + 1)).2.2.1 (goB V kn tk D man T (V 18 man, -1, B0, L0) (j + 1)).2.2.2 h D → R lf' wh' (nI (j + 1)) c' := fun lf' wh' c' q1 q2 q3 => ih _ _ _ _ ⟨j + 1, by omega, rfl, q1, q2, q3⟩ (by rw [nI_clamp (by omega), nI_clamp (by omega)]; omega)
    have w1 : W.1 1 (T j) = kn (T j) := (gw.2.2 1 _ (Or.inl rfl)).trans (hkn _ hTh)
    have w2 : W.1 2 (T j) = tk (T j) := (gw.2.2 2 _ (Or.inr rfl)).trans (htk _ hTh)
    rw [if_neg (nI_ge hjt (by omega)), rdI_n (by omega) (by omega), gw.2.1 j hjt, onward_ok gm gh (by omega) hTh h9 d2, rdI_n (by omega) (by omega), w2, vK_eq, homeward_ok gm (gh _ hTh) (by omega) (by omega), nI_1]
    rw [goB_s] at nx
    refine ite_b (fun z => ?_) fun z => ?_
    · rw [if_neg (fun y => Int32.lt_irrefl (Int32.lt_of_lt_of_le z y))] at nx
      exact nx _ _ _ rfl rfl gcj
    · rw [if_pos (Int32.not_lt.mp z)] at nx
      rw [vK_eq]
      have hl := d1.len
      have hnot : T j ∉ (goB V kn tk D man T (V 18 man, -1, B0, L0) j).2.2.2.map Prod.fst := fun y => d1.2.2.2 _ y (d3 j (Nat.le_refl j) hjt)
      have hl2 : (goB V kn tk D man T (V 18 man, -1, B0, L0) j).2.2.2.length < 10 := by
        have := nodup_le h (T j :: (goB V kn tk D man T (V 18 man, -1, B0, L0) j).2.2.2.map Prod.fst) (List.nodup_cons.mpr ⟨hnot, d1.2.2.1⟩) (fun a ha => by
          rcases List.mem_cons.mp ha with e | e
          · rw [e]; exact hTh
          · exact d1.lt a e)
        rw [List.length_cons, List.length_map] at this
        omega
      refine addToWay_ok gcj hD (by omega) (by omega) hl2 (fun a ha => by have := d1.lt a ha; omega) fun K1 hK1 => ?_
      exact wipeC_ok hD h9 hTh (gh _ hTh) w1 hK1 fun K2 hK2 => nx _ _ _ rfl rfl hK2
  · have e : j = tn := by omega
    subst e
    rw [if_pos (Int32.le_refl _)]
    exact hQ _ gcj
theorem cmB_row {a n : Nat} {B0 : VW} : ∀ i j x, j ≠ 5 → j ≠ 6 → cmB V kn D a n B0 i j x = B0 j x
  | 0, _, _, _, _ => rfl
  | i + 1, j, x, h5, h6 => by
    rw [cmB_s]
    split
    · rw [up2_ne h5, up2_ne h6]
      exact cmB_row i j x h5 h6
    · exact cmB_row i j x h5 h6
theorem hearComplaint_ok {i a n : Nat} {Q : CT → CT → Prop} (hD : D < 200) (h9 : h ≤ 10) (hi : i < h) (g : PHou P.1 V f m i) (hn : P.1 11 0 = nI n) (hR : RulR (P.1 12) V a n) (hkn : W.1 1 i = kn i) (gc : KBr K0 K B L h D) (b6 : B 6 i = 0 ∨ B 6 i = 1)
    (hy : 0 < n ∧ B 2 i ≤ nI D ∧ B 6 i = 0 ∧ ruB V B kn D i a n → ∀ K' W', W'.1 = W.1 → KBr K0 K' (up2 (up2 B 6 i 1) 5 i (B 5 i + 1)) L h D → Q K' W') (hno : ¬ (0 < n ∧ B 2 i ≤ nI D ∧ B 6 i = 0 ∧ ruB V B kn D i a n) → ∀ W', W'.1 = W.1 → Q K W') : k_X10_hearComplaint P K W (nI i) (nI D) Q := by
  have n64 := hR.1
  unfold k_X10_hearComplaint
  rw [hn]
  refine ite_b (fun z => ?_) fun z => ?_
  · refine hno (fun y => ?_) W rfl
    rw [show (0 : Int32) = nI 0 from rfl, nI_eq (by omega) (by omega)] at z
    omega
  · have n0 : 0 < n := Nat.pos_of_ne_zero fun e => z (by rw [e]; rfl)
    rw [rdI_n (by omega) (by omega), gc.1 i 2 hi (by omega) (by omega)]
    refine ite_b (fun z2 => ?_) fun z2 => ?_
    · exact hno (fun y => Int32.lt_irrefl (Int32.lt_of_lt_of_le z2 y.2.1)) W rfl
    · rw [rdI_n (by omega) (by omega), gc.1 i 6 hi (by omega) (by omega)]
      refine ite_b (fun z3 => ?_) fun z3 => ?_
      · refine holds_ok (r := 0) (a := a) (n := n) (B := B) (kn := kn) g (by omega) (by omega) hn n0 hR hkn (gc.1 i 2 hi (by omega) (by omega)) (gc.1 i 3 hi (by omega) (by omega)) (gc.1 i 8 hi (by omega) (by omega)) fun W' hW' => ⟨fun hr => ?_, fun hr => ?_⟩
        · rw [if_neg (by decide), bo1, wrI_n (by omega) (by omega), rdI_n (by omega) (by omega), sI_ne (by omega), gc.1 i 5 hi (by omega) (by omega), wrI_n (by omega) (by omega)]
          refine hy ⟨n0, Int32.not_lt.mp z2, z3, hr⟩ _ W' hW' ?_
          exact (gc.up (j := 6) (i := i) (x := 1) (by omega)).up (j := 5) (i := i) (x := B 5 i + 1) (by omega)
        · rw [if_pos rfl]
          exact hno (fun y => hr y.2.2.2) W' hW'
      · exact hno (fun y => z3 y.2.2.1) W rfl
theorem openDay_ok {Q : CT → Prop} (hD : D < 200) (hQ : ∀ K', KBr K K' K.1 [] h D → Q K') : k_X0_openDay K (nI D) Q := by
  unfold k_X0_openDay
  rw [wrI_n (by omega) (by omega)]
  refine LP2.ind (fun v c => ∃ b, b ≤ 3 ∧ v = nI b ∧ c.1 = (sI K 9 D 0).1 ∧ (∀ x, x < b → c.2 10 (3 * D + x) = 0) ∧ ∀ j k, ¬ (j = 10 ∧ 3 * D ≤ k ∧ k < 3 * D + 3) → c.2 j k = K.2 j k) (fun v _ => 3 - v.toNatClampNeg) ?_ ⟨0, by omega, rfl, rfl, fun x hx => absurd hx (Nat.not_lt_zero x), fun _ _ _ => rfl⟩
  rintro R v c ⟨b, hb, rfl, c1, c2, c3⟩ ih
  rw [li_3]
  by_cases hb3 : b < 3
  · rw [if_neg (nI_ge hb3 (by omega)), pk_mul, nI_add, show D * 3 + b = 3 * D + b by omega, wrL_n (by omega) (by omega), nI_1]
    refine ih _ _ ⟨b + 1, by omega, rfl, c1, fun x hx => ?_, fun j k q => ?_⟩ (by rw [nI_clamp (by omega), nI_clamp (by omega)]; omega)
    · rw [sL_at]
      by_cases e : x = b
      · rw [if_pos ⟨rfl, by omega⟩]
      · rw [if_neg (by omega)]
        exact c2 x (by omega)
    · rw [sL_ne (by omega)]
      exact c3 j k q
  · rw [if_pos (nI_le (by omega) (by omega))]
    refine hQ c ⟨fun i j a1 a2 a3 => ?_, ?_, fun x hx => ?_, fun j k a1 a2 => ?_, c3⟩
    · rw [c1, sI_ne (by omega)]
    · rw [c1, sI_same]
      rfl
    · rw [c2 x (by omega)]
      rfl
    · rw [c1, sI_ne (by omega)]
end DayD
