/-! ===== the reference's settings; top and covers ===== -/
def PVw (M : CT) (V : VW) (l q : Nat) : Prop := (∀ j x, 2 ≤ j → j ≤ 32 → x < half j → M.1 j x = V j x) ∧ M.1 0 34 = nI l ∧ M.1 0 35 = nI q
theorem rch_b {P : CT} {V : VW} {l q t d h : Nat} (T : TLS P.1 V l q) (ht : t < l + q) (hd : 1 ≤ d) (h9 : d ≤ 9) (e : rchS V l t d = some h) : h ≤ 40 := by
  obtain ⟨b1, b2⟩ := lenS_b T ht
  have ll : (lenS V l t + 1) * (lenS V l t + 1) = lenS V l t * lenS V l t + 2 * lenS V l t + 1 := by
    rw [Nat.add_mul, Nat.mul_add]
    omega
  have hr : rt (lenS V l t * lenS V l t - d * d) ≤ lenS V l t := rt_lt (by omega)
  unfold rchS at e
  split at e
  · cases e
  · split at e
    · split at e
      · cases e; omega
      · cases e
    · cases e; omega
section Cov2
variable {P M : CT} {V : VW} {l q f t d c : Nat} {a5 : Int32} {held : Bool}
theorem isLadM {Q : Int32 → Prop} (hM : PVw M V l q) (l4 : l ≤ 4) (ht : t < 100) : k_X12_isLadder M (nI t) Q = Q (if t < l then 1 else 0) := by
  unfold k_X12_isLadder
  rw [rZ_ite, hM.2.1]
  by_cases h : t < l
  · rw [if_pos (nI_ge h (by omega)), if_pos h]
  · rw [if_neg (fun z => z (nI_le (by omega) (by omega))), if_neg h]
theorem topOf_ok {Q : Int32 → Prop} (hM : PVw M V l q) (T : TLS P.1 V l q) (g : PFro P.1 V f) (hf : f < 5) (ht : t < l + q) (hc : c < nv (V 8 f)) (hd : 1 ≤ d) (h9 : d ≤ 9) (h5 : (a5 ≠ 0) ↔ held = true) (hQ : Q (if stdS V l f t c held = true then oI (rchS V l t d) else -1)) : k_X12_topOf M (nI f) (nI t) (nI c) (nI d) a5 Q := by
  obtain ⟨b1, b2⟩ := lenS_b T ht
  obtain ⟨⟨l4, q3, -, -⟩, gl, gp⟩ := T
  obtain ⟨-, w, u, p, b, s, hw, hu, hp, hb, hs, ⟨e8, -, -, e10, e11⟩, -, -⟩ := g
  rw [e8, nv_n (by omega)] at hc
  have m10 : M.1 10 f = nI b := (hM.1 10 f (by omega) (by omega) (show f < 5 from hf)).trans e10
  have m11 : M.1 11 f = nI s := (hM.1 11 f (by omega) (by omega) (show f < 5 from hf)).trans e11
  unfold stdS at hQ
  rw [e10, e11, nv_n (by omega), nv_n (by omega)] at hQ
  unfold k_X12_topOf
  rw [rdI_n (by omega) (by omega), m10, bit_n (by omega) (by omega)]
  cases hbit : b.testBit c with
  | true =>
    rw [hbit] at hQ
    rw [if_pos rfl, if_neg (fun z => z rfl)]
    exact hQ
  | false =>
    rw [hbit] at hQ
    rw [if_pos (by decide)]
    unfold rchS at hQ
    refine jn_of (fun J => J (nI (lenS V l t))) ?_ ?_
    · refine ite_b (fun z => ?_) fun z => ?_
      · rw [nI_lt' (by omega) (by omega)] at z
        rw [if_neg (show ¬ lenS V l t ≤ d by omega)] at hQ
        have dd : d * d ≤ 81 := Nat.mul_le_mul h9 h9
        have ddl : d * d ≤ lenS V l t * lenS V l t := Nat.mul_le_mul (by omega) (by omega)
        have ll : lenS V l t * lenS V l t ≤ 40 * 40 := Nat.mul_le_mul b2 b2
        have lls : (lenS V l t + 1) * (lenS V l t + 1) = lenS V l t * lenS V l t + 2 * lenS V l t + 1 := by
          rw [Nat.add_mul, Nat.mul_add]
          omega
        have hrt : rt (lenS V l t * lenS V l t - d * d) ≤ lenS V l t := rt_lt (by omega)
        rw [pk_mul, pk_mul, pk_sub ddl]
        refine root_ok (by omega) ?_
        rw [isLadM hM l4 (by omega)]
        by_cases hl : t < l
        · rw [if_pos hl] at hQ ⊢
          have tl : decide (t < l) = true := decide_eq_true hl
          rw [tl] at hQ
          rw [if_pos (by decide), jn_eq, li_3, li_5, pk_mul, pk_mul, rdI_n (by omega) (by omega), m11, bit_n (by omega) (by omega)]
          refine ite_b (fun y => ?_) fun y => ite_b (fun y2 => ?_) fun y2 => ?_
          · rw [nI_lt' (by omega) (by omega)] at y
            rw [if_neg (show ¬ (3 * d ≤ rt (lenS V l t * lenS V l t - d * d) ∧ rt (lenS V l t * lenS V l t - d * d) ≤ 5 * d) by omega)] at hQ
            split at hQ <;> exact hQ
          · rw [nI_lt' (by omega) (by omega)] at y2
            rw [if_neg (show ¬ (3 * d ≤ rt (lenS V l t * lenS V l t - d * d) ∧ rt (lenS V l t * lenS V l t - d * d) ≤ 5 * d) by omega)] at hQ
            split at hQ <;> exact hQ
          · rw [nI_lt' (by omega) (by omega)] at y y2
            rw [if_pos (show 3 * d ≤ rt (lenS V l t * lenS V l t - d * d) ∧ rt (lenS V l t * lenS V l t - d * d) ≤ 5 * d by omega)] at hQ
            cases hsb : s.testBit c with
            | false =>
              rw [hsb] at hQ
              rw [if_pos (by decide)]
              cases held <;> exact hQ
            | true =>
              rw [hsb] at hQ
              rw [if_pos rfl, if_neg (fun z => z rfl)]
              cases held with
              | true =>
                rw [if_pos (h5.mpr rfl)]
                exact hQ
              | false =>
                rw [if_neg (fun e => Bool.noConfusion (h5.mp e))]
                exact hQ
        · rw [if_neg hl] at hQ ⊢
          have tl : decide (t < l) = false := decide_eq_false hl
          rw [tl] at hQ
          obtain ⟨-, -, p6, -, n, n9, e6⟩ := gp (t - l) (by omega)
          have m6 : M.1 6 (t - l) = nI n := (hM.1 6 _ (by omega) (by omega) (show t - l < 3 by omega)).trans e6
          rw [if_neg (by decide), hM.2.1, pk_sub (by omega), rdI_n (by omega) (by omega), m6, pk_mul, dvI_eq (by decide), li_10, pk_div (by have : lenS V l t * n ≤ 40 * 9 := Nat.mul_le_mul b2 n9; omega) (by omega) (by omega), mx_sub (by omega) (by have : lenS V l t * n ≤ 40 * 9 := Nat.mul_le_mul b2 n9; have := Nat.div_le_self (lenS V l t * n) 10; omega)]
          rw [e6, nv_n (by omega)] at hQ
          exact hQ
      · rw [nI_lt' (by omega) (by omega)] at z
        rw [if_pos (show lenS V l t ≤ d by omega)] at hQ
        split at hQ <;> exact hQ
    intro J hJ
    rw [isLadM hM l4 (by omega)]
    unfold lenS at hJ
    by_cases hl : t < l
    · rw [if_pos hl] at hJ
      rw [if_pos hl, if_neg (by decide), rdI_n (by omega) (by omega)]
      obtain ⟨-, p3, n, h1, h2, e⟩ := gl t hl
      rw [(hM.1 3 t (by omega) (by omega) (show t < 4 by omega)).trans e]
      rw [e, nv_n (by omega)] at hJ
      exact hJ
    · rw [if_neg hl] at hJ
      rw [if_neg hl, if_pos rfl, hM.2.1, pk_sub (by omega), rdI_n (by omega) (by omega)]
      obtain ⟨-, p5, -, ⟨n, h1, h2, e⟩, -⟩ := gp (t - l) (by omega)
      rw [(hM.1 5 _ (by omega) (by omega) (show t - l < 3 by omega)).trans e]
      rw [e, nv_n (by omega)] at hJ
      exact hJ
theorem coversOf_ok {Q : Int32 → Prop} (hM : PVw M V l q) (T : TLS P.1 V l q) (g : PFro P.1 V f) (hf : f < 5) (ht : t < l + q) (hc : c < nv (V 8 f)) (hd : 1 ≤ d) (h9 : d ≤ 9) (h5 : (a5 ≠ 0) ↔ held = true) (hQ : Q (oI (cvS V l f t c d held))) : k_X12_coversOf M (nI f) (nI t) (nI c) (nI d) a5 Q := by
  have l4 := T.1.1
  have q3 := T.1.2.1
  unfold k_X12_coversOf
  refine topOf_ok hM T g hf ht hc hd h9 h5 ?_
  unfold cvS at hQ
  by_cases hs : stdS V l f t c held = true
  · rw [if_pos hs] at hQ ⊢
    cases hr : rchS V l t d with
    | none =>
      rw [hr] at hQ
      show (if (-1 : Int32) ≠ -1 then _ else _)
      rw [if_neg (fun z => z rfl)]
      exact hQ
    | some h =>
      have hb := rch_b T ht hd h9 hr
      rw [hr] at hQ
      show (if nI h ≠ -1 then _ else _)
      obtain ⟨-, w, u, p, b, s, hw, hu, hp, -, -, ⟨e8, -, e12, -, -⟩, -, gp⟩ := g
      rw [e8, nv_n (by omega)] at hc
      rw [if_pos (by rw [ne_eq, m1_ne (by omega)]; exact id), jn_eq, isLadM hM l4 (by omega)]
      have m12 : M.1 12 f = nI p := (hM.1 12 f (by omega) (by omega) (show f < 5 from hf)).trans e12
      have Q2 : Q (nI (bm (fun k => nearS V f c k && tallS V l f t h k) p)) := by
        have hQ' : Q (nI (bm (fun k => nearS V f c k && tallS V l f t h k) (nv (V 12 f)))) := hQ
        rw [e12, nv_n (by omega)] at hQ'
        exact hQ'
      have lp : ∀ lo up : Int32, lo = (if t < l then nI h - 5 else 1) → up = (if t < l then nI h + 1 else nI h) → LP2 (fun R92 (v88 : Int32) (v89 : Int32) => rdI M 12 10 (nI f) (fun t102 => (if t102 ≤ v89 then Q v88 else rdI M 13 120 (((12 : Int32) * (nI f)) + v89) (fun t104 => rdI M 14 120 (((12 : Int32) * (nI f)) + v89) (fun t106 => (if t104 < ((nI c) - (1 : Int32)) then R92 v88 (v89 + 1) else (if ((nI c) + (1 : Int32)) < t104 then R92 v88 (v89 + 1) else (if t106 < lo then R92 v88 (v89 + 1) else (if up < t106 then R92 v88 (v89 + 1) else vK (v88 ||| ((1 : Int32) <<< (v89 &&& 31))) (fun v113 => R92 v113 (v89 + 1))))))))))) (0 : Int32) (0 : Int32) := by
        intro lo up elo eup
        have key : ∀ i, i < p → ∃ x y : Nat, x < 12 ∧ y ≤ 24 ∧ M.1 13 (12 * f + i) = nI x ∧ M.1 14 (12 * f + i) = nI y ∧ nv (V 13 (12 * f + i)) = x ∧ nv (V 14 (12 * f + i)) = y := fun i hi => by
          obtain ⟨-, -, ⟨x, hx, ex⟩, ⟨y, hy, hy2, ey⟩⟩ := gp i hi
          exact ⟨x, y, by omega, by omega, (hM.1 13 _ (by omega) (by omega) (show 12 * f + i < 60 by omega)).trans ex, (hM.1 14 _ (by omega) (by omega) (show 12 * f + i < 60 by omega)).trans ey, by rw [ex, nv_n (by omega)], by rw [ey, nv_n (by omega)]⟩
        refine mask_lp (p := fun k => nearS V f c k && tallS V l f t h k) (N := p) (E := Q) hp (fun R s' i hi hpi hr => ?_) (fun R s' i hi hpi hr => ?_) (fun R s' hE => ?_) Q2
        · obtain ⟨x, y, hx, hy, ex, ey, nx, ny⟩ := key i hi
          obtain ⟨h1, h2⟩ := Bool.and_eq_true_iff.mp hpi
          unfold nearS at h1
          rw [nx] at h1
          have h1' := of_decide_eq_true h1
          obtain ⟨q1, q2⟩ := (tall_iff hb hy ny).mp h2
          rw [← elo] at q1
          rw [← eup] at q2
          rw [rdI_n (by omega) (by omega), m12, if_neg (nI_ge hi (by omega)), li_12, pk_mul, nI_add, rdI_n (by omega) (by omega), ex, rdI_n (by omega) (by omega), ey, if_neg (by rw [li_1, lt_sub (by omega) (by omega) (by omega)]; omega), nI_1 c, if_neg (by rw [nI_lt' (by omega) (by omega)]; omega), if_neg q1, if_neg q2, vK_eq, nI_1]
          exact hr
        · obtain ⟨x, y, hx, hy, ex, ey, nx, ny⟩ := key i hi
          rw [rdI_n (by omega) (by omega), m12, if_neg (nI_ge hi (by omega)), li_12, pk_mul, nI_add, rdI_n (by omega) (by omega), ex, rdI_n (by omega) (by omega), ey, nI_1 i]
          refine ite_b (fun z => hr) fun z1 => ite_b (fun z => hr) fun z2 => ite_b (fun z => hr) fun z3 => ite_b (fun z => hr) fun z4 => ?_
          rw [li_1, lt_sub (by omega) (by omega) (by omega)] at z1
          rw [nI_1, nI_lt' (by omega) (by omega)] at z2
          have h1 : nearS V f c i = true := by
            unfold nearS
            rw [nx]
            exact decide_eq_true (by omega)
          have h2 : tallS V l f t h i = true := (tall_iff hb hy ny).mpr ⟨by rw [← elo]; exact z3, by rw [← eup]; exact z4⟩
          have : (nearS V f c i && tallS V l f t h i) = true := by rw [h1, h2]; rfl
          rw [this] at hpi
          cases hpi
        · rw [rdI_n (by omega) (by omega), m12, if_pos (Int32.le_refl _)]
          exact hE
      by_cases hl : t < l
      · rw [if_pos hl, if_neg (by decide)]
        dsimp only
        rw [jn_eq, isLadM hM l4 (by omega), if_pos hl, if_neg (by decide)]
        exact lp _ _ (by rw [if_pos hl]; rfl) (by rw [if_pos hl]; rfl)
      · rw [if_neg hl, if_pos rfl]
        dsimp only
        rw [jn_eq, isLadM hM l4 (by omega), if_neg hl, if_pos rfl]
        exact lp _ _ (by rw [if_neg hl]) (by rw [if_neg hl]; rfl)
  · rw [if_neg hs] at hQ ⊢
    show (if (-1 : Int32) ≠ -1 then _ else _)
    rw [if_neg (fun z => z rfl)]
    exact hQ
end Cov2
