/-! ===== keep in changing worlds ===== -/
section Zke
variable {A : Nat → Nat} {d : LZD} {cH cP cS cR cK cF cW cT cN cU cI cM cO : CT} {QF : LZD → Option Value → List CT → Prop}
def dI (d : LZD) : LZD := if d.1 10 then d else (onB d.1 10, d.2.1, (d.2.2.1 + 9, d.2.2.2 + 96))
theorem dI_y (h : d.1 10 = true) : dI d = d := if_pos h
theorem dI_n (h : d.1 10 = false) : dI d = (onB d.1 10, d.2.1, (d.2.2.1 + 9, d.2.2.2 + 96)) := if_neg (by rw [h]; decide)
theorem dI_10 : (dI d).1 10 = true := by
  by_cases h : d.1 10 = true
  · rw [dI_y h, h]
  · rw [dI_n (Bool.eq_false_iff.mpr h)]
    show onB d.1 10 10 = true
    exact onB_s
theorem GZ.dI : GZ d (dI d) := by
  by_cases z : d.1 10 = true
  · rw [dI_y z]
    exact GZ.refl
  · have z := Bool.eq_false_iff.mpr z
    rw [dI_n z]
    refine ⟨fun _ h => onB_le h, fun h => h, ?_, ?_⟩
    · unfold potC
      show d.2.2.1 + 9 + ((if d.1 5 then 0 else 14) + ((if d.1 6 then 0 else 6) + ((if d.1 7 then 0 else 10) + ((if d.1 8 then 0 else 1) + ((if d.1 9 then 0 else 1) + 0))))) = _
      rw [z, if_neg (c := false = true) (by decide)]
      omega
    · unfold potS
      show d.2.2.2 + 96 + ((if d.1 5 then 0 else 5799) + ((if d.1 6 then 0 else 109) + ((if d.1 7 then 0 else 88) + ((if d.1 8 then 0 else 896) + ((if d.1 9 then 0 else 3072) + 0))))) = _
      rw [z, if_neg (c := false = true) (by decide)]
      omega
theorem rfD_10 : rfD A d 10 = fun j k => (if j = 0 then (if k = 10 then some (A 4 + 9) else if k = 11 then some (A 4 + 10) else if k = 12 then some (A 4 + 11) else if k = 13 then some (A 4 + 12) else if k = 14 then some (A 4 + 13) else if k = 15 then some (A 4 + 14) else none) else none) := rfl
theorem rfD_I {f : Nat → Nat → Nat → Option Nat} (hf : f 10 = fun _ _ => none) : rfD A d 10 = rfI f (A 4) 10 := by
  have e : rfI f (A 4) 10 = up2 (up2 (up2 (up2 (up2 (up2 (f 10) 0 10 (some (A 4 + 9))) 0 11 (some (A 4 + 10))) 0 12 (some (A 4 + 11))) 0 13 (some (A 4 + 12))) 0 14 (some (A 4 + 13))) 0 15 (some (A 4 + 14)) := rfl
  rw [e, hf, rfD_10]
  funext j k
  unfold up2
  by_cases hj : j = 0
  · rw [if_pos hj]
    by_cases h0 : k = 10
    · rw [if_pos h0, if_neg (by omega), if_neg (by omega), if_neg (by omega), if_neg (by omega), if_neg (by omega), if_pos ⟨hj, h0⟩]
    rw [if_neg h0]
    by_cases h1 : k = 11
    · rw [if_pos h1, if_neg (by omega), if_neg (by omega), if_neg (by omega), if_neg (by omega), if_pos ⟨hj, h1⟩]
    rw [if_neg h1]
    by_cases h2 : k = 12
    · rw [if_pos h2, if_neg (by omega), if_neg (by omega), if_neg (by omega), if_pos ⟨hj, h2⟩]
    rw [if_neg h2]
    by_cases h3 : k = 13
    · rw [if_pos h3, if_neg (by omega), if_neg (by omega), if_pos ⟨hj, h3⟩]
    rw [if_neg h3]
    by_cases h4 : k = 14
    · rw [if_pos h4, if_neg (by omega), if_pos ⟨hj, h4⟩]
    rw [if_neg h4]
    by_cases h5 : k = 15
    · rw [if_pos h5, if_pos ⟨hj, h5⟩]
    rw [if_neg h5, if_neg (by omega), if_neg (by omega), if_neg (by omega), if_neg (by omega), if_neg (by omega), if_neg (by omega)]
  · rw [if_neg hj, if_neg (by omega), if_neg (by omega), if_neg (by omega), if_neg (by omega), if_neg (by omega), if_neg (by omega)]
theorem z_X11_keep {Q : Int32 → CT → CT → Prop} (yI : d.1 10 = false → cI = c00 ∧ A 10 = d.2.2.1) (h : k_X11_keep cH cK cI Q) : ZF A d m_X11_keep [.ref (A 0)] [cH, cP, cS, cR, cK, cF, cW, cT, cN, cU, cI, cM, cO] (fun d' v C' => d' = dI d ∧ ∃ x : Int32, ∃ eH eI : CT, v = some (.int x) ∧ C' = [eH, cP, cS, cR, cK, cF, cW, cT, cN, cU, eI, cM, cO] ∧ Q x eH eI) := fun σ hσ => by
  by_cases z : d.1 10 = true
  · obtain ⟨v, σ', C', h1, h2, h3, x, eH, eI, h4, h5, h6⟩ := s_X11_keep (cP := cP) (cS := cS) (cR := cR) (cF := cF) (cW := cW) (cT := cT) (cN := cN) (cU := cU) (cM := cM) (cO := cO) q_bH (q_bI z) q_bK q_rH5 (q_rH6 z) h σ hσ.1
    exact ⟨v, σ', C', d, h1, ⟨h2, h3.trans hσ.2⟩, (dI_y z).symm, x, eH, eI, h4, h5, h6⟩
  · have z := Bool.eq_false_iff.mpr z
    obtain ⟨e1, e2⟩ := yI z
    subst e1
    have dd : (wd A d).1[10]? = some (0, []) := congrArg some (lzB_n z)
    have n6 : (wd A d).2 0 0 6 = none := if_neg (by rw [z]; decide)
    obtain ⟨σ1, i1, i2, i3⟩ := init_I (w := wd A d) (xK := A 4) q_bK dd hσ.1
    have hz : σ.2.1 = A 10 := by rw [hσ.2, e2]
    obtain ⟨σ2, s1, s2, s3⟩ := i2.stR (b := 0) (j := 0) (k := 6) (a := σ.2.1) (ty := tyX11 6) (r := A 0) (by decide) rfl rfl rfl rfl rfl
    have rd : ∀ k x, ([3, 0, 1, 1, 1, 1, 1, 0, 1, 1, 1, 0, 0] : List Nat).getD k 0 = 1 → (wd A d).2 0 0 k = x → gF 11 k (.ref (A 0)) σ = some (va_rf x) := fun k x z2 z3 => by
      rw [hσ.1.ov (b := 0) (by decide) q_bH rfl]
      refine (gF_r (r := A 0) (j := 0) (k := k) (lay := hLay) (c := bc (wd A d) 0 cH) (rest := σ.1) (z := σ.2) rfl z2).trans ?_
      show some (va_rf ((wd A d).2 0 0 k)) = _
      rw [z3]
    have g2 : gF 11 6 (.ref (A 0)) σ2 = some (.ref σ.2.1) := by
      rw [s2.ov (b := 0) (r := A 0) (by decide) rfl rfl]
      exact gF_r (r := A 0) (j := 0) (k := 6) (lay := hLay) (rest := σ2.1) (z := σ2.2) rfl rfl
    have hx : A 0 < σ.2.1 := by
      have : A 0 + 2 ≤ σ.2.1 := hσ.1.2.1 0 _ q_bH
      omega
    have hl : HL A (dI d) [cH, cP, cS, cR, cK, cF, cW, cT, cN, cU, c00, cM, cO] σ2 := by
      rw [hz] at s2
      refine ⟨?_, ?_⟩
      · rw [dI_n z]
        refine s2.refs rfl fun b q e _ => ?_
        have e : b = 0 ∨ b = 1 ∨ b = 2 ∨ b = 3 ∨ b = 4 ∨ b = 5 ∨ b = 6 ∨ b = 7 ∨ b = 8 ∨ b = 9 ∨ b = 10 ∨ b = 11 ∨ b = 12 ∨ b = 13 := by
          have : b < 14 := (List.getElem?_eq_some_iff.mp e).1
          omega
        rcases e with rfl | rfl | rfl | rfl | rfl | rfl | rfl | rfl | rfl | rfl | rfl | rfl | rfl | rfl
        · exact rfD_H (k := 6) (a := some (A 10)) (fun k' hk => by
            unfold rfD
            dsimp only
            rw [if_pos rfl, if_pos rfl, if_pos rfl, if_pos rfl, if_neg (c := k' = 6) hk, if_neg (c := k' = 6) hk]
            rfl) rfl
        · rfl
        · rfl
        · rfl
        · rfl
        · rfl
        · rfl
        · rfl
        · rfl
        · rfl
        · exact rfD_I (d := d) (f := (noR (wd A d) 10).2) rfl
        all_goals rfl
      · rw [s3, i3, dI_n z, hσ.2]
    have ea : ∀ s : ST, eA 0 [.ref (A 0)] s = some (.ref (A 0), s) := fun _ => rfl
    have eNw : eNew 0 16 (dV tyX0 16) m_X0_init [(eU (gF 11 5) (eA 0))] [.ref (A 0)] σ = some (.ref σ.2.1, σ1) := by
      unfold eNew evL evL eU
      rw [ea, Option.bind_some]
      dsimp only [Option.bind_some]
      rw [gF_alloc hx, rd 5 (some (A 4)) rfl q_rH5]
      dsimp only [Option.map_some, Option.bind_some]
      rw [show m_X0_init [.ref σ.2.1, va_rf (some (A 4))] (alloc σ (.inr (0, dV tyX0 16)) 16) = some (none, σ1) from i1]
      rfl
    have blk : sBlk (sSeq (sBrIf (c1 z_nonnull (eU (gF 11 6) (eA 0))) 1) (sP2 (pF 11 6 (tyX11 6)) (eA 0) (eNew 0 16 (dV tyX0 16) m_X0_init [(eU (gF 11 5) (eA 0))]))) [.ref (A 0)] σ = some (.inl 0, [.ref (A 0)], σ2) := by
      have cnd : sBrIf (c1 z_nonnull (eU (gF 11 6) (eA 0))) 1 [.ref (A 0)] σ = some (.inl 0, [.ref (A 0)], σ) := by
        unfold sBrIf c1 eU
        rw [ea, Option.bind_some]
        dsimp only
        rw [rd 6 none rfl n6]
        rfl
      have st : sP2 (pF 11 6 (tyX11 6)) (eA 0) (eNew 0 16 (dV tyX0 16) m_X0_init [(eU (gF 11 5) (eA 0))]) [.ref (A 0)] σ = some (.inl 0, [.ref (A 0)], σ2) := by
        unfold sP2
        rw [ea, Option.bind_some]
        dsimp only
        rw [eNw, Option.bind_some]
        dsimp only
        rw [show pF 11 6 (tyX11 6) (.ref (A 0)) (.ref σ.2.1) σ1 = some σ2 from s1]
        rfl
      unfold sBlk sSeq
      rw [cnd, Option.bind_some]
      dsimp only
      rw [st]
      rfl
    have blk2 : sBlk (sSeq (sBrIf (c1 z_nonnull (eU (gF 11 6) (eA 0))) 1) (sP2 (pF 11 6 (tyX11 6)) (eA 0) (eNew 0 16 (dV tyX0 16) m_X0_init [(eU (gF 11 5) (eA 0))]))) [.ref (A 0)] σ2 = some (.inl 0, [.ref (A 0)], σ2) := by
      have cnd : sBrIf (c1 z_nonnull (eU (gF 11 6) (eA 0))) 1 [.ref (A 0)] σ2 = some (.inl 1, [.ref (A 0)], σ2) := by
        unfold sBrIf c1 eU
        rw [ea, Option.bind_some]
        dsimp only
        rw [g2]
        rfl
      unfold sBlk sSeq
      rw [cnd, Option.bind_some]
      rfl
    have eqm : m_X11_keep [.ref (A 0)] σ = m_X11_keep [.ref (A 0)] σ2 := by
      unfold m_X11_keep
      rw [mth_fin (Nat.le_of_ble_eq_true rfl), mth_fin (Nat.le_of_ble_eq_true rfl)]
      have eL : L0 1 [Value.ref (A 0)] = [.ref (A 0)] := rfl
      rw [eL]
      unfold b_X11_keep
      have r1 : ∀ X : XS, sSeq (sBlk (sSeq (sBrIf (c1 z_nonnull (eU (gF 11 6) (eA 0))) 1) (sP2 (pF 11 6 (tyX11 6)) (eA 0) (eNew 0 16 (dV tyX0 16) m_X0_init [(eU (gF 11 5) (eA 0))])))) X [.ref (A 0)] σ = X [.ref (A 0)] σ2 := fun X => by rw [sSeq_t, blk, thn_0]
      have r2 : ∀ X : XS, sSeq (sBlk (sSeq (sBrIf (c1 z_nonnull (eU (gF 11 6) (eA 0))) 1) (sP2 (pF 11 6 (tyX11 6)) (eA 0) (eNew 0 16 (dV tyX0 16) m_X0_init [(eU (gF 11 5) (eA 0))])))) X [.ref (A 0)] σ2 = X [.ref (A 0)] σ2 := fun X => by rw [sSeq_t, blk2, thn_0]
      rw [r1, r2]
    obtain ⟨v, σ', C', h1, h2, h3, x, eH, eI, h4, h5, h6⟩ := s_X11_keep (cP := cP) (cS := cS) (cR := cR) (cF := cF) (cW := cW) (cT := cT) (cN := cN) (cU := cU) (cM := cM) (cO := cO) (w := wd A (dI d)) q_bH (q_bI dI_10) q_bK q_rH5 (q_rH6 dI_10) h σ2 hl.1
    exact ⟨v, σ', C', dI d, eqm.trans h1, ⟨h2, h3.trans hl.2⟩, rfl, x, eH, eI, h4, h5, h6⟩
end Zke
