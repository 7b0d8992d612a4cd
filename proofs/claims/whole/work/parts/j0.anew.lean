/-! ===== startAnew and keep in changing worlds ===== -/
theorem forget_id {Q : CT → Prop} (h : k_X1_forget frF Q) : Q frF := by
  have same : ∀ i, i < 5 → sI frF 2 i (-1) = frF := fun i hi => by
    refine Prod.ext (funext fun j => funext fun k => ?_) rfl
    by_cases e : j = 2 ∧ k = i
    · obtain ⟨rfl, rfl⟩ := e
      rw [sI_same]
      exact (if_pos ⟨rfl, hi⟩).symm
    · rw [sI_ne e]
  refine h (fun v c => ∀ i : Nat, i ≤ 5 → v = nI i → c = frF → Q frF) (fun v c q i hi hv hc => ?_) 0 (by omega) rfl rfl
  subst hv
  subst hc
  dsimp only at q
  by_cases z : i = 5
  · subst z
    rw [if_pos (by decide)] at q
    exact q
  · rw [if_neg (by rw [li_5, nI_le' (by omega) (by omega)]; omega), wrI_n (by omega) (by omega), inc_n, same i (by omega)] at q
    exact q (i + 1) (by omega) rfl rfl
theorem forgetPlan_id {Q : CT → Prop} (h : k_X9_forgetPlan frT Q) : Q frT := by
  have h : Q (sI (sI frT 0 8 0) 0 10 (-1)) := h
  have e : sI (sI frT 0 8 0) 0 10 (-1) = frT := by
    refine Prod.ext (funext fun j => funext fun k => ?_) rfl
    by_cases e1 : j = 0 ∧ k = 10
    · obtain ⟨rfl, rfl⟩ := e1
      rw [sI_same]
      rfl
    · rw [sI_ne e1]
      by_cases e2 : j = 0 ∧ k = 8
      · obtain ⟨rfl, rfl⟩ := e2
        rw [sI_same]
        rfl
      · rw [sI_ne e2]
  rw [e] at h
  exact h
section Zan
variable {A : Nat → Nat} {d : LZD} {cH cP cS cR cK cF cW cT cN cU cI cM cO : CT} {QS : LZD → XO → List Value → List CT → Prop}
/-- a question for null that finds null: nothing happens -/
theorem nul_skip {k xH : Nat} {S : XS} {σ : ST} {w : WR} {C : List CT} {c : CT} (bH : w.1[0]? = some (xH, hLay)) (hC : C[0]? = some c) (hk : ([3, 0, 1, 1, 1, 1, 1, 0, 1, 1, 1, 0, 0] : List Nat).getD k 0 = 1) (rn : w.2 0 0 k = none) (h : Hd w C σ) : sBlk (sSeq (sBrIf (c1 z_null (eU (gF 11 k) (eA 0))) 1) S) [.ref xH] σ = some (.inl 0, [.ref xH], σ) := by
  have g0 : gF 11 k (.ref xH) σ = some .null := by
    rw [h.ov (by decide) bH hC]
    refine (gF_r (r := xH) (j := 0) (k := k) (lay := hLay) (c := bc w 0 c) (rest := σ.1) (z := σ.2) rfl hk).trans ?_
    show some (va_rf (w.2 0 0 k)) = _
    rw [rn]
    rfl
  have cnd : sBrIf (c1 z_null (eU (gF 11 k) (eA 0))) 1 [.ref xH] σ = some (.inl 1, [.ref xH], σ) := by
    unfold sBrIf c1 eU
    have ea : eA 0 [.ref xH] σ = some (.ref xH, σ) := rfl
    rw [ea, Option.bind_some]
    dsimp only
    rw [g0]
    rfl
  unfold sBlk sSeq
  rw [cnd, Option.bind_some]
  rfl
theorem zs_fget {Q0 : CT → Prop} (hF : d.1 5 = false → cF = frF) (h : k_X1_forget cF Q0) (k : ∀ c, Q0 c → (d.1 5 = false → c = frF) → QS d (.inl 0) [.ref (A 0)] [cH, cP, cS, cR, cK, c, cW, cT, cN, cU, cI, cM, cO]) : ZS A d (sBlk (sSeq (sBrIf (c1 z_null (eU (gF 11 8) (eA 0))) 1) (sC (fV 1 m_X1_forget) [(eU (gF 11 8) (eA 0))]))) [.ref (A 0)] [cH, cP, cS, cR, cK, cF, cW, cT, cN, cU, cI, cM, cO] QS := by
  by_cases z : d.1 5 = true
  · exact zs_of (sw_blk (sw_seq (sw_brIf (kw_1 (ew_U (ew_A rfl (uw_gFr (r := A 0) (j := 0) q_bH rfl rfl rfl (q_rH8 z) ⟨_, rfl, ff2 (sw_C (aw_1 (ew_U (ew_A rfl (uw_gFr (r := A 0) (j := 0) q_bH rfl rfl rfl (q_rH8 z) (aw_0 (fw_V (r := A 5) (j := 0) (q_bF z) rfl rfl (FW.mono (s_X1_forget (q_bF z) h) (by rintro _ _ ⟨c15, rfl, rfl, h23⟩; exact ⟨rfl, k _ h23 (fun y => absurd (z.symm.trans y) (by decide))⟩)))))))))⟩)))))))
  · have z := Bool.eq_false_iff.mpr z
    have e := hF z
    subst e
    exact fun σ hσ => ⟨_, _, σ, _, d, nul_skip (w := wd A d) q_bH rfl rfl (show (wd A d).2 0 0 8 = none from if_neg (by rw [z]; decide)) hσ.1, hσ, k _ (forget_id h) (fun _ => rfl)⟩
theorem zs_fplan {Q0 : CT → Prop} (hT : d.1 7 = false → cT = frT) (h : k_X9_forgetPlan cT Q0) (k : ∀ c, Q0 c → (d.1 7 = false → c = frT) → QS d (.inl 0) [.ref (A 0)] [cH, cP, cS, cR, cK, cF, cW, c, cN, cU, cI, cM, cO]) : ZS A d (sBlk (sSeq (sBrIf (c1 z_null (eU (gF 11 10) (eA 0))) 1) (sC (fV 9 m_X9_forgetPlan) [(eU (gF 11 10) (eA 0))]))) [.ref (A 0)] [cH, cP, cS, cR, cK, cF, cW, cT, cN, cU, cI, cM, cO] QS := by
  by_cases z : d.1 7 = true
  · exact zs_of (sw_blk (sw_seq (sw_brIf (kw_1 (ew_U (ew_A rfl (uw_gFr (r := A 0) (j := 0) q_bH rfl rfl rfl (q_rH10 z) ⟨_, rfl, ff2 (sw_C (aw_1 (ew_U (ew_A rfl (uw_gFr (r := A 0) (j := 0) q_bH rfl rfl rfl (q_rH10 z) (aw_0 (fw_V (r := A 7) (j := 0) (q_bT z) rfl rfl (FW.mono (s_X9_forgetPlan (q_bT z) h) (by rintro _ _ ⟨c15, rfl, rfl, h23⟩; exact ⟨rfl, k _ h23 (fun y => absurd (z.symm.trans y) (by decide))⟩)))))))))⟩)))))))
  · have z := Bool.eq_false_iff.mpr z
    have e := hT z
    subst e
    exact fun σ hσ => ⟨_, _, σ, _, d, nul_skip (w := wd A d) q_bH rfl rfl (show (wd A d).2 0 0 10 = none from if_neg (by rw [z]; decide)) hσ.1, hσ, k _ (forgetPlan_id h) (fun _ => rfl)⟩
theorem z_X11_startAnew {Q : CT → CT → CT → CT → Prop} (hF : d.1 5 = false → cF = frF) (hT : d.1 7 = false → cT = frT) (h : k_X11_startAnew cH cP cK cF cT Q) : ZF A d m_X11_startAnew [.ref (A 0)] [cH, cP, cS, cR, cK, cF, cW, cT, cN, cU, cI, cM, cO] (fun d' v C' => d' = d ∧ ∃ eH eK eF eT : CT, v = none ∧ C' = [eH, cP, cS, cR, eK, eF, cW, eT, cN, cU, cI, cM, cO] ∧ Q eH eK eF eT ∧ (d.1 5 = false → eF = frF) ∧ (d.1 7 = false → eT = frT)) := by
  refine zf_m (L' := [.ref (A 0)]) rfl rfl (zs_seq (zs_of (sw_C (aw_1 (ew_U (ew_A rfl (uw_gFr (r := A 0) (j := 0) q_bH rfl rfl rfl q_rH5 (aw_1 (ew_U (ew_A rfl (uw_gFr (r := A 0) (j := 0) q_bH rfl rfl rfl q_rH2 (aw_0 (fw_V (r := A 4) (j := 0) q_bK rfl rfl (FW.mono (s_X0_begin q_aH q_bK q_bP h) ?_))))))))))))))
  rintro _ _ ⟨c1, rfl, rfl, h25⟩
  refine ⟨rfl, zs_seq (zs_of (sw_P2 (ew_A rfl (ew_K (pw_F (r := A 0) (j := 0) q_bH rfl rfl rfl rfl h25 (fun c2 h24 => ?_))))))⟩
  refine st_C (C' := [c2, cP, cS, cR, c1, cF, cW, cT, cN, cU, cI, cM, cO]) (QS := zqK A _ _ d) rfl ?_
  exact zs_seq (zs_fget hF h24 fun c15 h23 f15 => zs_seq (zs_fplan hT h23 fun c21 h22 f21 => zs_R0 ⟨rfl, _, _, _, _, rfl, rfl, h22, f15, f21⟩))
end Zan
