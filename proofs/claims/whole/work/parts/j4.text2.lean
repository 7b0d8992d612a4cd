/-! ===== text in changing worlds ===== -/
section Zt2
variable {A : Nat → Nat} {d : LZD} {cH cP cS cR cK cF cW cT cN cU cI cM cO : CT} {a : Int32}
/-- what text leaves -/
def TXP (A : Nat → Nat) (d : LZD) (cW cN cU cI cM cO : CT) (Q : Int32 → Bool → CT → CT → CT → CT → CT → CT → CT → Prop) (v : Option Value) (σ' : ST) : Prop := ∃ (x : Int32) (sw : Bool) (eH eP eS eR eK eF eT : CT) (A' : Nat → Nat) (d' : LZD), v = some (.int x) ∧ HL A' d' [eH, eP, eS, eR, eK, eF, cW, eT, cN, cU, cI, cM, cO] σ' ∧ Q x sw eH eP eS eR eK eF eT ∧ A' = (if sw then swA A else A) ∧ d'.1 = d.1 ∧ d'.2.2 = d.2.2 ∧ (d.1 5 = false → eF = frF) ∧ (d.1 7 = false → eT = frT)
theorem z_text {σ : ST} {Q : Int32 → Bool → CT → CT → CT → CT → CT → CT → CT → Prop} (hF : d.1 5 = false → cF = frF) (hT : d.1 7 = false → cT = frT) (h : k3_text cH cP cS cR cK cF cT a Q) (hσ : HL A d [cH, cP, cS, cR, cK, cF, cW, cT, cN, cU, cI, cM, cO] σ) : ∃ v σ', m_X11_text [.ref (A 0), .int a] σ = some (v, σ') ∧ TXP A d cW cN cU cI cM cO Q v σ' := by
  unfold m_X11_text
  rw [mth_fin (Nat.le_of_ble_eq_true rfl)]
  have eL : L0 4 [Value.ref (A 0), .int a] = [.ref (A 0), .int a, UV, UV] := rfl
  rw [eL]
  unfold b_X11_text
  unfold k3_text at h
  -- the head
  have g1 : SW (wd A d) (sBlk (sSeq (sBlk (sSeq (sBrIf (c1 z_lt (eI 1)) 1) (sBrIf (c2 q_le (eI 1) (eU (gF 11 1) (eA 0))) 2))) (sRI (eK (.int (-2)))))) [.ref (A 0), .int a, UV, UV] [cH, cP, cS, cR, cK, cF, cW, cT, cN, cU, cI, cM, cO] (fun o L' C' => C' = [cH, cP, cS, cR, cK, cF, cW, cT, cN, cU, cI, cM, cO] ∧ ((o = .inr (some (.int (-2))) ∧ (a < 0 ∨ cH.1 0 1 < a)) ∨ (o = .inl 0 ∧ L' = [.ref (A 0), .int a, UV, UV] ∧ ¬ a < 0 ∧ ¬ cH.1 0 1 < a))) := sw_blk (sw_seqN fun q9 gq9 => (sw_blk (sw_seq (sw_brIf (kw_1 (ew_I rfl ⟨_, rfl, dec2 (fun p => (gq9 (.inl 0) _ _ (sw_RI (ew_K ⟨_, rfl, ⟨rfl, Or.inl ⟨rfl, Or.inl p⟩⟩⟩)))) (fun p => (sw_brIf (kw_2 (ew_I rfl (ew_U (ew_A rfl (uw_gFi (r := A 0) (j := 0) q_bH rfl rfl rfl ⟨_, rfl, dec2 (fun p2 => (gq9 (.inl 1) _ _ ⟨rfl, Or.inr ⟨rfl, rfl, p, Int32.not_lt.mpr p2⟩⟩)) (fun p2 => (gq9 (.inl 0) _ _ (sw_RI (ew_K ⟨_, rfl, ⟨rfl, Or.inl ⟨rfl, Or.inr (Int32.not_le.mp p2)⟩⟩⟩))))⟩)))))))⟩))))))
  obtain ⟨o0, L0', σ0, C0, a1, a2, a3, rfl, a4⟩ := g1 σ hσ.1
  rcases a4 with ⟨rfl, a5⟩ | ⟨rfl, rfl, n1, n2⟩
  · refine ⟨some (.int (-2)), σ0, ?_, -2, false, cH, cP, cS, cR, cK, cF, cT, A, d, rfl, ⟨a2, a3.trans hσ.2⟩, ?_, rfl, rfl, rfl, hF, hT⟩
    · rw [sSeq_t, a1]
      rfl
    · by_cases q : a < 0
      · rw [if_pos q] at h
        exact h
      · rw [if_neg q, if_pos (a5.resolve_left q)] at h
        exact h
  · rw [if_neg n1, if_neg n2] at h
    rw [sSeq_t, a1, thn_0]
    -- the tape is empty
    have g2 : SW (wd A d) (sP2 (pF 11 1 (tyX11 1)) (eA 0) (eK (.int 0))) [.ref (A 0), .int a, UV, UV] [cH, cP, cS, cR, cK, cF, cW, cT, cN, cU, cI, cM, cO] (fun o L' C' => o = .inl 0 ∧ L' = [.ref (A 0), .int a, UV, UV] ∧ C' = [sI cH 0 1 0, cP, cS, cR, cK, cF, cW, cT, cN, cU, cI, cM, cO]) := sw_P2 (ew_A rfl (ew_K (pw_F (r := A 0) (j := 0) (F := fun u => u = sI cH 0 1 0) q_bH rfl rfl rfl rfl rfl (fun c e => by subst e; exact ⟨rfl, rfl, rfl⟩))))
    obtain ⟨o1, L1, σ1, C1, b1, b2, b3, rfl, rfl, rfl⟩ := g2 σ0 a2
    rw [sSeq_t, b1, thn_0]
    -- reading
    obtain ⟨v, σ2, C2, r1, r2, r3, t, S', R', rfl, rfl, r4⟩ := readAll2 (w := pw A d) (xH := A 0) (xP := A 2) (xR := A 3) (fun q hq => (if_pos hq : rfD A d 2 7 q = _)) (fun q hq => (if_pos hq : rfD A d 2 9 q = _)) (fun q hq => (if_pos hq : rfD A d 2 8 q = _)) rfl rfl rfl h (to_pw b2)
    have r2 := of_pw r2
    have rd : ∀ k x, ([3, 0, 1, 1, 1, 1, 1, 0, 1, 1, 1, 0, 0] : List Nat).getD k 0 = 1 → (wd A d).2 0 0 k = some x → gF 11 k (.ref (A 0)) σ1 = some (.ref x) := fun k x z2 z3 => by
      rw [b2.ov (b := 0) (by decide) q_bH rfl]
      refine (gF_r (r := A 0) (j := 0) (k := k) (lay := hLay) (c := bc (wd A d) 0 (sI cH 0 1 0)) (rest := σ1.1) (z := σ1.2) rfl z2).trans ?_
      show some (va_rf ((wd A d).2 0 0 k)) = _
      rw [z3]
      rfl
    have rt : gF 11 0 (.ref (A 0)) σ1 = some (.ref (A 0 + 1)) := by
      rw [b2.ov (b := 0) (by decide) q_bH rfl]
      exact gF_s (r := A 0) (j := 0) (k := 0) (o := 1) (lay := hLay) (c := bc (wd A d) 0 (sI cH 0 1 0)) (rest := σ1.1) (z := σ1.2) rfl rfl
    have fv : fV 7 m_X7_readAll [.ref (A 3), .ref (A 0 + 1), .int a, .ref (A 2)] σ1 = some (some (.int t), σ2) := by
      have := b2.ov (b := 3) (by decide) q_bR rfl
      rw [this]
      rw [show fV 7 m_X7_readAll [.ref (A 3), .ref (A 0 + 1), .int a, .ref (A 2)] _ = m_X7_readAll [.ref (A 3), .ref (A 0 + 1), .int a, .ref (A 2)] _ from fV_b (r := A 3) (j := 0) rfl, ← this]
      exact r1
    have g3 : sStI 2 (eC (fV 7 m_X7_readAll) [(eU (gF 11 4) (eA 0)), (eU (gF 11 0) (eA 0)), (eI 1), (eU (gF 11 3) (eA 0))]) [.ref (A 0), .int a, UV, UV] σ1 = some (.inl 0, [.ref (A 0), .int a, .int t, UV], σ2) := by
      unfold sStI eC evL evL evL evL evL eU eA eI
      dsimp only [List.getElem?_cons_zero, List.getElem?_cons_succ, Option.bind_some]
      rw [rd 4 (A 3) rfl q_rH4]
      dsimp only [Option.map_some, Option.bind_some]
      rw [rt]
      dsimp only [Option.map_some, Option.bind_some]
      rw [rd 3 (A 2) rfl q_rH3]
      dsimp only [Option.map_some, Option.bind_some]
      rw [fv]
      rfl
    rw [sSeq_t, g3, thn_0]
    -- the last fault
    have g4 : SW (wd A (dRp A d)) (sP2 (pF 11 11 (tyX11 11)) (eA 0) (eU (gF 7 0) (eU (gF 11 4) (eA 0)))) [.ref (A 0), .int a, .int t, UV] [sI cH 0 1 0, cP, S', R', cK, cF, cW, cT, cN, cU, cI, cM, cO] (fun o L' C' => o = .inl 0 ∧ L' = [.ref (A 0), .int a, .int t, UV] ∧ C' = [sI (sI cH 0 1 0) 0 11 (R'.1 0 0), cP, S', R', cK, cF, cW, cT, cN, cU, cI, cM, cO]) := sw_P2 (ew_A rfl (ew_U (ew_U (ew_A rfl (uw_gFr (r := A 0) (j := 0) q_bH rfl rfl rfl q_rH4 (uw_gFi (r := A 3) (j := 0) q_bR rfl rfl rfl (pw_F (r := A 0) (j := 0) (F := fun u => u = sI (sI cH 0 1 0) 0 11 (R'.1 0 0)) q_bH rfl rfl rfl rfl rfl (fun c e => by subst e; exact ⟨rfl, rfl, rfl⟩))))))))
    obtain ⟨o4, L4, σ4, C4, d1, d2, d3, rfl, rfl, rfl⟩ := g4 σ2 r2
    rw [sSeq_t, d1, thn_0]
    have g5 : SW (wd A (dRp A d)) (sP2 (pF 11 12 (tyX11 12)) (eA 0) (eU (gF 7 1) (eU (gF 11 4) (eA 0)))) [.ref (A 0), .int a, .int t, UV] [sI (sI cH 0 1 0) 0 11 (R'.1 0 0), cP, S', R', cK, cF, cW, cT, cN, cU, cI, cM, cO] (fun o L' C' => o = .inl 0 ∧ L' = [.ref (A 0), .int a, .int t, UV] ∧ C' = [sI (sI (sI cH 0 1 0) 0 11 (R'.1 0 0)) 0 12 (R'.1 0 1), cP, S', R', cK, cF, cW, cT, cN, cU, cI, cM, cO]) := sw_P2 (ew_A rfl (ew_U (ew_U (ew_A rfl (uw_gFr (r := A 0) (j := 0) q_bH rfl rfl rfl q_rH4 (uw_gFi (r := A 3) (j := 0) q_bR rfl rfl rfl (pw_F (r := A 0) (j := 0) (F := fun u => u = sI (sI (sI cH 0 1 0) 0 11 (R'.1 0 0)) 0 12 (R'.1 0 1)) q_bH rfl rfl rfl rfl rfl (fun c e => by subst e; exact ⟨rfl, rfl, rfl⟩))))))))
    obtain ⟨o5, L5, σ5, C5, f1, f2, f3, rfl, rfl, rfl⟩ := g5 σ4 d2
    rw [sSeq_t, f1, thn_0]
    have sz : σ5.2 = d.2.2 := f3.trans (d3.trans (r3.trans (b3.trans (a3.trans hσ.2))))
    by_cases z : t = 0
    · rw [if_pos z] at r4
      refine ⟨some (.int (-1)), σ5, ?_, -1, false, _, cP, S', R', cK, cF, cT, A, dRp A d, rfl, ⟨f2, sz⟩, r4, rfl, rfl, rfl, hF, hT⟩
      subst z
      rfl
    · rw [if_neg z] at r4
      have g6 : ∀ X : XS, sSeq (sBlk (sSeq (sBrIf (c1 z_ne (eI 2)) 1) (sRI (eK (.int (-1)))))) X [.ref (A 0), .int a, .int t, UV] σ5 = X [.ref (A 0), .int a, .int t, UV] σ5 := fun X => by
        have cnd : sBrIf (c1 z_ne (eI 2)) 1 [.ref (A 0), .int a, .int t, UV] σ5 = some (.inl 1, [.ref (A 0), .int a, .int t, UV], σ5) := by
          unfold sBrIf c1 eI
          dsimp only [List.getElem?_cons_zero, List.getElem?_cons_succ, Option.bind_some]
          rw [show z_ne (.int t) = some true from congrArg some (decide_eq_true z)]
          rfl
        have e : sBlk (sSeq (sBrIf (c1 z_ne (eI 2)) 1) (sRI (eK (.int (-1))))) [.ref (A 0), .int a, .int t, UV] σ5 = some (.inl 0, [.ref (A 0), .int a, .int t, UV], σ5) := by
          unfold sBlk sSeq
          rw [cnd, Option.bind_some]
          rfl
        rw [sSeq_t, e, thn_0]
      rw [g6]
      -- plan and spare change places
      have rd5 : ∀ k x, ([3, 0, 1, 1, 1, 1, 1, 0, 1, 1, 1, 0, 0] : List Nat).getD k 0 = 1 → (wd A (dRp A d)).2 0 0 k = some x → gF 11 k (.ref (A 0)) σ5 = some (.ref x) := fun k x z2 z3 => by
        rw [f2.ov (b := 0) (by decide) q_bH rfl]
        refine (gF_r (r := A 0) (j := 0) (k := k) (lay := hLay) (rest := σ5.1) (z := σ5.2) rfl z2).trans ?_
        show some (va_rf ((wd A (dRp A d)).2 0 0 k)) = _
        rw [z3]
        rfl
      have g7 : sStA 3 (eU (gF 11 2) (eA 0)) [.ref (A 0), .int a, .int t, UV] σ5 = some (.inl 0, [.ref (A 0), .int a, .int t, .ref (A 1)], σ5) := by
        unfold sStA eU eA
        dsimp only [List.getElem?_cons_zero, Option.bind_some]
        rw [rd5 2 (A 1) rfl q_rH2]
        rfl
      rw [sSeq_t, g7, thn_0]
      obtain ⟨σ6, s1, s2, s3⟩ := f2.stR (b := 0) (j := 0) (k := 2) (a := A 2) (ty := tyX11 2) (r := A 0) (by decide) q_bH rfl rfl rfl rfl
      obtain ⟨σ7, t1, t2, t3⟩ := s2.stR (b := 0) (j := 0) (k := 3) (a := A 1) (ty := tyX11 3) (r := A 0) (by decide) q_bH rfl rfl rfl rfl
      have g8 : sP2 (pF 11 2 (tyX11 2)) (eA 0) (eU (gF 11 3) (eA 0)) [.ref (A 0), .int a, .int t, .ref (A 1)] σ5 = some (.inl 0, [.ref (A 0), .int a, .int t, .ref (A 1)], σ6) := by
        unfold sP2 eU eA
        dsimp only [List.getElem?_cons_zero, Option.bind_some]
        rw [rd5 3 (A 2) rfl q_rH3]
        dsimp only [Option.map_some, Option.bind_some]
        rw [show pF 11 2 (tyX11 2) (.ref (A 0)) (.ref (A 2)) _ = some σ6 from s1]
        rfl
      rw [sSeq_t, g8, thn_0]
      have g9 : sP2 (pF 11 3 (tyX11 3)) (eA 0) (eA 3) [.ref (A 0), .int a, .int t, .ref (A 1)] σ6 = some (.inl 0, [.ref (A 0), .int a, .int t, .ref (A 1)], σ7) := by
        unfold sP2 eA
        dsimp only [List.getElem?_cons_zero, List.getElem?_cons_succ, Option.bind_some]
        rw [show pF 11 3 (tyX11 3) (.ref (A 0)) (.ref (A 1)) _ = some σ7 from t1]
        rfl
      rw [sSeq_t, g9, thn_0]
      have hx : HL (swA A) (dRp A d) [sI (sI (sI cH 0 1 0) 0 11 (R'.1 0 0)) 0 12 (R'.1 0 1), S', cP, R', cK, cF, cW, cT, cN, cU, cI, cM, cO] σ7 := ⟨of_xch t2, t3.trans (s3.trans sz)⟩
      obtain ⟨v8, σ8, C8, d8, u1, u2, rfl, eH, eK, eF, eT, rfl, rfl, u3, u4, u5⟩ := z_X11_startAnew (A := swA A) (d := dRp A d) (cS := cP) (cR := R') (cW := cW) (cN := cN) (cU := cU) (cI := cI) (cM := cM) (cO := cO) hF hT r4 σ7 hx
      have fv8 : fV 11 m_X11_startAnew [.ref (A 0)] σ7 = some (none, σ8) := by
        have := hx.1.ov (b := 0) (r := A 0) (lay := hLay) (by decide) rfl rfl
        rw [this]
        rw [show fV 11 m_X11_startAnew [.ref (A 0)] _ = m_X11_startAnew [.ref (A 0)] _ from fV_b (r := A 0) (j := 0) rfl]
        exact (congrArg (m_X11_startAnew [.ref (A 0)]) this.symm).trans u1
      have g10 : sC (fV 11 m_X11_startAnew) [(eA 0)] [.ref (A 0), .int a, .int t, .ref (A 1)] σ7 = some (.inl 0, [.ref (A 0), .int a, .int t, .ref (A 1)], σ8) := by
        unfold sC evL evL eA
        dsimp only [List.getElem?_cons_zero, Option.bind_some, Option.map_some]
        rw [fv8]
        rfl
      rw [sSeq_t, g10, thn_0]
      have g11 : SW (wd (swA A) (dRp A d)) (sRI (eU (gF 6 12) (eU (gF 11 2) (eA 0)))) [.ref (A 0), .int a, .int t, .ref (A 1)] [eH, S', cP, R', eK, eF, cW, eT, cN, cU, cI, cM, cO] (fun o L' C' => o = .inr (some (.int (S'.1 0 12))) ∧ C' = [eH, S', cP, R', eK, eF, cW, eT, cN, cU, cI, cM, cO]) := sw_RI (ew_U (ew_U (ew_A rfl (uw_gFr (r := A 0) (j := 0) (a := swA A 1) q_bH rfl rfl rfl q_rH2 (uw_gFi (r := swA A 1) (j := 0) q_bP rfl rfl rfl ⟨_, rfl, rfl, rfl⟩)))))
      obtain ⟨o9, L9, σ9, C9, w1, w2, w3, rfl, rfl⟩ := g11 σ8 u2.1
      refine ⟨some (.int (S'.1 0 12)), σ9, ?_, S'.1 0 12, true, eH, S', cP, R', eK, eF, eT, swA A, dRp A d, rfl, ⟨w2, w3.trans u2.2⟩, u3, rfl, rfl, rfl, u4, u5⟩
      rw [w1]
      rfl
end Zt2
