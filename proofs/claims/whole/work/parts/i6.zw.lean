/-! ===== the worker in the changing worlds ===== -/
section Zw
variable {A : Nat → Nat} {d : LZD} {cH cP cS cR cK cF cW cT cN cU cI cM cO : CT} {QF : LZD → Option Value → List CT → Prop} {QS : LZD → XO → List Value → List CT → Prop}
/-- the worker is there afterwards -/
def dW (d : LZD) : LZD := if d.1 6 then d else (onB (onB d.1 6) 5, stG d.2.1 6 none, if d.1 5 then (d.2.2.1 + 6, d.2.2.2 + 109) else (d.2.2.1 + 20, d.2.2.2 + 5908))
theorem dW_y (h : d.1 6 = true) : dW d = d := if_pos h
theorem dW_n (h : d.1 6 = false) : dW d = (onB (onB d.1 6) 5, stG d.2.1 6 none, if d.1 5 then (d.2.2.1 + 6, d.2.2.2 + 109) else (d.2.2.1 + 20, d.2.2.2 + 5908)) := if_neg (by rw [h]; decide)
theorem dW_6 (h : d.1 6 = true → d.1 5 = true) : (dW d).1 6 = true ∧ (dW d).1 5 = true := by
  by_cases z : d.1 6 = true
  · rw [dW_y z]
    exact ⟨z, h z⟩
  · rw [dW_n (Bool.eq_false_iff.mpr z)]
    exact ⟨rfl, rfl⟩
theorem dW_b {b : Nat} (hb : b ≠ 6) (hb5 : b ≠ 5) : (dW d).1 b = d.1 b := by
  by_cases h : d.1 6 = true
  · rw [dW_y h]
  · rw [dW_n (Bool.eq_false_iff.mpr h)]
    exact (onB_ne hb5).trans (onB_ne hb)
theorem dW_g {b : Nat} (hb : b ≠ 6) : (dW d).2.1 b = d.2.1 b := by
  by_cases h : d.1 6 = true
  · rw [dW_y h]
  · rw [dW_n (Bool.eq_false_iff.mpr h)]
    exact if_neg hb
theorem rfD_W {z : Nat} (g6 : d.2.1 6 = none) (ez : A 13 = z) : rfD A d 6 = up2 (up2 (rfW z) 0 0 (some (A 4))) 0 1 (some (A 5)) := by
  subst ez
  funext j k
  unfold rfD up2 rfW
  rw [if_neg (by decide), if_neg (by decide), if_neg (by decide), if_neg (by decide), if_pos rfl]
  by_cases hj : j = 0
  · rw [if_pos hj, if_pos hj]
    by_cases h0 : k = 0
    · rw [if_pos h0, if_neg (c := j = 0 ∧ k = 1) (by omega), if_pos ⟨hj, h0⟩]
    · rw [if_neg h0]
      by_cases h1 : k = 1
      · rw [if_pos h1, if_pos ⟨hj, h1⟩]
      · rw [if_neg h1, if_neg (c := j = 0 ∧ k = 1) (by omega), if_neg (c := j = 0 ∧ k = 0) (by omega), g6]
        by_cases h2 : k = 2
        · subst h2
          rfl
        · rw [if_neg h2]
  · rw [if_neg hj, if_neg hj, if_neg (c := j = 0 ∧ k = 1) (by omega), if_neg (c := j = 0 ∧ k = 0) (by omega)]
theorem zf_worker (hW : d.1 6 = false → cW = c00 ∧ A 6 = d.2.2.1 ∧ (d.1 5 = true → A 13 = d.2.2.1 + 1) ∧ (d.1 5 = false → cF = frF ∧ A 5 = d.2.2.1 + 1 ∧ A 13 = d.2.2.1 + 15)) (k : QF (dW d) (some (.ref (A 6))) [cH, cP, cS, cR, cK, cF, cW, cT, cN, cU, cI, cM, cO]) : ZF A d m_X11_worker [.ref (A 0)] [cH, cP, cS, cR, cK, cF, cW, cT, cN, cU, cI, cM, cO] QF := fun σ hσ => by
  by_cases z : d.1 6 = true
  · rw [dW_y z] at k
    obtain ⟨v, σ', C', h1, h2, h3, h4, h5, -⟩ := s_X11_worker (cH := cH) (cP := cP) (cS := cS) (cR := cR) (cK := cK) (cF := cF) (cW := cW) (cT := cT) (cN := cN) (cU := cU) (cI := cI) (cM := cM) (cO := cO) (Q := True) (w := wd A d) q_bH (q_rH9 z) trivial σ hσ.1
    subst h4
    subst h5
    exact ⟨_, σ', _, d, h1, ⟨h2, h3.trans hσ.2⟩, k⟩
  · have z := Bool.eq_false_iff.mpr z
    obtain ⟨e1, e2, e5, e6⟩ := hW z
    subst e1
    have d6 : (wd A d).1[6]? = some (0, []) := congrArg some (lzB_n z)
    have d13 : (wd A d).1[13]? = some (0, []) := congrArg some (if_neg (by rw [z]; decide))
    have hO := obj_W d6 d13 hσ.1
    have hz : σ.2.1 = A 6 := by rw [hσ.2, e2]
    have n9 : (wd A d).2 0 0 9 = none := if_neg (by rw [z]; decide)
    have zz : (alloc σ (.inr (10, dV tyX10 9)) 9).2 = (σ.2.1 + 1, σ.2.2 + 9) := rfl
    by_cases z5 : d.1 5 = true
    · obtain ⟨v, σ2, C', h1, h2, h3, h4, h5, -⟩ := s_X11_finder (cH := cH) (cP := cP) (cS := cS) (cR := cR) (cK := cK) (cF := cF) (cW := c00) (cT := cT) (cN := cN) (cU := cU) (cI := cI) (cM := cM) (cO := cO) (Q := True) (xH := A 0) (xF := A 5) (w := ((wd A d).1.set 6 (σ.2.1, woLay), (noR (wd A d) 6).2)) rfl (q_rH8 z5) trivial _ hO
      subst h4
      subst h5
      obtain ⟨σ', g1, g2, g3⟩ := wrk_go (w := wd A d) (xH := A 0) (xK := A 4) (xF := A 5) q_bH q_rH5 n9 d6 d13 hσ.1 h1 h2 rfl rfl d13 rfl
      have hz2 : σ2.2.1 = A 13 := by rw [h3, zz, e5 z5, hσ.2]
      rw [hz] at g1 g2
      rw [hz2] at g2
      refine ⟨_, σ', _, dW d, g1, ⟨?_, ?_⟩, k⟩
      · rw [dW_n z]
        refine g2.refs ?_ fun b q e _ => ?_
        · have t5 : lzB A d 5 fLay = (A 5, fLay) := lzB_y z5
          show [_, _, _, _, _, _, _, _, _, _, _, _, _, _] = [_, _, _, _, _, _, _, _, _, _, _, _, _, _]
          rw [t5]
          rfl
        · have e : b = 0 ∨ b = 1 ∨ b = 2 ∨ b = 3 ∨ b = 4 ∨ b = 5 ∨ b = 6 ∨ b = 7 ∨ b = 8 ∨ b = 9 ∨ b = 10 ∨ b = 11 ∨ b = 12 ∨ b = 13 := by
            have : b < 14 := (List.getElem?_eq_some_iff.mp e).1
            omega
          rcases e with rfl | rfl | rfl | rfl | rfl | rfl | rfl | rfl | rfl | rfl | rfl | rfl | rfl | rfl
          · refine rfD_H (k := 9) (a := some (A 6)) (fun k' hk => ?_) rfl
            unfold rfD
            dsimp only
            have e5 : (if d.1 5 = true then some (A 5) else none) = some (A 5) := if_pos z5
            rw [if_pos rfl, if_pos rfl, if_pos rfl, if_pos rfl, if_neg hk, if_neg hk, e5]
            rfl
          · rfl
          · rfl
          · rfl
          · rfl
          · rfl
          · exact rfD_W (d := (onB (onB d.1 6) 5, stG d.2.1 6 none, _)) rfl rfl
          all_goals rfl
      · rw [g3, dW_n z, if_pos z5, h3, zz, hσ.2]
    · have z5 := Bool.eq_false_iff.mpr z5
      obtain ⟨f1, f2, f3⟩ := e6 z5
      subst f1
      have d5 : ((wd A d).1.set 6 (σ.2.1, woLay))[5]? = some (0, []) := (List.getElem?_set_ne (by decide)).trans (congrArg some (lzB_n z5))
      obtain ⟨σ2, h1, h2, h3⟩ := fin_new (w := ((wd A d).1.set 6 (σ.2.1, woLay), (noR (wd A d) 6).2)) (xH := A 0) rfl (show (wd A d).2 0 0 8 = none from if_neg (by rw [z5]; decide)) d5 hO
      have hz5 : (alloc σ (.inr (10, dV tyX10 9)) 9).2.1 = A 5 := by rw [zz, f2, hσ.2]
      rw [hz5] at h1 h2
      obtain ⟨σ', g1, g2, g3⟩ := wrk_go (w := wd A d) (xH := A 0) (xK := A 4) (xF := A 5) q_bH q_rH5 n9 d6 d13 hσ.1 h1 h2 rfl rfl d13 rfl
      have hz2 : σ2.2.1 = A 13 := by
        rw [h3, zz, f3, hσ.2]
      rw [hz] at g1 g2
      rw [hz2] at g2
      refine ⟨_, σ', _, dW d, g1, ⟨?_, ?_⟩, k⟩
      · rw [dW_n z]
        refine g2.refs rfl fun b q e _ => ?_
        have e : b = 0 ∨ b = 1 ∨ b = 2 ∨ b = 3 ∨ b = 4 ∨ b = 5 ∨ b = 6 ∨ b = 7 ∨ b = 8 ∨ b = 9 ∨ b = 10 ∨ b = 11 ∨ b = 12 ∨ b = 13 := by
          have : b < 14 := (List.getElem?_eq_some_iff.mp e).1
          omega
        rcases e with rfl | rfl | rfl | rfl | rfl | rfl | rfl | rfl | rfl | rfl | rfl | rfl | rfl | rfl
        · have e8 : up2 (rfD A d 0) 0 8 (some (A 5)) = rfD A (onB d.1 5, d.2.1, d.2.2) 0 := (rfD_H (k := 8) (a := some (A 5)) (fun k' hk => by
            unfold rfD
            dsimp only
            rw [if_pos rfl, if_pos rfl, if_pos rfl, if_pos rfl, if_neg hk, if_neg hk]
            rfl) rfl).symm
          show rfD A (onB (onB d.1 6) 5, stG d.2.1 6 none, _) 0 = up2 (up2 (rfD A d 0) 0 8 (some (A 5))) 0 9 (some (A 6))
          rw [e8]
          refine rfD_H (k := 9) (a := some (A 6)) (fun k' hk => ?_) rfl
          unfold rfD
          dsimp only
          rw [if_pos rfl, if_pos rfl, if_pos rfl, if_pos rfl, if_neg hk, if_neg hk]
          rfl
        · rfl
        · rfl
        · rfl
        · rfl
        · rfl
        · exact rfD_W (d := (onB (onB d.1 6) 5, stG d.2.1 6 none, _)) rfl rfl
        all_goals rfl
      · rw [g3, dW_n z, if_neg (by rw [z5]; decide), h3, zz, hσ.2]
end Zw
