/-! ===== the walker in the changing worlds ===== -/
section Zt
variable {A : Nat → Nat} {d : LZD} {cH cP cS cR cK cF cW cT cN cU cI cM cO : CT} {QF : LZD → Option Value → List CT → Prop} {QS : LZD → XO → List Value → List CT → Prop}
/-- the walker is there afterwards -/
def dT (d : LZD) : LZD := if d.1 7 then d else (onB d.1 7, stG d.2.1 7 none, (d.2.2.1 + 10, d.2.2.2 + 88))
theorem dT_y (h : d.1 7 = true) : dT d = d := if_pos h
theorem dT_n (h : d.1 7 = false) : dT d = (onB d.1 7, stG d.2.1 7 none, (d.2.2.1 + 10, d.2.2.2 + 88)) := if_neg (by rw [h]; decide)
theorem dT_7 : (dT d).1 7 = true := by
  by_cases h : d.1 7 = true
  · rw [dT_y h, h]
  · rw [dT_n (Bool.eq_false_iff.mpr h)]
    show onB d.1 7 7 = true
    exact onB_s
theorem dT_b {b : Nat} (hb : b ≠ 7) : (dT d).1 b = d.1 b := by
  by_cases h : d.1 7 = true
  · rw [dT_y h]
  · rw [dT_n (Bool.eq_false_iff.mpr h)]
    exact onB_ne hb
theorem dT_g {b : Nat} (hb : b ≠ 7) : (dT d).2.1 b = d.2.1 b := by
  by_cases h : d.1 7 = true
  · rw [dT_y h]
  · rw [dT_n (Bool.eq_false_iff.mpr h)]
    exact if_neg hb
theorem rfD_T (g7 : d.2.1 7 = none) (z8 : d.1 8 = false) (z9 : d.1 9 = false) : rfD A d 7 = up2 (fun _ _ => none) 0 0 (some (A 4)) := by
  funext j k
  unfold rfD up2
  rw [if_neg (by decide), if_neg (by decide), if_neg (by decide), if_neg (by decide), if_neg (by decide), if_pos rfl]
  by_cases hj : j = 0
  · rw [if_pos hj]
    by_cases hk : k = 0
    · rw [if_pos hk, if_pos ⟨hj, hk⟩]
    · rw [if_neg hk, if_neg (c := j = 0 ∧ k = 0) (fun y => hk y.2), g7, z8, z9]
      simp
  · rw [if_neg hj, if_neg (fun y => hj y.1)]
theorem zf_walker (hT : d.1 7 = false → cT = frT ∧ A 7 = d.2.2.1 ∧ d.1 8 = false ∧ d.1 9 = false) (k : QF (dT d) (some (.ref (A 7))) [cH, cP, cS, cR, cK, cF, cW, cT, cN, cU, cI, cM, cO]) : ZF A d m_X11_walker [.ref (A 0)] [cH, cP, cS, cR, cK, cF, cW, cT, cN, cU, cI, cM, cO] QF := fun σ hσ => by
  by_cases z : d.1 7 = true
  · rw [dT_y z] at k
    obtain ⟨v, σ', C', h1, h2, h3, h4, h5, -⟩ := s_X11_walker (cH := cH) (cP := cP) (cS := cS) (cR := cR) (cK := cK) (cF := cF) (cW := cW) (cT := cT) (cN := cN) (cU := cU) (cI := cI) (cM := cM) (cO := cO) (Q := True) (w := wd A d) q_bH (q_rH10 z) trivial σ hσ.1
    subst h4
    subst h5
    exact ⟨_, σ', _, d, h1, ⟨h2, h3.trans hσ.2⟩, k⟩
  · have z := Bool.eq_false_iff.mpr z
    obtain ⟨e1, e2, e8, e9⟩ := hT z
    subst e1
    have dd : (wd A d).1[7]? = some (0, []) := congrArg some (lzB_n z)
    obtain ⟨σ', h1, h2, h3⟩ := wlk_new (w := wd A d) (xH := A 0) (xK := A 4) q_bH q_rH5 (show (wd A d).2 0 0 10 = none from if_neg (by rw [z]; decide)) dd hσ.1
    have hz : σ.2.1 = A 7 := by rw [hσ.2, e2]
    rw [hz] at h1 h2
    refine ⟨_, σ', _, dT d, h1, ⟨?_, ?_⟩, k⟩
    · rw [dT_n z]
      refine h2.refs rfl fun b q e _ => ?_
      have e : b = 0 ∨ b = 1 ∨ b = 2 ∨ b = 3 ∨ b = 4 ∨ b = 5 ∨ b = 6 ∨ b = 7 ∨ b = 8 ∨ b = 9 ∨ b = 10 ∨ b = 11 ∨ b = 12 ∨ b = 13 := by
        have : b < 14 := (List.getElem?_eq_some_iff.mp e).1
        omega
      rcases e with rfl | rfl | rfl | rfl | rfl | rfl | rfl | rfl | rfl | rfl | rfl | rfl | rfl | rfl
      · exact rfD_H (k := 10) (a := some (A 7)) (fun k' hk => by
          unfold rfD
          dsimp only
          rw [if_pos rfl, if_pos rfl, if_pos rfl, if_pos rfl, if_neg hk, if_neg hk]
          rfl) rfl
      · rfl
      · rfl
      · rfl
      · rfl
      · rfl
      · rfl
      · exact rfD_T (d := (onB d.1 7, stG d.2.1 7 none, (d.2.2.1 + 10, d.2.2.2 + 88))) rfl e8 e9
      all_goals rfl
    · rw [h3, dT_n z, hσ.2]
end Zt
