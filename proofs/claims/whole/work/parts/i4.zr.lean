/-! ===== making things, in the changing worlds ===== -/
def onB (m : Nat → Bool) (b : Nat) : Nat → Bool := fun x => if x = b then true else m x
def stG (g : Nat → Option Nat) (b : Nat) (a : Option Nat) : Nat → Option Nat := fun x => if x = b then a else g x
theorem onB_s {m : Nat → Bool} {b : Nat} : onB m b b = true := if_pos rfl
theorem onB_ne {m : Nat → Bool} {b x : Nat} (h : x ≠ b) : onB m b x = m x := if_neg h
theorem wd_14 {A : Nat → Nat} {d : LZD} {b : Nat} {q : Nat × LY} (h : (wd A d).1[b]? = some q) : b = 0 ∨ b = 1 ∨ b = 2 ∨ b = 3 ∨ b = 4 ∨ b = 5 ∨ b = 6 ∨ b = 7 ∨ b = 8 ∨ b = 9 ∨ b = 10 ∨ b = 11 ∨ b = 12 ∨ b = 13 := by
  have : b < 14 := (List.getElem?_eq_some_iff.mp h).1
  omega
section Zr
variable {A : Nat → Nat} {d : LZD} {cH cP cS cR cK cF cW cT cN cU cI cM cO : CT} {QF : LZD → Option Value → List CT → Prop} {QS : LZD → XO → List Value → List CT → Prop}
/-- the finder is there afterwards -/
def dF (d : LZD) : LZD := if d.1 5 then d else (onB d.1 5, d.2.1, (d.2.2.1 + 14, d.2.2.2 + 5799))
theorem dF_y (h : d.1 5 = true) : dF d = d := if_pos h
theorem dF_n (h : d.1 5 = false) : dF d = (onB d.1 5, d.2.1, (d.2.2.1 + 14, d.2.2.2 + 5799)) := if_neg (by rw [h]; decide)
theorem dF_5 : (dF d).1 5 = true := by
  by_cases h : d.1 5 = true
  · rw [dF_y h, h]
  · rw [dF_n (Bool.eq_false_iff.mpr h)]
    show onB d.1 5 5 = true
    exact onB_s
theorem dF_b {b : Nat} (hb : b ≠ 5) : (dF d).1 b = d.1 b := by
  by_cases h : d.1 5 = true
  · rw [dF_y h]
  · rw [dF_n (Bool.eq_false_iff.mpr h)]
    exact onB_ne hb
theorem dF_g : (dF d).2.1 = d.2.1 := by
  by_cases h : d.1 5 = true
  · rw [dF_y h]
  · rw [dF_n (Bool.eq_false_iff.mpr h)]
/-- references of H, row by row -/
theorem rfD_H {d' : LZD} {k : Nat} {a : Option Nat} (e : ∀ k', k' ≠ k → rfD A d' 0 0 k' = rfD A d 0 0 k') (ek : rfD A d' 0 0 k = a) : rfD A d' 0 = up2 (rfD A d 0) 0 k a := by
  funext j k'
  unfold up2
  by_cases z : j = 0 ∧ k' = k
  · rw [if_pos z, z.1, z.2, ek]
  · rw [if_neg z]
    by_cases z1 : j = 0
    · rw [z1]
      exact e k' fun y => z ⟨z1, y⟩
    · unfold rfD
      rw [if_pos rfl, if_pos rfl, if_neg z1, if_neg z1]
theorem zf_finder (hF : d.1 5 = false → cF = frF ∧ A 5 = d.2.2.1) (k : QF (dF d) (some (.ref (A 5))) [cH, cP, cS, cR, cK, cF, cW, cT, cN, cU, cI, cM, cO]) : ZF A d m_X11_finder [.ref (A 0)] [cH, cP, cS, cR, cK, cF, cW, cT, cN, cU, cI, cM, cO] QF := fun σ hσ => by
  by_cases z : d.1 5 = true
  · rw [dF_y z] at k
    obtain ⟨v, σ', C', h1, h2, h3, h4, h5, -⟩ := s_X11_finder (cH := cH) (cP := cP) (cS := cS) (cR := cR) (cK := cK) (cF := cF) (cW := cW) (cT := cT) (cN := cN) (cU := cU) (cI := cI) (cM := cM) (cO := cO) (Q := True) (w := wd A d) q_bH (q_rH8 z) trivial σ hσ.1
    subst h4
    subst h5
    exact ⟨_, σ', _, d, h1, ⟨h2, h3.trans hσ.2⟩, k⟩
  · have z := Bool.eq_false_iff.mpr z
    obtain ⟨e1, e2⟩ := hF z
    subst e1
    have dd : (wd A d).1[5]? = some (0, []) := congrArg some (lzB_n z)
    obtain ⟨σ', h1, h2, h3⟩ := fin_new (w := wd A d) (xH := A 0) q_bH (show (wd A d).2 0 0 8 = none from if_neg (by rw [z]; decide)) dd hσ.1
    have hz : σ.2.1 = A 5 := by rw [hσ.2, e2]
    rw [hz] at h1 h2
    refine ⟨_, σ', _, dF d, h1, ⟨?_, ?_⟩, k⟩
    · rw [dF_n z]
      refine h2.refs rfl fun b q e _ => ?_
      have e : b = 0 ∨ b = 1 ∨ b = 2 ∨ b = 3 ∨ b = 4 ∨ b = 5 ∨ b = 6 ∨ b = 7 ∨ b = 8 ∨ b = 9 ∨ b = 10 ∨ b = 11 ∨ b = 12 ∨ b = 13 := by
        have : b < 14 := (List.getElem?_eq_some_iff.mp e).1
        omega
      rcases e with rfl | rfl | rfl | rfl | rfl | rfl | rfl | rfl | rfl | rfl | rfl | rfl | rfl | rfl
      · exact rfD_H (k := 8) (a := some (A 5)) (fun k' hk => by
          unfold rfD
          dsimp only
          rw [if_pos rfl, if_pos rfl, if_pos rfl, if_pos rfl, if_neg hk, if_neg hk]
          rfl) rfl
      all_goals rfl
    · rw [h3, dF_n z, hσ.2]
end Zr
