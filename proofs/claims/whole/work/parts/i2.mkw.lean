/-! ===== the worker is made ===== -/
def ssW : List CS := [(2, tyX10 2, .inl .null), (3, tyX10 3, .inr (.int, zI, 10)), (4, tyX10 4, .inr (.int, zI, 10)), (5, tyX10 5, .inr (.int, zI, 10)), (6, tyX10 6, .inl (.int 0)), (7, tyX10 7, .inr (.long, zL, 6)), (8, tyX10 8, .inr (.long, zL, 64))]
theorem b_W : b_X10_init = sSeq sOI (prC 10 ssW (sSeq (sP2 (pF 10 0 (tyX10 0)) (eA 0) (eA 1)) (sSeq (sP2 (pF 10 1 (tyX10 1)) (eA 0) (eA 2)) sR0))) := rfl
/-- the worker's references behind its steps -/
def rfW (z : Nat) : Nat → Nat → Option Nat := fun j k => if j = 0 then (if k = 3 then some (z + 0) else if k = 4 then some (z + 1) else if k = 5 then some (z + 2) else if k = 7 then some (z + 3) else if k = 8 then some (z + 4) else none) else none
theorem hi_W : ∀ s ∈ ssW, s.1 < 9 := by
  intro s hs
  simp only [ssW, List.mem_cons, List.not_mem_nil, or_false] at hs
  rcases hs with rfl | rfl | rfl | rfl | rfl | rfl | rfl <;> decide
theorem vW0 {x : Nat} : (dV tyX10 9) = bVal x (c00.1, c00.2, fun _ _ => none) 0 [1, 1, 1, 1, 1, 1, 0, 1, 1] := by
  funext k
  by_cases hk : k < 9
  · rcases (show k = 0 ∨ k = 1 ∨ k = 2 ∨ k = 3 ∨ k = 4 ∨ k = 5 ∨ k = 6 ∨ k = 7 ∨ k = 8 by omega) with rfl | rfl | rfl | rfl | rfl | rfl | rfl | rfl | rfl <;> rfl
  · obtain ⟨m, rfl⟩ : ∃ m, k = m + 9 := ⟨k - 9, by omega⟩
    unfold dV
    rw [if_neg hk]
    rfl
theorem vW1 {x z : Nat} : (rnC ssW z (dV tyX10 9)).1 = bVal x (c00.1, c00.2, rfW z) 0 [1, 1, 1, 1, 1, 1, 0, 1, 1] := by
  funext k
  by_cases hk : k < 9
  · rcases (show k = 0 ∨ k = 1 ∨ k = 2 ∨ k = 3 ∨ k = 4 ∨ k = 5 ∨ k = 6 ∨ k = 7 ∨ k = 8 by omega) with rfl | rfl | rfl | rfl | rfl | rfl | rfl | rfl | rfl <;> rfl
  · rw [rnC_hi ssW _ _ (fun s hs => by have := hi_W s hs; omega)]
    obtain ⟨m, rfl⟩ : ∃ m, k = m + 9 := ⟨k - 9, by omega⟩
    unfold dV
    rw [if_neg hk]
    rfl
theorem lay_V {w : WR} {z : Nat} {h : HP} : laC z (rnC ssW z (dV tyX10 9)).2.1 h = bOv z vLay (bcV w c00) h := by
  have l : (rnC ssW z (dV tyX10 9)).2.1.length = 5 := rfl
  have lf : vLay.length = 5 := rfl
  funext a
  unfold bOv laC
  rw [l, lf]
  by_cases e2 : z ≤ a ∧ a < z + 5
  · rw [if_pos e2, if_pos e2]
    rcases (show a - z = 0 ∨ a - z = 1 ∨ a - z = 2 ∨ a - z = 3 ∨ a - z = 4 by omega) with q | q | q | q | q <;> (rw [q]; rfl)
  · rw [if_neg e2, if_neg e2]
section MkW
variable {w : WR} {xH xK xF x6 r13 : Nat} {cH cP cS cR cK cF cW cT cN cU cI cM cO : CT}
theorem init_W {σ : ST} (h6 : w.1[6]? = some (x6, woLay)) (r6 : w.2 6 = fun _ _ => none) (hd : w.1[13]? = some (r13, [])) (h : Hd w [cH, cP, cS, cR, cK, cF, c00, cT, cN, cU, cI, cM, cO] σ) : ∃ σ', m_X10_init [.ref x6, .ref xK, .ref xF] σ = some (none, σ') ∧ Hd (w.1.set 13 (σ.2.1, vLay), upRf (upRf (fun b' => if b' = 6 then rfW σ.2.1 else w.2 b') 6 0 0 (some xK)) 6 0 1 (some xF)) [cH, cP, cS, cR, cK, cF, c00, cT, cN, cU, cI, cM, cO] σ' ∧ σ'.2 = (σ.2.1 + 5, σ.2.2 + 100) := by
  have lt6 : x6 < σ.2.1 := by
    have : x6 + 1 ≤ σ.2.1 := h.2.1 6 _ h6
    omega
  have at6 : σ.1 x6 = some (.inr (10, dV tyX10 9)) := by
    have := h.2.2.1 6 _ c00 (by decide) h6 rfl 0 (by show 0 < 1; omega)
    have e : bc w 6 c00 = (c00.1, c00.2, fun _ _ => none) := by
      unfold bc
      rw [r6]
    rw [e] at this
    rw [vW0 (x := x6)]
    exact this
  have hV := h.newV (c := c00) (lay := vLay) (sl := σ.2.2 + 100) rfl
  have h6' : (w.1.set 13 (σ.2.1, vLay), w.2).1[6]? = some (x6, woLay) := (List.getElem?_set_ne (by decide)).trans h6
  have hP := hV.put2 (b := 6) (c := c00) (c' := c00) (x := rfW σ.2.1) (by decide) h6' rfl (fun _ _ _ => ⟨rfl, rfl⟩)
  have hP : Hd (w.1.set 13 (σ.2.1, vLay), fun b' => if b' = 6 then rfW σ.2.1 else w.2 b') [cH, cP, cS, cR, cK, cF, c00, cT, cN, cU, cI, cM, cO] (bOv x6 woLay (c00.1, c00.2, rfW σ.2.1) (bOv σ.2.1 vLay (bcV w c00) σ.1), σ.2.1 + 5, σ.2.2 + 100) := hP
  obtain ⟨σ1, s1, s2, s3⟩ := hP.stR (b := 6) (j := 0) (k := 0) (a := xK) (ty := tyX10 0) (by decide) h6' rfl rfl rfl rfl
  obtain ⟨σ2, t1, t2, t3⟩ := s2.stR (b := 6) (j := 0) (k := 1) (a := xF) (ty := tyX10 1) (by decide) h6' rfl rfl rfl rfl
  refine ⟨σ2, ?_, t2, t3.trans s3⟩
  unfold m_X10_init
  rw [mth_fin (Nat.le_of_ble_eq_true rfl), b_W]
  have eL : L0 3 [Value.ref x6, .ref xK, .ref xF] = [.ref x6, .ref xK, .ref xF] := rfl
  rw [eL]
  have run := prC_run (ci := 10) (r := x6) (L := [.ref x6, .ref xK, .ref xF]) (t := sSeq (sP2 (pF 10 0 (tyX10 0)) (eA 0) (eA 1)) (sSeq (sP2 (pF 10 1 (tyX10 1)) (eA 0) (eA 2)) sR0)) rfl ssW (dV tyX10 9) σ.1 σ.2.1 σ.2.2 lt6 (by decide)
  have eσ : σ = (fun a => if a = x6 then some (.inr (10, dV tyX10 9)) else σ.1 a, σ.2.1, σ.2.2) := by
    refine Prod.ext (funext fun a => ?_) rfl
    show σ.1 a = if a = x6 then some (.inr (10, dV tyX10 9)) else σ.1 a
    by_cases e : a = x6
    · rw [if_pos e, e, at6]
    · rw [if_neg e]
  have e3 : (rnC ssW σ.2.1 (dV tyX10 9)).2.2 = 100 := rfl
  have e4 : (rnC ssW σ.2.1 (dV tyX10 9)).2.1.length = 5 := rfl
  have eo : (fun a => if a = x6 then some (.inr (10, (rnC ssW σ.2.1 (dV tyX10 9)).1)) else laC σ.2.1 (rnC ssW σ.2.1 (dV tyX10 9)).2.1 σ.1 a) = bOv x6 woLay (c00.1, c00.2, rfW σ.2.1) (bOv σ.2.1 vLay (bcV w c00) σ.1) := by
    funext a
    rw [lay_V (w := w), vW1 (x := x6)]
    show _ = bOv x6 woLay (c00.1, c00.2, rfW σ.2.1) (bOv σ.2.1 vLay (bcV w c00) σ.1) a
    rw [show bOv x6 woLay (c00.1, c00.2, rfW σ.2.1) (bOv σ.2.1 vLay (bcV w c00) σ.1) a = (if x6 ≤ a ∧ a < x6 + woLay.length then bCell x6 woLay (c00.1, c00.2, rfW σ.2.1) (a - x6) else bOv σ.2.1 vLay (bcV w c00) σ.1 a) from rfl]
    have l1 : woLay.length = 1 := rfl
    rw [l1]
    by_cases e : a = x6
    · rw [if_pos e, if_pos (by omega), e, Nat.sub_self]
      rfl
    · rw [if_neg e, if_neg (by omega)]
  rw [eo, e3, e4] at run
  have so : sOI [.ref x6, .ref xK, .ref xF] σ = some (.inl 0, [.ref x6, .ref xK, .ref xF], σ) := rfl
  rw [sSeq_t, so, thn_0]
  have run' : prC 10 ssW (sSeq (sP2 (pF 10 0 (tyX10 0)) (eA 0) (eA 1)) (sSeq (sP2 (pF 10 1 (tyX10 1)) (eA 0) (eA 2)) sR0)) [.ref x6, .ref xK, .ref xF] σ = _ := (congrArg (prC 10 ssW (sSeq (sP2 (pF 10 0 (tyX10 0)) (eA 0) (eA 1)) (sSeq (sP2 (pF 10 1 (tyX10 1)) (eA 0) (eA 2)) sR0)) [.ref x6, .ref xK, .ref xF]) eσ).trans run
  rw [run']
  have st : sP2 (pF 10 0 (tyX10 0)) (eA 0) (eA 1) [.ref x6, .ref xK, .ref xF] (bOv x6 woLay (c00.1, c00.2, rfW σ.2.1) (bOv σ.2.1 vLay (bcV w c00) σ.1), σ.2.1 + 5, σ.2.2 + 100) = some (.inl 0, [.ref x6, .ref xK, .ref xF], σ1) := by
    unfold sP2 eA
    dsimp only [List.getElem?_cons_zero, List.getElem?_cons_succ, Option.bind_some]
    rw [show pF 10 0 (tyX10 0) (.ref x6) (.ref xK) _ = some σ1 from s1]
    rfl
  have st2 : sP2 (pF 10 1 (tyX10 1)) (eA 0) (eA 2) [.ref x6, .ref xK, .ref xF] σ1 = some (.inl 0, [.ref x6, .ref xK, .ref xF], σ2) := by
    unfold sP2 eA
    dsimp only [List.getElem?_cons_zero, List.getElem?_cons_succ, Option.bind_some]
    rw [show pF 10 1 (tyX10 1) (.ref x6) (.ref xF) _ = some σ2 from t1]
    rfl
  rw [sSeq_t, st, thn_0, sSeq_t, st2, thn_0]
  rfl
/-- the worker's object before its constructor -/
theorem obj_W {σ : ST} {r6 : Nat} (hd : w.1[6]? = some (r6, [])) (hd3 : w.1[13]? = some (r13, [])) (h : Hd w [cH, cP, cS, cR, cK, cF, cW, cT, cN, cU, cI, cM, cO] σ) : Hd (w.1.set 6 (σ.2.1, woLay), (noR w 6).2) [cH, cP, cS, cR, cK, cF, c00, cT, cN, cU, cI, cM, cO] (alloc σ (.inr (10, dV tyX10 9)) 9) := by
  have h0 : Hd (noR w 6) [cH, cP, cS, cR, cK, cF, c00, cT, cN, cU, cI, cM, cO] σ := (h.noR hd).dead (c := c00) hd (fun _ => ⟨r13, hd3⟩)
  have h1 := h0.new (b := 6) (c := c00) (lay := woLay) (sl := σ.2.2 + 9) (by decide) rfl
  have e : alloc σ (.inr (10, dV tyX10 9)) 9 = (bOv σ.2.1 woLay (bc (noR w 6) 6 c00) σ.1, σ.2.1 + woLay.length, σ.2.2 + 9) := by
    unfold alloc
    refine Prod.ext (funext fun a => ?_) rfl
    show (if a = σ.2.1 then some (.inr (10, dV tyX10 9)) else σ.1 a) = bOv σ.2.1 woLay (bc (noR w 6) 6 c00) σ.1 a
    unfold bOv
    have l1 : woLay.length = 1 := rfl
    rw [l1]
    by_cases e : a = σ.2.1
    · rw [if_pos e, if_pos (by omega), e, Nat.sub_self, vW0 (x := σ.2.1)]
      rfl
    · rw [if_neg e, if_neg (by omega)]
  rw [e]
  exact h1
/-- the worker, whatever its finder was -/
theorem wrk_go {σ σ2 : ST} {w2 : WR} {r6 : Nat} (bH : w.1[0]? = some (xH, hLay)) (rK : w.2 0 0 5 = some xK) (rn : w.2 0 0 9 = none) (hd : w.1[6]? = some (r6, [])) (hd3 : w.1[13]? = some (r13, [])) (h : Hd w [cH, cP, cS, cR, cK, cF, cW, cT, cN, cU, cI, cM, cO] σ) (f1 : m_X11_finder [.ref xH] (alloc σ (.inr (10, dV tyX10 9)) 9) = some (some (.ref xF), σ2)) (f2 : Hd w2 [cH, cP, cS, cR, cK, cF, c00, cT, cN, cU, cI, cM, cO] σ2) (w6 : w2.1[6]? = some (σ.2.1, woLay)) (wr : w2.2 6 = fun _ _ => none) (w3 : w2.1[13]? = some (r13, [])) (wH : w2.1[0]? = some (xH, hLay)) : ∃ σ', m_X11_worker [.ref xH] σ = some (some (.ref σ.2.1), σ') ∧ Hd (w2.1.set 13 (σ2.2.1, vLay), upRf (upRf (upRf (fun b' => if b' = 6 then rfW σ2.2.1 else w2.2 b') 6 0 0 (some xK)) 6 0 1 (some xF)) 0 0 9 (some σ.2.1)) [cH, cP, cS, cR, cK, cF, c00, cT, cN, cU, cI, cM, cO] σ' ∧ σ'.2 = (σ2.2.1 + 5, σ2.2.2 + 100) := by
  obtain ⟨σ3, i1, i2, i3⟩ := init_W (xK := xK) (xF := xF) w6 wr w3 f2
  have wH' : (w2.1.set 13 (σ2.2.1, vLay))[0]? = some (xH, hLay) := (List.getElem?_set_ne (by decide)).trans wH
  obtain ⟨σ4, s1, s2, s3⟩ := i2.stR (b := 0) (j := 0) (k := 9) (a := σ.2.1) (ty := tyX11 9) (by decide) wH' rfl rfl rfl rfl
  have rd : ∀ k x, hLay[0]? = some (.inr (11, [3, 0, 1, 1, 1, 1, 1, 0, 1, 1, 1, 0, 0])) → ([3, 0, 1, 1, 1, 1, 1, 0, 1, 1, 1, 0, 0] : List Nat).getD k 0 = 1 → w.2 0 0 k = x → gF 11 k (.ref xH) σ = some (va_rf x) := fun k x z1 z2 z3 => by
    rw [h.ov (by decide) bH rfl]
    refine (gF_r (r := xH) (j := 0) (k := k) (lay := hLay) (c := bc w 0 cH) (rest := σ.1) (z := σ.2) z1 z2).trans ?_
    show some (va_rf (w.2 0 0 k)) = _
    rw [z3]
  have g2 : gF 11 9 (.ref xH) σ4 = some (.ref σ.2.1) := by
    rw [s2.ov (by decide) wH' rfl]
    exact gF_r (r := xH) (j := 0) (k := 9) (lay := hLay) (rest := σ4.1) (z := σ4.2) rfl rfl
  refine ⟨σ4, ?_, s2, s3.trans i3⟩
  unfold m_X11_worker
  rw [mth_fin (Nat.le_of_ble_eq_true rfl)]
  have eL : L0 1 [Value.ref xH] = [.ref xH] := rfl
  rw [eL]
  have hx : xH < σ.2.1 := by
    have : xH + 2 ≤ σ.2.1 := h.2.1 0 _ bH
    omega
  refine lz_run (σ1 := σ3) (rd 9 none rfl rfl rn) ?_ s1 g2
  have hO := obj_W hd hd3 h
  have bHO : (w.1.set 6 (σ.2.1, woLay))[0]? = some (xH, hLay) := (List.getElem?_set_ne (by decide)).trans bH
  have fv : fV 11 m_X11_finder [.ref xH] (alloc σ (.inr (10, dV tyX10 9)) 9) = some (some (.ref xF), σ2) := by
    have := hO.ov (by decide) bHO rfl
    rw [this]
    rw [show fV 11 m_X11_finder [.ref xH] _ = m_X11_finder [.ref xH] _ from fV_b (r := xH) (j := 0) rfl, ← this]
    exact f1
  unfold eNew evL evL evL eU eC evL evL eA
  dsimp only [List.getElem?_cons_zero, Option.bind_some]
  rw [gF_alloc hx, rd 5 (some xK) rfl rfl rK]
  dsimp only [Option.map_some, Option.bind_some]
  rw [fv]
  dsimp only [Option.map_some, Option.bind_some]
  rw [show m_X10_init [.ref σ.2.1, va_rf (some xK), .ref xF] σ2 = some (none, σ3) from i1]
  rfl
end MkW
