/-! ===== references that a method sets first; rows made when first wanted ===== -/
theorem pF_idem {ci k : Nat} {ty : FieldType} {a v : Value} {σ σ' : ST} (h : pF ci k ty a v σ = some σ') : pF ci k ty a v σ' = some σ' := by
  unfold pF at h ⊢
  split at h
  · rename_i r
    split at h
    · rename_i o ho
      by_cases q : o.1 = ci ∧ vfit ty v = true
      · rw [if_pos q] at h
        have e := (Option.some.inj h).symm
        subst e
        have e1 : (updH σ r (.inr (ci, updV o.2 k v))).1 r = some (.inr (ci, updV o.2 k v)) := if_pos rfl
        rw [e1]
        dsimp only
        rw [if_pos ⟨rfl, q.2⟩]
        refine congrArg some ?_
        unfold updH
        refine Prod.ext (funext fun x => ?_) rfl
        dsimp only
        by_cases z : x = r
        · rw [if_pos z, if_pos z]
          refine congrArg (fun f => (some (Sum.inr (ci, f)) : Option MC)) (funext fun y => ?_)
          unfold updV
          by_cases u : y = k
          · rw [if_pos u, if_pos u]
          · rw [if_neg u, if_neg u]
        · rw [if_neg z, if_neg z]
      · rw [if_neg q] at h
        cases h
    · cases h
  · cases h
theorem setP_eq {ci k nL r a : Nat} {ty : FieldType} {rest : XS} {as L : List Value} {σ σ' : ST} (hl : Nat.ble (expA as).length nL = true) (hL : L0 nL as = L) (h0 : L[0]? = some (.ref r)) (h1 : L[1]? = some (.ref a)) (p : pF ci k ty (.ref r) (.ref a) σ = some σ') : mth nL (sSeq (sP2 (pF ci k ty) (eA 0) (eA 1)) rest) as σ = mth nL (sSeq (sP2 (pF ci k ty) (eA 0) (eA 1)) rest) as σ' := by
  have st : ∀ s : ST, pF ci k ty (.ref r) (.ref a) s = some σ' → sP2 (pF ci k ty) (eA 0) (eA 1) L s = some (.inl 0, L, σ') := fun s q => by
    unfold sP2 eA
    rw [h0, Option.bind_some, h1, Option.bind_some]
    dsimp only
    rw [q]
    rfl
  rw [mth_fin (Nat.le_of_ble_eq_true hl), mth_fin (Nat.le_of_ble_eq_true hl), hL, sSeq_t, sSeq_t, st σ p, st σ' (pF_idem p)]
def sP (A : Nat → Nat) (d : LZD) (b : Nat) : LZD := (d.1, stG d.2.1 b (some (A 1)), d.2.2)
section Zp
variable {A : Nat → Nat} {d : LZD} {C : List CT} {c : CT} {QF : LZD → Option Value → List CT → Prop} {QS : LZD → XO → List Value → List CT → Prop}
theorem rfD_6 : rfD A d 6 = fun j k => (if j = 0 then (if k = 0 then some (A 4) else if k = 1 then some (A 5) else if k = 2 then d.2.1 6 else if k = 3 then some (A 13 + 0) else if k = 4 then some (A 13 + 1) else if k = 5 then some (A 13 + 2) else if k = 7 then some (A 13 + 3) else if k = 8 then some (A 13 + 4) else none) else none) := rfl
theorem rfD_7 : rfD A d 7 = fun j k => (if j = 0 then (if k = 0 then some (A 4) else if k = 1 then d.2.1 7 else if k = 2 then (if d.1 8 then some (A 8) else none) else if k = 9 then (if d.1 9 then some (A 9) else none) else none) else none) := rfl
theorem rfD_sW : rfD A (sP A d 6) 6 = up2 (rfD A d 6) 0 2 (some (A 1)) := by
  funext j k
  unfold up2
  by_cases z : j = 0 ∧ k = 2
  · rw [if_pos z, z.1, z.2]
    rfl
  · rw [if_neg z]
    rw [rfD_6, rfD_6]
    dsimp only
    by_cases hj : j = 0
    · rw [if_pos hj, if_pos hj, if_neg (c := k = 2) (fun y => z ⟨hj, y⟩), if_neg (c := k = 2) (fun y => z ⟨hj, y⟩)]
    · rw [if_neg hj, if_neg hj]
theorem rfD_sT : rfD A (sP A d 7) 7 = up2 (rfD A d 7) 0 1 (some (A 1)) := by
  funext j k
  unfold up2
  by_cases z : j = 0 ∧ k = 1
  · rw [if_pos z, z.1, z.2]
    rfl
  · rw [if_neg z]
    rw [rfD_7, rfD_7]
    dsimp only
    by_cases hj : j = 0
    · rw [if_pos hj, if_pos hj, if_neg (c := k = 1) (fun y => z ⟨hj, y⟩), if_neg (c := k = 1) (fun y => z ⟨hj, y⟩)]
      rfl
    · rw [if_neg hj, if_neg hj]
theorem zf_setW {nL : Nat} {rest : XS} {as L : List Value} (h6 : d.1 6 = true) (hC : C[6]? = some c) (hl : Nat.ble (expA as).length nL = true) (hL : L0 nL as = L) (h0 : L[0]? = some (.ref (A 6))) (h1 : L[1]? = some (.ref (A 1))) (k : ZF A (sP A d 6) (mth nL (sSeq (sP2 (pF 10 2 (tyX10 2)) (eA 0) (eA 1)) rest)) as C QF) : ZF A d (mth nL (sSeq (sP2 (pF 10 2 (tyX10 2)) (eA 0) (eA 1)) rest)) as C QF := fun σ hσ => by
  obtain ⟨σ', s1, s2, s3⟩ := hσ.1.stR (b := 6) (j := 0) (k := 2) (a := A 1) (ty := tyX10 2) (by decide) (q_bW h6) hC rfl rfl rfl
  rw [setP_eq hl hL h0 h1 s1]
  refine k σ' ⟨s2.refs rfl fun b q e _ => ?_, s3.trans hσ.2⟩
  rcases wd_14 (A := A) (d := d) e with rfl | rfl | rfl | rfl | rfl | rfl | rfl | rfl | rfl | rfl | rfl | rfl | rfl | rfl
  · rfl
  · rfl
  · rfl
  · rfl
  · rfl
  · rfl
  · exact rfD_sW
  all_goals rfl
theorem zf_setT {nL : Nat} {rest : XS} {as L : List Value} (h7 : d.1 7 = true) (hC : C[7]? = some c) (hl : Nat.ble (expA as).length nL = true) (hL : L0 nL as = L) (h0 : L[0]? = some (.ref (A 7))) (h1 : L[1]? = some (.ref (A 1))) (k : ZF A (sP A d 7) (mth nL (sSeq (sP2 (pF 9 1 (tyX9 1)) (eA 0) (eA 1)) rest)) as C QF) : ZF A d (mth nL (sSeq (sP2 (pF 9 1 (tyX9 1)) (eA 0) (eA 1)) rest)) as C QF := fun σ hσ => by
  obtain ⟨σ', s1, s2, s3⟩ := hσ.1.stR (b := 7) (j := 0) (k := 1) (a := A 1) (ty := tyX9 1) (by decide) (q_bT h7) hC rfl rfl rfl
  rw [setP_eq hl hL h0 h1 s1]
  refine k σ' ⟨s2.refs rfl fun b q e _ => ?_, s3.trans hσ.2⟩
  rcases wd_14 (A := A) (d := d) e with rfl | rfl | rfl | rfl | rfl | rfl | rfl | rfl | rfl | rfl | rfl | rfl | rfl | rfl
  · rfl
  · rfl
  · rfl
  · rfl
  · rfl
  · rfl
  · rfl
  · exact rfD_sT
  all_goals rfl
/-- a row of the walker is there afterwards -/
def dR (d : LZD) (b n : Nat) : LZD := if d.1 b then d else (onB d.1 b, d.2.1, (d.2.2.1 + 1, d.2.2.2 + n))
theorem dR_y {b n : Nat} (h : d.1 b = true) : dR d b n = d := if_pos h
theorem dR_n {b n : Nat} (h : d.1 b = false) : dR d b n = (onB d.1 b, d.2.1, (d.2.2.1 + 1, d.2.2.2 + n)) := if_neg (by rw [h]; decide)
theorem dR_b {b n : Nat} : (dR d b n).1 b = true := by
  by_cases h : d.1 b = true
  · rw [dR_y h, h]
  · rw [dR_n (Bool.eq_false_iff.mpr h)]
    show onB d.1 b b = true
    exact onB_s
theorem dR_o {b n x : Nat} (hx : x ≠ b) : (dR d b n).1 x = d.1 x := by
  by_cases h : d.1 b = true
  · rw [dR_y h]
  · rw [dR_n (Bool.eq_false_iff.mpr h)]
    exact onB_ne hx
theorem dR_g {b n : Nat} : (dR d b n).2.1 = d.2.1 := by
  by_cases h : d.1 b = true
  · rw [dR_y h]
  · rw [dR_n (Bool.eq_false_iff.mpr h)]
theorem rfD_N {d' : LZD} {k : Nat} {a : Option Nat} (e : ∀ k', k' ≠ k → rfD A d' 7 0 k' = rfD A d 7 0 k') (ek : rfD A d' 7 0 k = a) : rfD A d' 7 = up2 (rfD A d 7) 0 k a := by
  funext j k'
  unfold up2
  by_cases z : j = 0 ∧ k' = k
  · rw [if_pos z, z.1, z.2, ek]
  · rw [if_neg z]
    by_cases z1 : j = 0
    · rw [z1]
      exact e k' fun y => z ⟨z1, y⟩
    · rw [rfD_7, rfD_7]
      dsimp only
      rw [if_neg z1, if_neg z1]
/-- nothing is made where the row is there -/
theorem row_old {k : Nat} {L : List Value} {E : XE} {a : Nat} {σ : ST} {w : WR} {xT : Nat} {cT : CT} (bT : w.1[7]? = some (xT, tLay)) (hT : C[7]? = some cT) (hL : L[0]? = some (.ref xT)) (hk : ([1, 1, 1, 3, 0, 4, 5, 6, 0, 1, 0, 0, 7, 8, 9, 10, 11] : List Nat).getD k 0 = 1) (rn : w.2 7 0 k = some a) (h : Hd w C σ) : sBlk (sSeq (sBrIf (c1 z_nonnull (eU (gF 9 k) (eA 0))) 1) (sP2 (pF 9 k (tyX9 k)) (eA 0) E)) L σ = some (.inl 0, L, σ) := by
  have g0 : gF 9 k (.ref xT) σ = some (.ref a) := by
    rw [h.ov (by decide) bT hT]
    refine (gF_r (r := xT) (j := 0) (k := k) (lay := tLay) (c := bc w 7 cT) (rest := σ.1) (z := σ.2) rfl hk).trans ?_
    show some (va_rf (w.2 7 0 k)) = _
    rw [rn]
    rfl
  have cnd : sBrIf (c1 z_nonnull (eU (gF 9 k) (eA 0))) 1 L σ = some (.inl 1, L, σ) := by
    unfold sBrIf c1 eU eA
    rw [hL, Option.bind_some]
    dsimp only
    rw [g0]
    rfl
  unfold sBlk sSeq
  rw [cnd, Option.bind_some]
  rfl
theorem zs_near {L : List Value} {cT cN : CT} (h7 : d.1 7 = true) (hT : C[7]? = some cT) (hN : C[8]? = some cN) (hL : L[0]? = some (.ref (A 7))) (hz : d.1 8 = false → cN = c00 ∧ A 8 = d.2.2.1) (k : QS (dR d 8 896) (.inl 0) L C) : ZS A d (sBlk (sSeq (sBrIf (c1 z_nonnull (eU (gF 9 2) (eA 0))) 1) (sP2 (pF 9 2 (tyX9 2)) (eA 0) (eNA .int zI (eK (.int 896)))))) L C QS := fun σ hσ => by
  by_cases z : d.1 8 = true
  · rw [dR_y z] at k
    exact ⟨_, _, σ, C, d, row_old (w := wd A d) (q_bT h7) hT hL rfl (q_rT2 z) hσ.1, hσ, k⟩
  · have z := Bool.eq_false_iff.mpr z
    obtain ⟨e1, e2⟩ := hz z
    have dd : (wd A d).1[8]? = some (0, []) := congrArg some (lzB_n z)
    obtain ⟨σ', h1, h2, h3⟩ := row_new (w := wd A d) (b := 8) (n := 896) (k := 2) (xT := A 7) (lay := nLay) (q_bT h7) hT hL (by decide) (by decide) (by decide) dd hN e1 rfl (by omega) rfl (fun _ => rfl) (show (wd A d).2 7 0 2 = none from if_neg (by rw [z]; decide)) hσ.1
    have hz' : σ.2.1 = A 8 := by rw [hσ.2, e2]
    rw [hz'] at h2
    refine ⟨_, _, σ', C, dR d 8 896, h1, ⟨?_, ?_⟩, k⟩
    · rw [dR_n z]
      refine h2.refs rfl fun b q e _ => ?_
      have e : b = 0 ∨ b = 1 ∨ b = 2 ∨ b = 3 ∨ b = 4 ∨ b = 5 ∨ b = 6 ∨ b = 7 ∨ b = 8 ∨ b = 9 ∨ b = 10 ∨ b = 11 ∨ b = 12 ∨ b = 13 := by
        have : b < 14 := (List.getElem?_eq_some_iff.mp e).1
        omega
      rcases e with rfl | rfl | rfl | rfl | rfl | rfl | rfl | rfl | rfl | rfl | rfl | rfl | rfl | rfl
      · rfl
      · rfl
      · rfl
      · rfl
      · rfl
      · rfl
      · rfl
      · refine rfD_N (k := 2) (a := some (A 8)) (fun k' hk => ?_) rfl
        rw [rfD_7, rfD_7]
        dsimp only
        rw [if_pos rfl, if_pos rfl, if_neg (c := k' = 2) hk, if_neg (c := k' = 2) hk]
        rfl
      all_goals rfl
    · rw [h3, dR_n z, hσ.2]
theorem zs_tour {L : List Value} {cT cU : CT} (h7 : d.1 7 = true) (hT : C[7]? = some cT) (hU : C[9]? = some cU) (hL : L[0]? = some (.ref (A 7))) (hz : d.1 9 = false → cU = c00 ∧ A 9 = d.2.2.1) (k : QS (dR d 9 3072) (.inl 0) L C) : ZS A d (sBlk (sSeq (sBrIf (c1 z_nonnull (eU (gF 9 9) (eA 0))) 1) (sP2 (pF 9 9 (tyX9 9)) (eA 0) (eNA .int zI (eK (.int 3072)))))) L C QS := fun σ hσ => by
  by_cases z : d.1 9 = true
  · rw [dR_y z] at k
    exact ⟨_, _, σ, C, d, row_old (w := wd A d) (q_bT h7) hT hL rfl (q_rT9 z) hσ.1, hσ, k⟩
  · have z := Bool.eq_false_iff.mpr z
    obtain ⟨e1, e2⟩ := hz z
    have dd : (wd A d).1[9]? = some (0, []) := congrArg some (lzB_n z)
    obtain ⟨σ', h1, h2, h3⟩ := row_new (w := wd A d) (b := 9) (n := 3072) (k := 9) (xT := A 7) (lay := uLay) (q_bT h7) hT hL (by decide) (by decide) (by decide) dd hU e1 rfl (by omega) rfl (fun _ => rfl) (show (wd A d).2 7 0 9 = none from if_neg (by rw [z]; decide)) hσ.1
    have hz' : σ.2.1 = A 9 := by rw [hσ.2, e2]
    rw [hz'] at h2
    refine ⟨_, _, σ', C, dR d 9 3072, h1, ⟨?_, ?_⟩, k⟩
    · rw [dR_n z]
      refine h2.refs rfl fun b q e _ => ?_
      have e : b = 0 ∨ b = 1 ∨ b = 2 ∨ b = 3 ∨ b = 4 ∨ b = 5 ∨ b = 6 ∨ b = 7 ∨ b = 8 ∨ b = 9 ∨ b = 10 ∨ b = 11 ∨ b = 12 ∨ b = 13 := by
        have : b < 14 := (List.getElem?_eq_some_iff.mp e).1
        omega
      rcases e with rfl | rfl | rfl | rfl | rfl | rfl | rfl | rfl | rfl | rfl | rfl | rfl | rfl | rfl
      · rfl
      · rfl
      · rfl
      · rfl
      · rfl
      · rfl
      · rfl
      · refine rfD_N (k := 9) (a := some (A 9)) (fun k' hk => ?_) rfl
        rw [rfD_7, rfD_7]
        dsimp only
        rw [if_pos rfl, if_pos rfl, if_neg (c := k' = 9) hk, if_neg (c := k' = 9) hk]
        rfl
      all_goals rfl
    · rw [h3, dR_n z, hσ.2]
theorem zs_RZ {L : List Value} {e : XE} (h : ZE A d e L C fun d' v C' => ∃ x, v = .int x ∧ (x = 0 ∨ x = 1) ∧ QS d' (.inr (some (.int x))) L C') : ZS A d (sRZ e) L C QS := fun σ hσ => by
  obtain ⟨v, σ1, C1, d1, h1, h2, x, h4, h5, h6⟩ := h σ hσ
  subst h4
  exact ⟨_, L, σ1, C1, d1, by unfold sRZ; rw [h1, Option.bind_some]; dsimp only; rw [if_pos h5], h2, h6⟩
theorem zs_seqN {L : List Value} {a b : XS} (h : ∀ q : XO → List Value → List CT → Prop, (∀ o L C, zqK A b QS d o L C → q o L C) → SW (wd A d) a L C q) : ZS A d (sSeq a b) L C QS := zs_seq (zs_of (h _ fun _ _ _ h => h))
end Zp
