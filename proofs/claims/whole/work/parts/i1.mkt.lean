/-! ===== walker, worker, rows and image are made ===== -/
theorem gF_alloc {ci k r : Nat} {σ : ST} {c : MC} {n : Nat} (h : r < σ.2.1) : gF ci k (.ref r) (alloc σ c n) = gF ci k (.ref r) σ := by
  unfold gF alloc
  dsimp only
  rw [if_neg (by omega)]
/-- a field that is null gets something new, and is answered -/
theorem lz_run {k xH a : Nat} {ty : FieldType} {E : XE} {σ σ1 σ2 : ST} (g0 : gF 11 k (.ref xH) σ = some .null) (e : E [.ref xH] σ = some (.ref a, σ1)) (s1 : pF 11 k ty (.ref xH) (.ref a) σ1 = some σ2) (g2 : gF 11 k (.ref xH) σ2 = some (.ref a)) : fin (sSeq (sBlk (sSeq (sBrIf (c1 z_nonnull (eU (gF 11 k) (eA 0))) 1) (sP2 (pF 11 k ty) (eA 0) E))) (sRA (eU (gF 11 k) (eA 0))) [.ref xH] σ) = some (some (.ref a), σ2) := by
  have st : sP2 (pF 11 k ty) (eA 0) E [.ref xH] σ = some (.inl 0, [.ref xH], σ2) := by
    unfold sP2
    have ea : eA 0 [.ref xH] σ = some (.ref xH, σ) := rfl
    rw [ea, Option.bind_some]
    dsimp only
    rw [e, Option.bind_some]
    dsimp only
    rw [s1]
    rfl
  have cnd : sBrIf (c1 z_nonnull (eU (gF 11 k) (eA 0))) 1 [.ref xH] σ = some (.inl 0, [.ref xH], σ) := by
    unfold sBrIf c1 eU
    have ea : eA 0 [.ref xH] σ = some (.ref xH, σ) := rfl
    rw [ea, Option.bind_some]
    dsimp only
    rw [g0]
    rfl
  have blk : sBlk (sSeq (sBrIf (c1 z_nonnull (eU (gF 11 k) (eA 0))) 1) (sP2 (pF 11 k ty) (eA 0) E)) [.ref xH] σ = some (.inl 0, [.ref xH], σ2) := by
    unfold sBlk sSeq
    rw [cnd, Option.bind_some]
    dsimp only
    rw [st]
    rfl
  have ra : sRA (eU (gF 11 k) (eA 0)) [.ref xH] σ2 = some (.inr (some (.ref a)), [.ref xH], σ2) := by
    unfold sRA eU
    have ea : eA 0 [.ref xH] σ2 = some (.ref xH, σ2) := rfl
    rw [ea, Option.bind_some]
    dsimp only
    rw [g2]
    rfl
  rw [sSeq_t, blk, thn_0, ra]
  rfl
/-- references of a block as they are when it is new -/
def noR (w : WR) (b : Nat) : WR := (w.1, fun b' => if b' = b then (fun _ _ => none) else w.2 b')
section MkT
variable {w : WR} {xH xK r7 : Nat} {cH cP cS cR cK cF cW cT cN cU cI cM cO : CT}
theorem Hd.noR {C : List CT} {σ : ST} {b r : Nat} (h : Hd w C σ) (hd : w.1[b]? = some (r, [])) : Hd (noR w b) C σ := h.refs rfl fun b' q e ne => by
  refine if_neg fun z => ?_
  subst z
  rw [hd] at e
  cases e
  exact ne rfl
theorem b_T : b_X9_init = sSeq sOI (prC 9 ssT (sSeq (sP2 (pF 9 0 (tyX9 0)) (eA 0) (eA 1)) sR0)) := rfl
theorem init_T {σ : ST} {a : Nat} (hd : w.1[7]? = some (r7, [])) (h : Hd w [cH, cP, cS, cR, cK, cF, cW, cT, cN, cU, cI, cM, cO] σ) : ∃ σ', m_X9_init [.ref σ.2.1, .ref a] (alloc σ (.inr (9, dV tyX9 17)) 17) = some (none, σ') ∧ Hd (w.1.set 7 (σ.2.1, tLay), upRf (noR w 7).2 7 0 0 (some a)) [cH, cP, cS, cR, cK, cF, cW, frT, cN, cU, cI, cM, cO] σ' ∧ σ'.2 = (σ.2.1 + 10, σ.2.2 + 88) := by
  have h0 : Hd (noR w 7) [cH, cP, cS, cR, cK, cF, cW, frT, cN, cU, cI, cM, cO] σ := (h.noR hd).dead (c := frT) hd (fun e => absurd e (by decide))
  have h1 := h0.new (b := 7) (c := frT) (lay := tLay) (sl := σ.2.2 + 88) (by decide) rfl
  have h7 : 7 < w.1.length := (List.getElem?_eq_some_iff.mp hd).1
  have hw7 : ((noR w 7).1.set 7 (σ.2.1, tLay))[7]? = some (σ.2.1, tLay) := List.getElem?_set_self h7
  obtain ⟨σ2, s1, s2, s3⟩ := h1.stR (b := 7) (j := 0) (k := 0) (a := a) (ty := tyX9 0) (by decide) hw7 rfl rfl rfl rfl
  refine ⟨σ2, ?_, s2, s3⟩
  unfold m_X9_init
  rw [mth_fin (Nat.le_of_ble_eq_true rfl), b_T]
  have eL : L0 2 [Value.ref σ.2.1, .ref a] = [.ref σ.2.1, .ref a] := rfl
  rw [eL]
  have run := prC_run (ci := 9) (r := σ.2.1) (L := [.ref σ.2.1, .ref a]) (t := sSeq (sP2 (pF 9 0 (tyX9 0)) (eA 0) (eA 1)) sR0) rfl ssT (dV tyX9 17) σ.1 (σ.2.1 + 1) (σ.2.2 + 17) (Nat.lt_succ_self _) (by decide)
  have e3 : (rnC ssT (σ.2.1 + 1) (dV tyX9 17)).2.2 = 71 := rfl
  have e4 : (rnC ssT (σ.2.1 + 1) (dV tyX9 17)).2.1.length = 9 := rfl
  rw [lay_T, e3, e4, show σ.2.1 + 1 + 9 = σ.2.1 + tLay.length from rfl, show σ.2.2 + 17 + 71 = σ.2.2 + 88 by omega] at run
  have so : sOI [.ref σ.2.1, .ref a] (alloc σ (.inr (9, dV tyX9 17)) 17) = some (.inl 0, [.ref σ.2.1, .ref a], alloc σ (.inr (9, dV tyX9 17)) 17) := rfl
  rw [sSeq_t, so, thn_0]
  unfold alloc
  rw [run]
  have bce : bc (noR w 7) 7 frT = (frT.1, frT.2, fun _ _ => none) := rfl
  rw [bce] at s1
  have st : sP2 (pF 9 0 (tyX9 0)) (eA 0) (eA 1) [.ref σ.2.1, .ref a] (bOv σ.2.1 tLay (frT.1, frT.2, fun _ _ => none) σ.1, σ.2.1 + tLay.length, σ.2.2 + 88) = some (.inl 0, [.ref σ.2.1, .ref a], σ2) := by
    unfold sP2 eA
    dsimp only [List.getElem?_cons_zero, List.getElem?_cons_succ, Option.bind_some]
    rw [show pF 9 0 (tyX9 0) (.ref σ.2.1) (.ref a) _ = some σ2 from s1]
    rfl
  rw [sSeq_t, st, thn_0]
  rfl
theorem wlk_new {σ : ST} (bH : w.1[0]? = some (xH, hLay)) (rK : w.2 0 0 5 = some xK) (rn : w.2 0 0 10 = none) (hd : w.1[7]? = some (r7, [])) (h : Hd w [cH, cP, cS, cR, cK, cF, cW, cT, cN, cU, cI, cM, cO] σ) : ∃ σ', m_X11_walker [.ref xH] σ = some (some (.ref σ.2.1), σ') ∧ Hd (w.1.set 7 (σ.2.1, tLay), upRf (upRf (noR w 7).2 7 0 0 (some xK)) 0 0 10 (some σ.2.1)) [cH, cP, cS, cR, cK, cF, cW, frT, cN, cU, cI, cM, cO] σ' ∧ σ'.2 = (σ.2.1 + 10, σ.2.2 + 88) := by
  obtain ⟨σ1, i1, i2, i3⟩ := init_T (a := xK) hd h
  have bH' : (w.1.set 7 (σ.2.1, tLay), upRf (noR w 7).2 7 0 0 (some xK)).1[0]? = some (xH, hLay) := (List.getElem?_set_ne (by decide)).trans bH
  obtain ⟨σ2, s1, s2, s3⟩ := i2.stR (b := 0) (j := 0) (k := 10) (a := σ.2.1) (ty := tyX11 10) (by decide) bH' rfl rfl rfl rfl
  have rd : ∀ k x, hLay[0]? = some (.inr (11, [3, 0, 1, 1, 1, 1, 1, 0, 1, 1, 1, 0, 0])) → ([3, 0, 1, 1, 1, 1, 1, 0, 1, 1, 1, 0, 0] : List Nat).getD k 0 = 1 → w.2 0 0 k = x → gF 11 k (.ref xH) σ = some (va_rf x) := fun k x z1 z2 z3 => by
    rw [h.ov (by decide) bH rfl]
    refine (gF_r (r := xH) (j := 0) (k := k) (lay := hLay) (c := bc w 0 cH) (rest := σ.1) (z := σ.2) z1 z2).trans ?_
    show some (va_rf (w.2 0 0 k)) = _
    rw [z3]
  have bH2 : (w.1.set 7 (σ.2.1, tLay), upRf (upRf (noR w 7).2 7 0 0 (some xK)) 0 0 10 (some σ.2.1)).1[0]? = some (xH, hLay) := bH'
  have g2 : gF 11 10 (.ref xH) σ2 = some (.ref σ.2.1) := by
    rw [s2.ov (by decide) bH2 rfl]
    exact gF_r (r := xH) (j := 0) (k := 10) (lay := hLay) (c := bc (w.1.set 7 (σ.2.1, tLay), upRf (upRf (noR w 7).2 7 0 0 (some xK)) 0 0 10 (some σ.2.1)) 0 cH) (rest := σ2.1) (z := σ2.2) rfl rfl
  refine ⟨σ2, ?_, s2, s3.trans i3⟩
  unfold m_X11_walker
  rw [mth_fin (Nat.le_of_ble_eq_true rfl)]
  have eL : L0 1 [Value.ref xH] = [.ref xH] := rfl
  rw [eL]
  have hx : xH < σ.2.1 := by
    have := h.2.1 0 _ bH
    have : xH + 2 ≤ σ.2.1 := this
    omega
  refine lz_run (σ1 := σ1) (rd 10 none rfl rfl rn) ?_ s1 g2
  unfold eNew evL evL eU eA
  dsimp only [List.getElem?_cons_zero, Option.bind_some]
  rw [gF_alloc hx, rd 5 (some xK) rfl rfl rK]
  dsimp only [Option.map_some, Option.bind_some]
  rw [show m_X9_init [.ref σ.2.1, va_rf (some xK)] (alloc σ (.inr (9, dV tyX9 17)) 17) = some (none, σ1) from i1]
  rfl
/-! rows -/
theorem row_new {σ : ST} {b n k xT : Nat} {L : List Value} {c : CT} {lay : LY} {C : List CT} (bT : w.1[7]? = some (xT, tLay)) (hT : C[7]? = some cT) (hL : L[0]? = some (.ref xT)) (hb : b < 13) (b7 : b ≠ 7) (b6 : b ≠ 6) (hd : w.1[b]? = some (r7, [])) (hC : C[b]? = some c) (c0 : c = c00) (hl : lay = [.inl (.int, n)]) (n6 : n ≤ 65536) (hk : ([1, 1, 1, 3, 0, 4, 5, 6, 0, 1, 0, 0, 7, 8, 9, 10, 11] : List Nat).getD k 0 = 1) (hv : ∀ a, vfit (tyX9 k) (.ref a) = true) (rn : w.2 7 0 k = none) (h : Hd w C σ) : ∃ σ', sBlk (sSeq (sBrIf (c1 z_nonnull (eU (gF 9 k) (eA 0))) 1) (sP2 (pF 9 k (tyX9 k)) (eA 0) (eNA .int zI (eK (.int (Int32.ofNat n)))))) L σ = some (.inl 0, L, σ') ∧ Hd (w.1.set b (σ.2.1, lay), upRf w.2 7 0 k (some σ.2.1)) C σ' ∧ σ'.2 = (σ.2.1 + 1, σ.2.2 + n) := by
  subst c0
  have h1 := h.new (b := b) (c := c00) (lay := lay) (sl := σ.2.2 + n) hb hC
  have bT' : (w.1.set b (σ.2.1, lay), w.2).1[7]? = some (xT, tLay) := (List.getElem?_set_ne b7).trans bT
  obtain ⟨σ2, s1, s2, s3⟩ := h1.stR (b := 7) (j := 0) (k := k) (a := σ.2.1) (ty := tyX9 k) (by decide) bT' hT rfl hk (hv _)
  have en : (Int32.ofNat n).toNatClampNeg = n := nI_clamp (by omega)
  have ea : alloc σ (.inl (.int, zI (Int32.ofNat n).toNatClampNeg)) (Int32.ofNat n).toNatClampNeg = (bOv σ.2.1 lay (bc w b c00) σ.1, σ.2.1 + lay.length, σ.2.2 + n) := by
    rw [en]
    unfold alloc
    subst hl
    refine Prod.ext (funext fun a => ?_) rfl
    show (if a = σ.2.1 then some (.inl (.int, zI n)) else σ.1 a) = bOv σ.2.1 [.inl (.int, n)] (bc w b c00) σ.1 a
    unfold bOv
    have l1 : ([Sum.inl (FieldType.int, n)] : LY).length = 1 := rfl
    rw [l1]
    by_cases e : a = σ.2.1
    · rw [if_pos e, if_pos (by omega), e, Nat.sub_self]
      rfl
    · rw [if_neg e, if_neg (by omega)]
  have g0 : gF 9 k (.ref xT) σ = some .null := by
    rw [h.ov (by decide) bT hT]
    refine (gF_r (r := xT) (j := 0) (k := k) (lay := tLay) (c := bc w 7 cT) (rest := σ.1) (z := σ.2) rfl hk).trans ?_
    show some (va_rf (w.2 7 0 k)) = _
    rw [rn]
    rfl
  have eaL : ∀ s : ST, eA 0 L s = some (.ref xT, s) := fun s => by
    unfold eA
    rw [hL]
  refine ⟨σ2, ?_, s2, s3.trans (by subst hl; rfl)⟩
  have cnd : sBrIf (c1 z_nonnull (eU (gF 9 k) (eA 0))) 1 L σ = some (.inl 0, L, σ) := by
    unfold sBrIf c1 eU
    rw [eaL, Option.bind_some]
    dsimp only
    rw [g0]
    rfl
  have st : sP2 (pF 9 k (tyX9 k)) (eA 0) (eNA .int zI (eK (.int (Int32.ofNat n)))) L σ = some (.inl 0, L, σ2) := by
    unfold sP2
    rw [eaL, Option.bind_some]
    dsimp only
    unfold eNA eK newA
    dsimp only [Option.bind_some]
    rw [if_neg, ea]
    · dsimp only [Option.bind_some]
      rw [show pF 9 k (tyX9 k) (.ref xT) (.ref σ.2.1) _ = some σ2 from s1]
      rfl
    · rw [en]
      rintro (y | y)
      · exact absurd (nI_pos' (show n < 2 ^ 31 by omega)) (Int32.not_le.mpr y)
      · omega
  unfold sBlk sSeq
  rw [cnd, Option.bind_some]
  dsimp only
  rw [st]
  rfl
end MkT
