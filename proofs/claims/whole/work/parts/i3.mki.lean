/-! ===== the image is made ===== -/
/-- a row of the book that the image shares -/
def shS (k : Nat) (E : XE) : XS := sP2 (pF 0 k (tyX0 k)) (eA 0) (eT (cIf (c1 z_nonnull (eA 1)) cF cT) E (eU (gF 0 k) (eA 1)))
theorem shS_ok {w : WR} {xK z k o : Nat} {cI cK : CT} {E : XE} {σ : ST} {C : List CT} (h : Hd w C σ) (bI : w.1[10]? = some (z, iLay)) (hI : C[10]? = some cI) (bK : w.1[4]? = some (xK, kLay)) (hK : C[4]? = some cK) (k1 : ([0, 0, 3, 4, 5, 6, 7, 8, 9, 10, 1, 1, 1, 1, 1, 1] : List Nat).getD k 0 = 1) (k2 : ([0, 0, 3, 4, 5, 6, 7, 8, 9, 10, 11, 12, 13, 14, 15, 16] : List Nat).getD k 0 = o + 2) (hv : ∀ a, vfit (tyX0 k) (.ref a) = true) : ∃ σ', shS k E [.ref z, .ref xK] σ = some (.inl 0, [.ref z, .ref xK], σ') ∧ Hd (w.1, upRf w.2 10 0 k (some (xK + o))) C σ' ∧ σ'.2 = σ.2 := by
  obtain ⟨σ', s1, s2, s3⟩ := h.stR (b := 10) (j := 0) (k := k) (a := xK + o) (ty := tyX0 k) (by decide) bI hI rfl k1 (hv _)
  refine ⟨σ', ?_, s2, s3⟩
  have g : gF 0 k (.ref xK) σ = some (.ref (xK + o)) := by
    rw [h.ov (by decide) bK hK]
    exact gF_s (r := xK) (j := 0) (k := k) (lay := kLay) (c := bc w 4 cK) (rest := σ.1) (z := σ.2) rfl k2
  unfold shS sP2 eT cIf c1 cF eU eA
  try dsimp only [List.getElem?_cons_zero, List.getElem?_cons_succ, Option.bind_some]
  rw [show z_nonnull (.ref xK) = some true from rfl]
  try dsimp only [Option.map_some, Option.bind_some]
  rw [if_pos rfl]
  try dsimp only [Option.bind_some]
  rw [if_neg (by decide)]
  try dsimp only [Option.bind_some]
  rw [g]
  try dsimp only [Option.map_some, Option.bind_some]
  rw [show pF 0 k (tyX0 k) (.ref z) (.ref (xK + o)) _ = some σ' from s1]
  rfl
theorem b_I : b_X0_init = sSeq sOI (prC 0 ssI (sSeq (shS 10 (eNA .int zI (eK (.int 200)))) (sSeq (shS 11 (eNA .long zL (eK (.int 600)))) (sSeq (shS 12 (eNA .int zI (eK (.int 60)))) (sSeq (shS 13 (eNA .int zI (eK (.int 60)))) (sSeq (shS 14 (eNA .int zI (eK (.int 60)))) (sSeq (shS 15 (eNA .boolean zI (eK (.int 60)))) sR0))))))) := rfl
section MkI
variable {w : WR} {xH xK z r10 : Nat} {cH cP cS cR cK cF cW cT cN cU cI cM cO : CT}
/-- the image's references -/
def rfI (f : Nat → Nat → Nat → Option Nat) (xK : Nat) : Nat → Nat → Nat → Option Nat := upRf (upRf (upRf (upRf (upRf (upRf f 10 0 10 (some (xK + 9))) 10 0 11 (some (xK + 10))) 10 0 12 (some (xK + 11))) 10 0 13 (some (xK + 12))) 10 0 14 (some (xK + 13))) 10 0 15 (some (xK + 14))
theorem init_I {σ : ST} (bK : w.1[4]? = some (xK, kLay)) (hd : w.1[10]? = some (r10, [])) (h : Hd w [cH, cP, cS, cR, cK, cF, cW, cT, cN, cU, cI, cM, cO] σ) : ∃ σ', m_X0_init [.ref σ.2.1, .ref xK] (alloc σ (.inr (0, dV tyX0 16)) 16) = some (none, σ') ∧ Hd (w.1.set 10 (σ.2.1, iLay), rfI (noR w 10).2 xK) [cH, cP, cS, cR, cK, cF, cW, cT, cN, cU, c00, cM, cO] σ' ∧ σ'.2 = (σ.2.1 + 9, σ.2.2 + 96) := by
  have h0 : Hd (noR w 10) [cH, cP, cS, cR, cK, cF, cW, cT, cN, cU, c00, cM, cO] σ := (h.noR hd).dead (c := c00) hd (fun e => absurd e (by decide))
  have h1 := h0.new (b := 10) (c := c00) (lay := iLay) (sl := σ.2.2 + 96) (by decide) rfl
  have h7 : 10 < w.1.length := (List.getElem?_eq_some_iff.mp hd).1
  have hw : (w.1.set 10 (σ.2.1, iLay))[10]? = some (σ.2.1, iLay) := List.getElem?_set_self h7
  have hk : (w.1.set 10 (σ.2.1, iLay))[4]? = some (xK, kLay) := (List.getElem?_set_ne (by decide)).trans bK
  obtain ⟨σ1, a1, a2, a3⟩ := shS_ok (k := 10) (o := 9) (E := eNA .int zI (eK (.int 200))) h1 hw rfl hk rfl rfl rfl (fun _ => rfl)
  obtain ⟨σ2, b1, b2, b3⟩ := shS_ok (k := 11) (o := 10) (E := eNA .long zL (eK (.int 600))) a2 hw rfl hk rfl rfl rfl (fun _ => rfl)
  obtain ⟨σ3, c1, c2, c3⟩ := shS_ok (k := 12) (o := 11) (E := eNA .int zI (eK (.int 60))) b2 hw rfl hk rfl rfl rfl (fun _ => rfl)
  obtain ⟨σ4, d1, d2, d3⟩ := shS_ok (k := 13) (o := 12) (E := eNA .int zI (eK (.int 60))) c2 hw rfl hk rfl rfl rfl (fun _ => rfl)
  obtain ⟨σ5, e1, e2, e3⟩ := shS_ok (k := 14) (o := 13) (E := eNA .int zI (eK (.int 60))) d2 hw rfl hk rfl rfl rfl (fun _ => rfl)
  obtain ⟨σ6, f1, f2, f3⟩ := shS_ok (k := 15) (o := 14) (E := eNA .boolean zI (eK (.int 60))) e2 hw rfl hk rfl rfl rfl (fun _ => rfl)
  refine ⟨σ6, ?_, f2, f3.trans (e3.trans (d3.trans (c3.trans (b3.trans a3))))⟩
  unfold m_X0_init
  rw [mth_fin (Nat.le_of_ble_eq_true rfl), b_I]
  have eL : L0 2 [Value.ref σ.2.1, .ref xK] = [.ref σ.2.1, .ref xK] := rfl
  rw [eL]
  have run := prC_run (ci := 0) (r := σ.2.1) (L := [.ref σ.2.1, .ref xK]) (t := (sSeq (shS 10 (eNA .int zI (eK (.int 200)))) (sSeq (shS 11 (eNA .long zL (eK (.int 600)))) (sSeq (shS 12 (eNA .int zI (eK (.int 60)))) (sSeq (shS 13 (eNA .int zI (eK (.int 60)))) (sSeq (shS 14 (eNA .int zI (eK (.int 60)))) (sSeq (shS 15 (eNA .boolean zI (eK (.int 60)))) sR0))))))) rfl ssI (dV tyX0 16) σ.1 (σ.2.1 + 1) (σ.2.2 + 16) (Nat.lt_succ_self _) (by decide)
  have r3 : (rnC ssI (σ.2.1 + 1) (dV tyX0 16)).2.2 = 80 := rfl
  have r4 : (rnC ssI (σ.2.1 + 1) (dV tyX0 16)).2.1.length = 8 := rfl
  rw [lay_I, r3, r4, show σ.2.1 + 1 + 8 = σ.2.1 + iLay.length from rfl, show σ.2.2 + 16 + 80 = σ.2.2 + 96 by omega] at run
  have so : sOI [.ref σ.2.1, .ref xK] (alloc σ (.inr (0, dV tyX0 16)) 16) = some (.inl 0, [.ref σ.2.1, .ref xK], alloc σ (.inr (0, dV tyX0 16)) 16) := rfl
  rw [sSeq_t, so, thn_0]
  unfold alloc
  rw [run]
  have bce : bc (noR w 10) 10 c00 = (c00.1, c00.2, fun _ _ => none) := rfl
  rw [bce] at a1
  rw [sSeq_t, a1, thn_0, sSeq_t, b1, thn_0, sSeq_t, c1, thn_0, sSeq_t, d1, thn_0, sSeq_t, e1, thn_0, sSeq_t, f1, thn_0]
  rfl
end MkI
