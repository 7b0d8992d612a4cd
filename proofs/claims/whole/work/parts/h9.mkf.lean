/-! ===== the finder is made ===== -/
def c00 : CT := (fun _ _ => 0, fun _ _ => 0)
def frF : CT := (fun j k => if j = 2 ∧ k < 5 then -1 else 0, fun _ _ => 0)
theorem forget_0 : k_X1_forget c00 (fun F => F = frF) ∧ k_X1_forget frF (fun F => F = frF) := by
  have go : ∀ c : CT, (∀ j k, ¬ (j = 2 ∧ k < 5) → c.1 j k = 0) → (∀ j k, c.2 j k = 0) → k_X1_forget c (fun F => F = frF) := fun c e1 e2 => by
    unfold k_X1_forget
    intro S hS
    refine hS _ _ ?_
    dsimp only
    rw [if_neg (by decide), show (0 : Int32) = nI 0 from rfl, wrI_n (by omega) (by omega), inc_n]
    refine hS _ _ ?_
    dsimp only
    rw [if_neg (by decide), wrI_n (by omega) (by omega), inc_n]
    refine hS _ _ ?_
    dsimp only
    rw [if_neg (by decide), wrI_n (by omega) (by omega), inc_n]
    refine hS _ _ ?_
    dsimp only
    rw [if_neg (by decide), wrI_n (by omega) (by omega), inc_n]
    refine hS _ _ ?_
    dsimp only
    rw [if_neg (by decide), wrI_n (by omega) (by omega), inc_n]
    refine hS _ _ ?_
    dsimp only
    rw [if_pos (by decide)]
    refine Prod.ext (funext fun j => funext fun k => ?_) (funext fun j => funext fun k => e2 j k)
    show _ = (if j = 2 ∧ k < 5 then (-1 : Int32) else 0)
    by_cases z : j = 2 ∧ k < 5
    · rw [if_pos z]
      obtain ⟨rfl, z⟩ := z
      rcases (show k = 0 ∨ k = 1 ∨ k = 2 ∨ k = 3 ∨ k = 4 by omega) with rfl | rfl | rfl | rfl | rfl
      · rw [sI_ne (by omega), sI_ne (by omega), sI_ne (by omega), sI_ne (by omega), sI_same]
      · rw [sI_ne (by omega), sI_ne (by omega), sI_ne (by omega), sI_same]
      · rw [sI_ne (by omega), sI_ne (by omega), sI_same]
      · rw [sI_ne (by omega), sI_same]
      · rw [sI_same]
    · rw [if_neg z, sI_ne (by omega), sI_ne (by omega), sI_ne (by omega), sI_ne (by omega), sI_ne (by omega)]
      exact e1 j k z
  exact ⟨go c00 (fun _ _ _ => rfl) (fun _ _ => rfl), go frF (fun j k z => if_neg z) (fun _ _ => rfl)⟩
theorem rnC_hi {k : Nat} : ∀ (ss : List CS) (z : Nat) (V : Nat → Value), (∀ s ∈ ss, s.1 ≠ k) → (rnC ss z V).1 k = V k
  | [], z, V, h => rfl
  | (k', ty, .inl v) :: r, z, V, h => by
    show (rnC r z (updV V k' v)).1 k = V k
    rw [rnC_hi r z _ fun s hs => h s (List.mem_cons_of_mem _ hs)]
    unfold updV
    exact if_neg fun q => h (k', ty, .inl v) List.mem_cons_self q.symm
  | (k', ty, .inr q) :: r, z, V, h => by
    show (rnC r (z + 1) (updV V k' (.ref z))).1 k = V k
    rw [rnC_hi r (z + 1) _ fun s hs => h s (List.mem_cons_of_mem _ hs)]
    unfold updV
    exact if_neg fun q' => h (k', ty, .inr q) List.mem_cons_self q'.symm
def ssF : List CS := [(0, tyX1 0, .inr (.int, zI, 5)), (1, tyX1 1, .inr (.int, zI, 5)), (2, tyX1 2, .inr (.boolean, zI, 5)), (3, tyX1 3, .inr (.int, zI, 5)), (4, tyX1 4, .inr (.int, zI, 5)), (5, tyX1 5, .inr (.int, zI, 5)), (6, tyX1 6, .inr (.int, zI, 60)), (7, tyX1 7, .inr (.int, zI, 63)), (8, tyX1 8, .inr (.int, zI, 12)), (9, tyX1 9, .inr (.int, zI, 12)), (10, tyX1 10, .inr (.int, zI, 756)), (11, tyX1 11, .inr (.int, zI, 756)), (12, tyX1 12, .inr (.int, zI, 4096)), (13, tyX1 13, .inl (.int 0))]
theorem b_F : b_X1_init = sSeq sOI (prC 1 ssF b_X1_forget) := rfl
theorem lay_F {w : WR} {z : Nat} {h : HP} : (fun a => if a = z then some (.inr (1, (rnC ssF (z + 1) (dV tyX1 14)).1)) else laC (z + 1) (rnC ssF (z + 1) (dV tyX1 14)).2.1 h a) = bOv z fLay (bc w 5 c00) h := by
  have l : (rnC ssF (z + 1) (dV tyX1 14)).2.1.length = 13 := rfl
  funext a
  unfold bOv laC
  rw [l]
  have lf : fLay.length = 14 := rfl
  rw [lf]
  by_cases e : a = z
  · subst e
    rw [if_pos rfl, if_pos (by omega), Nat.sub_self]
    show _ = (some (Sum.inr (1, bVal a (bc w 5 c00) 0 [3, 4, 5, 6, 7, 8, 9, 10, 11, 12, 13, 14, 15, 0])) : Option MC)
    refine congrArg (fun f => (some (Sum.inr (1, f)) : Option MC)) (funext fun k => ?_)
    by_cases hk : k < 14
    · rcases (show k = 0 ∨ k = 1 ∨ k = 2 ∨ k = 3 ∨ k = 4 ∨ k = 5 ∨ k = 6 ∨ k = 7 ∨ k = 8 ∨ k = 9 ∨ k = 10 ∨ k = 11 ∨ k = 12 ∨ k = 13 by omega) with rfl | rfl | rfl | rfl | rfl | rfl | rfl | rfl | rfl | rfl | rfl | rfl | rfl | rfl <;> rfl
    · rw [rnC_hi ssF _ _ (by
        intro s hs
        have : ∀ s ∈ ssF, s.1 < 14 := by
          intro s hs
          simp only [ssF, List.mem_cons, List.not_mem_nil, or_false] at hs
          rcases hs with rfl | rfl | rfl | rfl | rfl | rfl | rfl | rfl | rfl | rfl | rfl | rfl | rfl | rfl <;> decide
        have := this s hs
        omega)]
      obtain ⟨m, rfl⟩ : ∃ m, k = m + 14 := ⟨k - 14, by omega⟩
      rfl
  · rw [if_neg e]
    by_cases e2 : z + 1 ≤ a ∧ a < z + 1 + 13
    · rw [if_pos e2, if_pos (by omega)]
      rcases (show a = z + 1 ∨ a = z + 2 ∨ a = z + 3 ∨ a = z + 4 ∨ a = z + 5 ∨ a = z + 6 ∨ a = z + 7 ∨ a = z + 8 ∨ a = z + 9 ∨ a = z + 10 ∨ a = z + 11 ∨ a = z + 12 ∨ a = z + 13 by omega) with q | q | q | q | q | q | q | q | q | q | q | q | q
      · rw [show a - (z + 1) = 0 by omega, show a - z = 1 by omega]; rfl
      · rw [show a - (z + 1) = 1 by omega, show a - z = 2 by omega]; rfl
      · rw [show a - (z + 1) = 2 by omega, show a - z = 3 by omega]; rfl
      · rw [show a - (z + 1) = 3 by omega, show a - z = 4 by omega]; rfl
      · rw [show a - (z + 1) = 4 by omega, show a - z = 5 by omega]; rfl
      · rw [show a - (z + 1) = 5 by omega, show a - z = 6 by omega]; rfl
      · rw [show a - (z + 1) = 6 by omega, show a - z = 7 by omega]; rfl
      · rw [show a - (z + 1) = 7 by omega, show a - z = 8 by omega]; rfl
      · rw [show a - (z + 1) = 8 by omega, show a - z = 9 by omega]; rfl
      · rw [show a - (z + 1) = 9 by omega, show a - z = 10 by omega]; rfl
      · rw [show a - (z + 1) = 10 by omega, show a - z = 11 by omega]; rfl
      · rw [show a - (z + 1) = 11 by omega, show a - z = 12 by omega]; rfl
      · rw [show a - (z + 1) = 12 by omega, show a - z = 13 by omega]; rfl
    · rw [if_neg e2, if_neg (by omega)]
/-- contents of a dead block don't count -/
theorem Hd.dead {w : WR} {C : List CT} {σ : ST} {b r : Nat} {c : CT} (h : Hd w C σ) (hd : w.1[b]? = some (r, [])) (b6 : b = 6 → ∃ r', w.1[13]? = some (r', [])) : Hd w (C.set b c) σ := by
  obtain ⟨h1, h2, h3, h4⟩ := h
  refine ⟨h1, h2, fun b1 q1 c1 b13 e1 ec j hj => ?_, fun q1 c1 e1 ec j hj => ?_⟩
  · by_cases e : b = b1
    · subst e
      rw [hd] at e1
      cases e1
      exact absurd hj (Nat.not_lt_zero _)
    · rw [List.getElem?_set_ne e] at ec
      exact h3 _ _ _ b13 e1 ec j hj
  · by_cases e : b = 6
    · obtain ⟨r', hr⟩ := b6 e
      rw [hr] at e1
      cases e1
      exact absurd hj (Nat.not_lt_zero _)
    · rw [List.getElem?_set_ne e] at ec
      exact h4 _ _ e1 ec j hj
section MkF
variable {w : WR} {xH r5 : Nat} {cH cP cS cR cK cF cW cT cN cU cI cM cO : CT}
theorem init_F {σ : ST} (hd : w.1[5]? = some (r5, [])) (h : Hd w [cH, cP, cS, cR, cK, cF, cW, cT, cN, cU, cI, cM, cO] σ) : ∃ σ', m_X1_init [.ref σ.2.1] (alloc σ (.inr (1, dV tyX1 14)) 14) = some (none, σ') ∧ Hd (w.1.set 5 (σ.2.1, fLay), w.2) [cH, cP, cS, cR, cK, frF, cW, cT, cN, cU, cI, cM, cO] σ' ∧ σ'.2 = (σ.2.1 + 14, σ.2.2 + 5799) := by
  have h0 : Hd w [cH, cP, cS, cR, cK, c00, cW, cT, cN, cU, cI, cM, cO] σ := h.dead (c := c00) hd (fun e => absurd e (by decide))
  have h1 := h0.new (b := 5) (c := c00) (lay := fLay) (sl := σ.2.2 + 5799) (by decide) rfl
  obtain ⟨v, σ', C', e1, e2, e3, dF, rfl, rfl, rfl⟩ := s_X1_forget (xF := σ.2.1) (w := (w.1.set 5 (σ.2.1, fLay), w.2)) (by
    have : 5 < w.1.length := (List.getElem?_eq_some_iff.mp hd).1
    exact List.getElem?_set_self this) forget_0.1 _ h1
  refine ⟨σ', ?_, e2, e3⟩
  rw [← e1]
  unfold m_X1_init m_X1_forget
  rw [mth_fin (Nat.le_of_ble_eq_true rfl), mth_fin (Nat.le_of_ble_eq_true rfl), b_F]
  have eL : L0 2 [Value.ref σ.2.1] = [.ref σ.2.1, UV] := rfl
  rw [eL]
  have run := prC_run (ci := 1) (r := σ.2.1) (L := [.ref σ.2.1, UV]) (t := b_X1_forget) rfl ssF (dV tyX1 14) σ.1 (σ.2.1 + 1) (σ.2.2 + 14) (Nat.lt_succ_self _) (by decide)
  have e3 : (rnC ssF (σ.2.1 + 1) (dV tyX1 14)).2.2 = 5785 := rfl
  have e4 : (rnC ssF (σ.2.1 + 1) (dV tyX1 14)).2.1.length = 13 := rfl
  rw [lay_F (w := w), e3, e4, show σ.2.1 + 1 + 13 = σ.2.1 + fLay.length from rfl, show σ.2.2 + 14 + 5785 = σ.2.2 + 5799 by omega] at run
  have so : sOI [.ref σ.2.1, UV] (alloc σ (.inr (1, dV tyX1 14)) 14) = some (.inl 0, [.ref σ.2.1, UV], alloc σ (.inr (1, dV tyX1 14)) 14) := rfl
  rw [sSeq_t, so, thn_0]
  unfold alloc
  rw [run]
theorem fin_new {σ : ST} (bH : w.1[0]? = some (xH, hLay)) (rn : w.2 0 0 8 = none) (hd : w.1[5]? = some (r5, [])) (h : Hd w [cH, cP, cS, cR, cK, cF, cW, cT, cN, cU, cI, cM, cO] σ) : ∃ σ', m_X11_finder [.ref xH] σ = some (some (.ref σ.2.1), σ') ∧ Hd (w.1.set 5 (σ.2.1, fLay), upRf w.2 0 0 8 (some σ.2.1)) [cH, cP, cS, cR, cK, frF, cW, cT, cN, cU, cI, cM, cO] σ' ∧ σ'.2 = (σ.2.1 + 14, σ.2.2 + 5799) := by
  obtain ⟨σ1, i1, i2, i3⟩ := init_F hd h
  have bH' : (w.1.set 5 (σ.2.1, fLay), w.2).1[0]? = some (xH, hLay) := (List.getElem?_set_ne (by decide)).trans bH
  obtain ⟨σ2, s1, s2, s3⟩ := i2.stR (b := 0) (j := 0) (k := 8) (a := σ.2.1) (ty := tyX11 8) (by decide) bH' rfl rfl rfl rfl
  have g0 : gF 11 8 (.ref xH) σ = some .null := by
    rw [h.ov (by decide) bH rfl]
    have := gF_r (r := xH) (j := 0) (k := 8) (lay := hLay) (c := bc w 0 cH) (rest := σ.1) (z := σ.2) rfl rfl
    refine this.trans ?_
    show some (va_rf (w.2 0 0 8)) = _
    rw [rn]
    rfl
  have bH2 : (w.1.set 5 (σ.2.1, fLay), upRf w.2 0 0 8 (some σ.2.1)).1[0]? = some (xH, hLay) := bH'
  have g2 : gF 11 8 (.ref xH) σ2 = some (.ref σ.2.1) := by
    rw [s2.ov (by decide) bH2 rfl]
    have := gF_r (r := xH) (j := 0) (k := 8) (lay := hLay) (c := bc (w.1.set 5 (σ.2.1, fLay), upRf w.2 0 0 8 (some σ.2.1)) 0 cH) (rest := σ2.1) (z := σ2.2) rfl rfl
    exact this
  refine ⟨σ2, ?_, s2, s3.trans i3⟩
  unfold m_X11_finder
  rw [mth_fin (Nat.le_of_ble_eq_true rfl)]
  have eL : L0 1 [Value.ref xH] = [.ref xH] := rfl
  rw [eL]
  have eNw : eNew 1 14 (dV tyX1 14) m_X1_init [] [.ref xH] σ = some (.ref σ.2.1, σ1) := by
    unfold eNew evL
    dsimp only [Option.bind_some]
    rw [i1]
    rfl
  have st : sP2 (pF 11 8 (tyX11 8)) (eA 0) (eNew 1 14 (dV tyX1 14) m_X1_init []) [.ref xH] σ = some (.inl 0, [.ref xH], σ2) := by
    unfold sP2
    have ea : eA 0 [.ref xH] σ = some (.ref xH, σ) := rfl
    rw [ea, Option.bind_some]
    dsimp only
    rw [eNw, Option.bind_some]
    dsimp only
    rw [show pF 11 8 (tyX11 8) (.ref xH) (.ref σ.2.1) σ1 = some σ2 from s1]
    rfl
  have cnd : sBrIf (c1 z_nonnull (eU (gF 11 8) (eA 0))) 1 [.ref xH] σ = some (.inl 0, [.ref xH], σ) := by
    unfold sBrIf c1 eU
    have ea : eA 0 [.ref xH] σ = some (.ref xH, σ) := rfl
    rw [ea, Option.bind_some]
    dsimp only
    rw [g0]
    rfl
  have blk : sBlk (sSeq (sBrIf (c1 z_nonnull (eU (gF 11 8) (eA 0))) 1) (sP2 (pF 11 8 (tyX11 8)) (eA 0) (eNew 1 14 (dV tyX1 14) m_X1_init []))) [.ref xH] σ = some (.inl 0, [.ref xH], σ2) := by
    unfold sBlk sSeq
    rw [cnd, Option.bind_some]
    dsimp only
    rw [st]
    rfl
  unfold b_X11_finder
  have ra : sRA (eU (gF 11 8) (eA 0)) [.ref xH] σ2 = some (.inr (some (.ref σ.2.1)), [.ref xH], σ2) := by
    unfold sRA eU
    have ea : eA 0 [.ref xH] σ2 = some (.ref xH, σ2) := rfl
    rw [ea, Option.bind_some]
    dsimp only
    rw [g2]
    rfl
  have e := sSeq_t (a := sBlk (sSeq (sBrIf (c1 z_nonnull (eU (gF 11 8) (eA 0))) 1) (sP2 (pF 11 8 (tyX11 8)) (eA 0) (eNew 1 14 (dV tyX1 14) m_X1_init [])))) (b := sRA (eU (gF 11 8) (eA 0))) (L := [.ref xH]) (σ := σ)
  rw [e, blk]
  show fin (sRA (eU (gF 11 8) (eA 0)) [.ref xH] σ2) = _
  rw [ra]
  rfl
end MkF
