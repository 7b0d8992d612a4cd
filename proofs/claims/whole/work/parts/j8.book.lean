/-! ===== a new book (written with gen22.lay) ===== -/
def ssK : List CS := [(0, tyX0 0, .inl (.int 0)), (1, tyX0 1, .inl (.int 0)), (2, tyX0 2, .inr (.int, zI, 10)), (3, tyX0 3, .inr (.int, zI, 10)), (4, tyX0 4, .inr (.int, zI, 10)), (5, tyX0 5, .inr (.int, zI, 10)), (6, tyX0 6, .inr (.int, zI, 10)), (7, tyX0 7, .inr (.boolean, zI, 10)), (8, tyX0 8, .inr (.int, zI, 10)), (9, tyX0 9, .inr (.int, zI, 10)), (10, tyX0 10, .inr (.int, zI, 200)), (11, tyX0 11, .inr (.long, zL, 600)), (12, tyX0 12, .inr (.int, zI, 60)), (13, tyX0 13, .inr (.int, zI, 60)), (14, tyX0 14, .inr (.int, zI, 60)), (15, tyX0 15, .inr (.boolean, zI, 60))]
theorem hi_K : ∀ s ∈ ssK, s.1 < 16 := by
  intro s hs
  simp only [ssK, List.mem_cons, List.not_mem_nil, or_false] at hs
  rcases hs with rfl | rfl | rfl | rfl | rfl | rfl | rfl | rfl | rfl | rfl | rfl | rfl | rfl | rfl | rfl | rfl <;> decide
theorem lay_K {z : Nat} {h : HP} : (fun a => if a = z then some (.inr (0, (rnC ssK (z + 1) (dV tyX0 16)).1)) else laC (z + 1) (rnC ssK (z + 1) (dV tyX0 16)).2.1 h a) = bOv z kLay (c00.1, c00.2, fun _ _ => none) h := by
  have l : (rnC ssK (z + 1) (dV tyX0 16)).2.1.length = 14 := rfl
  have lf : kLay.length = 15 := rfl
  funext a
  unfold bOv laC
  rw [l, lf]
  by_cases e : a = z
  · subst e
    rw [if_pos rfl, if_pos (by omega), Nat.sub_self]
    show _ = (some (Sum.inr (0, bVal a (c00.1, c00.2, fun _ _ => none) 0 [0, 0, 3, 4, 5, 6, 7, 8, 9, 10, 11, 12, 13, 14, 15, 16])) : Option MC)
    refine congrArg (fun f => (some (Sum.inr (0, f)) : Option MC)) (funext fun k => ?_)
    by_cases hk : k < 16
    · rcases (show k = 0 ∨ k = 1 ∨ k = 2 ∨ k = 3 ∨ k = 4 ∨ k = 5 ∨ k = 6 ∨ k = 7 ∨ k = 8 ∨ k = 9 ∨ k = 10 ∨ k = 11 ∨ k = 12 ∨ k = 13 ∨ k = 14 ∨ k = 15 by omega) with rfl | rfl | rfl | rfl | rfl | rfl | rfl | rfl | rfl | rfl | rfl | rfl | rfl | rfl | rfl | rfl <;> rfl
    · rw [rnC_hi ssK _ _ (fun s hs => by have := hi_K s hs; omega)]
      obtain ⟨m, rfl⟩ : ∃ m, k = m + 16 := ⟨k - 16, by omega⟩
      rfl
  · rw [if_neg e]
    by_cases e2 : z + 1 ≤ a ∧ a < z + 1 + 14
    · rw [if_pos e2, if_pos (by omega)]
      rcases (show a = z + 1 ∨ a = z + 2 ∨ a = z + 3 ∨ a = z + 4 ∨ a = z + 5 ∨ a = z + 6 ∨ a = z + 7 ∨ a = z + 8 ∨ a = z + 9 ∨ a = z + 10 ∨ a = z + 11 ∨ a = z + 12 ∨ a = z + 13 ∨ a = z + 14 by omega) with q | q | q | q | q | q | q | q | q | q | q | q | q | q
      · rw [show a - (z + 1) = 0 by omega, show a - z = 1 by omega]; rfl
      · rw [show a - (z + 1) = 1 by omega, show a - z = 2 by omega]; rfl
      · rw [show a - (z + 1) = 2 by omega, show a - z = 3 by omega]; rfl
      · rw [show a - (z + 1) = 3 by omega, show a - z = 4 by omega]; rfl
      · rw [show a - (z + 1) = 4 by omega, show a - z = 5 by omega]; rfl
      · rw [show a - (z + 1) = 5 by omega, show a - z = 6 by omega]; rfl
      · rw [show a - (z + 1) = 6 by omega, show a - z = 7 by omega]; rfl
      · rw [show a - (z + 1) = 7 by omega, show a - z = 8 by omega]; rfl
      · rw [show a - (z + 1) = 8 by omega, show a - z = 9 by omega]; rfl
      · rw [show a - (z + 1) = 9 by omega, show a - z = 10 by omega]; rfl
      · rw [show a - (z + 1) = 10 by omega, show a - z = 11 by omega]; rfl
      · rw [show a - (z + 1) = 11 by omega, show a - z = 12 by omega]; rfl
      · rw [show a - (z + 1) = 12 by omega, show a - z = 13 by omega]; rfl
      · rw [show a - (z + 1) = 13 by omega, show a - z = 14 by omega]; rfl
    · rw [if_neg e2, if_neg (by omega)]

theorem seq_P2 {op : Value → Value → ST → Option ST} {e1 e2 : XE} {X Y : XS} {L : List Value} (h : ∀ s, X L s = Y L s) : ∀ s, sSeq (sP2 op e1 e2) X L s = sSeq (sP2 op e1 e2) Y L s := by
  intro s
  unfold sSeq sP2
  cases e1 L s with
  | none => rfl
  | some r =>
    dsimp only [Option.bind_some]
    cases e2 L r.2 with
    | none => rfl
    | some q =>
      dsimp only [Option.bind_some]
      cases op r.1 q.1 q.2 with
      | none => rfl
      | some t => exact h t
theorem shS_null {k z : Nat} {E : XE} (s : ST) : shS k E [.ref z, .null] s = sP2 (pF 0 k (tyX0 k)) (eA 0) E [.ref z, .null] s := rfl
theorem seq_sh {k z : Nat} {E : XE} {X Y : XS} (h : ∀ s, X [.ref z, .null] s = Y [.ref z, .null] s) : ∀ s, sSeq (shS k E) X [.ref z, .null] s = sSeq (sP2 (pF 0 k (tyX0 k)) (eA 0) E) Y [.ref z, .null] s := fun s => seq_P2 (op := pF 0 k (tyX0 k)) (e1 := eA 0) (e2 := E) h s
theorem prC_app {ci : Nat} {t : XS} : ∀ (a b : List CS), prC ci (a ++ b) t = prC ci a (prC ci b t)
  | [], b => rfl
  | s :: r, b => by
    show sSeq (stC ci s) (prC ci (r ++ b) t) = sSeq (stC ci s) (prC ci r (prC ci b t))
    rw [prC_app r b]
def ssJ : List CS := [(10, tyX0 10, .inr (.int, zI, 200)), (11, tyX0 11, .inr (.long, zL, 600)), (12, tyX0 12, .inr (.int, zI, 60)), (13, tyX0 13, .inr (.int, zI, 60)), (14, tyX0 14, .inr (.int, zI, 60)), (15, tyX0 15, .inr (.boolean, zI, 60))]
theorem ssK_eq : ssK = ssI ++ ssJ := rfl
theorem tl_K {z : Nat} : ∀ s, (sSeq (shS 10 (eNA .int zI (eK (.int 200)))) (sSeq (shS 11 (eNA .long zL (eK (.int 600)))) (sSeq (shS 12 (eNA .int zI (eK (.int 60)))) (sSeq (shS 13 (eNA .int zI (eK (.int 60)))) (sSeq (shS 14 (eNA .int zI (eK (.int 60)))) (sSeq (shS 15 (eNA .boolean zI (eK (.int 60)))) sR0)))))) [.ref z, .null] s = prC 0 ssJ sR0 [.ref z, .null] s := fun s => seq_sh (seq_sh (seq_sh (seq_sh (seq_sh (seq_sh (fun _ => rfl)))))) s
/-- the steps ahead leave the locals as they are -/
theorem prC_cg {ci : Nat} {t t' : XS} {L : List Value} (h : ∀ s, t L s = t' L s) : ∀ (a : List CS) (s : ST), prC ci a t L s = prC ci a t' L s
  | [], s => h s
  | (k, ty, .inl v) :: r, s => seq_P2 (op := pF ci k ty) (e1 := eA 0) (e2 := eK v) (fun s => prC_cg h r s) s
  | (k, ty, .inr (ft, x, n)) :: r, s => seq_P2 (op := pF ci k ty) (e1 := eA 0) (e2 := eNA ft x (eK (.int (Int32.ofNat n)))) (fun s => prC_cg h r s) s
theorem init_K {σ : ST} : m_X0_init [.ref σ.2.1, .null] (alloc σ (.inr (0, dV tyX0 16)) 16) = some (none, (bOv σ.2.1 kLay (c00.1, c00.2, fun _ _ => none) σ.1, σ.2.1 + 15, σ.2.2 + 1136)) := by
  unfold m_X0_init
  rw [mth_fin (Nat.le_of_ble_eq_true rfl), b_I]
  have eL : L0 2 [Value.ref σ.2.1, .null] = [.ref σ.2.1, .null] := rfl
  rw [eL]
  have run := prC_run (ci := 0) (r := σ.2.1) (L := [.ref σ.2.1, .null]) (t := sR0) rfl ssK (dV tyX0 16) σ.1 (σ.2.1 + 1) (σ.2.2 + 16) (Nat.lt_succ_self _) (by decide)
  have r3 : (rnC ssK (σ.2.1 + 1) (dV tyX0 16)).2.2 = 1120 := rfl
  have r4 : (rnC ssK (σ.2.1 + 1) (dV tyX0 16)).2.1.length = 14 := rfl
  rw [lay_K, r3, r4, show σ.2.1 + 1 + 14 = σ.2.1 + 15 from rfl, show σ.2.2 + 16 + 1120 = σ.2.2 + 1136 by omega, ssK_eq, prC_app, ← prC_cg tl_K ssI] at run
  have so : sOI [.ref σ.2.1, .null] (alloc σ (.inr (0, dV tyX0 16)) 16) = some (.inl 0, [.ref σ.2.1, .null], alloc σ (.inr (0, dV tyX0 16)) 16) := rfl
  rw [sSeq_t, so, thn_0]
  unfold alloc
  rw [run]
  rfl
