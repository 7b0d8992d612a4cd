/-! ===== a new reference; a new reader ===== -/
def frM : CT := (fun j k => if j = 0 ∧ k = 69 then -1 else 0, fun _ _ => 0)
def ssM : List CS := [(1, tyX12 1, .inr (.int, zI, 900)), (3, tyX12 3, .inr (.int, zI, 8)), (4, tyX12 4, .inr (.int, zI, 8)), (5, tyX12 5, .inr (.int, zI, 6)), (6, tyX12 6, .inr (.int, zI, 6)), (7, tyX12 7, .inr (.int, zI, 6)), (8, tyX12 8, .inr (.int, zI, 10)), (9, tyX12 9, .inr (.int, zI, 10)), (10, tyX12 10, .inr (.int, zI, 10)), (11, tyX12 11, .inr (.int, zI, 10)), (12, tyX12 12, .inr (.int, zI, 10)), (13, tyX12 13, .inr (.int, zI, 10)), (14, tyX12 14, .inr (.int, zI, 120)), (15, tyX12 15, .inr (.int, zI, 120)), (16, tyX12 16, .inr (.int, zI, 6)), (17, tyX12 17, .inr (.int, zI, 6)), (18, tyX12 18, .inr (.int, zI, 6)), (19, tyX12 19, .inr (.int, zI, 6)), (20, tyX12 20, .inr (.int, zI, 20)), (21, tyX12 21, .inr (.int, zI, 20)), (22, tyX12 22, .inr (.int, zI, 20)), (23, tyX12 23, .inr (.int, zI, 20)), (24, tyX12 24, .inr (.int, zI, 20)), (25, tyX12 25, .inr (.int, zI, 20)), (26, tyX12 26, .inr (.int, zI, 20)), (27, tyX12 27, .inr (.int, zI, 20)), (28, tyX12 28, .inr (.boolean, zI, 20)), (29, tyX12 29, .inr (.int, zI, 20)), (30, tyX12 30, .inr (.int, zI, 20)), (31, tyX12 31, .inr (.boolean, zI, 400)), (32, tyX12 32, .inr (.int, zI, 128)), (33, tyX12 33, .inr (.int, zI, 128)), (69, tyX12 69, .inl (.int (-1))), (71, tyX12 71, .inr (.int, zI, 756)), (72, tyX12 72, .inr (.int, zI, 756)), (74, tyX12 74, .inr (.int, zI, 4096)), (75, tyX12 75, .inr (.int, zI, 12)), (79, tyX12 79, .inr (.int, zI, 20)), (80, tyX12 80, .inr (.int, zI, 20)), (81, tyX12 81, .inr (.int, zI, 20)), (82, tyX12 82, .inr (.int, zI, 20)), (83, tyX12 83, .inr (.int, zI, 20)), (84, tyX12 84, .inr (.int, zI, 20)), (85, tyX12 85, .inr (.int, zI, 20)), (86, tyX12 86, .inr (.int, zI, 20)), (87, tyX12 87, .inr (.int, zI, 600)), (88, tyX12 88, .inr (.int, zI, 400)), (89, tyX12 89, .inr (.int, zI, 4000)), (90, tyX12 90, .inr (.int, zI, 4000)), (91, tyX12 91, .inr (.int, zI, 120)), (92, tyX12 92, .inr (.int, zI, 120)), (96, tyX12 96, .inr (.boolean, zI, 60)), (97, tyX12 97, .inr (.int, zI, 5)), (98, tyX12 98, .inr (.long, zL, 64)), (100, tyX12 100, .inr (.int, zI, 10)), (102, tyX12 102, .inr (.int, zI, 896)), (103, tyX12 103, .inr (.int, zI, 10)), (104, tyX12 104, .inr (.int, zI, 10)), (105, tyX12 105, .inr (.int, zI, 10)), (106, tyX12 106, .inr (.int, zI, 3))]
def slC : List CS → Nat
  | [] => 0
  | s :: r => (match s.2.2 with
    | .inl _ => 0
    | .inr q => q.2.2) + slC r
theorem rnC_sl : ∀ (ss : List CS) (z : Nat) (V : Nat → Value), (rnC ss z V).2.2 = slC ss
  | [], _, _ => rfl
  | (k, ty, .inl v) :: r, z, V => by
    show (rnC r z (updV V k v)).2.2 = 0 + slC r
    rw [rnC_sl r, Nat.zero_add]
  | (k, ty, .inr q) :: r, z, V => by
    show q.2.2 + (rnC r (z + 1) (updV V k (.ref z))).2.2 = q.2.2 + slC r
    rw [rnC_sl r]
theorem slM : slC ssM = 18222 := by decide
theorem b_M : b_X12_init = sSeq sOI (prC 12 ssM sR0) := rfl
theorem hi_M : ∀ s ∈ ssM, s.1 < 108 := fun s hs => by
  have := List.all_eq_true.mp (show ssM.all (fun s => decide (s.1 < 108)) = true by decide) s hs
  exact of_decide_eq_true this
theorem vM {z : Nat} : ∀ k, (rnC ssM (z + 1) (dV tyX12 108)).1 k = bVal z (frM.1, frM.2, fun _ _ => none) 0 mKs k
  | 0 => rfl
  | 1 => rfl
  | 2 => rfl
  | 3 => rfl
  | 4 => rfl
  | 5 => rfl
  | 6 => rfl
  | 7 => rfl
  | 8 => rfl
  | 9 => rfl
  | 10 => rfl
  | 11 => rfl
  | 12 => rfl
  | 13 => rfl
  | 14 => rfl
  | 15 => rfl
  | 16 => rfl
  | 17 => rfl
  | 18 => rfl
  | 19 => rfl
  | 20 => rfl
  | 21 => rfl
  | 22 => rfl
  | 23 => rfl
  | 24 => rfl
  | 25 => rfl
  | 26 => rfl
  | 27 => rfl
  | 28 => rfl
  | 29 => rfl
  | 30 => rfl
  | 31 => rfl
  | 32 => rfl
  | 33 => rfl
  | 34 => rfl
  | 35 => rfl
  | 36 => rfl
  | 37 => rfl
  | 38 => rfl
  | 39 => rfl
  | 40 => rfl
  | 41 => rfl
  | 42 => rfl
  | 43 => rfl
  | 44 => rfl
  | 45 => rfl
  | 46 => rfl
  | 47 => rfl
  | 48 => rfl
  | 49 => rfl
  | 50 => rfl
  | 51 => rfl
  | 52 => rfl
  | 53 => rfl
  | 54 => rfl
  | 55 => rfl
  | 56 => rfl
  | 57 => rfl
  | 58 => rfl
  | 59 => rfl
  | 60 => rfl
  | 61 => rfl
  | 62 => rfl
  | 63 => rfl
  | 64 => rfl
  | 65 => rfl
  | 66 => rfl
  | 67 => rfl
  | 68 => rfl
  | 69 => rfl
  | 70 => rfl
  | 71 => rfl
  | 72 => rfl
  | 73 => rfl
  | 74 => rfl
  | 75 => rfl
  | 76 => rfl
  | 77 => rfl
  | 78 => rfl
  | 79 => rfl
  | 80 => rfl
  | 81 => rfl
  | 82 => rfl
  | 83 => rfl
  | 84 => rfl
  | 85 => rfl
  | 86 => rfl
  | 87 => rfl
  | 88 => rfl
  | 89 => rfl
  | 90 => rfl
  | 91 => rfl
  | 92 => rfl
  | 93 => rfl
  | 94 => rfl
  | 95 => rfl
  | 96 => rfl
  | 97 => rfl
  | 98 => rfl
  | 99 => rfl
  | 100 => rfl
  | 101 => rfl
  | 102 => rfl
  | 103 => rfl
  | 104 => rfl
  | 105 => rfl
  | 106 => rfl
  | 107 => rfl
  | m + 108 => by
    rw [rnC_hi ssM _ _ (fun s hs => by have := hi_M s hs; omega)]
    rfl
theorem cM {z : Nat} : ∀ j, j < 59 → (rnC ssM (z + 1) (dV tyX12 108)).2.1[j]? = bCell z mLay (frM.1, frM.2, fun _ _ => none) (j + 1)
  | 0, _ => rfl
  | 1, _ => rfl
  | 2, _ => rfl
  | 3, _ => rfl
  | 4, _ => rfl
  | 5, _ => rfl
  | 6, _ => rfl
  | 7, _ => rfl
  | 8, _ => rfl
  | 9, _ => rfl
  | 10, _ => rfl
  | 11, _ => rfl
  | 12, _ => rfl
  | 13, _ => rfl
  | 14, _ => rfl
  | 15, _ => rfl
  | 16, _ => rfl
  | 17, _ => rfl
  | 18, _ => rfl
  | 19, _ => rfl
  | 20, _ => rfl
  | 21, _ => rfl
  | 22, _ => rfl
  | 23, _ => rfl
  | 24, _ => rfl
  | 25, _ => rfl
  | 26, _ => rfl
  | 27, _ => rfl
  | 28, _ => rfl
  | 29, _ => rfl
  | 30, _ => rfl
  | 31, _ => rfl
  | 32, _ => rfl
  | 33, _ => rfl
  | 34, _ => rfl
  | 35, _ => rfl
  | 36, _ => rfl
  | 37, _ => rfl
  | 38, _ => rfl
  | 39, _ => rfl
  | 40, _ => rfl
  | 41, _ => rfl
  | 42, _ => rfl
  | 43, _ => rfl
  | 44, _ => rfl
  | 45, _ => rfl
  | 46, _ => rfl
  | 47, _ => rfl
  | 48, _ => rfl
  | 49, _ => rfl
  | 50, _ => rfl
  | 51, _ => rfl
  | 52, _ => rfl
  | 53, _ => rfl
  | 54, _ => rfl
  | 55, _ => rfl
  | 56, _ => rfl
  | 57, _ => rfl
  | 58, _ => rfl
  | m + 59, h => absurd h (by omega)
theorem lay_M {z : Nat} {h : HP} : (fun a => if a = z then some (.inr (12, (rnC ssM (z + 1) (dV tyX12 108)).1)) else laC (z + 1) (rnC ssM (z + 1) (dV tyX12 108)).2.1 h a) = bOv z mLay (frM.1, frM.2, fun _ _ => none) h := by
  have l : (rnC ssM (z + 1) (dV tyX12 108)).2.1.length = 59 := rfl
  have lf : mLay.length = 60 := rfl
  funext a
  unfold bOv laC
  rw [l, lf]
  by_cases e : a = z
  · subst e
    rw [if_pos rfl, if_pos (by omega), Nat.sub_self]
    show _ = (some (Sum.inr (12, bVal a (frM.1, frM.2, fun _ _ => none) 0 mKs)) : Option MC)
    exact congrArg (fun f => (some (Sum.inr (12, f)) : Option MC)) (funext fun k => vM k)
  · rw [if_neg e]
    by_cases e2 : z + 1 ≤ a ∧ a < z + 1 + 59
    · rw [if_pos e2, if_pos (by omega), cM _ (by omega), show a - (z + 1) + 1 = a - z by omega]
    · rw [if_neg e2, if_neg (by omega)]
theorem init_M {σ : ST} : m_X12_init [.ref σ.2.1] (alloc σ (.inr (12, dV tyX12 108)) 108) = some (none, (bOv σ.2.1 mLay (frM.1, frM.2, fun _ _ => none) σ.1, σ.2.1 + 60, σ.2.2 + 18330)) := by
  unfold m_X12_init
  rw [mth_fin (Nat.le_of_ble_eq_true rfl), b_M]
  have eL : L0 1 [Value.ref σ.2.1] = [.ref σ.2.1] := rfl
  rw [eL]
  have run := prC_run (ci := 12) (r := σ.2.1) (L := [.ref σ.2.1]) (t := sR0) rfl ssM (dV tyX12 108) σ.1 (σ.2.1 + 1) (σ.2.2 + 108) (Nat.lt_succ_self _) (by decide)
  have r3 : (rnC ssM (σ.2.1 + 1) (dV tyX12 108)).2.2 = 18222 := (rnC_sl ssM _ _).trans slM
  have r4 : (rnC ssM (σ.2.1 + 1) (dV tyX12 108)).2.1.length = 59 := rfl
  rw [lay_M, r3, r4, show σ.2.1 + 1 + 59 = σ.2.1 + 60 by omega, show σ.2.2 + 108 + 18222 = σ.2.2 + 18330 by omega] at run
  have so : sOI [.ref σ.2.1] (alloc σ (.inr (12, dV tyX12 108)) 108) = some (.inl 0, [.ref σ.2.1], alloc σ (.inr (12, dV tyX12 108)) 108) := rfl
  rw [sSeq_t, so, thn_0]
  unfold alloc
  rw [run]
  rfl
theorem b_Rd : b_X7_init = sSeq sOI (prC 7 ssR sR0) := rfl
theorem init_Rd {σ : ST} : m_X7_init [.ref σ.2.1] (alloc σ (.inr (7, dV tyX7 15)) 15) = some (none, (bOv σ.2.1 rLay (frR.1, frR.2, fun _ _ => none) σ.1, σ.2.1 + 5, σ.2.2 + 2790)) := by
  unfold m_X7_init
  rw [mth_fin (Nat.le_of_ble_eq_true rfl), b_Rd]
  have eL : L0 1 [Value.ref σ.2.1] = [.ref σ.2.1] := rfl
  rw [eL]
  have run := prC_run (ci := 7) (r := σ.2.1) (L := [.ref σ.2.1]) (t := sR0) rfl ssR (dV tyX7 15) σ.1 (σ.2.1 + 1) (σ.2.2 + 15) (Nat.lt_succ_self _) (by decide)
  have r3 : (rnC ssR (σ.2.1 + 1) (dV tyX7 15)).2.2 = 2775 := rfl
  have r4 : (rnC ssR (σ.2.1 + 1) (dV tyX7 15)).2.1.length = 4 := rfl
  rw [lay_R, r3, r4, show σ.2.1 + 1 + 4 = σ.2.1 + 5 by omega, show σ.2.2 + 15 + 2775 = σ.2.2 + 2790 by omega] at run
  have so : sOI [.ref σ.2.1] (alloc σ (.inr (7, dV tyX7 15)) 15) = some (.inl 0, [.ref σ.2.1], alloc σ (.inr (7, dV tyX7 15)) 15) := rfl
  rw [sSeq_t, so, thn_0]
  unfold alloc
  rw [run]
  rfl
