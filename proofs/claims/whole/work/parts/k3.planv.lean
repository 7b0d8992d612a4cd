/-! ===== a new plan (tools/gen25.py) ===== -/
def ssTo : List CS := [(0, tyX8 0, .inl (.int 0)), (1, tyX8 1, .inl (.int 0)), (2, tyX8 2, .inr (.int, zI, 4)), (3, tyX8 3, .inr (.int, zI, 4)), (4, tyX8 4, .inr (.int, zI, 3)), (5, tyX8 5, .inr (.int, zI, 3)), (6, tyX8 6, .inr (.int, zI, 3))]
theorem m_To : m_X8_init = mth 1 (sSeq sOI (prC 8 ssTo sR0)) := rfl
theorem hi_To : ∀ s ∈ ssTo, s.1 < 7 := fun s hs => of_decide_eq_true (List.all_eq_true.mp (show ssTo.all (fun s => decide (s.1 < 7)) = true by decide) s hs)
def ssFo : List CS := [(0, tyX2 0, .inl (.int 0)), (1, tyX2 1, .inr (.int, zI, 64))]
theorem m_Fo : m_X2_init = mth 1 (sSeq sOI (prC 2 ssFo sR0)) := rfl
theorem hi_Fo : ∀ s ∈ ssFo, s.1 < 2 := fun s hs => of_decide_eq_true (List.all_eq_true.mp (show ssFo.all (fun s => decide (s.1 < 2)) = true by decide) s hs)
def ssFr : List CS := [(0, tyX3 0, .inl (.int 0)), (1, tyX3 1, .inl (.int 0)), (2, tyX3 2, .inl (.int 0)), (3, tyX3 3, .inl (.int 0)), (4, tyX3 4, .inl (.int 0)), (5, tyX3 5, .inl (.int 0)), (6, tyX3 6, .inr (.int, zI, 12)), (7, tyX3 7, .inr (.int, zI, 12))]
theorem m_Fr : m_X3_init = mth 1 (sSeq sOI (prC 3 ssFr sR0)) := rfl
theorem hi_Fr : ∀ s ∈ ssFr, s.1 < 8 := fun s hs => of_decide_eq_true (List.all_eq_true.mp (show ssFr.all (fun s => decide (s.1 < 8)) = true by decide) s hs)
def ssMa : List CS := [(0, tyX5 0, .inl (.int 0)), (1, tyX5 1, .inl (.int 0)), (2, tyX5 2, .inl (.int 0)), (3, tyX5 3, .inl (.int 0))]
theorem m_Ma : m_X5_init = mth 1 (sSeq sOI (prC 5 ssMa sR0)) := rfl
theorem hi_Ma : ∀ s ∈ ssMa, s.1 < 4 := fun s hs => of_decide_eq_true (List.all_eq_true.mp (show ssMa.all (fun s => decide (s.1 < 4)) = true by decide) s hs)
def ssHo : List CS := [(0, tyX4 0, .inl (.int 0)), (1, tyX4 1, .inl (.int 0)), (2, tyX4 2, .inl (.int 0)), (3, tyX4 3, .inl (.int 0)), (4, tyX4 4, .inl (.int 0)), (5, tyX4 5, .inl (.int 1)), (6, tyX4 6, .inl (.int 0)), (7, tyX4 7, .inl (.int 10)), (8, tyX4 8, .inl (.int 0)), (9, tyX4 9, .inl (.int 0)), (10, tyX4 10, .inl (.int 0))]
theorem m_Ho : m_X4_init = mth 1 (sSeq sOI (prC 4 ssHo sR0)) := rfl
theorem hi_Ho : ∀ s ∈ ssHo, s.1 < 11 := fun s hs => of_decide_eq_true (List.all_eq_true.mp (show ssHo.all (fun s => decide (s.1 < 11)) = true by decide) s hs)
def frP : CT := (fun j k => if 33 ≤ j ∧ j < 43 ∧ k = 5 then 1 else if 33 ≤ j ∧ j < 43 ∧ k = 7 then 10 else 0, fun _ _ => 0)
def rfP (z : Nat) : Nat → Nat → Option Nat := fun j k => if j = 7 then (if k < 5 then some (z + (15 + 3 * k)) else none) else if j = 8 then (if k < 3 then some (z + (30 + k)) else none) else if j = 9 then (if k < 10 then some (z + (33 + k)) else none) else none
def plV (z : Nat) : Nat → Value := updV (updV (updV (updV (updV (updV (updV (updV (updV (updV (updV (updV (updV (dV tyX6 13) 0 (.ref (z + (0 + 1)))) 1 (.int 0)) 2 (.int 0)) 3 (.int 0)) 4 (.ref (z + (6 + 1)))) 5 (.ref (z + (7 + 1)))) 6 (.ref (z + (8 + 1)))) 7 (.ref (z + (9 + 1)))) 8 (.ref (z + (10 + 1)))) 9 (.ref (z + (12 + 1)))) 10 (.int 0)) 11 (.int 0)) 12 (.int 0)
def plT0 (z : Nat) : List MC := ((((((blk 8 ssTo (dV tyX8 7) (z + (0 + 1)) ++ [.inl (.object RX3, zQ 5)]) ++ [.inl (.object RX5, zQ 3)]) ++ [.inl (.object RX4, zQ 10)]) ++ [.inl (.boolean, zI 200)]) ++ blk 2 ssFo (dV tyX2 2) (z + (10 + 1))) ++ blk 2 ssFo (dV tyX2 2) (z + (12 + 1)))
def plT1 (z : Nat) : List MC := (plT0 z).set 6 (rwC RX3 5 (z + (14 + 1)) 3 5) ++ bls 3 ssFr (dV tyX3 8) (z + (14 + 1)) 3 5
def plT2 (z : Nat) : List MC := (plT1 z).set 7 (rwC RX5 3 (z + (29 + 1)) 1 3) ++ bls 5 ssMa (dV tyX5 4) (z + (29 + 1)) 1 3
def plT3 (z : Nat) : List MC := (plT2 z).set 8 (rwC RX4 10 (z + (32 + 1)) 1 10) ++ bls 4 ssHo (dV tyX4 11) (z + (32 + 1)) 1 10
theorem pv_0 {z : Nat} : ∀ k, plV z k = bVal z (frP.1, frP.2, rfP z) 0 [3, 0, 0, 0, 9, 10, 11, 12, 13, 15, 0, 0, 0] k
  | 0 => rfl
  | 1 => rfl
  | 2 => rfl
  | 3 => rfl
  | 4 => rfl
  | 5 => rfl
  | 6 => rfl
  | 7 => rfl
  | 8 => rfl
  | 9 => rfl
  | 10 => rfl
  | 11 => rfl
  | 12 => rfl
  | m + 13 => by
    unfold plV updV
    rw [if_neg (by omega), if_neg (by omega), if_neg (by omega), if_neg (by omega), if_neg (by omega), if_neg (by omega), if_neg (by omega), if_neg (by omega), if_neg (by omega), if_neg (by omega), if_neg (by omega), if_neg (by omega), if_neg (by omega)]
    unfold dV
    rw [if_neg (by omega)]
    rfl
theorem pv_1 {z : Nat} : ∀ k, (rnC ssTo (z + 1 + 1) (dV tyX8 7)).1 k = bVal z (frP.1, frP.2, rfP z) 1 [0, 0, 4, 5, 6, 7, 8] k
  | 0 => rfl
  | 1 => rfl
  | 2 => rfl
  | 3 => rfl
  | 4 => rfl
  | 5 => rfl
  | 6 => rfl
  | m + 7 => by
    rw [rnC_hi ssTo _ _ (fun s hs => by have := hi_To s hs; omega)]
    unfold dV
    rw [if_neg (by omega)]
    show _ = Value.int (if 33 ≤ 1 ∧ 1 < 43 ∧ m + 7 = 5 then 1 else if 33 ≤ 1 ∧ 1 < 43 ∧ m + 7 = 7 then 10 else 0)
    rw [if_neg (by omega), if_neg (by omega)]
theorem pv_11 {z : Nat} : ∀ k, (rnC ssFo (z + 11 + 1) (dV tyX2 2)).1 k = bVal z (frP.1, frP.2, rfP z) 11 [0, 14] k
  | 0 => rfl
  | 1 => rfl
  | m + 2 => by
    rw [rnC_hi ssFo _ _ (fun s hs => by have := hi_Fo s hs; omega)]
    unfold dV
    rw [if_neg (by omega)]
    show _ = Value.int (if 33 ≤ 11 ∧ 11 < 43 ∧ m + 2 = 5 then 1 else if 33 ≤ 11 ∧ 11 < 43 ∧ m + 2 = 7 then 10 else 0)
    rw [if_neg (by omega), if_neg (by omega)]
theorem pv_13 {z : Nat} : ∀ k, (rnC ssFo (z + 13 + 1) (dV tyX2 2)).1 k = bVal z (frP.1, frP.2, rfP z) 13 [0, 16] k
  | 0 => rfl
  | 1 => rfl
  | m + 2 => by
    rw [rnC_hi ssFo _ _ (fun s hs => by have := hi_Fo s hs; omega)]
    unfold dV
    rw [if_neg (by omega)]
    show _ = Value.int (if 33 ≤ 13 ∧ 13 < 43 ∧ m + 2 = 5 then 1 else if 33 ≤ 13 ∧ 13 < 43 ∧ m + 2 = 7 then 10 else 0)
    rw [if_neg (by omega), if_neg (by omega)]
theorem pv_15 {z : Nat} : ∀ k, (rnC ssFr (z + 15 + 1) (dV tyX3 8)).1 k = bVal z (frP.1, frP.2, rfP z) 15 [0, 0, 0, 0, 0, 0, 18, 19] k
  | 0 => rfl
  | 1 => rfl
  | 2 => rfl
  | 3 => rfl
  | 4 => rfl
  | 5 => rfl
  | 6 => rfl
  | 7 => rfl
  | m + 8 => by
    rw [rnC_hi ssFr _ _ (fun s hs => by have := hi_Fr s hs; omega)]
    unfold dV
    rw [if_neg (by omega)]
    show _ = Value.int (if 33 ≤ 15 ∧ 15 < 43 ∧ m + 8 = 5 then 1 else if 33 ≤ 15 ∧ 15 < 43 ∧ m + 8 = 7 then 10 else 0)
    rw [if_neg (by omega), if_neg (by omega)]
theorem pv_18 {z : Nat} : ∀ k, (rnC ssFr (z + 18 + 1) (dV tyX3 8)).1 k = bVal z (frP.1, frP.2, rfP z) 18 [0, 0, 0, 0, 0, 0, 21, 22] k
  | 0 => rfl
  | 1 => rfl
  | 2 => rfl
  | 3 => rfl
  | 4 => rfl
  | 5 => rfl
  | 6 => rfl
  | 7 => rfl
  | m + 8 => by
    rw [rnC_hi ssFr _ _ (fun s hs => by have := hi_Fr s hs; omega)]
    unfold dV
    rw [if_neg (by omega)]
    show _ = Value.int (if 33 ≤ 18 ∧ 18 < 43 ∧ m + 8 = 5 then 1 else if 33 ≤ 18 ∧ 18 < 43 ∧ m + 8 = 7 then 10 else 0)
    rw [if_neg (by omega), if_neg (by omega)]
theorem pv_21 {z : Nat} : ∀ k, (rnC ssFr (z + 21 + 1) (dV tyX3 8)).1 k = bVal z (frP.1, frP.2, rfP z) 21 [0, 0, 0, 0, 0, 0, 24, 25] k
  | 0 => rfl
  | 1 => rfl
  | 2 => rfl
  | 3 => rfl
  | 4 => rfl
  | 5 => rfl
  | 6 => rfl
  | 7 => rfl
  | m + 8 => by
    rw [rnC_hi ssFr _ _ (fun s hs => by have := hi_Fr s hs; omega)]
    unfold dV
    rw [if_neg (by omega)]
    show _ = Value.int (if 33 ≤ 21 ∧ 21 < 43 ∧ m + 8 = 5 then 1 else if 33 ≤ 21 ∧ 21 < 43 ∧ m + 8 = 7 then 10 else 0)
    rw [if_neg (by omega), if_neg (by omega)]
theorem pv_24 {z : Nat} : ∀ k, (rnC ssFr (z + 24 + 1) (dV tyX3 8)).1 k = bVal z (frP.1, frP.2, rfP z) 24 [0, 0, 0, 0, 0, 0, 27, 28] k
  | 0 => rfl
  | 1 => rfl
  | 2 => rfl
  | 3 => rfl
  | 4 => rfl
  | 5 => rfl
  | 6 => rfl
  | 7 => rfl
  | m + 8 => by
    rw [rnC_hi ssFr _ _ (fun s hs => by have := hi_Fr s hs; omega)]
    unfold dV
    rw [if_neg (by omega)]
    show _ = Value.int (if 33 ≤ 24 ∧ 24 < 43 ∧ m + 8 = 5 then 1 else if 33 ≤ 24 ∧ 24 < 43 ∧ m + 8 = 7 then 10 else 0)
    rw [if_neg (by omega), if_neg (by omega)]
theorem pv_27 {z : Nat} : ∀ k, (rnC ssFr (z + 27 + 1) (dV tyX3 8)).1 k = bVal z (frP.1, frP.2, rfP z) 27 [0, 0, 0, 0, 0, 0, 30, 31] k
  | 0 => rfl
  | 1 => rfl
  | 2 => rfl
  | 3 => rfl
  | 4 => rfl
  | 5 => rfl
  | 6 => rfl
  | 7 => rfl
  | m + 8 => by
    rw [rnC_hi ssFr _ _ (fun s hs => by have := hi_Fr s hs; omega)]
    unfold dV
    rw [if_neg (by omega)]
    show _ = Value.int (if 33 ≤ 27 ∧ 27 < 43 ∧ m + 8 = 5 then 1 else if 33 ≤ 27 ∧ 27 < 43 ∧ m + 8 = 7 then 10 else 0)
    rw [if_neg (by omega), if_neg (by omega)]
theorem pv_30 {z : Nat} : ∀ k, (rnC ssMa (z + 30 + 1) (dV tyX5 4)).1 k = bVal z (frP.1, frP.2, rfP z) 30 [0, 0, 0, 0] k
  | 0 => rfl
  | 1 => rfl
  | 2 => rfl
  | 3 => rfl
  | m + 4 => by
    rw [rnC_hi ssMa _ _ (fun s hs => by have := hi_Ma s hs; omega)]
    unfold dV
    rw [if_neg (by omega)]
    show _ = Value.int (if 33 ≤ 30 ∧ 30 < 43 ∧ m + 4 = 5 then 1 else if 33 ≤ 30 ∧ 30 < 43 ∧ m + 4 = 7 then 10 else 0)
    rw [if_neg (by omega), if_neg (by omega)]
theorem pv_31 {z : Nat} : ∀ k, (rnC ssMa (z + 31 + 1) (dV tyX5 4)).1 k = bVal z (frP.1, frP.2, rfP z) 31 [0, 0, 0, 0] k
  | 0 => rfl
  | 1 => rfl
  | 2 => rfl
  | 3 => rfl
  | m + 4 => by
    rw [rnC_hi ssMa _ _ (fun s hs => by have := hi_Ma s hs; omega)]
    unfold dV
    rw [if_neg (by omega)]
    show _ = Value.int (if 33 ≤ 31 ∧ 31 < 43 ∧ m + 4 = 5 then 1 else if 33 ≤ 31 ∧ 31 < 43 ∧ m + 4 = 7 then 10 else 0)
    rw [if_neg (by omega), if_neg (by omega)]
theorem pv_32 {z : Nat} : ∀ k, (rnC ssMa (z + 32 + 1) (dV tyX5 4)).1 k = bVal z (frP.1, frP.2, rfP z) 32 [0, 0, 0, 0] k
  | 0 => rfl
  | 1 => rfl
  | 2 => rfl
  | 3 => rfl
  | m + 4 => by
    rw [rnC_hi ssMa _ _ (fun s hs => by have := hi_Ma s hs; omega)]
    unfold dV
    rw [if_neg (by omega)]
    show _ = Value.int (if 33 ≤ 32 ∧ 32 < 43 ∧ m + 4 = 5 then 1 else if 33 ≤ 32 ∧ 32 < 43 ∧ m + 4 = 7 then 10 else 0)
    rw [if_neg (by omega), if_neg (by omega)]
theorem pv_33 {z : Nat} : ∀ k, (rnC ssHo (z + 33 + 1) (dV tyX4 11)).1 k = bVal z (frP.1, frP.2, rfP z) 33 [0, 0, 0, 0, 0, 0, 0, 0, 0, 0, 0] k
  | 0 => rfl
  | 1 => rfl
  | 2 => rfl
  | 3 => rfl
  | 4 => rfl
  | 5 => rfl
  | 6 => rfl
  | 7 => rfl
  | 8 => rfl
  | 9 => rfl
  | 10 => rfl
  | m + 11 => by
    rw [rnC_hi ssHo _ _ (fun s hs => by have := hi_Ho s hs; omega)]
    unfold dV
    rw [if_neg (by omega)]
    show _ = Value.int (if 33 ≤ 33 ∧ 33 < 43 ∧ m + 11 = 5 then 1 else if 33 ≤ 33 ∧ 33 < 43 ∧ m + 11 = 7 then 10 else 0)
    rw [if_neg (by omega), if_neg (by omega)]
theorem pv_34 {z : Nat} : ∀ k, (rnC ssHo (z + 34 + 1) (dV tyX4 11)).1 k = bVal z (frP.1, frP.2, rfP z) 34 [0, 0, 0, 0, 0, 0, 0, 0, 0, 0, 0] k
  | 0 => rfl
  | 1 => rfl
  | 2 => rfl
  | 3 => rfl
  | 4 => rfl
  | 5 => rfl
  | 6 => rfl
  | 7 => rfl
  | 8 => rfl
  | 9 => rfl
  | 10 => rfl
  | m + 11 => by
    rw [rnC_hi ssHo _ _ (fun s hs => by have := hi_Ho s hs; omega)]
    unfold dV
    rw [if_neg (by omega)]
    show _ = Value.int (if 33 ≤ 34 ∧ 34 < 43 ∧ m + 11 = 5 then 1 else if 33 ≤ 34 ∧ 34 < 43 ∧ m + 11 = 7 then 10 else 0)
    rw [if_neg (by omega), if_neg (by omega)]
theorem pv_35 {z : Nat} : ∀ k, (rnC ssHo (z + 35 + 1) (dV tyX4 11)).1 k = bVal z (frP.1, frP.2, rfP z) 35 [0, 0, 0, 0, 0, 0, 0, 0, 0, 0, 0] k
  | 0 => rfl
  | 1 => rfl
  | 2 => rfl
  | 3 => rfl
  | 4 => rfl
  | 5 => rfl
  | 6 => rfl
  | 7 => rfl
  | 8 => rfl
  | 9 => rfl
  | 10 => rfl
  | m + 11 => by
    rw [rnC_hi ssHo _ _ (fun s hs => by have := hi_Ho s hs; omega)]
    unfold dV
    rw [if_neg (by omega)]
    show _ = Value.int (if 33 ≤ 35 ∧ 35 < 43 ∧ m + 11 = 5 then 1 else if 33 ≤ 35 ∧ 35 < 43 ∧ m + 11 = 7 then 10 else 0)
    rw [if_neg (by omega), if_neg (by omega)]
theorem pv_36 {z : Nat} : ∀ k, (rnC ssHo (z + 36 + 1) (dV tyX4 11)).1 k = bVal z (frP.1, frP.2, rfP z) 36 [0, 0, 0, 0, 0, 0, 0, 0, 0, 0, 0] k
  | 0 => rfl
  | 1 => rfl
  | 2 => rfl
  | 3 => rfl
  | 4 => rfl
  | 5 => rfl
  | 6 => rfl
  | 7 => rfl
  | 8 => rfl
  | 9 => rfl
  | 10 => rfl
  | m + 11 => by
    rw [rnC_hi ssHo _ _ (fun s hs => by have := hi_Ho s hs; omega)]
    unfold dV
    rw [if_neg (by omega)]
    show _ = Value.int (if 33 ≤ 36 ∧ 36 < 43 ∧ m + 11 = 5 then 1 else if 33 ≤ 36 ∧ 36 < 43 ∧ m + 11 = 7 then 10 else 0)
    rw [if_neg (by omega), if_neg (by omega)]
theorem pv_37 {z : Nat} : ∀ k, (rnC ssHo (z + 37 + 1) (dV tyX4 11)).1 k = bVal z (frP.1, frP.2, rfP z) 37 [0, 0, 0, 0, 0, 0, 0, 0, 0, 0, 0] k
  | 0 => rfl
  | 1 => rfl
  | 2 => rfl
  | 3 => rfl
  | 4 => rfl
  | 5 => rfl
  | 6 => rfl
  | 7 => rfl
  | 8 => rfl
  | 9 => rfl
  | 10 => rfl
  | m + 11 => by
    rw [rnC_hi ssHo _ _ (fun s hs => by have := hi_Ho s hs; omega)]
    unfold dV
    rw [if_neg (by omega)]
    show _ = Value.int (if 33 ≤ 37 ∧ 37 < 43 ∧ m + 11 = 5 then 1 else if 33 ≤ 37 ∧ 37 < 43 ∧ m + 11 = 7 then 10 else 0)
    rw [if_neg (by omega), if_neg (by omega)]
theorem pv_38 {z : Nat} : ∀ k, (rnC ssHo (z + 38 + 1) (dV tyX4 11)).1 k = bVal z (frP.1, frP.2, rfP z) 38 [0, 0, 0, 0, 0, 0, 0, 0, 0, 0, 0] k
  | 0 => rfl
  | 1 => rfl
  | 2 => rfl
  | 3 => rfl
  | 4 => rfl
  | 5 => rfl
  | 6 => rfl
  | 7 => rfl
  | 8 => rfl
  | 9 => rfl
  | 10 => rfl
  | m + 11 => by
    rw [rnC_hi ssHo _ _ (fun s hs => by have := hi_Ho s hs; omega)]
    unfold dV
    rw [if_neg (by omega)]
    show _ = Value.int (if 33 ≤ 38 ∧ 38 < 43 ∧ m + 11 = 5 then 1 else if 33 ≤ 38 ∧ 38 < 43 ∧ m + 11 = 7 then 10 else 0)
    rw [if_neg (by omega), if_neg (by omega)]
theorem pv_39 {z : Nat} : ∀ k, (rnC ssHo (z + 39 + 1) (dV tyX4 11)).1 k = bVal z (frP.1, frP.2, rfP z) 39 [0, 0, 0, 0, 0, 0, 0, 0, 0, 0, 0] k
  | 0 => rfl
  | 1 => rfl
  | 2 => rfl
  | 3 => rfl
  | 4 => rfl
  | 5 => rfl
  | 6 => rfl
  | 7 => rfl
  | 8 => rfl
  | 9 => rfl
  | 10 => rfl
  | m + 11 => by
    rw [rnC_hi ssHo _ _ (fun s hs => by have := hi_Ho s hs; omega)]
    unfold dV
    rw [if_neg (by omega)]
    show _ = Value.int (if 33 ≤ 39 ∧ 39 < 43 ∧ m + 11 = 5 then 1 else if 33 ≤ 39 ∧ 39 < 43 ∧ m + 11 = 7 then 10 else 0)
    rw [if_neg (by omega), if_neg (by omega)]
theorem pv_40 {z : Nat} : ∀ k, (rnC ssHo (z + 40 + 1) (dV tyX4 11)).1 k = bVal z (frP.1, frP.2, rfP z) 40 [0, 0, 0, 0, 0, 0, 0, 0, 0, 0, 0] k
  | 0 => rfl
  | 1 => rfl
  | 2 => rfl
  | 3 => rfl
  | 4 => rfl
  | 5 => rfl
  | 6 => rfl
  | 7 => rfl
  | 8 => rfl
  | 9 => rfl
  | 10 => rfl
  | m + 11 => by
    rw [rnC_hi ssHo _ _ (fun s hs => by have := hi_Ho s hs; omega)]
    unfold dV
    rw [if_neg (by omega)]
    show _ = Value.int (if 33 ≤ 40 ∧ 40 < 43 ∧ m + 11 = 5 then 1 else if 33 ≤ 40 ∧ 40 < 43 ∧ m + 11 = 7 then 10 else 0)
    rw [if_neg (by omega), if_neg (by omega)]
theorem pv_41 {z : Nat} : ∀ k, (rnC ssHo (z + 41 + 1) (dV tyX4 11)).1 k = bVal z (frP.1, frP.2, rfP z) 41 [0, 0, 0, 0, 0, 0, 0, 0, 0, 0, 0] k
  | 0 => rfl
  | 1 => rfl
  | 2 => rfl
  | 3 => rfl
  | 4 => rfl
  | 5 => rfl
  | 6 => rfl
  | 7 => rfl
  | 8 => rfl
  | 9 => rfl
  | 10 => rfl
  | m + 11 => by
    rw [rnC_hi ssHo _ _ (fun s hs => by have := hi_Ho s hs; omega)]
    unfold dV
    rw [if_neg (by omega)]
    show _ = Value.int (if 33 ≤ 41 ∧ 41 < 43 ∧ m + 11 = 5 then 1 else if 33 ≤ 41 ∧ 41 < 43 ∧ m + 11 = 7 then 10 else 0)
    rw [if_neg (by omega), if_neg (by omega)]
theorem pv_42 {z : Nat} : ∀ k, (rnC ssHo (z + 42 + 1) (dV tyX4 11)).1 k = bVal z (frP.1, frP.2, rfP z) 42 [0, 0, 0, 0, 0, 0, 0, 0, 0, 0, 0] k
  | 0 => rfl
  | 1 => rfl
  | 2 => rfl
  | 3 => rfl
  | 4 => rfl
  | 5 => rfl
  | 6 => rfl
  | 7 => rfl
  | 8 => rfl
  | 9 => rfl
  | 10 => rfl
  | m + 11 => by
    rw [rnC_hi ssHo _ _ (fun s hs => by have := hi_Ho s hs; omega)]
    unfold dV
    rw [if_neg (by omega)]
    show _ = Value.int (if 33 ≤ 42 ∧ 42 < 43 ∧ m + 11 = 5 then 1 else if 33 ≤ 42 ∧ 42 < 43 ∧ m + 11 = 7 then 10 else 0)
    rw [if_neg (by omega), if_neg (by omega)]
theorem t0_len {z : Nat} : (plT0 z).length = 14 := rfl
theorem bk_Fr (a : Nat) : (blk 3 ssFr (dV tyX3 8) a).length = 3 := rfl
theorem bk_Ma (a : Nat) : (blk 5 ssMa (dV tyX5 4) a).length = 1 := rfl
theorem bk_Ho (a : Nat) : (blk 4 ssHo (dV tyX4 11) a).length = 1 := rfl
theorem t1_len {z : Nat} : (plT1 z).length = 29 := by unfold plT1; rw [List.length_append, List.length_set, t0_len, bls_len bk_Fr]
theorem t2_len {z : Nat} : (plT2 z).length = 32 := by unfold plT2; rw [List.length_append, List.length_set, t1_len, bls_len bk_Ma]
theorem t3_len {z : Nat} : (plT3 z).length = 42 := by unfold plT3; rw [List.length_append, List.length_set, t2_len, bls_len bk_Ho]
theorem bls_at {ci a w : Nat} {ss : List CS} {V0 : Nat → Value} (hw : ∀ a, (blk ci ss V0 a).length = w) : ∀ (n q r : Nat), q < n → r < w → (bls ci ss V0 a w n)[w * q + r]? = (blk ci ss V0 (a + w * q))[r]?
  | 0, _, _, h, _ => absurd h (Nat.not_lt_zero _)
  | n + 1, q, r, h, hr => by
    show (bls ci ss V0 a w n ++ blk ci ss V0 (a + w * n))[w * q + r]? = _
    by_cases e : q = n
    · subst e
      rw [List.getElem?_append_right (by rw [bls_len hw]; omega), bls_len hw, Nat.add_sub_cancel_left]
    · have lt : w * q + r < w * n := by
        have := Nat.mul_le_mul_left w (show q + 1 ≤ n by omega)
        rw [Nat.mul_succ] at this
        omega
      rw [List.getElem?_append_left (by rw [bls_len hw]; exact lt)]
      exact bls_at hw n q r (by omega) hr
theorem t3_lo {z t : Nat} (h : t < 32) (n8 : t ≠ 8) : (plT3 z)[t]? = (plT2 z)[t]? := by
  unfold plT3
  rw [List.getElem?_append_left (by rw [List.length_set, t2_len]; exact h), List.getElem?_set_ne (fun e => n8 e.symm)]
theorem t2_lo {z t : Nat} (h : t < 29) (n7 : t ≠ 7) : (plT2 z)[t]? = (plT1 z)[t]? := by
  unfold plT2
  rw [List.getElem?_append_left (by rw [List.length_set, t1_len]; exact h), List.getElem?_set_ne (fun e => n7 e.symm)]
theorem t1_lo {z t : Nat} (h : t < 14) (n6 : t ≠ 6) : (plT1 z)[t]? = (plT0 z)[t]? := by
  unfold plT1
  rw [List.getElem?_append_left (by rw [List.length_set, t0_len]; exact h), List.getElem?_set_ne (fun e => n6 e.symm)]
theorem c_lo {z t : Nat} (h : t < 14) (n6 : t ≠ 6 := by decide) (n7 : t ≠ 7 := by decide) (n8 : t ≠ 8 := by decide) : (Sum.inr (6, plV z) :: plT3 z)[t + 1]? = (plT0 z)[t]? := by
  rw [List.getElem?_cons_succ, t3_lo (by omega) n8, t2_lo (by omega) n7, t1_lo h n6]
theorem c_6 {z : Nat} : (Sum.inr (6, plV z) :: plT3 z)[7]? = some (rwC RX3 5 (z + (14 + 1)) 3 5) := by
  rw [List.getElem?_cons_succ, t3_lo (by decide) (by decide), t2_lo (by decide) (by decide)]
  unfold plT1
  rw [List.getElem?_append_left (by rw [List.length_set, t0_len]; decide), List.getElem?_set_self (by rw [t0_len]; decide)]
theorem c_7 {z : Nat} : (Sum.inr (6, plV z) :: plT3 z)[8]? = some (rwC RX5 3 (z + (29 + 1)) 1 3) := by
  rw [List.getElem?_cons_succ, t3_lo (by decide) (by decide)]
  unfold plT2
  rw [List.getElem?_append_left (by rw [List.length_set, t1_len]; decide), List.getElem?_set_self (by rw [t1_len]; decide)]
theorem c_8 {z : Nat} : (Sum.inr (6, plV z) :: plT3 z)[9]? = some (rwC RX4 10 (z + (32 + 1)) 1 10) := by
  rw [List.getElem?_cons_succ]
  unfold plT3
  rw [List.getElem?_append_left (by rw [List.length_set, t2_len]; decide), List.getElem?_set_self (by rw [t2_len]; decide)]
theorem c_fr {z q r : Nat} (hq : q < 5) (hr : r < 3) : (Sum.inr (6, plV z) :: plT3 z)[14 + (3 * q + r) + 1]? = (blk 3 ssFr (dV tyX3 8) (z + (14 + 1) + 3 * q))[r]? := by
  rw [List.getElem?_cons_succ, t3_lo (by omega) (by omega), t2_lo (by omega) (by omega)]
  unfold plT1
  rw [List.getElem?_append_right (by rw [List.length_set, t0_len]; omega), List.length_set, t0_len, Nat.add_sub_cancel_left]
  exact bls_at bk_Fr 5 q r hq hr
theorem c_ma {z q : Nat} (hq : q < 3) : (Sum.inr (6, plV z) :: plT3 z)[29 + (1 * q + 0) + 1]? = (blk 5 ssMa (dV tyX5 4) (z + (29 + 1) + 1 * q))[0]? := by
  rw [List.getElem?_cons_succ, t3_lo (by omega) (by omega)]
  unfold plT2
  rw [List.getElem?_append_right (by rw [List.length_set, t1_len]; omega), List.length_set, t1_len, Nat.add_sub_cancel_left]
  exact bls_at bk_Ma 3 q 0 hq (by decide)
theorem c_ho {z q : Nat} (hq : q < 10) : (Sum.inr (6, plV z) :: plT3 z)[32 + (1 * q + 0) + 1]? = (blk 4 ssHo (dV tyX4 11) (z + (32 + 1) + 1 * q))[0]? := by
  rw [List.getElem?_cons_succ]
  unfold plT3
  rw [List.getElem?_append_right (by rw [List.length_set, t2_len]; omega), List.length_set, t2_len, Nat.add_sub_cancel_left]
  exact bls_at bk_Ho 10 q 0 hq (by decide)
theorem pl_1 {z : Nat} : (Sum.inr (6, plV z) :: plT3 z)[1]? = some (.inr (8, (rnC ssTo (z + 1 + 1) (dV tyX8 7)).1)) := (c_lo (t := 0) (by decide)).trans rfl
theorem pq_1 {z : Nat} : (Sum.inr (6, plV z) :: plT3 z)[1]? = bCell z pLay (frP.1, frP.2, rfP z) 1 := pl_1.trans (congrArg (fun f => (some (Sum.inr (8, f)) : Option MC)) (funext fun k => pv_1 k))
theorem pl_11 {z : Nat} : (Sum.inr (6, plV z) :: plT3 z)[11]? = some (.inr (2, (rnC ssFo (z + 11 + 1) (dV tyX2 2)).1)) := (c_lo (t := 10) (by decide)).trans rfl
theorem pq_11 {z : Nat} : (Sum.inr (6, plV z) :: plT3 z)[11]? = bCell z pLay (frP.1, frP.2, rfP z) 11 := pl_11.trans (congrArg (fun f => (some (Sum.inr (2, f)) : Option MC)) (funext fun k => pv_11 k))
theorem pl_13 {z : Nat} : (Sum.inr (6, plV z) :: plT3 z)[13]? = some (.inr (2, (rnC ssFo (z + 13 + 1) (dV tyX2 2)).1)) := (c_lo (t := 12) (by decide)).trans rfl
theorem pq_13 {z : Nat} : (Sum.inr (6, plV z) :: plT3 z)[13]? = bCell z pLay (frP.1, frP.2, rfP z) 13 := pl_13.trans (congrArg (fun f => (some (Sum.inr (2, f)) : Option MC)) (funext fun k => pv_13 k))
theorem pl_15 {z : Nat} : (Sum.inr (6, plV z) :: plT3 z)[15]? = some (.inr (3, (rnC ssFr (z + 15 + 1) (dV tyX3 8)).1)) := (c_fr (q := 0) (r := 0) (by decide) (by decide)).trans rfl
theorem pq_15 {z : Nat} : (Sum.inr (6, plV z) :: plT3 z)[15]? = bCell z pLay (frP.1, frP.2, rfP z) 15 := pl_15.trans (congrArg (fun f => (some (Sum.inr (3, f)) : Option MC)) (funext fun k => pv_15 k))
theorem pl_18 {z : Nat} : (Sum.inr (6, plV z) :: plT3 z)[18]? = some (.inr (3, (rnC ssFr (z + 18 + 1) (dV tyX3 8)).1)) := (c_fr (q := 1) (r := 0) (by decide) (by decide)).trans rfl
theorem pq_18 {z : Nat} : (Sum.inr (6, plV z) :: plT3 z)[18]? = bCell z pLay (frP.1, frP.2, rfP z) 18 := pl_18.trans (congrArg (fun f => (some (Sum.inr (3, f)) : Option MC)) (funext fun k => pv_18 k))
theorem pl_21 {z : Nat} : (Sum.inr (6, plV z) :: plT3 z)[21]? = some (.inr (3, (rnC ssFr (z + 21 + 1) (dV tyX3 8)).1)) := (c_fr (q := 2) (r := 0) (by decide) (by decide)).trans rfl
theorem pq_21 {z : Nat} : (Sum.inr (6, plV z) :: plT3 z)[21]? = bCell z pLay (frP.1, frP.2, rfP z) 21 := pl_21.trans (congrArg (fun f => (some (Sum.inr (3, f)) : Option MC)) (funext fun k => pv_21 k))
theorem pl_24 {z : Nat} : (Sum.inr (6, plV z) :: plT3 z)[24]? = some (.inr (3, (rnC ssFr (z + 24 + 1) (dV tyX3 8)).1)) := (c_fr (q := 3) (r := 0) (by decide) (by decide)).trans rfl
theorem pq_24 {z : Nat} : (Sum.inr (6, plV z) :: plT3 z)[24]? = bCell z pLay (frP.1, frP.2, rfP z) 24 := pl_24.trans (congrArg (fun f => (some (Sum.inr (3, f)) : Option MC)) (funext fun k => pv_24 k))
theorem pl_27 {z : Nat} : (Sum.inr (6, plV z) :: plT3 z)[27]? = some (.inr (3, (rnC ssFr (z + 27 + 1) (dV tyX3 8)).1)) := (c_fr (q := 4) (r := 0) (by decide) (by decide)).trans rfl
theorem pq_27 {z : Nat} : (Sum.inr (6, plV z) :: plT3 z)[27]? = bCell z pLay (frP.1, frP.2, rfP z) 27 := pl_27.trans (congrArg (fun f => (some (Sum.inr (3, f)) : Option MC)) (funext fun k => pv_27 k))
theorem pl_30 {z : Nat} : (Sum.inr (6, plV z) :: plT3 z)[30]? = some (.inr (5, (rnC ssMa (z + 30 + 1) (dV tyX5 4)).1)) := (c_ma (q := 0) (by decide)).trans rfl
theorem pq_30 {z : Nat} : (Sum.inr (6, plV z) :: plT3 z)[30]? = bCell z pLay (frP.1, frP.2, rfP z) 30 := pl_30.trans (congrArg (fun f => (some (Sum.inr (5, f)) : Option MC)) (funext fun k => pv_30 k))
theorem pl_31 {z : Nat} : (Sum.inr (6, plV z) :: plT3 z)[31]? = some (.inr (5, (rnC ssMa (z + 31 + 1) (dV tyX5 4)).1)) := (c_ma (q := 1) (by decide)).trans rfl
theorem pq_31 {z : Nat} : (Sum.inr (6, plV z) :: plT3 z)[31]? = bCell z pLay (frP.1, frP.2, rfP z) 31 := pl_31.trans (congrArg (fun f => (some (Sum.inr (5, f)) : Option MC)) (funext fun k => pv_31 k))
theorem pl_32 {z : Nat} : (Sum.inr (6, plV z) :: plT3 z)[32]? = some (.inr (5, (rnC ssMa (z + 32 + 1) (dV tyX5 4)).1)) := (c_ma (q := 2) (by decide)).trans rfl
theorem pq_32 {z : Nat} : (Sum.inr (6, plV z) :: plT3 z)[32]? = bCell z pLay (frP.1, frP.2, rfP z) 32 := pl_32.trans (congrArg (fun f => (some (Sum.inr (5, f)) : Option MC)) (funext fun k => pv_32 k))
theorem pl_33 {z : Nat} : (Sum.inr (6, plV z) :: plT3 z)[33]? = some (.inr (4, (rnC ssHo (z + 33 + 1) (dV tyX4 11)).1)) := (c_ho (q := 0) (by decide)).trans rfl
theorem pq_33 {z : Nat} : (Sum.inr (6, plV z) :: plT3 z)[33]? = bCell z pLay (frP.1, frP.2, rfP z) 33 := pl_33.trans (congrArg (fun f => (some (Sum.inr (4, f)) : Option MC)) (funext fun k => pv_33 k))
theorem pl_34 {z : Nat} : (Sum.inr (6, plV z) :: plT3 z)[34]? = some (.inr (4, (rnC ssHo (z + 34 + 1) (dV tyX4 11)).1)) := (c_ho (q := 1) (by decide)).trans rfl
theorem pq_34 {z : Nat} : (Sum.inr (6, plV z) :: plT3 z)[34]? = bCell z pLay (frP.1, frP.2, rfP z) 34 := pl_34.trans (congrArg (fun f => (some (Sum.inr (4, f)) : Option MC)) (funext fun k => pv_34 k))
theorem pl_35 {z : Nat} : (Sum.inr (6, plV z) :: plT3 z)[35]? = some (.inr (4, (rnC ssHo (z + 35 + 1) (dV tyX4 11)).1)) := (c_ho (q := 2) (by decide)).trans rfl
theorem pq_35 {z : Nat} : (Sum.inr (6, plV z) :: plT3 z)[35]? = bCell z pLay (frP.1, frP.2, rfP z) 35 := pl_35.trans (congrArg (fun f => (some (Sum.inr (4, f)) : Option MC)) (funext fun k => pv_35 k))
theorem pl_36 {z : Nat} : (Sum.inr (6, plV z) :: plT3 z)[36]? = some (.inr (4, (rnC ssHo (z + 36 + 1) (dV tyX4 11)).1)) := (c_ho (q := 3) (by decide)).trans rfl
theorem pq_36 {z : Nat} : (Sum.inr (6, plV z) :: plT3 z)[36]? = bCell z pLay (frP.1, frP.2, rfP z) 36 := pl_36.trans (congrArg (fun f => (some (Sum.inr (4, f)) : Option MC)) (funext fun k => pv_36 k))
theorem pl_37 {z : Nat} : (Sum.inr (6, plV z) :: plT3 z)[37]? = some (.inr (4, (rnC ssHo (z + 37 + 1) (dV tyX4 11)).1)) := (c_ho (q := 4) (by decide)).trans rfl
theorem pq_37 {z : Nat} : (Sum.inr (6, plV z) :: plT3 z)[37]? = bCell z pLay (frP.1, frP.2, rfP z) 37 := pl_37.trans (congrArg (fun f => (some (Sum.inr (4, f)) : Option MC)) (funext fun k => pv_37 k))
theorem pl_38 {z : Nat} : (Sum.inr (6, plV z) :: plT3 z)[38]? = some (.inr (4, (rnC ssHo (z + 38 + 1) (dV tyX4 11)).1)) := (c_ho (q := 5) (by decide)).trans rfl
theorem pq_38 {z : Nat} : (Sum.inr (6, plV z) :: plT3 z)[38]? = bCell z pLay (frP.1, frP.2, rfP z) 38 := pl_38.trans (congrArg (fun f => (some (Sum.inr (4, f)) : Option MC)) (funext fun k => pv_38 k))
theorem pl_39 {z : Nat} : (Sum.inr (6, plV z) :: plT3 z)[39]? = some (.inr (4, (rnC ssHo (z + 39 + 1) (dV tyX4 11)).1)) := (c_ho (q := 6) (by decide)).trans rfl
theorem pq_39 {z : Nat} : (Sum.inr (6, plV z) :: plT3 z)[39]? = bCell z pLay (frP.1, frP.2, rfP z) 39 := pl_39.trans (congrArg (fun f => (some (Sum.inr (4, f)) : Option MC)) (funext fun k => pv_39 k))
theorem pl_40 {z : Nat} : (Sum.inr (6, plV z) :: plT3 z)[40]? = some (.inr (4, (rnC ssHo (z + 40 + 1) (dV tyX4 11)).1)) := (c_ho (q := 7) (by decide)).trans rfl
theorem pq_40 {z : Nat} : (Sum.inr (6, plV z) :: plT3 z)[40]? = bCell z pLay (frP.1, frP.2, rfP z) 40 := pl_40.trans (congrArg (fun f => (some (Sum.inr (4, f)) : Option MC)) (funext fun k => pv_40 k))
theorem pl_41 {z : Nat} : (Sum.inr (6, plV z) :: plT3 z)[41]? = some (.inr (4, (rnC ssHo (z + 41 + 1) (dV tyX4 11)).1)) := (c_ho (q := 8) (by decide)).trans rfl
theorem pq_41 {z : Nat} : (Sum.inr (6, plV z) :: plT3 z)[41]? = bCell z pLay (frP.1, frP.2, rfP z) 41 := pl_41.trans (congrArg (fun f => (some (Sum.inr (4, f)) : Option MC)) (funext fun k => pv_41 k))
theorem pl_42 {z : Nat} : (Sum.inr (6, plV z) :: plT3 z)[42]? = some (.inr (4, (rnC ssHo (z + 42 + 1) (dV tyX4 11)).1)) := (c_ho (q := 9) (by decide)).trans rfl
theorem pq_42 {z : Nat} : (Sum.inr (6, plV z) :: plT3 z)[42]? = bCell z pLay (frP.1, frP.2, rfP z) 42 := pl_42.trans (congrArg (fun f => (some (Sum.inr (4, f)) : Option MC)) (funext fun k => pv_42 k))
theorem pc_j {z : Nat} : ∀ j, j < 43 → (Sum.inr (6, plV z) :: plT3 z)[j]? = bCell z pLay (frP.1, frP.2, rfP z) j
  | 0, _ => congrArg (fun f => (some (Sum.inr (6, f)) : Option MC)) (funext fun k => pv_0 k)
  | 1, _ => pq_1
  | 2, _ => (c_lo (t := 1) (by decide)).trans rfl
  | 3, _ => (c_lo (t := 2) (by decide)).trans rfl
  | 4, _ => (c_lo (t := 3) (by decide)).trans rfl
  | 5, _ => (c_lo (t := 4) (by decide)).trans rfl
  | 6, _ => (c_lo (t := 5) (by decide)).trans rfl
  | 7, _ => by
    rw [c_6]
    show (some (Sum.inl (FieldType.object RX3, 5, .inr (.inr (.inr (.inr (fun x => if x < 5 then some (z + (14 + 1) + 3 * x) else none)))))) : Option MC) = some (Sum.inl (FieldType.object RX3, 5, .inr (.inr (.inr (.inr (fun x => if x < 5 then some (z + (15 + 3 * x)) else none))))))
    refine congrArg (fun f => (some (Sum.inl (FieldType.object RX3, 5, .inr (.inr (.inr (.inr f))))) : Option MC)) (funext fun x => ?_)
    by_cases e : x < 5
    · rw [if_pos e, if_pos e, show z + (14 + 1) + 3 * x = z + (15 + 3 * x) by omega]
    · rw [if_neg e, if_neg e]
  | 8, _ => by
    rw [c_7]
    show (some (Sum.inl (FieldType.object RX5, 3, .inr (.inr (.inr (.inr (fun x => if x < 3 then some (z + (29 + 1) + 1 * x) else none)))))) : Option MC) = some (Sum.inl (FieldType.object RX5, 3, .inr (.inr (.inr (.inr (fun x => if x < 3 then some (z + (30 + x)) else none))))))
    refine congrArg (fun f => (some (Sum.inl (FieldType.object RX5, 3, .inr (.inr (.inr (.inr f))))) : Option MC)) (funext fun x => ?_)
    by_cases e : x < 3
    · rw [if_pos e, if_pos e, show z + (29 + 1) + 1 * x = z + (30 + x) by omega]
    · rw [if_neg e, if_neg e]
  | 9, _ => by
    rw [c_8]
    show (some (Sum.inl (FieldType.object RX4, 10, .inr (.inr (.inr (.inr (fun x => if x < 10 then some (z + (32 + 1) + 1 * x) else none)))))) : Option MC) = some (Sum.inl (FieldType.object RX4, 10, .inr (.inr (.inr (.inr (fun x => if x < 10 then some (z + (33 + x)) else none))))))
    refine congrArg (fun f => (some (Sum.inl (FieldType.object RX4, 10, .inr (.inr (.inr (.inr f))))) : Option MC)) (funext fun x => ?_)
    by_cases e : x < 10
    · rw [if_pos e, if_pos e, show z + (32 + 1) + 1 * x = z + (33 + x) by omega]
    · rw [if_neg e, if_neg e]
  | 10, _ => (c_lo (t := 9) (by decide)).trans rfl
  | 11, _ => pq_11
  | 12, _ => (c_lo (t := 11) (by decide)).trans rfl
  | 13, _ => pq_13
  | 14, _ => (c_lo (t := 13) (by decide)).trans rfl
  | 15, _ => pq_15
  | 16, _ => (c_fr (q := 0) (r := 1) (by decide) (by decide)).trans rfl
  | 17, _ => (c_fr (q := 0) (r := 2) (by decide) (by decide)).trans rfl
  | 18, _ => pq_18
  | 19, _ => (c_fr (q := 1) (r := 1) (by decide) (by decide)).trans rfl
  | 20, _ => (c_fr (q := 1) (r := 2) (by decide) (by decide)).trans rfl
  | 21, _ => pq_21
  | 22, _ => (c_fr (q := 2) (r := 1) (by decide) (by decide)).trans rfl
  | 23, _ => (c_fr (q := 2) (r := 2) (by decide) (by decide)).trans rfl
  | 24, _ => pq_24
  | 25, _ => (c_fr (q := 3) (r := 1) (by decide) (by decide)).trans rfl
  | 26, _ => (c_fr (q := 3) (r := 2) (by decide) (by decide)).trans rfl
  | 27, _ => pq_27
  | 28, _ => (c_fr (q := 4) (r := 1) (by decide) (by decide)).trans rfl
  | 29, _ => (c_fr (q := 4) (r := 2) (by decide) (by decide)).trans rfl
  | 30, _ => pq_30
  | 31, _ => pq_31
  | 32, _ => pq_32
  | 33, _ => pq_33
  | 34, _ => pq_34
  | 35, _ => pq_35
  | 36, _ => pq_36
  | 37, _ => pq_37
  | 38, _ => pq_38
  | 39, _ => pq_39
  | 40, _ => pq_40
  | 41, _ => pq_41
  | 42, _ => pq_42
  | m + 43, h => absurd h (by omega)
theorem lay_P {z : Nat} {h : HP} : laC z (Sum.inr (6, plV z) :: plT3 z) h = bOv z pLay (frP.1, frP.2, rfP z) h := by
  have l : (Sum.inr (6, plV z) :: plT3 z).length = 43 := congrArg (· + 1) t3_len
  have lf : pLay.length = 43 := rfl
  funext a
  unfold bOv laC
  rw [l, lf]
  by_cases e : z ≤ a ∧ a < z + 43
  · rw [if_pos e, if_pos e, pc_j _ (by omega)]
  · rw [if_neg e, if_neg e]
theorem rw_z {T0 : List MC} {q n a w : Nat} {C : String} (h : T0[q]? = some (.inl (.object C, zQ n))) : T0.set q (rwC C n a w 0) = T0 := by
  have e : rwC C n a w 0 = .inl (.object C, zQ n) := by
    unfold rwC zQ
    refine congrArg (fun f => (Sum.inl (FieldType.object C, n, .inr (.inr (.inr (.inr f)))) : MC)) (funext fun x => ?_)
    unfold rwF
    rw [if_neg (Nat.not_lt_zero _)]
  rw [e]
  refine List.ext_getElem? fun i => ?_
  by_cases y : q = i
  · subst y
    rw [List.getElem?_set_self (List.getElem?_eq_some_iff.mp h).1, h]
  · rw [List.getElem?_set_ne y]
theorem rw_go {z kf sl n N q ci nL w : Nat} {h : HP} {V V0 : Nat → Value} {ss : List CS} {f : XF} {C : String} {T0 : List MC} (hf : f = mth nL (sSeq sOI (prC ci ss sR0))) (n1 : Nat.ble 1 nL = true) (ok : ss.all okC = true) (hw : ∀ a, (blk ci ss V0 a).length = w) (h0 : T0[q]? = some (.inl (.object C, zQ n))) (hV : V kf = .ref (z + (q + 1))) (hn : n < 2 ^ 31) : sBlk (sLoop (rwB kf ci N C V0 f (nI n))) [.ref z, .int (nI 0)] (plS z V T0 h sl) = some (.inl 0, [.ref z, .int (nI n)], plS z V (T0.set q (rwC C n (z + (T0.length + 1)) w n) ++ bls ci ss V0 (z + (T0.length + 1)) w n) h (sl + n * (N + slC ss))) := by
  have r := rw_lp (kf := kf) (N := N) (C := C) (T0 := T0) (h := h) hf n1 ok hw (List.getElem?_eq_some_iff.mp h0).1 hV hn n 0 sl (Nat.zero_add _)
  rw [rw_z h0, show bls ci ss V0 (z + (T0.length + 1)) w 0 = [] from rfl, List.append_nil] at r
  exact r
theorem init_P {z sl : Nat} {h : HP} : m_X6_init [.ref z] (laS z [.inr (6, dV tyX6 13)] h sl) = some (none, (bOv z pLay (frP.1, frP.2, rfP z) h, z + 43, sl + 656)) := by
  unfold m_X6_init
  rw [mth_fin (Nat.le_of_ble_eq_true rfl)]
  show fin (b_X6_init [.ref z, UV] (plS z (dV tyX6 13) [] h sl)) = _
  unfold b_X6_init
  have s0 : sP2 (pF 6 0 (tyX6 0)) (eA 0) (eNew 8 7 (dV tyX8 7) m_X8_init []) [.ref z, UV] (plS z (dV tyX6 13) [] h (sl)) = some (.inl 0, [.ref z, UV], plS z (updV (dV tyX6 13) 0 (.ref (z + (0 + 1)))) (blk 8 ssTo (dV tyX8 7) (z + (0 + 1))) h (sl + 7 + slC ssTo)) := pl_o (tl := []) rfl (fun _ => rfl) m_To rfl rfl
  have s1 : sP2 (pF 6 1 (tyX6 1)) (eA 0) (eK (.int 0)) [.ref z, UV] (plS z (updV (dV tyX6 13) 0 (.ref (z + (0 + 1)))) (blk 8 ssTo (dV tyX8 7) (z + (0 + 1))) h (sl + 7 + slC ssTo)) = some (.inl 0, [.ref z, UV], plS z (updV (updV (dV tyX6 13) 0 (.ref (z + (0 + 1)))) 1 (.int 0)) (blk 8 ssTo (dV tyX8 7) (z + (0 + 1))) h (sl + 7 + slC ssTo)) := pl_c rfl rfl
  have s2 : sP2 (pF 6 2 (tyX6 2)) (eA 0) (eK (.int 0)) [.ref z, UV] (plS z (updV (updV (dV tyX6 13) 0 (.ref (z + (0 + 1)))) 1 (.int 0)) (blk 8 ssTo (dV tyX8 7) (z + (0 + 1))) h (sl + 7 + slC ssTo)) = some (.inl 0, [.ref z, UV], plS z (updV (updV (updV (dV tyX6 13) 0 (.ref (z + (0 + 1)))) 1 (.int 0)) 2 (.int 0)) (blk 8 ssTo (dV tyX8 7) (z + (0 + 1))) h (sl + 7 + slC ssTo)) := pl_c rfl rfl
  have s3 : sP2 (pF 6 3 (tyX6 3)) (eA 0) (eK (.int 0)) [.ref z, UV] (plS z (updV (updV (updV (dV tyX6 13) 0 (.ref (z + (0 + 1)))) 1 (.int 0)) 2 (.int 0)) (blk 8 ssTo (dV tyX8 7) (z + (0 + 1))) h (sl + 7 + slC ssTo)) = some (.inl 0, [.ref z, UV], plS z (updV (updV (updV (updV (dV tyX6 13) 0 (.ref (z + (0 + 1)))) 1 (.int 0)) 2 (.int 0)) 3 (.int 0)) (blk 8 ssTo (dV tyX8 7) (z + (0 + 1))) h (sl + 7 + slC ssTo)) := pl_c rfl rfl
  have s4 : sP2 (pF 6 4 (tyX6 4)) (eA 0) (eNA (.object RX3) zQ (eK (.int 5))) [.ref z, UV] (plS z (updV (updV (updV (updV (dV tyX6 13) 0 (.ref (z + (0 + 1)))) 1 (.int 0)) 2 (.int 0)) 3 (.int 0)) (blk 8 ssTo (dV tyX8 7) (z + (0 + 1))) h (sl + 7 + slC ssTo)) = some (.inl 0, [.ref z, UV], plS z (updV (updV (updV (updV (updV (dV tyX6 13) 0 (.ref (z + (0 + 1)))) 1 (.int 0)) 2 (.int 0)) 3 (.int 0)) 4 (.ref (z + (6 + 1)))) ((blk 8 ssTo (dV tyX8 7) (z + (0 + 1))) ++ [.inl ((.object RX3), zQ 5)]) h (sl + 7 + slC ssTo + 5)) := pl_a (tl := (blk 8 ssTo (dV tyX8 7) (z + (0 + 1)))) rfl (fun _ => rfl) (by decide)
  have s5 : sP2 (pF 6 5 (tyX6 5)) (eA 0) (eNA (.object RX5) zQ (eK (.int 3))) [.ref z, UV] (plS z (updV (updV (updV (updV (updV (dV tyX6 13) 0 (.ref (z + (0 + 1)))) 1 (.int 0)) 2 (.int 0)) 3 (.int 0)) 4 (.ref (z + (6 + 1)))) ((blk 8 ssTo (dV tyX8 7) (z + (0 + 1))) ++ [.inl ((.object RX3), zQ 5)]) h (sl + 7 + slC ssTo + 5)) = some (.inl 0, [.ref z, UV], plS z (updV (updV (updV (updV (updV (updV (dV tyX6 13) 0 (.ref (z + (0 + 1)))) 1 (.int 0)) 2 (.int 0)) 3 (.int 0)) 4 (.ref (z + (6 + 1)))) 5 (.ref (z + (7 + 1)))) (((blk 8 ssTo (dV tyX8 7) (z + (0 + 1))) ++ [.inl ((.object RX3), zQ 5)]) ++ [.inl ((.object RX5), zQ 3)]) h (sl + 7 + slC ssTo + 5 + 3)) := pl_a (tl := ((blk 8 ssTo (dV tyX8 7) (z + (0 + 1))) ++ [.inl ((.object RX3), zQ 5)])) rfl (fun _ => rfl) (by decide)
  have s6 : sP2 (pF 6 6 (tyX6 6)) (eA 0) (eNA (.object RX4) zQ (eK (.int 10))) [.ref z, UV] (plS z (updV (updV (updV (updV (updV (updV (dV tyX6 13) 0 (.ref (z + (0 + 1)))) 1 (.int 0)) 2 (.int 0)) 3 (.int 0)) 4 (.ref (z + (6 + 1)))) 5 (.ref (z + (7 + 1)))) (((blk 8 ssTo (dV tyX8 7) (z + (0 + 1))) ++ [.inl ((.object RX3), zQ 5)]) ++ [.inl ((.object RX5), zQ 3)]) h (sl + 7 + slC ssTo + 5 + 3)) = some (.inl 0, [.ref z, UV], plS z (updV (updV (updV (updV (updV (updV (updV (dV tyX6 13) 0 (.ref (z + (0 + 1)))) 1 (.int 0)) 2 (.int 0)) 3 (.int 0)) 4 (.ref (z + (6 + 1)))) 5 (.ref (z + (7 + 1)))) 6 (.ref (z + (8 + 1)))) ((((blk 8 ssTo (dV tyX8 7) (z + (0 + 1))) ++ [.inl ((.object RX3), zQ 5)]) ++ [.inl ((.object RX5), zQ 3)]) ++ [.inl ((.object RX4), zQ 10)]) h (sl + 7 + slC ssTo + 5 + 3 + 10)) := pl_a (tl := (((blk 8 ssTo (dV tyX8 7) (z + (0 + 1))) ++ [.inl ((.object RX3), zQ 5)]) ++ [.inl ((.object RX5), zQ 3)])) rfl (fun _ => rfl) (by decide)
  have s7 : sP2 (pF 6 7 (tyX6 7)) (eA 0) (eNA .boolean zI (eK (.int 200))) [.ref z, UV] (plS z (updV (updV (updV (updV (updV (updV (updV (dV tyX6 13) 0 (.ref (z + (0 + 1)))) 1 (.int 0)) 2 (.int 0)) 3 (.int 0)) 4 (.ref (z + (6 + 1)))) 5 (.ref (z + (7 + 1)))) 6 (.ref (z + (8 + 1)))) ((((blk 8 ssTo (dV tyX8 7) (z + (0 + 1))) ++ [.inl ((.object RX3), zQ 5)]) ++ [.inl ((.object RX5), zQ 3)]) ++ [.inl ((.object RX4), zQ 10)]) h (sl + 7 + slC ssTo + 5 + 3 + 10)) = some (.inl 0, [.ref z, UV], plS z (updV (updV (updV (updV (updV (updV (updV (updV (dV tyX6 13) 0 (.ref (z + (0 + 1)))) 1 (.int 0)) 2 (.int 0)) 3 (.int 0)) 4 (.ref (z + (6 + 1)))) 5 (.ref (z + (7 + 1)))) 6 (.ref (z + (8 + 1)))) 7 (.ref (z + (9 + 1)))) (((((blk 8 ssTo (dV tyX8 7) (z + (0 + 1))) ++ [.inl ((.object RX3), zQ 5)]) ++ [.inl ((.object RX5), zQ 3)]) ++ [.inl ((.object RX4), zQ 10)]) ++ [.inl (.boolean, zI 200)]) h (sl + 7 + slC ssTo + 5 + 3 + 10 + 200)) := pl_a (tl := ((((blk 8 ssTo (dV tyX8 7) (z + (0 + 1))) ++ [.inl ((.object RX3), zQ 5)]) ++ [.inl ((.object RX5), zQ 3)]) ++ [.inl ((.object RX4), zQ 10)])) rfl (fun _ => rfl) (by decide)
  have s8 : sP2 (pF 6 8 (tyX6 8)) (eA 0) (eNew 2 2 (dV tyX2 2) m_X2_init []) [.ref z, UV] (plS z (updV (updV (updV (updV (updV (updV (updV (updV (dV tyX6 13) 0 (.ref (z + (0 + 1)))) 1 (.int 0)) 2 (.int 0)) 3 (.int 0)) 4 (.ref (z + (6 + 1)))) 5 (.ref (z + (7 + 1)))) 6 (.ref (z + (8 + 1)))) 7 (.ref (z + (9 + 1)))) (((((blk 8 ssTo (dV tyX8 7) (z + (0 + 1))) ++ [.inl ((.object RX3), zQ 5)]) ++ [.inl ((.object RX5), zQ 3)]) ++ [.inl ((.object RX4), zQ 10)]) ++ [.inl (.boolean, zI 200)]) h (sl + 7 + slC ssTo + 5 + 3 + 10 + 200)) = some (.inl 0, [.ref z, UV], plS z (updV (updV (updV (updV (updV (updV (updV (updV (updV (dV tyX6 13) 0 (.ref (z + (0 + 1)))) 1 (.int 0)) 2 (.int 0)) 3 (.int 0)) 4 (.ref (z + (6 + 1)))) 5 (.ref (z + (7 + 1)))) 6 (.ref (z + (8 + 1)))) 7 (.ref (z + (9 + 1)))) 8 (.ref (z + (10 + 1)))) ((((((blk 8 ssTo (dV tyX8 7) (z + (0 + 1))) ++ [.inl ((.object RX3), zQ 5)]) ++ [.inl ((.object RX5), zQ 3)]) ++ [.inl ((.object RX4), zQ 10)]) ++ [.inl (.boolean, zI 200)]) ++ blk 2 ssFo (dV tyX2 2) (z + (10 + 1))) h (sl + 7 + slC ssTo + 5 + 3 + 10 + 200 + 2 + slC ssFo)) := pl_o (tl := (((((blk 8 ssTo (dV tyX8 7) (z + (0 + 1))) ++ [.inl ((.object RX3), zQ 5)]) ++ [.inl ((.object RX5), zQ 3)]) ++ [.inl ((.object RX4), zQ 10)]) ++ [.inl (.boolean, zI 200)])) rfl (fun _ => rfl) m_Fo rfl rfl
  have s9 : sP2 (pF 6 9 (tyX6 9)) (eA 0) (eNew 2 2 (dV tyX2 2) m_X2_init []) [.ref z, UV] (plS z (updV (updV (updV (updV (updV (updV (updV (updV (updV (dV tyX6 13) 0 (.ref (z + (0 + 1)))) 1 (.int 0)) 2 (.int 0)) 3 (.int 0)) 4 (.ref (z + (6 + 1)))) 5 (.ref (z + (7 + 1)))) 6 (.ref (z + (8 + 1)))) 7 (.ref (z + (9 + 1)))) 8 (.ref (z + (10 + 1)))) ((((((blk 8 ssTo (dV tyX8 7) (z + (0 + 1))) ++ [.inl ((.object RX3), zQ 5)]) ++ [.inl ((.object RX5), zQ 3)]) ++ [.inl ((.object RX4), zQ 10)]) ++ [.inl (.boolean, zI 200)]) ++ blk 2 ssFo (dV tyX2 2) (z + (10 + 1))) h (sl + 7 + slC ssTo + 5 + 3 + 10 + 200 + 2 + slC ssFo)) = some (.inl 0, [.ref z, UV], plS z (updV (updV (updV (updV (updV (updV (updV (updV (updV (updV (dV tyX6 13) 0 (.ref (z + (0 + 1)))) 1 (.int 0)) 2 (.int 0)) 3 (.int 0)) 4 (.ref (z + (6 + 1)))) 5 (.ref (z + (7 + 1)))) 6 (.ref (z + (8 + 1)))) 7 (.ref (z + (9 + 1)))) 8 (.ref (z + (10 + 1)))) 9 (.ref (z + (12 + 1)))) (((((((blk 8 ssTo (dV tyX8 7) (z + (0 + 1))) ++ [.inl ((.object RX3), zQ 5)]) ++ [.inl ((.object RX5), zQ 3)]) ++ [.inl ((.object RX4), zQ 10)]) ++ [.inl (.boolean, zI 200)]) ++ blk 2 ssFo (dV tyX2 2) (z + (10 + 1))) ++ blk 2 ssFo (dV tyX2 2) (z + (12 + 1))) h (sl + 7 + slC ssTo + 5 + 3 + 10 + 200 + 2 + slC ssFo + 2 + slC ssFo)) := pl_o (tl := ((((((blk 8 ssTo (dV tyX8 7) (z + (0 + 1))) ++ [.inl ((.object RX3), zQ 5)]) ++ [.inl ((.object RX5), zQ 3)]) ++ [.inl ((.object RX4), zQ 10)]) ++ [.inl (.boolean, zI 200)]) ++ blk 2 ssFo (dV tyX2 2) (z + (10 + 1)))) rfl (fun _ => rfl) m_Fo rfl rfl
  have s10 : sP2 (pF 6 10 (tyX6 10)) (eA 0) (eK (.int 0)) [.ref z, UV] (plS z (updV (updV (updV (updV (updV (updV (updV (updV (updV (updV (dV tyX6 13) 0 (.ref (z + (0 + 1)))) 1 (.int 0)) 2 (.int 0)) 3 (.int 0)) 4 (.ref (z + (6 + 1)))) 5 (.ref (z + (7 + 1)))) 6 (.ref (z + (8 + 1)))) 7 (.ref (z + (9 + 1)))) 8 (.ref (z + (10 + 1)))) 9 (.ref (z + (12 + 1)))) (((((((blk 8 ssTo (dV tyX8 7) (z + (0 + 1))) ++ [.inl ((.object RX3), zQ 5)]) ++ [.inl ((.object RX5), zQ 3)]) ++ [.inl ((.object RX4), zQ 10)]) ++ [.inl (.boolean, zI 200)]) ++ blk 2 ssFo (dV tyX2 2) (z + (10 + 1))) ++ blk 2 ssFo (dV tyX2 2) (z + (12 + 1))) h (sl + 7 + slC ssTo + 5 + 3 + 10 + 200 + 2 + slC ssFo + 2 + slC ssFo)) = some (.inl 0, [.ref z, UV], plS z (updV (updV (updV (updV (updV (updV (updV (updV (updV (updV (updV (dV tyX6 13) 0 (.ref (z + (0 + 1)))) 1 (.int 0)) 2 (.int 0)) 3 (.int 0)) 4 (.ref (z + (6 + 1)))) 5 (.ref (z + (7 + 1)))) 6 (.ref (z + (8 + 1)))) 7 (.ref (z + (9 + 1)))) 8 (.ref (z + (10 + 1)))) 9 (.ref (z + (12 + 1)))) 10 (.int 0)) (((((((blk 8 ssTo (dV tyX8 7) (z + (0 + 1))) ++ [.inl ((.object RX3), zQ 5)]) ++ [.inl ((.object RX5), zQ 3)]) ++ [.inl ((.object RX4), zQ 10)]) ++ [.inl (.boolean, zI 200)]) ++ blk 2 ssFo (dV tyX2 2) (z + (10 + 1))) ++ blk 2 ssFo (dV tyX2 2) (z + (12 + 1))) h (sl + 7 + slC ssTo + 5 + 3 + 10 + 200 + 2 + slC ssFo + 2 + slC ssFo)) := pl_c rfl rfl
  have s11 : sP2 (pF 6 11 (tyX6 11)) (eA 0) (eK (.int 0)) [.ref z, UV] (plS z (updV (updV (updV (updV (updV (updV (updV (updV (updV (updV (updV (dV tyX6 13) 0 (.ref (z + (0 + 1)))) 1 (.int 0)) 2 (.int 0)) 3 (.int 0)) 4 (.ref (z + (6 + 1)))) 5 (.ref (z + (7 + 1)))) 6 (.ref (z + (8 + 1)))) 7 (.ref (z + (9 + 1)))) 8 (.ref (z + (10 + 1)))) 9 (.ref (z + (12 + 1)))) 10 (.int 0)) (((((((blk 8 ssTo (dV tyX8 7) (z + (0 + 1))) ++ [.inl ((.object RX3), zQ 5)]) ++ [.inl ((.object RX5), zQ 3)]) ++ [.inl ((.object RX4), zQ 10)]) ++ [.inl (.boolean, zI 200)]) ++ blk 2 ssFo (dV tyX2 2) (z + (10 + 1))) ++ blk 2 ssFo (dV tyX2 2) (z + (12 + 1))) h (sl + 7 + slC ssTo + 5 + 3 + 10 + 200 + 2 + slC ssFo + 2 + slC ssFo)) = some (.inl 0, [.ref z, UV], plS z (updV (updV (updV (updV (updV (updV (updV (updV (updV (updV (updV (updV (dV tyX6 13) 0 (.ref (z + (0 + 1)))) 1 (.int 0)) 2 (.int 0)) 3 (.int 0)) 4 (.ref (z + (6 + 1)))) 5 (.ref (z + (7 + 1)))) 6 (.ref (z + (8 + 1)))) 7 (.ref (z + (9 + 1)))) 8 (.ref (z + (10 + 1)))) 9 (.ref (z + (12 + 1)))) 10 (.int 0)) 11 (.int 0)) (((((((blk 8 ssTo (dV tyX8 7) (z + (0 + 1))) ++ [.inl ((.object RX3), zQ 5)]) ++ [.inl ((.object RX5), zQ 3)]) ++ [.inl ((.object RX4), zQ 10)]) ++ [.inl (.boolean, zI 200)]) ++ blk 2 ssFo (dV tyX2 2) (z + (10 + 1))) ++ blk 2 ssFo (dV tyX2 2) (z + (12 + 1))) h (sl + 7 + slC ssTo + 5 + 3 + 10 + 200 + 2 + slC ssFo + 2 + slC ssFo)) := pl_c rfl rfl
  have s12 : sP2 (pF 6 12 (tyX6 12)) (eA 0) (eK (.int 0)) [.ref z, UV] (plS z (updV (updV (updV (updV (updV (updV (updV (updV (updV (updV (updV (updV (dV tyX6 13) 0 (.ref (z + (0 + 1)))) 1 (.int 0)) 2 (.int 0)) 3 (.int 0)) 4 (.ref (z + (6 + 1)))) 5 (.ref (z + (7 + 1)))) 6 (.ref (z + (8 + 1)))) 7 (.ref (z + (9 + 1)))) 8 (.ref (z + (10 + 1)))) 9 (.ref (z + (12 + 1)))) 10 (.int 0)) 11 (.int 0)) (((((((blk 8 ssTo (dV tyX8 7) (z + (0 + 1))) ++ [.inl ((.object RX3), zQ 5)]) ++ [.inl ((.object RX5), zQ 3)]) ++ [.inl ((.object RX4), zQ 10)]) ++ [.inl (.boolean, zI 200)]) ++ blk 2 ssFo (dV tyX2 2) (z + (10 + 1))) ++ blk 2 ssFo (dV tyX2 2) (z + (12 + 1))) h (sl + 7 + slC ssTo + 5 + 3 + 10 + 200 + 2 + slC ssFo + 2 + slC ssFo)) = some (.inl 0, [.ref z, UV], plS z (updV (updV (updV (updV (updV (updV (updV (updV (updV (updV (updV (updV (updV (dV tyX6 13) 0 (.ref (z + (0 + 1)))) 1 (.int 0)) 2 (.int 0)) 3 (.int 0)) 4 (.ref (z + (6 + 1)))) 5 (.ref (z + (7 + 1)))) 6 (.ref (z + (8 + 1)))) 7 (.ref (z + (9 + 1)))) 8 (.ref (z + (10 + 1)))) 9 (.ref (z + (12 + 1)))) 10 (.int 0)) 11 (.int 0)) 12 (.int 0)) (((((((blk 8 ssTo (dV tyX8 7) (z + (0 + 1))) ++ [.inl ((.object RX3), zQ 5)]) ++ [.inl ((.object RX5), zQ 3)]) ++ [.inl ((.object RX4), zQ 10)]) ++ [.inl (.boolean, zI 200)]) ++ blk 2 ssFo (dV tyX2 2) (z + (10 + 1))) ++ blk 2 ssFo (dV tyX2 2) (z + (12 + 1))) h (sl + 7 + slC ssTo + 5 + 3 + 10 + 200 + 2 + slC ssFo + 2 + slC ssFo)) := pl_c rfl rfl
  have so : sOI [.ref z, UV] (plS z (dV tyX6 13) [] h sl) = some (.inl 0, [.ref z, UV], plS z (dV tyX6 13) [] h sl) := rfl
  rw [sSeq_t, so, thn_0, sSeq_t, s0, thn_0, sSeq_t, s1, thn_0, sSeq_t, s2, thn_0, sSeq_t, s3, thn_0, sSeq_t, s4, thn_0, sSeq_t, s5, thn_0, sSeq_t, s6, thn_0, sSeq_t, s7, thn_0, sSeq_t, s8, thn_0, sSeq_t, s9, thn_0, sSeq_t, s10, thn_0, sSeq_t, s11, thn_0, sSeq_t, s12, thn_0]
  have st : ∀ (L : List Value) (x : Int32) (s : ST), L = [.ref z, UV] ∨ (∃ y, L = [.ref z, .int y]) → sStI 1 (eK (.int 0)) L s = some (.inl 0, [.ref z, .int (nI 0)], s) := fun L x s hL => by
    rcases hL with rfl | ⟨y, rfl⟩ <;> rfl
  have eT : plS z (updV (updV (updV (updV (updV (updV (updV (updV (updV (updV (updV (updV (updV (dV tyX6 13) 0 (.ref (z + (0 + 1)))) 1 (.int 0)) 2 (.int 0)) 3 (.int 0)) 4 (.ref (z + (6 + 1)))) 5 (.ref (z + (7 + 1)))) 6 (.ref (z + (8 + 1)))) 7 (.ref (z + (9 + 1)))) 8 (.ref (z + (10 + 1)))) 9 (.ref (z + (12 + 1)))) 10 (.int 0)) 11 (.int 0)) 12 (.int 0)) (((((((blk 8 ssTo (dV tyX8 7) (z + (0 + 1))) ++ [.inl ((.object RX3), zQ 5)]) ++ [.inl ((.object RX5), zQ 3)]) ++ [.inl ((.object RX4), zQ 10)]) ++ [.inl (.boolean, zI 200)]) ++ blk 2 ssFo (dV tyX2 2) (z + (10 + 1))) ++ blk 2 ssFo (dV tyX2 2) (z + (12 + 1))) h (sl + 7 + slC ssTo + 5 + 3 + 10 + 200 + 2 + slC ssFo + 2 + slC ssFo) = plS z (plV z) (plT0 z) h (sl + 7 + slC ssTo + 5 + 3 + 10 + 200 + 2 + slC ssFo + 2 + slC ssFo) := rfl
  rw [eT, sSeq_t, st _ 0 _ (Or.inl rfl), thn_0]
  have l0 : sBlk (sLoop l_X6_init_0) [.ref z, .int (nI 0)] (plS z (plV z) (plT0 z) h (sl + 7 + slC ssTo + 5 + 3 + 10 + 200 + 2 + slC ssFo + 2 + slC ssFo)) = some (.inl 0, [.ref z, .int (nI 5)], plS z (plV z) (plT1 z) h (sl + 7 + slC ssTo + 5 + 3 + 10 + 200 + 2 + slC ssFo + 2 + slC ssFo + 5 * (8 + slC ssFr))) := rw_go (kf := 4) (q := 6) (n := 5) (N := 8) (C := RX3) (T0 := plT0 z) m_Fr rfl rfl bk_Fr rfl rfl (by decide)
  rw [sSeq_t, l0, thn_0, sSeq_t, st _ 0 _ (Or.inr ⟨_, rfl⟩), thn_0]
  have a1 : (plT1 z)[7]? = some (.inl (.object RX5, zQ 3)) := (t1_lo (by decide) (by decide)).trans rfl
  have l1 : sBlk (sLoop l_X6_init_1) [.ref z, .int (nI 0)] (plS z (plV z) (plT1 z) h (sl + 7 + slC ssTo + 5 + 3 + 10 + 200 + 2 + slC ssFo + 2 + slC ssFo + 5 * (8 + slC ssFr))) = some (.inl 0, [.ref z, .int (nI 3)], plS z (plV z) (plT2 z) h (sl + 7 + slC ssTo + 5 + 3 + 10 + 200 + 2 + slC ssFo + 2 + slC ssFo + 5 * (8 + slC ssFr) + 3 * (4 + slC ssMa))) := by
    have r := rw_go (z := z) (kf := 5) (q := 7) (n := 3) (N := 4) (C := RX5) (V := plV z) (h := h) (sl := sl + 7 + slC ssTo + 5 + 3 + 10 + 200 + 2 + slC ssFo + 2 + slC ssFo + 5 * (8 + slC ssFr)) (T0 := plT1 z) m_Ma rfl rfl bk_Ma a1 rfl (by decide)
    rw [t1_len] at r
    exact r
  rw [sSeq_t, l1, thn_0, sSeq_t, st _ 0 _ (Or.inr ⟨_, rfl⟩), thn_0]
  have a2 : (plT2 z)[8]? = some (.inl (.object RX4, zQ 10)) := (t2_lo (by decide) (by decide)).trans ((t1_lo (by decide) (by decide)).trans rfl)
  have l2 : sBlk (sLoop l_X6_init_2) [.ref z, .int (nI 0)] (plS z (plV z) (plT2 z) h (sl + 7 + slC ssTo + 5 + 3 + 10 + 200 + 2 + slC ssFo + 2 + slC ssFo + 5 * (8 + slC ssFr) + 3 * (4 + slC ssMa))) = some (.inl 0, [.ref z, .int (nI 10)], plS z (plV z) (plT3 z) h (sl + 7 + slC ssTo + 5 + 3 + 10 + 200 + 2 + slC ssFo + 2 + slC ssFo + 5 * (8 + slC ssFr) + 3 * (4 + slC ssMa) + 10 * (11 + slC ssHo))) := by
    have r := rw_go (z := z) (kf := 6) (q := 8) (n := 10) (N := 11) (C := RX4) (V := plV z) (h := h) (sl := sl + 7 + slC ssTo + 5 + 3 + 10 + 200 + 2 + slC ssFo + 2 + slC ssFo + 5 * (8 + slC ssFr) + 3 * (4 + slC ssMa)) (T0 := plT2 z) m_Ho rfl rfl bk_Ho a2 rfl (by decide)
    rw [t2_len] at r
    exact r
  rw [sSeq_t, l2, thn_0]
  show some (none, (laC z (Sum.inr (6, plV z) :: plT3 z) h, z + (Sum.inr (6, plV z) :: plT3 z).length, _)) = _
  have lc : (Sum.inr (6, plV z) :: plT3 z).length = 43 := congrArg (· + 1) t3_len
  have q1 : slC ssTo = 17 := rfl
  have q2 : slC ssFo = 64 := rfl
  have q3 : slC ssFr = 24 := rfl
  have q4 : slC ssMa = 0 := rfl
  have q5 : slC ssHo = 0 := rfl
  rw [lay_P, lc, q1, q2, q3, q4, q5]
