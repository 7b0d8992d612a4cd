/-! ===== blocks of cells with a layout: what the heap holds, as functions ===== -/
abbrev LY : Type := List ((FieldType × Nat) ⊕ (Nat × List Nat))
abbrev BC : Type := (Nat → Nat → Int32) × (Nat → Nat → Int64) × (Nat → Nat → Option Nat)
def up2 {α : Type} (f : Nat → Nat → α) (j k : Nat) (x : α) : Nat → Nat → α := fun j' k' => if j' = j ∧ k' = k then x else f j' k'
def setI (c : BC) (j k : Nat) (x : Int32) : BC := (up2 c.1 j k x, c.2.1, c.2.2)
def setL (c : BC) (j k : Nat) (x : Int64) : BC := (c.1, up2 c.2.1 j k x, c.2.2)
def setR (c : BC) (j k : Nat) (x : Option Nat) : BC := (c.1, c.2.1, up2 c.2.2 j k x)
def bVal (r : Nat) (c : BC) (j : Nat) (ks : List Nat) (k : Nat) : Value := match ks.getD k 0 with
  | 0 => .int (c.1 j k)
  | 1 => va_rf (c.2.2 j k)
  | o + 2 => .ref (r + o)
def bArr (c : BC) (j : Nat) (ty : FieldType) (n : Nat) : vp_A := match ty with
  | .long => (n, .inr (.inl (c.2.1 j)))
  | .object _ => (n, .inr (.inr (.inr (.inr (c.2.2 j)))))
  | _ => (n, .inl (c.1 j))
def bCell (r : Nat) (lay : LY) (c : BC) (j : Nat) : Option MC := match lay[j]? with
  | some (.inl q) => some (.inl (q.1, bArr c j q.1 q.2))
  | some (.inr q) => some (.inr (q.1, bVal r c j q.2))
  | none => none
def bOv (r : Nat) (lay : LY) (c : BC) (rest : HP) : HP := fun a => if r ≤ a ∧ a < r + lay.length then bCell r lay c (a - r) else rest a
theorem bOv_at {r : Nat} {lay : LY} {c : BC} {rest : HP} {j : Nat} (h : j < lay.length) : bOv r lay c rest (r + j) = bCell r lay c j := by
  unfold bOv
  rw [if_pos ⟨by omega, by omega⟩, Nat.add_sub_cancel_left]
theorem bOv_out {r : Nat} {lay : LY} {c : BC} {rest : HP} {a : Nat} (h : a < r ∨ r + lay.length ≤ a) : bOv r lay c rest a = rest a := by
  unfold bOv
  rw [if_neg (by omega)]
theorem lay_lt {lay : LY} {j : Nat} {q : (FieldType × Nat) ⊕ (Nat × List Nat)} (h : lay[j]? = some q) : j < lay.length := (List.getElem?_eq_some_iff.mp h).1
theorem bOv_obj {r : Nat} {lay : LY} {c : BC} {rest : HP} {j ci : Nat} {ks : List Nat} (h : lay[j]? = some (.inr (ci, ks))) : bOv r lay c rest (r + j) = some (.inr (ci, bVal r c j ks)) := by
  rw [bOv_at (lay_lt h)]
  unfold bCell
  rw [h]
theorem bOv_arr {r : Nat} {lay : LY} {c : BC} {rest : HP} {j n : Nat} {ty : FieldType} (h : lay[j]? = some (.inl (ty, n))) : bOv r lay c rest (r + j) = some (.inl (ty, bArr c j ty n)) := by
  rw [bOv_at (lay_lt h)]
  unfold bCell
  rw [h]
/-- a change of one cell is a change of the content there -/
theorem bOv_upd {r : Nat} {lay : LY} {c c' : BC} {rest : HP} {j : Nat} {x : MC} (hj : j < lay.length) (h0 : bCell r lay c' j = some x) (h1 : ∀ i, i ≠ j → bCell r lay c' i = bCell r lay c i) : (fun a => if a = r + j then some x else bOv r lay c rest a) = bOv r lay c' rest := by
  funext a
  by_cases ha : a = r + j
  · rw [if_pos ha, ha, bOv_at hj, h0]
  · rw [if_neg ha]
    unfold bOv
    split
    · rename_i hh
      exact (h1 (a - r) (by omega)).symm
    · rfl
theorem bVal_other {r : Nat} {c c' : BC} {i : Nat} (h1 : c'.1 i = c.1 i) (h2 : c'.2.1 i = c.2.1 i) (h3 : c'.2.2 i = c.2.2 i) (lay : LY) : bCell r lay c' i = bCell r lay c i := by
  unfold bCell
  split
  · rename_i q _
    unfold bArr
    rw [h1, h2, h3]
  · rename_i q _
    have : bVal r c' i q.2 = bVal r c i q.2 := by
      funext k
      unfold bVal
      rw [h1, h3]
    rw [this]
  · rfl
theorem up2_ne {α : Type} {f : Nat → Nat → α} {j k i : Nat} {x : α} (h : i ≠ j) : up2 f j k x i = f i := by
  funext q
  simp [up2, h]
theorem up2_eq {α : Type} {f : Nat → Nat → α} {j k : Nat} {x : α} : up2 f j k x j = fun q => if q = k then x else f j q := by
  funext q
  simp [up2]
theorem bOv_setI {r : Nat} {lay : LY} {c : BC} {rest : HP} {j k : Nat} {x : Int32} {y : MC} (hj : j < lay.length) (h0 : bCell r lay (setI c j k x) j = some y) : (fun a => if a = r + j then some y else bOv r lay c rest a) = bOv r lay (setI c j k x) rest :=
  bOv_upd hj h0 fun i hi => bVal_other (c := c) (c' := setI c j k x) (up2_ne hi) rfl rfl lay
theorem bOv_setL {r : Nat} {lay : LY} {c : BC} {rest : HP} {j k : Nat} {x : Int64} {y : MC} (hj : j < lay.length) (h0 : bCell r lay (setL c j k x) j = some y) : (fun a => if a = r + j then some y else bOv r lay c rest a) = bOv r lay (setL c j k x) rest :=
  bOv_upd hj h0 fun i hi => bVal_other (c := c) (c' := setL c j k x) rfl (up2_ne hi) rfl lay
theorem bOv_setR {r : Nat} {lay : LY} {c : BC} {rest : HP} {j k : Nat} {x : Option Nat} {y : MC} (hj : j < lay.length) (h0 : bCell r lay (setR c j k x) j = some y) : (fun a => if a = r + j then some y else bOv r lay c rest a) = bOv r lay (setR c j k x) rest :=
  bOv_upd hj h0 fun i hi => bVal_other (c := c) (c' := setR c j k x) rfl rfl (up2_ne hi) lay
section Acc
variable {r : Nat} {lay : LY} {c : BC} {rest : HP} {z : Nat × Nat} {j : Nat}
theorem gF_i {ci k : Nat} {ks : List Nat} (h : lay[j]? = some (.inr (ci, ks))) (hk : ks.getD k 0 = 0) : gF ci k (.ref (r + j)) (bOv r lay c rest, z) = some (.int (c.1 j k)) := by
  unfold gF
  dsimp only
  rw [bOv_obj h]
  dsimp only
  rw [if_pos rfl]
  unfold bVal
  rw [hk]
theorem gF_r {ci k : Nat} {ks : List Nat} (h : lay[j]? = some (.inr (ci, ks))) (hk : ks.getD k 0 = 1) : gF ci k (.ref (r + j)) (bOv r lay c rest, z) = some (va_rf (c.2.2 j k)) := by
  unfold gF
  dsimp only
  rw [bOv_obj h]
  dsimp only
  rw [if_pos rfl]
  unfold bVal
  rw [hk]
theorem gF_s {ci k o : Nat} {ks : List Nat} (h : lay[j]? = some (.inr (ci, ks))) (hk : ks.getD k 0 = o + 2) : gF ci k (.ref (r + j)) (bOv r lay c rest, z) = some (.ref (r + o)) := by
  unfold gF
  dsimp only
  rw [bOv_obj h]
  dsimp only
  rw [if_pos rfl]
  unfold bVal
  rw [hk]
theorem pF_i {ci k : Nat} {ks : List Nat} {ty : FieldType} {x : Int32} (h : lay[j]? = some (.inr (ci, ks))) (hk : ks.getD k 0 = 0) (hv : vfit ty (.int x) = true) : pF ci k ty (.ref (r + j)) (.int x) (bOv r lay c rest, z) = some (bOv r lay (setI c j k x) rest, z) := by
  unfold pF
  dsimp only
  rw [bOv_obj h]
  dsimp only
  rw [if_pos ⟨rfl, hv⟩]
  unfold updH
  dsimp only
  rw [bOv_setI (k := k) (x := x) (lay_lt h)]
  unfold bCell
  rw [h]
  dsimp only
  congr 3
  funext q
  unfold bVal updV setI
  by_cases hq : q = k
  · subst hq
    rw [if_pos rfl, hk]
    simp [up2]
  · rw [if_neg hq]
    simp [up2, hq]
theorem pF_r {ci k : Nat} {ks : List Nat} {ty : FieldType} {x : Option Nat} (h : lay[j]? = some (.inr (ci, ks))) (hk : ks.getD k 0 = 1) (hv : vfit ty (va_rf x) = true) : pF ci k ty (.ref (r + j)) (va_rf x) (bOv r lay c rest, z) = some (bOv r lay (setR c j k x) rest, z) := by
  unfold pF
  dsimp only
  rw [bOv_obj h]
  dsimp only
  rw [if_pos ⟨rfl, hv⟩]
  unfold updH
  dsimp only
  rw [bOv_setR (k := k) (x := x) (lay_lt h)]
  unfold bCell
  rw [h]
  dsimp only
  congr 3
  funext q
  unfold bVal updV setR
  by_cases hq : q = k
  · subst hq
    rw [if_pos rfl, hk]
    simp [up2]
  · rw [if_neg hq]
    simp [up2, hq]
theorem arI_b {n : Nat} {i : Int32} (h : lay[j]? = some (.inl (.int, n))) : arI .int (.ref (r + j)) (.int i) (bOv r lay c rest, z) = if ¬ (i < 0 ∨ n ≤ i.toNatClampNeg) then some (.int (c.1 j i.toNatClampNeg)) else none := by
  unfold arI
  dsimp only
  rw [bOv_arr h]
  simp [bArr]
theorem arZ_b {n : Nat} {i : Int32} {ty : FieldType} (h : lay[j]? = some (.inl (ty, n))) (ht : ty = .byte ∨ ty = .boolean) : arZ (.ref (r + j)) (.int i) (bOv r lay c rest, z) = if ¬ (i < 0 ∨ n ≤ i.toNatClampNeg) then some (.int (c.1 j i.toNatClampNeg)) else none := by
  unfold arZ
  dsimp only
  rw [bOv_arr h]
  rcases ht with rfl | rfl <;> simp [bArr]
theorem arL_b {n : Nat} {i : Int32} (h : lay[j]? = some (.inl (.long, n))) : arL (.ref (r + j)) (.int i) (bOv r lay c rest, z) = if ¬ (i < 0 ∨ n ≤ i.toNatClampNeg) then some (.long (c.2.1 j i.toNatClampNeg)) else none := by
  unfold arL
  dsimp only
  rw [bOv_arr h]
  simp [bArr]
theorem arR_b {n : Nat} {i : Int32} {C : String} (h : lay[j]? = some (.inl (.object C, n))) : arR C (.ref (r + j)) (.int i) (bOv r lay c rest, z) = if ¬ (i < 0 ∨ n ≤ i.toNatClampNeg) then some (va_rf (c.2.2 j i.toNatClampNeg)) else none := by
  unfold arR
  dsimp only
  rw [bOv_arr h]
  simp [bArr]
theorem arN_b {n : Nat} {ty : FieldType} (h : lay[j]? = some (.inl (ty, n))) : arN (.ref (r + j)) (bOv r lay c rest, z) = some (.int (Int32.ofNat n)) := by
  unfold arN
  dsimp only
  rw [bOv_arr h]
  cases ty <;> rfl
theorem asI_b {n : Nat} {i x : Int32} (h : lay[j]? = some (.inl (.int, n))) : asI (.ref (r + j)) (.int i) (.int x) (bOv r lay c rest, z) = if ¬ (i < 0 ∨ n ≤ i.toNatClampNeg) then some (bOv r lay (setI c j i.toNatClampNeg x) rest, z) else none := by
  unfold asI
  dsimp only
  rw [bOv_arr h]
  simp only [bArr, true_and]
  by_cases hi : ¬ (i < 0 ∨ n ≤ i.toNatClampNeg)
  · rw [if_pos hi, if_pos hi]
    unfold updH
    dsimp only
    rw [bOv_setI (k := i.toNatClampNeg) (x := x) (lay_lt h)]
    unfold bCell
    rw [h]
    simp only [bArr, setI, up2_eq]
    rfl
  · rw [if_neg hi, if_neg hi]
theorem asZ_b {n : Nat} {i x : Int32} {ty : FieldType} (h : lay[j]? = some (.inl (ty, n))) (ht : ty = .byte ∨ ty = .boolean) : asZ (.ref (r + j)) (.int i) (.int x) (bOv r lay c rest, z) = if ¬ (i < 0 ∨ n ≤ i.toNatClampNeg) then some (bOv r lay (setI c j i.toNatClampNeg (vp_nar ty x)) rest, z) else none := by
  unfold asZ
  dsimp only
  rw [bOv_arr h]
  have e : bArr c j ty n = (n, .inl (c.1 j)) := by rcases ht with rfl | rfl <;> rfl
  rw [e]
  dsimp only
  by_cases hi : ¬ (i < 0 ∨ n ≤ i.toNatClampNeg)
  · rw [if_pos ⟨ht, hi⟩, if_pos hi]
    unfold updH
    dsimp only
    rw [bOv_setI (k := i.toNatClampNeg) (x := vp_nar ty x) (lay_lt h)]
    unfold bCell
    rw [h]
    have e2 : bArr (setI c j i.toNatClampNeg (vp_nar ty x)) j ty n = (n, .inl ((setI c j i.toNatClampNeg (vp_nar ty x)).1 j)) := by rcases ht with rfl | rfl <;> rfl
    dsimp only
    rw [e2]
    simp only [setI, up2_eq]
    rfl
  · rw [if_neg (fun q => hi q.2), if_neg hi]
theorem asL_b {n : Nat} {i : Int32} {x : Int64} (h : lay[j]? = some (.inl (.long, n))) : asL (.ref (r + j)) (.int i) (.long x) (bOv r lay c rest, z) = if ¬ (i < 0 ∨ n ≤ i.toNatClampNeg) then some (bOv r lay (setL c j i.toNatClampNeg x) rest, z) else none := by
  unfold asL
  dsimp only
  rw [bOv_arr h]
  simp only [bArr, true_and]
  by_cases hi : ¬ (i < 0 ∨ n ≤ i.toNatClampNeg)
  · rw [if_pos hi, if_pos hi]
    unfold updH
    dsimp only
    rw [bOv_setL (k := i.toNatClampNeg) (x := x) (lay_lt h)]
    unfold bCell
    rw [h]
    simp only [bArr, setL, up2_eq]
    rfl
  · rw [if_neg hi, if_neg hi]
theorem fV_b {ci : Nat} {ks : List Nat} {f : XF} {as : List Value} (h : lay[j]? = some (.inr (ci, ks))) : fV ci f (.ref (r + j) :: as) (bOv r lay c rest, z) = f (.ref (r + j) :: as) (bOv r lay c rest, z) := by
  unfold fV
  dsimp only
  rw [bOv_obj h]
  simp
end Acc
