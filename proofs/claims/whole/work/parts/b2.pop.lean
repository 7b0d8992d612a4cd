/-! ===== how many members ===== -/
def bc1 (a : Int32) : Int32 := a - (((a.toUInt32 >>> ((1 : Int32).toUInt32 &&& Int32.toUInt32 31)).toInt32) &&& (1431655765 : Int32))
def bc2 (v : Int32) : Int32 := (v &&& (858993459 : Int32)) + (((v.toUInt32 >>> ((2 : Int32).toUInt32 &&& Int32.toUInt32 31)).toInt32) &&& (858993459 : Int32))
def bc3 (v : Int32) : Int32 := (v + ((v.toUInt32 >>> ((4 : Int32).toUInt32 &&& Int32.toUInt32 31)).toInt32)) &&& (252645135 : Int32)
def bc4 (v : Int32) : Int32 := v + ((v.toUInt32 >>> ((8 : Int32).toUInt32 &&& Int32.toUInt32 31)).toInt32)
def bc5 (v : Int32) : Int32 := v + ((v.toUInt32 >>> ((16 : Int32).toUInt32 &&& Int32.toUInt32 31)).toInt32)
def bcF (a : Int32) : Int32 := bc5 (bc4 (bc3 (bc2 (bc1 a)))) &&& (63 : Int32)
set_option maxRecDepth 20000 in
theorem bcF_all : ∀ a : Fin 64, ∀ b : Fin 64, bcF (nI (64 * a.val + b.val)) = nI (pop 12 (64 * a.val + b.val)) := by decide +kernel
theorem bitCount_ok {x : Nat} {Q : Int32 → Prop} (hx : x < 4096) (hQ : Q (nI (pop 12 x))) : k_J6_bitCount_0f7a4 (nI x) Q := by
  have h := bcF_all ⟨x / 64, by omega⟩ ⟨x % 64, by omega⟩
  dsimp only at h
  rw [show 64 * (x / 64) + x % 64 = x by omega] at h
  rw [← h] at hQ
  unfold k_J6_bitCount_0f7a4
  exact vK_i (vK_i (vK_i (vK_i (vK_i hQ))))
theorem pop_le : ∀ (n s : Nat), pop n s ≤ n
  | 0, _ => Nat.le_refl _
  | n + 1, s => by
    have := pop_le n s
    show pop n s + (if s.testBit n = true then 1 else 0) ≤ n + 1
    split <;> omega
theorem pop_up {s n : Nat} (h : s < 2 ^ n) : ∀ j, pop (n + j) s = pop n s
  | 0 => rfl
  | j + 1 => by
    show pop (n + j) s + (if s.testBit (n + j) = true then 1 else 0) = pop n s
    rw [pop_up h j, Nat.testBit_lt_two_pow (Nat.lt_of_lt_of_le h (Nat.pow_le_pow_right (by decide) (by omega)))]
    rfl
theorem bitsOf_ok {x : Nat} {Q : Int32 → Prop} (hx : x < 4096) (hQ : Q (nI (pop 12 x))) : k_X12_bitsOf (nI x) Q := by
  unfold k_X12_bitsOf
  have hs : ∀ k, k ≤ 31 → sumI (fun i => (nI x >>> (nI i &&& 31)) &&& 1) k = nI (pop k x) := by
    intro k
    induction k with
    | zero => intro _; rfl
    | succ k ih =>
      intro hk
      rw [sumI_s, ih (by omega), bit_n (by omega) (by omega)]
      show _ = nI (pop k x + if x.testBit k = true then 1 else 0)
      by_cases h : x.testBit k = true
      · rw [if_pos h, if_pos h, nI_1]
      · rw [if_neg h, if_neg h, Int32.add_zero, Nat.add_zero]
  refine sum_lp (g := fun i => (nI x >>> (nI i &&& 31)) &&& 1) (N := 31) (E := Q) (by omega) (fun R s i hi hr => ?_) (fun R s hE => ?_) ?_
  · rw [li_31, if_neg (nI_ge hi (by omega)), vK_eq, nI_1]
    exact hr
  · rw [li_31, if_pos (Int32.le_refl _)]
    exact hE
  · rw [hs 31 (by omega), show 31 = 12 + 19 from rfl, pop_up (n := 12) hx 19]
    exact hQ
theorem sbs_num {a b : Nat} (h : sbs a b) : a ≤ b := by
  have e : a &&& b = a := by
    apply Nat.eq_of_testBit_eq
    intro k
    rw [Nat.testBit_and]
    cases x : a.testBit k with
    | false => rfl
    | true => rw [h k x]; rfl
  rw [← e]
  exact Nat.and_le_right
theorem dif_self_iff {s a : Nat} : dif s a = s ↔ s &&& a = 0 := by
  constructor
  · intro e
    apply Nat.eq_of_testBit_eq
    intro k
    have := dif_bit s a k
    rw [e] at this
    rw [Nat.testBit_and, Nat.zero_testBit]
    cases x : s.testBit k with
    | false => rfl
    | true =>
      rw [x] at this
      cases y : a.testBit k with
      | false => rfl
      | true =>
        rw [y] at this
        cases this
  · exact dif_no
theorem dif_less {s a : Nat} (h : s &&& a ≠ 0) : dif s a < s := by
  have h1 := sbs_num (sbs_dif s a)
  by_cases e : dif s a = s
  · exact absurd (dif_self_iff.mp e) h
  · omega
/-- what the others take away doesn't matter -/
theorem dif_and (s a : Nat) : dif s (s &&& a) = dif s a := by
  apply Nat.eq_of_testBit_eq
  intro k
  rw [dif_bit, dif_bit, Nat.testBit_and]
  cases s.testBit k <;> cases a.testBit k <;> rfl
