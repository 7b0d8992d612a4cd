/-! ===== bits ===== -/
theorem and31 {i : Nat} (h : i < 32) : nI i &&& 31 = nI i := by
  rw [pk_andN (n := i) (by omega) 5 (by decide), Nat.mod_eq_of_lt h]
theorem smod32 : ∀ i : Fin 32, ((nI i.val).toBitVec.smod 32).toNat = i.val := by decide
theorem shr_n {m i : Nat} (hm : m < 2 ^ 31) (hi : i < 32) : nI m >>> (nI i &&& 31) = nI (m / 2 ^ i) := by
  rw [and31 hi]
  exact pk_shrN hm _ i (smod32 ⟨i, hi⟩)
theorem shl_n {m i : Nat} (hi : i < 32) (h : m * 2 ^ i < 2 ^ 32) : nI m <<< (nI i &&& 31) = nI (m * 2 ^ i) := by
  rw [and31 hi]
  exact pk_shlN _ i (smod32 ⟨i, hi⟩) h
theorem shl_1 {i : Nat} (hi : i < 32) : (1 : Int32) <<< (nI i &&& 31) = nI (2 ^ i) := by
  have h : 2 ^ i < 2 ^ 32 := Nat.pow_lt_pow_right (by decide) hi
  have := shl_n (m := 1) hi (by omega)
  rw [Nat.one_mul] at this
  exact this
theorem and1_n {m : Nat} (hm : m < 2 ^ 32) : nI m &&& 1 = nI (m % 2) := pk_andN hm 1 (by decide)
theorem bit_n {m i : Nat} (hm : m < 2 ^ 31) (hi : i < 32) : (nI m >>> (nI i &&& 31)) &&& 1 = if m.testBit i = true then 1 else 0 := by
  have h2 : m / 2 ^ i < 2 ^ 31 := Nat.lt_of_le_of_lt (Nat.div_le_self _ _) hm
  rw [shr_n hm hi, and1_n (by omega), Nat.testBit_eq_decide_div_mod_eq]
  rcases Nat.mod_two_eq_zero_or_one (m / 2 ^ i) with e | e
  · rw [e]
    rfl
  · rw [e]
    rfl
theorem mskL_bit (i : Nat) : ∀ l : List Nat, (mskL l).testBit i = decide (i ∈ l)
  | [] => by simp [mskL]
  | a :: r => by
    show (2 ^ a ||| mskL r).testBit i = _
    rw [Nat.testBit_or, Nat.testBit_two_pow, mskL_bit i r]
    by_cases h : a = i
    · subst h
      simp
    · have h' : ¬ i = a := fun e => h e.symm
      simp [h, h']
theorem mskL_lt {b : Nat} : ∀ {l : List Nat}, (∀ a ∈ l, a < b) → mskL l < 2 ^ b
  | [], _ => Nat.two_pow_pos b
  | a :: r, h => by
    show 2 ^ a ||| mskL r < 2 ^ b
    refine Nat.or_lt_two_pow (Nat.pow_lt_pow_right (by decide) (h a List.mem_cons_self)) (mskL_lt fun x hx => h x (List.mem_cons_of_mem _ hx))
theorem or_n (a b : Nat) : nI a ||| nI b = nI (a ||| b) := fa_or a b
theorem and_n {a b : Nat} (ha : a < 2 ^ 31) (hb : b < 2 ^ 31) : nI a &&& nI b = nI (a &&& b) := by
  apply Int32.toBitVec_inj.mp
  apply BitVec.eq_of_toNat_eq
  rw [Int32.toBitVec_and, BitVec.toNat_and, pk_tn (by omega), pk_tn (by omega), pk_tn]
  exact Nat.lt_of_le_of_lt Nat.and_le_left (by omega)
theorem xor_m1 (x : Int32) : x ^^^ (-1) = ~~~x := by
  apply Int32.toBitVec_inj.mp
  rw [Int32.toBitVec_xor, Int32.toBitVec_not]
  show x.toBitVec ^^^ BitVec.allOnes 32 = _
  exact BitVec.xor_allOnes
/-- taking a set away -/
theorem dif_n {a b : Nat} (ha : a < 2 ^ 31) (hb : b < 2 ^ 31) : nI a &&& (nI b ^^^ (-1)) = nI (dif a b) := by
  rw [xor_m1]
  apply Int32.toBitVec_inj.mp
  apply BitVec.eq_of_getLsbD_eq
  intro i hi
  have hl : ∀ n : Nat, n < 2 ^ 31 → (nI n).toBitVec.getLsbD i = n.testBit i := fun n hn => by
    show ((nI n).toBitVec.toNat).testBit i = _
    rw [pk_tn (by omega)]
  have hd : dif a b < 2 ^ 31 := by
    unfold dif
    exact Nat.xor_lt_two_pow ha (Nat.lt_of_le_of_lt Nat.and_le_left ha)
  rw [Int32.toBitVec_and, Int32.toBitVec_not, BitVec.getLsbD_and, BitVec.getLsbD_not, hl _ ha, hl _ hb, hl _ hd, dif_bit]
  simp [hi]
theorem i32_c3 (x : Int32) : x < -1 ∨ x = -1 ∨ ∃ n : Nat, n < 2 ^ 31 ∧ x = nI n := by
  rcases i32_cases x with h | h
  · by_cases e : x = -1
    · exact Or.inr (Or.inl e)
    · left
      rw [Int32.lt_iff_toInt_lt] at h ⊢
      have e1 : (-1 : Int32).toInt = -1 := by decide
      have e0 : (0 : Int32).toInt = 0 := by decide
      have : x.toInt ≠ -1 := fun q => e (Int32.toInt_inj.mp (q.trans e1.symm))
      omega
  · exact Or.inr (Or.inr h)
