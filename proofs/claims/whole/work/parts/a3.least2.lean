/-! ===== what the settings reach at all can be covered, by twelve at most ===== -/
theorem or_bit {ms : Nat → Nat} {k : Nat} : ∀ {N : Nat}, (orN ms N).testBit k = true ↔ ∃ i, i < N ∧ (ms i).testBit k = true
  | 0 => by
    show (0 : Nat).testBit k = true ↔ _
    rw [Nat.zero_testBit]
    exact ⟨(fun h => Bool.noConfusion h), fun ⟨i, h, _⟩ => absurd h (by omega)⟩
  | N + 1 => by
    show (orN ms N ||| ms N).testBit k = true ↔ _
    rw [Nat.testBit_or, Bool.or_eq_true, or_bit]
    constructor
    · rintro (⟨i, h1, h2⟩ | h)
      · exact ⟨i, by omega, h2⟩
      · exact ⟨N, by omega, h⟩
    · rintro ⟨i, h1, h2⟩
      by_cases e : i = N
      · subst e
        exact Or.inr h2
      · exact Or.inl ⟨i, by omega, h2⟩
theorem nz_bit {a k : Nat} (h : a.testBit k = true) : a ≠ 0 := fun e => by
  subst e
  rw [Nat.zero_testBit] at h
  cases h
theorem lt_top {s n : Nat} (h : s < 2 ^ (n + 1)) (g : s.testBit n = false) : s < 2 ^ n := by
  apply Nat.lt_pow_two_of_testBit
  intro i hi
  by_cases e : i = n
  · subst e
    exact g
  · exact Nat.testBit_lt_two_pow (Nat.lt_of_lt_of_le h (Nat.pow_le_pow_right (by decide) (by omega)))
theorem sbs_lt {a b n : Nat} (h : sbs a b) (g : b < 2 ^ n) : a < 2 ^ n := by
  apply Nat.lt_pow_two_of_testBit
  intro i hi
  cases e : a.testBit i with
  | false => rfl
  | true =>
    have h2 := h i e
    rw [Nat.testBit_lt_two_pow (Nat.lt_of_lt_of_le g (Nat.pow_le_pow_right (by decide) hi))] at h2
    cases h2
theorem can_bits {fam : Nat → Prop} : ∀ {n s : Nat}, s < 2 ^ n → (∀ k, s.testBit k = true → ∃ a, fam a ∧ a.testBit k = true) → canC fam n s
  | 0, s, h, _ => by
    have : s < 1 := h
    show s = 0
    omega
  | n + 1, s, h, g => by
    cases e : s.testBit n with
    | false => exact can_up (can_bits (lt_top h e) g)
    | true =>
      obtain ⟨a, h1, h2⟩ := g n e
      refine Or.inr ⟨a, h1, can_bits (lt_top (sbs_lt (sbs_dif s a) h) ?_) fun k hk => g k (sbs_dif s a k hk)⟩
      rw [dif_bit, h2]
      cases s.testBit n <;> rfl
theorem IsL.of {ms : Nat → Nat} {N n s : Nat} (h : s < 2 ^ n) (g : sbs s (orN ms N)) : ∃ m, m ≤ n ∧ IsL (fun a => ∃ i, i < N ∧ ms i = a ∧ a ≠ 0) s m := by
  refine IsL.ex (can_bits h fun k hk => ?_)
  obtain ⟨i, h1, h2⟩ := or_bit.mp (g k hk)
  exact ⟨ms i, ⟨i, h1, rfl, nz_bit h2⟩, h2⟩
theorem ms_lt {P V : VW} {l f tools i : Nat} {held : Bool} (g : PFro P V f) : msS V l f tools held i < 4096 := by
  obtain ⟨-, w, u, p, b, s, -, -, hp, -, -, ⟨-, -, e12, -⟩, -⟩ := g
  have b3 : 2 ^ p ≤ 2 ^ 12 := Nat.pow_le_pow_right (by omega) hp
  unfold msS cvS
  rw [e12, nv_n (by omega)]
  split
  · split
    · cases rchS V l (i / (9 * nv (V 8 f))) (i % 9 + 1) with
      | none => exact Nat.zero_lt_succ _
      | some y => exact Nat.lt_of_lt_of_le (bm_lt _ p) b3
    · exact Nat.zero_lt_succ _
  · exact Nat.zero_lt_succ _
theorem or_lt {ms : Nat → Nat} {n : Nat} (h : ∀ i, ms i < 2 ^ n) : ∀ N, orN ms N < 2 ^ n
  | 0 => Nat.two_pow_pos n
  | N + 1 => Nat.or_lt_two_pow (or_lt h N) (h N)
