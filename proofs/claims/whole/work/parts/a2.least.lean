/-! ===== fewest sets that cover: mathematics ===== -/
def sbs (a b : Nat) : Prop := ∀ k, a.testBit k = true → b.testBit k = true
theorem sbs.refl (a : Nat) : sbs a a := fun _ h => h
theorem sbs.trans {a b c : Nat} (h : sbs a b) (g : sbs b c) : sbs a c := fun k x => g k (h k x)
theorem sbs_dif (s a : Nat) : sbs (dif s a) s := fun k h => by
  rw [dif_bit] at h
  exact (Bool.and_eq_true_iff.mp h).1
theorem sbs.dif {s s' a a' : Nat} (h : sbs s s') (g : sbs a' a) : sbs (dif s a) (dif s' a') := fun k x => by
  rw [dif_bit] at x ⊢
  obtain ⟨x1, x2⟩ := Bool.and_eq_true_iff.mp x
  rw [h k x1, Bool.true_and]
  cases e : a'.testBit k with
  | false => rfl
  | true =>
    rw [g k e] at x2
    cases x2
theorem sbs_0 {a : Nat} (h : sbs a 0) : a = 0 := by
  apply Nat.eq_of_testBit_eq
  intro k
  cases e : a.testBit k with
  | false => rw [Nat.zero_testBit]
  | true =>
    have := h k e
    rw [Nat.zero_testBit] at this
    cases this
theorem sbs_z (a : Nat) : sbs 0 a := fun k h => by
  rw [Nat.zero_testBit] at h
  cases h
theorem sbs_le {a b : Nat} (h : sbs a b) (g : sbs b a) : a = b := by
  apply Nat.eq_of_testBit_eq
  intro k
  cases e : a.testBit k with
  | true => exact (h k e).symm
  | false =>
    cases e2 : b.testBit k with
    | false => rfl
    | true =>
      rw [g k e2] at e
      cases e
theorem dif_comm (s a b : Nat) : dif (dif s a) b = dif (dif s b) a := by
  apply Nat.eq_of_testBit_eq
  intro k
  rw [dif_bit, dif_bit, dif_bit, dif_bit]
  cases s.testBit k <;> cases a.testBit k <;> cases b.testBit k <;> rfl
theorem dif_no {s a : Nat} (h : s &&& a = 0) : dif s a = s := by
  unfold dif
  rw [h, Nat.xor_zero]
section Cover
variable {fam : Nat → Prop} {s s' n : Nat}
theorem can_0 : ∀ n, canC fam n 0
  | 0 => rfl
  | _ + 1 => Or.inl rfl
theorem can_sbs : ∀ {n s s' : Nat}, sbs s' s → canC fam n s → canC fam n s'
  | 0, s, s', h, g => by
    have g : s = 0 := g
    subst g
    exact sbs_0 h
  | n + 1, s, s', h, g => by
    rcases g with g | ⟨a, ha, g⟩
    · subst g
      exact Or.inl (sbs_0 h)
    · exact Or.inr ⟨a, ha, can_sbs (h.dif (sbs.refl a)) g⟩
theorem can_up : ∀ {n s : Nat}, canC fam n s → canC fam (n + 1) s
  | 0, _, g => Or.inl g
  | n + 1, _, g => by
    rcases g with g | ⟨a, ha, g⟩
    · exact Or.inl g
    · exact Or.inr ⟨a, ha, can_up g⟩
theorem can_le {n m s : Nat} (h : n ≤ m) (g : canC fam n s) : canC fam m s := by
  induction h with
  | refl => exact g
  | step _ ih => exact can_up ih
/-- a set that holds a chosen member may come first -/
theorem can_bit : ∀ {n s b : Nat}, canC fam n s → s.testBit b = true → ∃ m a, n = m + 1 ∧ fam a ∧ a.testBit b = true ∧ canC fam m (dif s a)
  | 0, s, b, g, h => by
    have g : s = 0 := g
    subst g
    rw [Nat.zero_testBit] at h
    cases h
  | n + 1, s, b, g, h => by
    rcases g with g | ⟨a, ha, g⟩
    · subst g
      rw [Nat.zero_testBit] at h
      cases h
    · cases e : a.testBit b with
      | true => exact ⟨n, a, rfl, ha, e, g⟩
      | false =>
        obtain ⟨m, a', e1, h1, h2, h3⟩ := can_bit (b := b) g (by rw [dif_bit, h, e]; rfl)
        refine ⟨n, a', rfl, h1, h2, ?_⟩
        subst e1
        rw [dif_comm] at h3
        exact Or.inr ⟨a, ha, h3⟩
theorem IsL_0 : IsL fam 0 0 := ⟨rfl, fun k h => absurd h (by omega)⟩
theorem IsL.ex : ∀ {n : Nat}, canC fam n s → ∃ m, m ≤ n ∧ IsL fam s m
  | 0, g => ⟨0, by omega, g, fun k h => absurd h (by omega)⟩
  | n + 1, g => by
    by_cases h : canC fam n s
    · obtain ⟨m, h1, h2⟩ := IsL.ex h
      exact ⟨m, by omega, h2⟩
    · exact ⟨n + 1, by omega, g, fun k hk hc => h (can_le (by omega) hc)⟩
theorem IsL.mono {m : Nat} (h : IsL fam s n) (h' : IsL fam s' m) (g : sbs s s') : n ≤ m := by
  apply Nat.le_of_not_lt
  intro hl
  exact h.2 m hl (can_sbs g h'.1)
theorem IsL.pos (h : IsL fam s n) (hs : s ≠ 0) : 1 ≤ n := by
  cases n with
  | zero => exact absurd h.1 hs
  | succ n => omega
/-- one set less -/
theorem IsL.less {a m : Nat} (h : IsL fam s n) (ha : fam a) (g : IsL fam (dif s a) m) : n ≤ m + 1 ∧ m ≤ n := by
  refine ⟨?_, g.mono h (sbs_dif s a)⟩
  apply Nat.le_of_not_lt
  intro hl
  exact h.2 (m + 1) hl (Or.inr ⟨a, ha, g.1⟩)
/-- some set that holds a chosen member brings it down by one -/
theorem IsL.bit {b : Nat} (h : IsL fam s n) (hb : s.testBit b = true) : ∃ a m, fam a ∧ a.testBit b = true ∧ IsL fam (dif s a) m ∧ n = m + 1 := by
  obtain ⟨m, a, e, h1, h2, h3⟩ := can_bit h.1 hb
  obtain ⟨m', l1, l2⟩ := IsL.ex h3
  have := h.less h1 l2
  exact ⟨a, m', h1, h2, l2, by omega⟩
end Cover
