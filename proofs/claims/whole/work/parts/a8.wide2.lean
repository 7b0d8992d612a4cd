/-! ===== the widest sets do as well ===== -/
theorem IsL.wide {fam W : Nat → Prop} {s n b : Nat} (h : IsL fam s n) (hb : s.testBit b = true) (w1 : ∀ a, W a → fam a) (w2 : ∀ x, fam x → ∃ a, W a ∧ sbs x a) : ∃ a m, W a ∧ a.testBit b = true ∧ IsL fam (dif s a) m ∧ n = m + 1 := by
  obtain ⟨x, m, x1, x2, x3, x4⟩ := h.bit hb
  obtain ⟨a, a1, a2⟩ := w2 x x1
  have ds := (sbs.refl s).dif a2
  obtain ⟨m', y1, y2⟩ := IsL.ex (can_sbs ds x3.1)
  have := h.less (w1 a a1) y2
  exact ⟨a, m', a1, a2 b x2, y2, by omega⟩
