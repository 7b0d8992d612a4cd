/-! ===== the class gathers ===== -/
def GW (ms : Nat → Nat) (F : CT) (i : Nat) (s : Int32) (c : CT) : Prop := s = nI (orN ms i) ∧ (∀ j k, j ≠ 11 → ¬ (j = 0 ∧ k = 13) → c.1 j k = F.1 j k) ∧ ∃ n, n ≤ i ∧ c.1 0 13 = nI n ∧ WD c 11 n (fun x => ∃ i', i' < i ∧ ms i' = x ∧ x ≠ 0)
theorem WD.cg {F F' : CT} {j n : Nat} {S S' : Nat → Prop} (g : WD F j n S) (h : ∀ k, F'.1 j k = F.1 j k) (hs : ∀ x, S x ↔ S' x) : WD F' j n S' := by
  obtain ⟨e, h1, h2, h3⟩ := g
  exact ⟨e, fun p hp => ⟨(h p).trans (h1 p hp).1, (h1 p hp).2.1, (hs _).mp (h1 p hp).2.2⟩, h2, fun x hx => h3 x ((hs x).mpr hx)⟩
theorem fam_s {ms : Nat → Nat} {i x : Nat} (h : ms i ≠ 0) : ((∃ i', i' < i ∧ ms i' = x ∧ x ≠ 0) ∨ x = ms i) ↔ ∃ i', i' < i + 1 ∧ ms i' = x ∧ x ≠ 0 := by
  constructor
  · rintro (⟨i', h1, h2⟩ | rfl)
    · exact ⟨i', by omega, h2⟩
    · exact ⟨i, by omega, rfl, h⟩
  · rintro ⟨i', h1, h2, h3⟩
    by_cases e : i' = i
    · subst e
      exact Or.inr h2.symm
    · exact Or.inl ⟨i', by omega, h2, h3⟩
theorem fam_z {ms : Nat → Nat} {i x : Nat} (h : ms i = 0) : (∃ i', i' < i ∧ ms i' = x ∧ x ≠ 0) ↔ ∃ i', i' < i + 1 ∧ ms i' = x ∧ x ≠ 0 := by
  constructor
  · rintro ⟨i', h1, h2⟩
    exact ⟨i', by omega, h2⟩
  · rintro ⟨i', h1, h2, h3⟩
    by_cases e : i' = i
    · subst e
      exact absurd (h2.symm.trans h) h3
    · exact ⟨i', by omega, h2, h3⟩
theorem GW.z {ms : Nat → Nat} {F c : CT} {i : Nat} {s : Int32} (g : GW ms F i s c) (h : ms i = 0) : GW ms F (i + 1) s c := by
  obtain ⟨g1, g2, n, g3, g4, g5⟩ := g
  refine ⟨?_, g2, n, by omega, g4, g5.cg (fun _ => rfl) fun x => fam_z h⟩
  rw [g1]
  show _ = nI (orN ms i ||| ms i)
  rw [h, Nat.or_zero]
theorem GW.s {ms : Nat → Nat} {F c : CT} {i : Nat} {s : Int32} {Q : Int32 → CT → Prop} (g : GW ms F i s c) (h : ms i ≠ 0) (hm : ms i < 4096) (hi : i < 756) (hQ : ∀ x c', GW ms F (i + 1) (s ||| nI (ms i)) (sI c' 0 13 x) → Q x c') : k_X1_addWidest c 11 (c.1 0 13) (nI (ms i)) Q := by
  obtain ⟨g1, g2, n, g3, g4, g5⟩ := g
  rw [g4]
  refine addWidest_ok g5 (by omega) hm fun n' c' h1 h2 h3 => hQ _ _ ⟨?_, fun j k hj hk => ?_, n', by omega, sI_same, h3.cg (fun k => sI_ne (by omega)) fun x => fam_s h⟩
  · rw [g1, or_n]
    rfl
  · rw [sI_ne hk, h2 j k hj]
    exact g2 j k hj hk
