/-! ===== going along the settings: what is taken ===== -/
section Gr
variable {ms : Nat → Nat} {fam : Nat → Prop} {A n : Nat}
/-- a setting that a fewest row of what is left holds -/
def redS (ms : Nat → Nat) (fam : Nat → Prop) (s i : Nat) : Prop := s &&& ms i ≠ 0 ∧ lst fam (dif s (ms i)) + 1 = lst fam s
theorem gr_y (h : redS ms fam (grS ms fam A n).1 n) : grS ms fam A (n + 1) = (dif (grS ms fam A n).1 (ms n), (grS ms fam A n).2 ++ [n]) := by
  show @ite _ ((grS ms fam A n).1 &&& ms n ≠ 0 ∧ lst fam (dif (grS ms fam A n).1 (ms n)) + 1 = lst fam (grS ms fam A n).1) (Classical.propDecidable _) _ _ = _
  exact if_pos h
theorem gr_n (h : ¬ redS ms fam (grS ms fam A n).1 n) : grS ms fam A (n + 1) = grS ms fam A n := by
  show @ite _ ((grS ms fam A n).1 &&& ms n ≠ 0 ∧ lst fam (dif (grS ms fam A n).1 (ms n)) + 1 = lst fam (grS ms fam A n).1) (Classical.propDecidable _) _ _ = _
  exact if_neg h
theorem gr_sub : ∀ n, sbs (grS ms fam A n).1 A
  | 0 => sbs.refl A
  | n + 1 => by
    by_cases h : redS ms fam (grS ms fam A n).1 n
    · rw [gr_y h]
      exact (sbs_dif _ _).trans (gr_sub n)
    · rw [gr_n h]
      exact gr_sub n
theorem gr_len : ∀ n, (grS ms fam A n).2.length + lst fam (grS ms fam A n).1 = lst fam A
  | 0 => Nat.zero_add _
  | n + 1 => by
    have ih := gr_len n
    by_cases h : redS ms fam (grS ms fam A n).1 n
    · rw [gr_y h]
      dsimp only
      rw [List.length_append, List.length_singleton]
      have := h.2
      omega
    · rw [gr_n h]
      exact ih
theorem gr_lt : ∀ n, ∀ i ∈ (grS ms fam A n).2, i < n ∧ ms i ≠ 0
  | 0 => fun i h => by cases h
  | n + 1 => by
    intro i hi
    by_cases h : redS ms fam (grS ms fam A n).1 n
    · rw [gr_y h] at hi
      rcases List.mem_append.mp hi with h1 | h1
      · have := gr_lt n i h1
        exact ⟨by omega, this.2⟩
      · have e := List.mem_singleton.mp h1
        subst e
        refine ⟨by omega, fun z => h.1 ?_⟩
        rw [z, Nat.and_zero]
    · rw [gr_n h] at hi
      have := gr_lt n i hi
      exact ⟨by omega, this.2⟩
def orR (ms : Nat → Nat) : List Nat → Nat
  | [] => 0
  | i :: r => ms i ||| orR ms r
theorem orR_app {i : Nat} : ∀ r : List Nat, orR ms (r ++ [i]) = orR ms r ||| ms i
  | [] => by show ms i ||| 0 = 0 ||| ms i; rw [Nat.or_zero, Nat.zero_or]
  | a :: r => by show ms a ||| orR ms (r ++ [i]) = ms a ||| orR ms r ||| ms i; rw [orR_app r, Nat.or_assoc]
theorem polS_app {lad : Nat → Bool} {i : Nat} : ∀ (r : List Nat) (d : Nat), polS ms lad d (r ++ [i]) = polS ms lad d r + (if lad i = true then 0 else pop 12 (dif (ms i) (d ||| orR ms r)))
  | [], d => by
    show (if lad i = true then 0 else pop 12 (dif (ms i) d)) + 0 = 0 + _
    show _ = 0 + (if lad i = true then 0 else pop 12 (dif (ms i) (d ||| 0)))
    rw [Nat.or_zero, Nat.add_zero, Nat.zero_add]
  | a :: r, d => by
    show (if lad a = true then 0 else pop 12 (dif (ms a) d)) + polS ms lad (d ||| ms a) (r ++ [i]) = (if lad a = true then 0 else pop 12 (dif (ms a) d)) + polS ms lad (d ||| ms a) r + (if lad i = true then 0 else pop 12 (dif (ms i) (d ||| (ms a ||| orR ms r))))
    rw [polS_app r (d ||| ms a), Nat.or_assoc, Nat.add_assoc]
theorem dif_or (s a b : Nat) : dif s (a ||| b) = dif (dif s a) b := by
  apply Nat.eq_of_testBit_eq
  intro k
  rw [dif_bit, dif_bit, dif_bit, Nat.testBit_or]
  cases s.testBit k <;> cases a.testBit k <;> cases b.testBit k <;> rfl
theorem dif_z (s : Nat) : dif s 0 = s := dif_no (Nat.and_zero s)
theorem gr_or : ∀ n, (grS ms fam A n).1 = dif A (orR ms (grS ms fam A n).2)
  | 0 => (dif_z A).symm
  | n + 1 => by
    have ih := gr_or n
    by_cases h : redS ms fam (grS ms fam A n).1 n
    · rw [gr_y h]
      dsimp only
      rw [orR_app, dif_or, ← ih]
    · rw [gr_n h]
      exact ih
theorem left_and {a o : Nat} (h : sbs a A) : dif A o &&& a = dif a o := by
  apply Nat.eq_of_testBit_eq
  intro k
  rw [Nat.testBit_and, dif_bit, dif_bit]
  cases x : a.testBit k with
  | false => rw [Bool.and_false, Bool.false_and]
  | true => rw [h k x, Bool.and_true, Bool.true_and]
end Gr
section Gr2
variable {ms : Nat → Nat} {N n : Nat}
theorem lstB {s : Nat} (h : sbs s (orN ms N)) (hA : orN ms N < 2 ^ 12) : ∃ m, m ≤ 12 ∧ IsL (famN ms N) s m ∧ lst (famN ms N) s = m := by
  obtain ⟨m, h2, h3⟩ := IsL.of (ms := ms) (N := N) (sbs_lt h hA) h
  exact ⟨m, h2, h3, IsL.lst h3⟩
theorem ms_sub {i : Nat} (h : i < N) : sbs (ms i) (orN ms N) := fun k hk => or_bit.mpr ⟨i, h, hk⟩
theorem lst_0 : lst (famN ms N) 0 = 0 := IsL.lst IsL_0
/-- what didn't help won't help later -/
theorem red_keep {s i j : Nat} (hs : sbs s (orN ms N)) (hA : orN ms N < 2 ^ 12) (hi : i < N) (hj : j < N) (r : redS ms (famN ms N) s i) (n : ¬ redS ms (famN ms N) s j) : ¬ redS ms (famN ms N) (dif s (ms i)) j := by
  rintro ⟨r1, r2⟩
  have i0 : ms i ≠ 0 := fun z => r.1 (by rw [z, Nat.and_zero])
  have fi : famN ms N (ms i) := ⟨i, hi, rfl, i0⟩
  have sj : s &&& ms j ≠ 0 := fun z => r1 (by
    apply Nat.eq_of_testBit_eq
    intro k
    have := congrArg (fun x => x.testBit k) z
    rw [Nat.testBit_and] at this ⊢
    rw [dif_bit]
    cases a : s.testBit k with
    | false => rw [Bool.false_and, Bool.false_and, Nat.zero_testBit]
    | true =>
      rw [a, Bool.true_and] at this
      rw [this, Nat.zero_testBit, Bool.and_false])
  have j0 : ms j ≠ 0 := fun z => sj (by rw [z, Nat.and_zero])
  have fj : famN ms N (ms j) := ⟨j, hj, rfl, j0⟩
  apply n
  refine ⟨sj, ?_⟩
  obtain ⟨m, -, m1, m2⟩ := lstB hs hA
  obtain ⟨a, -, a1, a2⟩ := lstB (s := dif s (ms i)) ((sbs_dif _ _).trans hs) hA
  obtain ⟨b, -, b1, b2⟩ := lstB (s := dif s (ms j)) ((sbs_dif _ _).trans hs) hA
  obtain ⟨d, -, d1, d2⟩ := lstB (s := dif (dif s (ms i)) (ms j)) ((sbs_dif _ _).trans ((sbs_dif _ _).trans hs)) hA
  have q1 := r.2
  rw [a2, m2] at q1
  rw [d2, a2] at r2
  rw [b2, m2]
  rw [dif_comm] at d1
  have := (b1.less fi d1).1
  have := (m1.less fj b1).1
  omega
theorem red_end {s : Nat} (hs : sbs s (orN ms N)) (hA : orN ms N < 2 ^ 12) (h : ∀ i, i < N → ¬ redS ms (famN ms N) s i) : s = 0 := by
  obtain ⟨m, -, m1, m2⟩ := lstB hs hA
  by_cases z : s = 0
  · exact z
  · exfalso
    obtain ⟨b, hb⟩ : ∃ b, s.testBit b = true := by
      by_cases q : ∃ b, s.testBit b = true
      · exact q
      · exfalso
        apply z
        apply Nat.eq_of_testBit_eq
        intro k
        rw [Nat.zero_testBit]
        cases e : s.testBit k with
        | false => rfl
        | true => exact absurd ⟨k, e⟩ q
    obtain ⟨a, m', ⟨i, i1, i2, -⟩, a2, a3, a4⟩ := m1.bit hb
    subst i2
    refine h i i1 ⟨fun z2 => ?_, ?_⟩
    · have := congrArg (fun x => x.testBit b) z2
      rw [Nat.testBit_and, hb, a2, Nat.zero_testBit] at this
      cases this
    · rw [IsL.lst a3, m2]
      omega
theorem gr_good (hA : orN ms N < 2 ^ 12) : ∀ n, n ≤ N → ∀ j, j < n → ¬ redS ms (famN ms N) (grS ms (famN ms N) (orN ms N) n).1 j
  | 0, _, j, h => absurd h (by omega)
  | n + 1, hn, j, h => by
    have ih := gr_good hA n (by omega)
    by_cases r : redS ms (famN ms N) (grS ms (famN ms N) (orN ms N) n).1 n
    · rw [gr_y r]
      dsimp only
      by_cases e : j = n
      · subst e
        rintro ⟨z, -⟩
        apply z
        apply Nat.eq_of_testBit_eq
        intro k
        rw [Nat.testBit_and, dif_bit, Nat.zero_testBit]
        cases (grS ms (famN ms N) (orN ms N) j).1.testBit k <;> cases (ms j).testBit k <;> rfl
      · exact red_keep (gr_sub n) hA (by omega) (by omega) r (ih j (by omega))
    · rw [gr_n r]
      by_cases e : j = n
      · subst e
        exact r
      · exact ih j (by omega)
theorem gr_end (hA : orN ms N < 2 ^ 12) : (grS ms (famN ms N) (orN ms N) N).1 = 0 := red_end (gr_sub N) hA (gr_good hA N (Nat.le_refl N))
theorem gr_endlen (hA : orN ms N < 2 ^ 12) : (grS ms (famN ms N) (orN ms N) N).2.length = lst (famN ms N) (orN ms N) := by
  have := gr_len (ms := ms) (fam := famN ms N) (A := orN ms N) N
  rw [gr_end hA, lst_0] at this
  exact this
theorem gr_le (hA : orN ms N < 2 ^ 12) (n : Nat) : (grS ms (famN ms N) (orN ms N) n).2.length ≤ 12 := by
  have := gr_len (ms := ms) (fam := famN ms N) (A := orN ms N) n
  obtain ⟨m, m1, -, m2⟩ := lstB (ms := ms) (N := N) (sbs.refl (orN ms N)) hA
  omega
/-- nothing is taken where masks are empty or have come before -/
theorem gr_skip (hA : orN ms N < 2 ^ 12) {a : Nat} : ∀ b, a ≤ b → b ≤ N → (∀ i, a ≤ i → i < b → ms i = 0 ∨ ∃ i', i' < i ∧ ms i' = ms i) → grS ms (famN ms N) (orN ms N) b = grS ms (famN ms N) (orN ms N) a
  | 0, h, _, _ => by rw [show a = 0 by omega]
  | b + 1, h, hN, hs => by
    by_cases e : a = b + 1
    · rw [e]
    · have ih := gr_skip hA b (by omega) (by omega) fun i h1 h2 => hs i h1 (by omega)
      rw [← ih]
      apply gr_n
      rcases hs b (by omega) (by omega) with z | ⟨i', z1, z2⟩
      · rintro ⟨q, -⟩
        exact q (by rw [z, Nat.and_zero])
      · have := gr_good hA b (by omega) i' z1
        unfold redS at this ⊢
        rw [z2] at this
        exact this
end Gr2
