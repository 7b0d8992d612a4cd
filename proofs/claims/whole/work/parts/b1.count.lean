/-! ===== countLeast ===== -/
theorem countLeast_ok {F : CT} {p n N : Nat} {ms : Nat → Nat} {Q : CT → Prop} (hp : p ≤ 12) (hms : ∀ i, ms i < 2 ^ p) (hn : n ≤ 756) (h13 : F.1 0 13 = nI n) (W : WD F 11 n (famN ms N)) (hQ : ∀ F', (∀ j k, j ≠ 12 → j ≠ 13 → F'.1 j k = F.1 j k) → (∀ s, s < 2 ^ p → F'.1 13 s = nI (lst (famN ms N) (s &&& orN ms N))) → Q F') : k_X1_countLeast F (nI p) Q := by
  obtain ⟨e, w1, w2, w3⟩ := W
  unfold k_X1_countLeast
  rw [li_0, wrI_n (by omega) (by omega), ← li_0, vK_eq]
  refine dnl2 (N := p) (by omega) (fun j c => (∀ jj k, jj ≠ 12 → jj ≠ 13 → c.1 jj k = F.1 jj k) ∧ ∀ x, x * 2 ^ j < 2 ^ p → c.1 13 (x * 2 ^ j) = nI (lst (famN ms N) (x * 2 ^ j &&& orN ms N))) ?_ ?_ ?_ (by rw [Int32.sub_eq_add_neg])
  · rintro R b c hb ⟨i1, i2⟩ ih
    rw [if_neg (nI_pos (by omega))]
    refine upl3 (N := n) (a := 0) (s := (0 : Int32)) (by omega) (fun i s c' => ∃ k, k ≤ i ∧ s = nI k ∧ (∀ jj y, jj ≠ 12 → c'.1 jj y = c.1 jj y) ∧ WD c' 12 k (fun y => ∃ x, x < i ∧ (e x).testBit b = true ∧ y = e x / 2 ^ b)) ?_ ?_ (by omega) ⟨0, by omega, rfl, fun _ _ _ => rfl, id, fun q h => absurd h (by omega), fun q q' h => absurd h (by omega), fun y ⟨x, h, _⟩ => absurd h (by omega)⟩
    · rintro R2 i s c' - hi ⟨k, k1, rfl, k2, k3⟩ ih2
      obtain ⟨y1, y2, -⟩ := w1 i hi
      have r11 : c'.1 11 i = nI (e i) := by rw [k2 11 i (by decide), i1 11 i (by decide) (by decide)]; exact y1
      have r0 : c'.1 0 13 = nI n := by rw [k2 0 13 (by decide), i1 0 13 (by decide) (by decide)]; exact h13
      rw [r0, if_neg (nI_ge hi (by omega)), rdI_n (by omega) (by omega), r11, bit_n (by omega) (by omega)]
      by_cases hb2 : (e i).testBit b = true
      · rw [if_pos hb2, if_neg (by decide), rdI_n (by omega) (by omega), r11, shr_n (by omega) (by omega)]
        have el : e i / 2 ^ b < 4096 := Nat.lt_of_le_of_lt (Nat.div_le_self _ _) y2
        refine addWidest_ok k3 (by omega) el fun n' c2 h1 h2 h3 => ?_
        rw [nI_1]
        refine ih2 _ _ ⟨n', by omega, rfl, fun jj y hj => (h2 jj y hj).trans (k2 jj y hj), h3.cg (fun _ => rfl) fun y => ?_⟩
        constructor
        · rintro (⟨x, x1, x2⟩ | rfl)
          · exact ⟨x, by omega, x2⟩
          · exact ⟨i, by omega, hb2, rfl⟩
        · rintro ⟨x, x1, x2, x3⟩
          by_cases hx : x = i
          · subst hx
            exact Or.inr x3
          · exact Or.inl ⟨x, by omega, x2, x3⟩
      · rw [if_neg hb2, if_pos rfl, nI_1]
        refine ih2 _ _ ⟨k, by omega, rfl, k2, k3.cg (fun _ => rfl) fun y => ?_⟩
        constructor
        · rintro ⟨x, x1, x2⟩
          exact ⟨x, by omega, x2⟩
        · rintro ⟨x, x1, x2, x3⟩
          by_cases hx : x = i
          · subst hx
            exact absurd x2 hb2
          · exact ⟨x, by omega, x2, x3⟩
    · rintro R2 s c' ⟨k, k1, rfl, k2, k3⟩
      have r0 : c'.1 0 13 = nI n := by rw [k2 0 13 (by decide), i1 0 13 (by decide) (by decide)]; exact h13
      have pw : 2 ^ (p - 1 - b) ≤ 2 ^ 11 := Nat.pow_le_pow_right (by omega) (by omega)
      rw [r0, if_pos (Int32.le_refl _)]
      refine upl2 (N := 2 ^ (p - 1 - b)) (a := 0) (by omega) (fun v c2 => (∀ jj y, jj ≠ 13 → c2.1 jj y = c'.1 jj y) ∧ (∀ x, x * 2 ^ (b + 1) < 2 ^ p → c2.1 13 (x * 2 ^ (b + 1)) = nI (lst (famN ms N) (x * 2 ^ (b + 1) &&& orN ms N))) ∧ ∀ u, u < v → c2.1 13 ((2 * u + 1) * 2 ^ b) = nI (lst (famN ms N) ((2 * u + 1) * 2 ^ b &&& orN ms N))) ?_ ?_ (Nat.zero_le _) ⟨fun _ _ _ => rfl, fun x hx => by rw [k2 13 _ (by decide)]; exact i2 x hx, fun u h => absurd h (by omega)⟩
      · rintro R3 v c2 - hv ⟨j1, j2, j3⟩ ih3
        have p2 : 2 ^ (p - b) = 2 * 2 ^ (p - 1 - b) := by
          rw [show p - b = (p - 1 - b) + 1 by omega, Nat.pow_succ]
          omega
        have sl : (2 * v + 1) * 2 ^ b < 2 ^ p := mul_lt2 (by omega) (by omega)
        have pl : 2 ^ p ≤ 2 ^ 12 := Nat.pow_le_pow_right (by omega) hp
        rw [li_1, pk_sub (by omega), pk_sub (by omega), ← li_1, shl_1 (by omega), if_neg (nI_ge hv (by omega)), odd_n (by omega)]
        refine least_step hp hb hv hms (fun x hx => (w1 x hx).2.2) w3 (k3.cg (fun y => j1 12 y (by decide)) fun _ => Iff.rfl) (by omega) j2 ?_
        rw [shl_n (by omega) (by omega), wrI_n (by omega) (by omega), nI_1]
        have sb : ∀ x : Nat, x * 2 ^ (b + 1) ≠ (2 * v + 1) * 2 ^ b := fun x h => by
          rw [Nat.pow_succ, Nat.mul_comm (2 ^ b) 2, ← Nat.mul_assoc] at h
          have := Nat.eq_of_mul_eq_mul_right (Nat.two_pow_pos b) h
          omega
        refine ih3 _ ⟨fun jj y hj => ?_, fun x hx => ?_, fun u hu => ?_⟩
        · rw [sI_ne (by omega)]
          exact j1 jj y hj
        · rw [sI_ne (fun h => sb x h.2)]
          exact j2 x hx
        · by_cases hu2 : u = v
          · subst hu2
            rw [sI_same]
          · rw [sI_ne (fun h => hu2 (by have := Nat.eq_of_mul_eq_mul_right (Nat.two_pow_pos b) h.2; omega))]
            exact j3 u (by omega)
      · rintro R3 c2 ⟨j1, j2, j3⟩
        rw [li_1, pk_sub (by omega), pk_sub (by omega), ← li_1, shl_1 (by omega), if_pos (Int32.le_refl _)]
        refine ih _ ⟨fun jj y h1 h2 => ?_, fun x hx => ?_⟩
        · rw [j1 jj y h2, k2 jj y h1]
          exact i1 jj y h1 h2
        · rcases Nat.mod_two_eq_zero_or_one x with h | h
          · have ex : x * 2 ^ b = (x / 2) * 2 ^ (b + 1) := by
              rw [Nat.pow_succ, Nat.mul_comm (2 ^ b) 2, ← Nat.mul_assoc, show x / 2 * 2 = x by omega]
            rw [ex] at hx ⊢
            exact j2 _ hx
          · have ex : x = 2 * (x / 2) + 1 := by omega
            have hx2 := lt_mul2 hx (by omega)
            rw [show p - b = (p - 1 - b) + 1 by omega, Nat.pow_succ] at hx2
            rw [ex]
            exact j3 _ (by omega)
  · rintro R c ⟨i1, i2⟩
    rw [if_pos (by decide)]
    refine hQ c i1 fun s hs => ?_
    have := i2 s (by rw [Nat.pow_zero, Nat.mul_one]; exact hs)
    rw [Nat.pow_zero, Nat.mul_one] at this
    exact this
  · refine ⟨fun jj k h1 h2 => sI_ne (by omega), fun x hx => ?_⟩
    have xz : x = 0 := by
      apply Nat.eq_zero_of_not_pos
      intro h
      have : 1 * 2 ^ p ≤ x * 2 ^ p := Nat.mul_le_mul_right _ h
      omega
    subst xz
    rw [Nat.zero_mul, Nat.zero_and, sI_same, IsL.lst IsL_0]
    rfl
