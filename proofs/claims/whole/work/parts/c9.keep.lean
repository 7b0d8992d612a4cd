/-! ===== images ===== -/
def hfN (j : Nat) : Nat := if j ≤ 44 then 10 else if j = 45 then 300 else if j = 46 then 200 else if j ≤ 48 then 2000 else 60
theorem halves0 {M : CT} {j n : Nat} {Q : CT → Prop} (hn : 2 * n < 2 ^ 31) (hQ : ∀ c, (∀ j' k, j' ≠ j → c.1 j' k = M.1 j' k) → (∀ k, k < n → c.1 j k = M.1 j k ∧ c.1 j (n + k) = M.1 j k) → Q c) : k_X12_halves M j (2 * n) 0 Q := by
  unfold k_X12_halves
  rw [show Int32.ofNat (2 * n) = nI (2 * n) from rfl, li_2, dv_n (by omega) (by omega) (by omega), show 2 * n / 2 = n by omega]
  refine upl2 (N := n) (a := 0) (by omega) (fun i c => (∀ j' k, j' ≠ j → c.1 j' k = M.1 j' k) ∧ (∀ k, k < n → c.1 j k = M.1 j k) ∧ ∀ k, k < i → c.1 j (n + k) = M.1 j k) ?_ ?_ (by omega) ⟨fun _ _ _ => rfl, fun _ _ => rfl, fun k hk => absurd hk (by omega)⟩
  · rintro R i c - hi ⟨c1, c2, c3⟩ ih
    rw [if_neg (nI_ge hi (by omega)), if_pos rfl, rdI_n (by omega) (by omega), c2 i hi, nI_add, wrI_n (by omega) (by omega), nI_1]
    refine ih _ ⟨fun j' k hj => (sI_ne (by omega)).trans (c1 j' k hj), fun k hk => (sI_ne (by omega)).trans (c2 k hk), fun k hk => ?_⟩
    by_cases e : k = i
    · subst e
      rw [sI_same]
    · rw [sI_ne (by omega)]
      exact c3 k (by omega)
  · rintro R c ⟨c1, c2, c3⟩
    rw [if_pos (Int32.le_refl _)]
    exact hQ c c1 fun k hk => ⟨c2 k hk, c3 k hk⟩
theorem halves1 {M : CT} {j n : Nat} {Q : CT → Prop} (hn : 2 * n < 2 ^ 31) (hQ : ∀ c, (∀ j' k, j' ≠ j → c.1 j' k = M.1 j' k) → (∀ k, k < n → c.1 j k = M.1 j (n + k) ∧ c.1 j (n + k) = M.1 j (n + k)) → Q c) : k_X12_halves M j (2 * n) 1 Q := by
  unfold k_X12_halves
  rw [show Int32.ofNat (2 * n) = nI (2 * n) from rfl, li_2, dv_n (by omega) (by omega) (by omega), show 2 * n / 2 = n by omega]
  refine upl2 (N := n) (a := 0) (by omega) (fun i c => (∀ j' k, j' ≠ j → c.1 j' k = M.1 j' k) ∧ (∀ k, k < n → c.1 j (n + k) = M.1 j (n + k)) ∧ ∀ k, k < i → c.1 j k = M.1 j (n + k)) ?_ ?_ (by omega) ⟨fun _ _ _ => rfl, fun _ _ => rfl, fun k hk => absurd hk (by omega)⟩
  · rintro R i c - hi ⟨c1, c2, c3⟩ ih
    rw [if_neg (nI_ge hi (by omega)), if_neg (by decide), nI_add, rdI_n (by omega) (by omega), c2 i hi, wrI_n (by omega) (by omega), nI_1]
    refine ih _ ⟨fun j' k hj => (sI_ne (by omega)).trans (c1 j' k hj), fun k hk => (sI_ne (by omega)).trans (c2 k hk), fun k hk => ?_⟩
    by_cases e : k = i
    · subst e
      rw [sI_same]
    · rw [sI_ne (by omega)]
      exact c3 k (by omega)
  · rintro R c ⟨c1, c2, c3⟩
    rw [if_pos (Int32.le_refl _)]
    exact hQ c c1 fun k hk => ⟨c3 k hk, c2 k hk⟩
/-- lower halves copied up, rows from a on still to do -/
def UPP (M c : CT) (a : Nat) : Prop := (∀ j k, ¬ (37 ≤ j ∧ j < a) → c.1 j k = M.1 j k) ∧ ∀ j k, 37 ≤ j → j < a → k < hfN j → c.1 j k = M.1 j k ∧ c.1 j (hfN j + k) = M.1 j k
def DWN (M c : CT) (a : Nat) : Prop := (∀ j k, ¬ (37 ≤ j ∧ j < a) → c.1 j k = M.1 j k) ∧ ∀ j k, 37 ≤ j → j < a → k < hfN j → c.1 j k = M.1 j (hfN j + k) ∧ c.1 j (hfN j + k) = M.1 j (hfN j + k)
theorem UPP.s {M c : CT} {j n : Nat} {Q : CT → Prop} (g : UPP M c j) (h37 : 37 ≤ j) (hn : n = hfN j) (h2 : 2 * n < 2 ^ 31) (hQ : ∀ c', UPP M c' (j + 1) → Q c') : k_X12_halves c j (2 * n) 0 Q := by
  refine halves0 h2 fun c' e1 e2 => hQ c' ⟨fun j' k h => (e1 j' k (by omega)).trans (g.1 j' k (by omega)), fun j' k h1 h3 hk => ?_⟩
  by_cases e : j' = j
  · subst e
    rw [← hn] at hk ⊢
    rw [(e2 k hk).1, (e2 k hk).2, g.1 j' k (by omega)]
    exact ⟨rfl, rfl⟩
  · rw [e1 j' _ e, e1 j' _ e]
    exact g.2 j' k h1 (by omega) hk
theorem DWN.s {M c : CT} {j n : Nat} {Q : CT → Prop} (g : DWN M c j) (h37 : 37 ≤ j) (hn : n = hfN j) (h2 : 2 * n < 2 ^ 31) (hQ : ∀ c', DWN M c' (j + 1) → Q c') : k_X12_halves c j (2 * n) 1 Q := by
  refine halves1 h2 fun c' e1 e2 => hQ c' ⟨fun j' k h => (e1 j' k (by omega)).trans (g.1 j' k (by omega)), fun j' k h1 h3 hk => ?_⟩
  by_cases e : j' = j
  · subst e
    rw [← hn] at hk ⊢
    rw [(e2 k hk).1, (e2 k hk).2, g.1 j' _ (by omega)]
    exact ⟨rfl, rfl⟩
  · rw [e1 j' _ e, e1 j' _ e]
    exact g.2 j' k h1 (by omega) hk
theorem all0 {M : CT} {Q : CT → Prop} (hQ : ∀ c, UPP M c 51 → Q c) : k_X12_all M 0 Q := by
  unfold k_X12_all
  have g : UPP M M 37 := ⟨fun _ _ _ => rfl, fun j k h1 h2 => absurd h2 (by omega)⟩
  exact g.s (n := 10) (by omega) rfl (by omega) fun _ g => g.s (n := 10) (by omega) rfl (by omega) fun _ g => g.s (n := 10) (by omega) rfl (by omega) fun _ g => g.s (n := 10) (by omega) rfl (by omega) fun _ g => g.s (n := 10) (by omega) rfl (by omega) fun _ g => g.s (n := 10) (by omega) rfl (by omega) fun _ g => g.s (n := 10) (by omega) rfl (by omega) fun _ g => g.s (n := 10) (by omega) rfl (by omega) fun _ g => g.s (n := 300) (by omega) rfl (by omega) fun _ g => g.s (n := 200) (by omega) rfl (by omega) fun _ g => g.s (n := 2000) (by omega) rfl (by omega) fun _ g => g.s (n := 2000) (by omega) rfl (by omega) fun _ g => g.s (n := 60) (by omega) rfl (by omega) fun _ g => g.s (n := 60) (by omega) rfl (by omega) hQ
theorem all1 {M : CT} {Q : CT → Prop} (hQ : ∀ c, DWN M c 51 → Q c) : k_X12_all M 1 Q := by
  unfold k_X12_all
  have g : DWN M M 37 := ⟨fun _ _ _ => rfl, fun j k h1 h2 => absurd h2 (by omega)⟩
  exact g.s (n := 10) (by omega) rfl (by omega) fun _ g => g.s (n := 10) (by omega) rfl (by omega) fun _ g => g.s (n := 10) (by omega) rfl (by omega) fun _ g => g.s (n := 10) (by omega) rfl (by omega) fun _ g => g.s (n := 10) (by omega) rfl (by omega) fun _ g => g.s (n := 10) (by omega) rfl (by omega) fun _ g => g.s (n := 10) (by omega) rfl (by omega) fun _ g => g.s (n := 10) (by omega) rfl (by omega) fun _ g => g.s (n := 300) (by omega) rfl (by omega) fun _ g => g.s (n := 200) (by omega) rfl (by omega) fun _ g => g.s (n := 2000) (by omega) rfl (by omega) fun _ g => g.s (n := 2000) (by omega) rfl (by omega) fun _ g => g.s (n := 60) (by omega) rfl (by omega) fun _ g => g.s (n := 60) (by omega) rfl (by omega) hQ
/-- a copy of the book's own numbers -/
def CPY (S I I' : CT) (h : Nat) : Prop := (∀ k, k ≤ 1 → I'.1 0 k = S.1 0 k) ∧ (∀ j k, 1 ≤ j → j ≤ 8 → k < h → I'.1 j k = S.1 j k) ∧ (∀ j k, ¬ (j ≤ 8) → I'.1 j k = I.1 j k) ∧ I'.2 = I.2
theorem copyIK_ok {K I : CT} {h : Nat} {Q : CT → Prop} (h9 : h ≤ 10) (hz : ∀ k, k < h → K.1 6 k = 0 ∨ K.1 6 k = 1) (hQ : ∀ I', CPY K I I' h → Q I') : k_X0_copyIK K I Q := by
  unfold k_X0_copyIK
  rw [wrF_eq, wrF_eq]
  refine upl2 (N := 10) (a := 0) (by omega) (fun i c => (∀ k, k ≤ 1 → c.1 0 k = K.1 0 k) ∧ (∀ j k, 1 ≤ j → j ≤ 8 → k < i → k < h → c.1 j k = K.1 j k) ∧ (∀ j k, ¬ (j ≤ 8) → c.1 j k = I.1 j k) ∧ c.2 = I.2) ?_ ?_ (by omega) ⟨fun k hk => ?_, fun j k h1 h2 hk => absurd hk (by omega), fun j k h => ?_, rfl⟩
  · rintro R i c - hi ⟨c0, c1, c2, c3⟩ ih
    have nar : i < h → vp_nar .boolean (K.1 6 i) = K.1 6 i := fun hh => by
      rcases hz i hh with e | e
      · rw [e]; exact bo0
      · rw [e]; exact bo1
    rw [li_10, if_neg (nI_ge hi (by omega))]
    simp (disch := omega) only [rdI_n, wrI_n, nI_1]
    refine ih _ ⟨fun k hk => ?_, fun j k h1 h2 hk hh => ?_, fun j k h => ?_, c3⟩
    · simp (disch := omega) only [sI_ne]
      exact c0 k hk
    · by_cases e : k = i
      · subst e
        rw [nar hh]
        rcases (show j = 1 ∨ j = 2 ∨ j = 3 ∨ j = 4 ∨ j = 5 ∨ j = 6 ∨ j = 7 ∨ j = 8 by omega) with rfl | rfl | rfl | rfl | rfl | rfl | rfl | rfl <;> simp (disch := omega) only [sI_ne, sI_same]
      · simp (disch := omega) only [sI_ne]
        exact c1 j k h1 h2 (by omega) hh
    · simp (disch := omega) only [sI_ne]
      exact c2 j k h
  · rintro R c ⟨c0, c1, c2, c3⟩
    rw [li_10, if_pos (Int32.le_refl _)]
    exact hQ c ⟨c0, fun j k h1 h2 hk => c1 j k h1 h2 (by omega) hk, c2, c3⟩
  · rcases (show k = 0 ∨ k = 1 by omega) with rfl | rfl
    · rw [sI_ne (by omega), sI_same]
    · rw [sI_same]
  · simp (disch := omega) only [sI_ne]
theorem copyKI_ok {K I : CT} {h : Nat} {Q : CT → Prop} (h9 : h ≤ 10) (hz : ∀ k, k < h → I.1 6 k = 0 ∨ I.1 6 k = 1) (hQ : ∀ K', CPY I K K' h → Q K') : k_X0_copyKI K I Q := by
  unfold k_X0_copyKI
  rw [wrF_eq, wrF_eq]
  refine upl2 (N := 10) (a := 0) (by omega) (fun i c => (∀ k, k ≤ 1 → c.1 0 k = I.1 0 k) ∧ (∀ j k, 1 ≤ j → j ≤ 8 → k < i → k < h → c.1 j k = I.1 j k) ∧ (∀ j k, ¬ (j ≤ 8) → c.1 j k = K.1 j k) ∧ c.2 = K.2) ?_ ?_ (by omega) ⟨fun k hk => ?_, fun j k h1 h2 hk => absurd hk (by omega), fun j k h => ?_, rfl⟩
  · rintro R i c - hi ⟨c0, c1, c2, c3⟩ ih
    have nar : i < h → vp_nar .boolean (I.1 6 i) = I.1 6 i := fun hh => by
      rcases hz i hh with e | e
      · rw [e]; exact bo0
      · rw [e]; exact bo1
    rw [li_10, if_neg (nI_ge hi (by omega))]
    simp (disch := omega) only [rdI_n, wrI_n, nI_1]
    refine ih _ ⟨fun k hk => ?_, fun j k h1 h2 hk hh => ?_, fun j k h => ?_, c3⟩
    · simp (disch := omega) only [sI_ne]
      exact c0 k hk
    · by_cases e : k = i
      · subst e
        rw [nar hh]
        rcases (show j = 1 ∨ j = 2 ∨ j = 3 ∨ j = 4 ∨ j = 5 ∨ j = 6 ∨ j = 7 ∨ j = 8 by omega) with rfl | rfl | rfl | rfl | rfl | rfl | rfl | rfl <;> simp (disch := omega) only [sI_ne, sI_same]
      · simp (disch := omega) only [sI_ne]
        exact c1 j k h1 h2 (by omega) hh
    · simp (disch := omega) only [sI_ne]
      exact c2 j k h
  · rintro R c ⟨c0, c1, c2, c3⟩
    rw [li_10, if_pos (Int32.le_refl _)]
    exact hQ c ⟨c0, fun j k h1 h2 hk => c1 j k h1 h2 (by omega) hk, c2, c3⟩
  · rcases (show k = 0 ∨ k = 1 by omega) with rfl | rfl
    · rw [sI_ne (by omega), sI_same]
    · rw [sI_same]
  · simp (disch := omega) only [sI_ne]
