/-! ===== shortest ways: mathematics ===== -/
/-- the least of what those below n with p have -/
def mnO (p : Nat → Bool) (g : Nat → Nat) : Nat → Option Nat
  | 0 => none
  | k + 1 => if p k = true then (match mnO p g k with | none => some (g k) | some v => some (if g k < v then g k else v)) else mnO p g k
theorem mnO_s {p : Nat → Bool} {g : Nat → Nat} {k : Nat} : mnO p g (k + 1) = if p k = true then (match mnO p g k with | none => some (g k) | some v => some (if g k < v then g k else v)) else mnO p g k := rfl
theorem mnO_cg {p p' : Nat → Bool} {g g' : Nat → Nat} : ∀ {n : Nat}, (∀ k, k < n → p k = p' k) → (∀ k, k < n → p k = true → g k = g' k) → mnO p g n = mnO p' g' n
  | 0, _, _ => rfl
  | n + 1, e1, e2 => by
    rw [mnO_s, mnO_s, mnO_cg (n := n) (fun k hk => e1 k (by omega)) (fun k hk => e2 k (by omega)), ← e1 n (by omega)]
    by_cases z : p n = true
    · rw [if_pos z, if_pos z, e2 n (by omega) z]
    · rw [if_neg z, if_neg z]
/-- none where nobody is; else someone's number, and nobody has less -/
theorem mnO_ok {p : Nat → Bool} {g : Nat → Nat} : ∀ n, (mnO p g n = none ∧ ∀ k, k < n → p k = false) ∨ ∃ v k, mnO p g n = some v ∧ k < n ∧ p k = true ∧ g k = v ∧ ∀ j, j < n → p j = true → v ≤ g j
  | 0 => Or.inl ⟨rfl, fun k hk => absurd hk (by omega)⟩
  | n + 1 => by
    rw [mnO_s]
    by_cases z : p n = true
    · rw [if_pos z]
      right
      rcases mnO_ok (p := p) (g := g) n with ⟨a, b⟩ | ⟨v, k, a, b, c, d, e⟩
      · rw [a]
        refine ⟨g n, n, rfl, by omega, z, rfl, fun j hj pj => ?_⟩
        by_cases y : j = n
        · rw [y]; exact Nat.le_refl _
        · rw [b j (by omega)] at pj
          cases pj
      · rw [a]
        by_cases y : g n < v
        · refine ⟨g n, n, by dsimp only; rw [if_pos y], by omega, z, rfl, fun j hj pj => ?_⟩
          by_cases x : j = n
          · rw [x]; exact Nat.le_refl _
          · have := e j (by omega) pj
            omega
        · refine ⟨v, k, by dsimp only; rw [if_neg y], by omega, c, d, fun j hj pj => ?_⟩
          by_cases x : j = n
          · rw [x]; omega
          · exact e j (by omega) pj
    · rw [if_neg z]
      have pz : p n = false := by
        cases q : p n with
        | false => rfl
        | true => exact absurd q z
      rcases mnO_ok (p := p) (g := g) n with ⟨a, b⟩ | ⟨v, k, a, b, c, d, e⟩
      · refine Or.inl ⟨a, fun k hk => ?_⟩
        by_cases y : k = n
        · rw [y]; exact pz
        · exact b k (by omega)
      · refine Or.inr ⟨v, k, a, by omega, c, d, fun j hj pj => ?_⟩
        by_cases x : j = n
        · rw [x, pz] at pj
          cases pj
        · exact e j (by omega) pj
def sf (V : VW) (man n : Nat) (s : Nat → Nat) : Nat → Nat → Nat → Nat
  | 0, _, a => hmN V man (s a)
  | c + 1, S, a => (mnO (fun k => S.testBit k) (fun k => btN V (s a) (s k) + sf V man n s c (dif S (2 ^ k)) k) n).getD 0
section Sho
variable {V : VW} {man n : Nat} {s : Nat → Nat}
theorem pop_rm {S k : Nat} (hb : S.testBit k = true) : ∀ n, k < n → pop n (dif S (2 ^ k)) + 1 = pop n S
  | 0, h => absurd h (by omega)
  | n + 1, h => by
    show pop n (dif S (2 ^ k)) + (if (dif S (2 ^ k)).testBit n = true then 1 else 0) + 1 = pop n S + (if S.testBit n = true then 1 else 0)
    rw [dif_bit, Nat.testBit_two_pow]
    by_cases e : k = n
    · subst e
      have same : ∀ m, m ≤ k → pop m (dif S (2 ^ k)) = pop m S := by
        intro m
        induction m with
        | zero => intro _; rfl
        | succ m ih =>
          intro hm
          show pop m (dif S (2 ^ k)) + (if (dif S (2 ^ k)).testBit m = true then 1 else 0) = pop m S + (if S.testBit m = true then 1 else 0)
          rw [ih (by omega), dif_bit, Nat.testBit_two_pow, decide_eq_false (by omega), Bool.not_false, Bool.and_true]
      rw [same k (Nat.le_refl k), hb, decide_eq_true rfl]
      rfl
    · rw [decide_eq_false e, Bool.not_false, Bool.and_true]
      have := pop_rm hb n (by omega)
      omega
theorem pop_z {S : Nat} : ∀ n, S < 2 ^ n → pop n S = 0 → S = 0
  | 0, h, _ => by
    have : S < 1 := h
    omega
  | n + 1, h, z => by
    have z : pop n S + (if S.testBit n = true then 1 else 0) = 0 := z
    cases q : S.testBit n with
    | true =>
      rw [q] at z
      have z : pop n S + 1 = 0 := z
      omega
    | false => exact pop_z n (lt_top h q) (by omega)
theorem pop_0 : ∀ n, pop n 0 = 0
  | 0 => rfl
  | n + 1 => by
    show pop n 0 + (if (0 : Nat).testBit n = true then 1 else 0) = 0
    rw [pop_0 n, Nat.zero_testBit]
    rfl
/-- the least walk from a stop by all of a set, and home -/
def DS (V : VW) (man n : Nat) (s : Nat → Nat) (S a : Nat) : Nat := sf V man n s (pop n S) S a
/-- the same from a stop or from home -/
def LeS (V : VW) (man n : Nat) (s : Nat → Nat) (o : Option Nat) (S : Nat) : Nat := if S = 0 then bkN V man o else (mnO (fun k => S.testBit k) (fun k => stN V man o (s k) + DS V man n s (dif S (2 ^ k)) k) n).getD 0
theorem DS_0 {a : Nat} : DS V man n s 0 a = hmN V man (s a) := by
  unfold DS
  rw [pop_0]
  rfl
theorem bit_lt {S k : Nat} (h : S < 2 ^ n) (hb : S.testBit k = true) : k < n := by
  apply Nat.lt_of_not_le
  intro z
  rw [Nat.testBit_lt_two_pow (Nat.lt_of_lt_of_le h (Nat.pow_le_pow_right (by decide) z))] at hb
  cases hb
theorem DS_s {S a : Nat} (h : S < 2 ^ n) (h0 : S ≠ 0) : DS V man n s S a = (mnO (fun k => S.testBit k) (fun k => btN V (s a) (s k) + DS V man n s (dif S (2 ^ k)) k) n).getD 0 := by
  obtain ⟨c, hc⟩ : ∃ c, pop n S = c + 1 := ⟨pop n S - 1, by
    have : pop n S ≠ 0 := fun z => h0 (pop_z n h z)
    omega⟩
  have e : DS V man n s S a = sf V man n s (c + 1) S a := by
    unfold DS
    rw [hc]
  rw [e]
  show (mnO _ _ n).getD 0 = _
  rw [mnO_cg (p' := fun k => S.testBit k) (g' := fun k => btN V (s a) (s k) + DS V man n s (dif S (2 ^ k)) k) (fun k hk => rfl) fun k hk hb => ?_]
  unfold DS
  have := pop_rm hb n hk
  rw [show pop n (dif S (2 ^ k)) = c by omega]
theorem LeS_some {S a : Nat} (h : S < 2 ^ n) : LeS V man n s (some (s a)) S = DS V man n s S a := by
  unfold LeS
  by_cases z : S = 0
  · rw [if_pos z, z, DS_0]
    rfl
  · rw [if_neg z, DS_s h z]
    rfl
/-- who comes next -/
def nxB (V : VW) (man n : Nat) (s : Nat → Nat) (o : Option Nat) (S k : Nat) : Bool := S.testBit k && decide (stN V man o (s k) + DS V man n s (dif S (2 ^ k)) k = LeS V man n s o S)
def fsK (p : Nat → Bool) : Nat → Nat → Nat
  | 0, k => k
  | c + 1, k => if p k = true then k else fsK p c (k + 1)
theorem fsK_s {p : Nat → Bool} {c k : Nat} : fsK p (c + 1) k = if p k = true then k else fsK p c (k + 1) := rfl
theorem nx_ex {o : Option Nat} {S : Nat} (h : S < 2 ^ n) (h0 : S ≠ 0) : ∃ k, k < n ∧ nxB V man n s o S k = true := by
  rcases mnO_ok (p := fun k => S.testBit k) (g := fun k => stN V man o (s k) + DS V man n s (dif S (2 ^ k)) k) n with ⟨a, b⟩ | ⟨v, k, a, b, c, d, e⟩
  · exfalso
    obtain ⟨k, hk⟩ := bit_of h0
    have := b k (bit_lt h hk)
    rw [hk] at this
    cases this
  · refine ⟨k, b, ?_⟩
    unfold nxB LeS
    rw [if_neg h0, a]
    exact Bool.and_eq_true_iff.mpr ⟨c, decide_eq_true d⟩
theorem fsK_ok {p : Nat → Bool} : ∀ (c : Nat) {k : Nat}, (∃ j, k ≤ j ∧ j < k + c ∧ p j = true) → p (fsK p c k) = true ∧ fsK p c k < k + c ∧ k ≤ fsK p c k ∧ ∀ j, k ≤ j → j < fsK p c k → p j = false
  | 0, k, ⟨j, h1, h2, _⟩ => absurd h2 (by omega)
  | c + 1, k, ⟨j, h1, h2, h3⟩ => by
    rw [fsK_s]
    by_cases z : p k = true
    · rw [if_pos z]
      exact ⟨z, by omega, Nat.le_refl _, fun j a b => absurd b (by omega)⟩
    · rw [if_neg z]
      have jk : j ≠ k := fun e => z (by rw [← e]; exact h3)
      obtain ⟨a, b, d, e⟩ := fsK_ok c (k := k + 1) ⟨j, by omega, by omega, h3⟩
      refine ⟨a, by omega, by omega, fun i x y => ?_⟩
      by_cases w : i = k
      · cases q : p i with
        | false => rfl
        | true =>
          rw [w] at q
          exact absurd q z
      · exact e i (by omega) y
/-- the order in which the stops come: from where, which are left -/
def oSt (V : VW) (man n : Nat) (s : Nat → Nat) : Nat → Option Nat × Nat
  | 0 => (none, 2 ^ n - 1)
  | i + 1 => (some (s (fsK (nxB V man n s (oSt V man n s i).1 (oSt V man n s i).2) n 0)), dif (oSt V man n s i).2 (2 ^ fsK (nxB V man n s (oSt V man n s i).1 (oSt V man n s i).2) n 0))
def oCh (V : VW) (man n : Nat) (s : Nat → Nat) (i : Nat) : Nat := fsK (nxB V man n s (oSt V man n s i).1 (oSt V man n s i).2) n 0
theorem oSt_s {i : Nat} : oSt V man n s (i + 1) = (some (s (oCh V man n s i)), dif (oSt V man n s i).2 (2 ^ oCh V man n s i)) := rfl
theorem oSt_ok : ∀ i, i ≤ n → (oSt V man n s i).2 < 2 ^ n ∧ pop n (oSt V man n s i).2 + i = n ∧ ((oSt V man n s i).1 = none ∨ ∃ k, k < n ∧ (oSt V man n s i).1 = some (s k))
  | 0, _ => by
    have := Nat.two_pow_pos n
    exact ⟨by show 2 ^ n - 1 < 2 ^ n; omega, by show pop n (2 ^ n - 1) + 0 = n; rw [pop_ones n (Nat.le_refl n), Nat.add_zero], Or.inl rfl⟩
  | i + 1, hi => by
    obtain ⟨a, b, c⟩ := oSt_ok i (by omega)
    have nz : (oSt V man n s i).2 ≠ 0 := fun z => by
      rw [z, pop_0] at b
      omega
    obtain ⟨k, k1, k2⟩ := nx_ex (V := V) (man := man) (s := s) (o := (oSt V man n s i).1) a nz
    obtain ⟨x1, x2, -⟩ := fsK_ok n (k := 0) ⟨k, by omega, by omega, k2⟩
    have hb := (Bool.and_eq_true_iff.mp x1).1
    rw [oSt_s]
    refine ⟨dif_lt a, ?_, Or.inr ⟨_, by show oCh V man n s i < n; unfold oCh; omega, rfl⟩⟩
    have := pop_rm hb n (by omega)
    show pop n (dif (oSt V man n s i).2 (2 ^ oCh V man n s i)) + (i + 1) = n
    unfold oCh
    omega
theorem oCh_ok {i : Nat} (hi : i < n) : oCh V man n s i < n ∧ nxB V man n s (oSt V man n s i).1 (oSt V man n s i).2 (oCh V man n s i) = true ∧ (oSt V man n s i).2.testBit (oCh V man n s i) = true ∧ ∀ j, j < oCh V man n s i → nxB V man n s (oSt V man n s i).1 (oSt V man n s i).2 j = false := by
  obtain ⟨a, b, c⟩ := oSt_ok (V := V) (man := man) (n := n) (s := s) i (by omega)
  have nz : (oSt V man n s i).2 ≠ 0 := fun z => by
    rw [z, pop_0] at b
    omega
  obtain ⟨k, k1, k2⟩ := nx_ex (V := V) (man := man) (s := s) (o := (oSt V man n s i).1) a nz
  obtain ⟨x1, x2, x3, x4⟩ := fsK_ok n (k := 0) ⟨k, by omega, by omega, k2⟩
  exact ⟨by unfold oCh; omega, x1, (Bool.and_eq_true_iff.mp x1).1, fun j hj => x4 j (by omega) hj⟩
end Sho
