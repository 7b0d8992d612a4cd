/-! ===== what a plan says of settings: in whole numbers ===== -/
abbrev VW : Type := Nat → Nat → Int32
def nv (x : Int32) : Nat := x.toNatClampNeg
theorem nv_n {n : Nat} (h : n < 2 ^ 31) : nv (nI n) = n := nI_clamp h
/-- the bits k below n for which p is so -/
def bm (p : Nat → Bool) : Nat → Nat
  | 0 => 0
  | n + 1 => bm p n + if p n = true then 2 ^ n else 0
theorem bm_lt (p : Nat → Bool) : ∀ n, bm p n < 2 ^ n
  | 0 => by show 0 < 2 ^ 0; decide
  | n + 1 => by
    have h := bm_lt p n
    show bm p n + _ < 2 ^ (n + 1)
    rw [Nat.pow_succ]
    split <;> omega
theorem bm_bit (p : Nat → Bool) : ∀ n k, (bm p n).testBit k = (decide (k < n) && p k)
  | 0, k => by simp [bm]
  | n + 1, k => by
    have h := bm_lt p n
    have ih := bm_bit p n k
    show (bm p n + _).testBit k = _
    by_cases hp : p n = true
    · rw [if_pos hp, Nat.add_comm]
      by_cases hk : k = n
      · subst hk
        rw [Nat.testBit_two_pow_add_eq, ih]
        simp [hp]
      · by_cases hl : k < n
        · rw [Nat.testBit_two_pow_add_gt hl, ih]
          simp [hl, Nat.lt_succ_of_lt hl]
        · have hz : 2 ^ n + bm p n < 2 ^ k := Nat.lt_of_lt_of_le (by rw [Nat.pow_succ]; omega) (Nat.pow_le_pow_right (by decide) (show n + 1 ≤ k by omega))
          rw [Nat.testBit_lt_two_pow hz]
          have : ¬ k < n + 1 := by omega
          simp [this]
    · rw [if_neg hp, Nat.add_zero, ih]
      by_cases hk : k = n
      · subst hk
        simp [hp]
      · have : (k < n + 1) = (k < n) := propext (by omega)
        simp [this]
theorem bm_and (p q : Nat → Bool) (n : Nat) : bm p n &&& bm q n = bm (fun k => p k && q k) n := by
  apply Nat.eq_of_testBit_eq
  intro k
  rw [Nat.testBit_and, bm_bit, bm_bit, bm_bit]
  cases decide (k < n) <;> simp
theorem bm_congr {p q : Nat → Bool} : ∀ {n : Nat}, (∀ k, k < n → p k = q k) → bm p n = bm q n
  | 0, _ => rfl
  | n + 1, h => by
    show bm p n + _ = bm q n + _
    rw [bm_congr (n := n) fun k hk => h k (by omega), h n (by omega)]
/-- the greatest whole number whose square isn't above n -/
def rt : Nat → Nat
  | 0 => 0
  | n + 1 => if (rt n + 1) * (rt n + 1) ≤ n + 1 then rt n + 1 else rt n
theorem rt_ok : ∀ n, rt n * rt n ≤ n ∧ n < (rt n + 1) * (rt n + 1)
  | 0 => by decide
  | n + 1 => by
    obtain ⟨h1, h2⟩ := rt_ok n
    show (if _ then _ else _) * (if _ then _ else _) ≤ _ ∧ _ < ((if _ then _ else _) + 1) * ((if _ then _ else _) + 1)
    by_cases h : (rt n + 1) * (rt n + 1) ≤ n + 1
    · rw [if_pos h]
      refine ⟨h, ?_⟩
      have e : (rt n + 1 + 1) * (rt n + 1 + 1) = (rt n + 1) * (rt n + 1) + 2 * (rt n + 1) + 1 := by
        rw [Nat.add_mul, Nat.mul_add]
        omega
      omega
    · rw [if_neg h]
      exact ⟨by omega, by omega⟩
theorem rt_uniq {n r : Nat} (h1 : r * r ≤ n) (h2 : n < (r + 1) * (r + 1)) : r = rt n := by
  obtain ⟨g1, g2⟩ := rt_ok n
  apply Nat.le_antisymm
  · apply Nat.le_of_not_lt
    intro h
    have : (rt n + 1) * (rt n + 1) ≤ r * r := Nat.mul_le_mul h h
    omega
  · apply Nat.le_of_not_lt
    intro h
    have : (r + 1) * (r + 1) ≤ rt n * rt n := Nat.mul_le_mul h h
    omega
theorem rt_le (n : Nat) : rt n ≤ n := by
  have := (rt_ok n).1
  apply Nat.le_of_not_lt
  intro h
  have h2 : rt n * 1 ≤ rt n * rt n := Nat.mul_le_mul_left _ (by omega)
  omega
section Spec
variable (V : VW) (l : Nat)
def lenS (t : Nat) : Nat := if t < l then nv (V 3 t) else nv (V 5 (t - l))
/-- how high a tool comes from a distance -/
def rchS (t d : Nat) : Option Nat := if lenS V l t ≤ d then none else
  if t < l then (if 3 * d ≤ rt (lenS V l t * lenS V l t - d * d) ∧ rt (lenS V l t * lenS V l t - d * d) ≤ 5 * d then some (rt (lenS V l t * lenS V l t - d * d)) else none)
  else some (rt (lenS V l t * lenS V l t - d * d) - lenS V l t * nv (V 6 (t - l)) / 10)
/-- may a tool stand at a column -/
def stdS (f t c : Nat) (held : Bool) : Bool := !((nv (V 10 f)).testBit c) && (!(decide (t < l)) || held || !((nv (V 11 f)).testBit c))
def nearS (f c : Nat) (k : Nat) : Bool := decide (c ≤ nv (V 13 (12 * f + k)) + 1 ∧ nv (V 13 (12 * f + k)) ≤ c + 1)
def tallS (f t h : Nat) (k : Nat) : Bool := if t < l then decide (h ≤ nv (V 14 (12 * f + k)) + 5 ∧ nv (V 14 (12 * f + k)) ≤ h + 1) else decide (1 ≤ nv (V 14 (12 * f + k)) ∧ nv (V 14 (12 * f + k)) ≤ h)
/-- what a setting covers -/
def cvS (f t c d : Nat) (held : Bool) : Option Nat := if stdS V l f t c held = true then (rchS V l t d).map fun h => bm (fun k => nearS V f c k && tallS V l f t h k) (nv (V 12 f)) else none
/-- the masks of settings by their number: tool, column, distance -/
def msS (f tools : Nat) (held : Bool) (i : Nat) : Nat := if tools.testBit (i / (9 * nv (V 8 f))) = true then (cvS V l f (i / (9 * nv (V 8 f))) (i / 9 % nv (V 8 f)) (i % 9 + 1) held).getD 0 else 0
def codeS (f i : Nat) : Nat := i / (9 * nv (V 8 f)) + 16 * (i / 9 % nv (V 8 f)) + 256 * (i % 9 + 1)
end Spec
def orN (ms : Nat → Nat) : Nat → Nat
  | 0 => 0
  | n + 1 => orN ms n ||| ms n
/-- what of s isn't in a -/
def dif (s a : Nat) : Nat := s ^^^ (s &&& a)
theorem dif_bit (s a k : Nat) : (dif s a).testBit k = (s.testBit k && !(a.testBit k)) := by
  unfold dif
  rw [Nat.testBit_xor, Nat.testBit_and]
  cases s.testBit k <;> cases a.testBit k <;> rfl
/-- n of the sets that fam holds cover a set -/
def canC (fam : Nat → Prop) : Nat → Nat → Prop
  | 0, s => s = 0
  | n + 1, s => s = 0 ∨ ∃ a, fam a ∧ canC fam n (dif s a)
def IsL (fam : Nat → Prop) (s n : Nat) : Prop := canC fam n s ∧ ∀ k, k < n → ¬ canC fam k s
noncomputable def lst (fam : Nat → Prop) (s : Nat) : Nat := @Classical.epsilon Nat ⟨0⟩ (IsL fam s)
theorem IsL.uniq {fam : Nat → Prop} {s n m : Nat} (h : IsL fam s n) (g : IsL fam s m) : n = m := by
  rcases Nat.lt_trichotomy n m with q | q | q
  · exact absurd h.1 (g.2 n q)
  · exact q
  · exact absurd g.1 (h.2 m q)
theorem IsL.lst {fam : Nat → Prop} {s n : Nat} (h : IsL fam s n) : lst fam s = n := IsL.uniq (Classical.epsilon_spec ⟨n, h⟩) h
/-- going along the settings, taking each that a fewest row holds: what is left, the row's numbers -/
noncomputable def grS (ms : Nat → Nat) (fam : Nat → Prop) (all : Nat) : Nat → Nat × List Nat
  | 0 => (all, [])
  | n + 1 => let g := grS ms fam all n
    @ite _ (g.1 &&& ms n ≠ 0 ∧ lst fam (dif g.1 (ms n)) + 1 = lst fam g.1) (Classical.propDecidable _) (dif g.1 (ms n), g.2 ++ [n]) g
def pop : Nat → Nat → Nat
  | 0, _ => 0
  | n + 1, s => pop n s + if s.testBit n = true then 1 else 0
section Few
variable (V : VW) (l q f tools : Nat) (held : Bool)
def cntS : Nat := (l + q) * (9 * nv (V 8 f))
def famS (a : Nat) : Prop := ∃ i, i < cntS V l q f ∧ msS V l f tools held i = a ∧ a ≠ 0
def allS : Nat := orN (msS V l f tools held) (cntS V l q f)
noncomputable def rowS : List Nat := (grS (msS V l f tools held) (famS V l q f tools held) (allS V l q f tools held) (cntS V l q f)).2
def ladS (i : Nat) : Bool := decide (i / (9 * nv (V 8 f)) < l)
noncomputable def minS : Nat := 2 * pop 12 (allS V l q f tools held) + ((rowS V l q f tools held).map fun i => if ladS V l f i = true then 6 else 3).sum
/-- panes by poles, each by the first setting of the row that covers it -/
def polS (ms : Nat → Nat) (lad : Nat → Bool) : Nat → List Nat → Nat
  | _, [] => 0
  | done, i :: r => (if lad i = true then 0 else pop 12 (dif (ms i) done)) + polS ms lad (done ||| ms i) r
noncomputable def polnS : Nat := polS (msS V l f tools held) (ladS V l f) 0 (rowS V l q f tools held)
end Few
