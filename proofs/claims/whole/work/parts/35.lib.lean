/-! ===== numbers, loops ===== -/
theorem loop_go {s : XS} {L L1 : List Value} {σ σ1 : ST} (h : s L σ = some (.inl 0, L1, σ1)) : sLoop s L σ = sLoop s L1 σ1 := by rw [sLoop_eq, h]; rfl
theorem loop_br {s : XS} {L L1 : List Value} {σ σ1 : ST} {k : Nat} (h : s L σ = some (.inl (k + 1), L1, σ1)) : sLoop s L σ = some (.inl (k + 1), L1, σ1) := by rw [sLoop_eq, h]; rfl
theorem loop_rt {s : XS} {L L1 : List Value} {σ σ1 : ST} {v : Option Value} (h : s L σ = some (.inr v, L1, σ1)) : sLoop s L σ = some (.inr v, L1, σ1) := by rw [sLoop_eq, h]; rfl
/-- a counting loop: turns from a up to b -/
theorem loop_up {s : XS} {Lk : Nat → List Value} {σk : Nat → ST} {a b : Nat} (hab : a ≤ b) (h : ∀ k, a ≤ k → k < b → s (Lk k) (σk k) = some (.inl 0, Lk (k + 1), σk (k + 1))) : sLoop s (Lk a) (σk a) = sLoop s (Lk b) (σk b) := by
  induction hab with
  | refl => rfl
  | step hm ih =>
    rw [ih (fun k h1 h2 => h k h1 (by omega))]
    exact loop_go (h _ hm (by exact Nat.lt_succ_self _))
theorem nI_lt' {a b : Nat} (ha : a < 2 ^ 31) (hb : b < 2 ^ 31) : (nI a < nI b) = (a < b) := propext (nI_ltI ha hb)
theorem nI_le' {a b : Nat} (ha : a < 2 ^ 31) (hb : b < 2 ^ 31) : (nI a ≤ nI b) = (a ≤ b) := propext (nI_leI ha hb)
theorem nI_eq' {a b : Nat} (ha : a < 2 ^ 31) (hb : b < 2 ^ 31) : (nI a = nI b) = (a = b) := propext (nI_eq ha hb)
theorem nI_in' {a n : Nat} (ha : a < 2 ^ 31) : (nI a < 0 ∨ n ≤ (nI a).toNatClampNeg) = (n ≤ a) := by
  rw [nI_clamp ha]
  apply propext
  constructor
  · rintro (h | h)
    · exact absurd h (nI_pos ha)
    · exact h
  · exact Or.inr
theorem nI_neg' {a : Nat} (ha : a < 2 ^ 31) : (nI a < 0) = False := eq_false (nI_pos ha)
theorem nI_lit (n : Nat) : (OfNat.ofNat n : Int32) = nI n := rfl
theorem nI_sub' {a b : Nat} (h : b ≤ a) : nI a - nI b = nI (a - b) := pk_sub h
theorem m1_ne {a : Nat} (ha : a < 2 ^ 31) : (nI a = -1) = False := by
  apply propext
  constructor
  · intro h
    have := congrArg Int32.toInt h
    rw [nI_toInt ha] at this
    have e : (-1 : Int32).toInt = -1 := by decide
    omega
  · exact False.elim
theorem setI_get {c : BC} {j k : Nat} {x : Int32} : (setI c j k x).1 j k = x := by simp [setI, up2]
theorem setI_ne {c : BC} {j k j' k' : Nat} {x : Int32} (h : ¬ (j' = j ∧ k' = k)) : (setI c j k x).1 j' k' = c.1 j' k' := by simp [setI, up2, h]
theorem setI_self {c : BC} {j k : Nat} : setI c j k (c.1 j k) = c := by
  obtain ⟨a, b⟩ := c
  unfold setI up2
  congr 1
  funext j' k'
  dsimp only
  split
  · rename_i h; rw [h.1, h.2]
  · rfl
theorem setI_same {c : BC} {j k : Nat} {x y : Int32} : setI (setI c j k x) j k y = setI c j k y := by
  unfold setI up2
  congr 1
  funext j' k'
  dsimp only
  split <;> simp_all
theorem setI_comm {c : BC} {j k j' k' : Nat} {x y : Int32} (h : ¬ (j' = j ∧ k' = k)) : setI (setI c j k x) j' k' y = setI (setI c j' k' y) j k x := by
  unfold setI up2
  congr 1
  funext a b
  dsimp only
  by_cases h1 : a = j' ∧ b = k'
  · by_cases h2 : a = j ∧ b = k
    · exact absurd ⟨h1.1.symm.trans h2.1, h1.2.symm.trans h2.2⟩ h
    · simp [h1, h2, h]
  · by_cases h2 : a = j ∧ b = k
    · rw [if_neg h1, if_pos h2, if_pos h2]
    · rw [if_neg h1, if_neg h2, if_neg h2, if_neg h1]
/-- how far a row of signs goes -/
def spn (p : Int32 → Bool) (tx : Nat → Int32) (n : Nat) : Nat → Nat → Nat
  | 0, i => i
  | f + 1, i => if i < n ∧ p (tx i) = true then spn p tx n f (i + 1) else i
def sp (p : Int32 → Bool) (tx : Nat → Int32) (n i : Nat) : Nat := spn p tx n (n - i) i
theorem sp_eq (p : Int32 → Bool) (tx : Nat → Int32) (n i : Nat) : sp p tx n i = if i < n ∧ p (tx i) = true then sp p tx n (i + 1) else i := by
  unfold sp
  by_cases h : i < n
  · obtain ⟨f, hf⟩ : ∃ f, n - i = f + 1 := ⟨n - i - 1, by omega⟩
    rw [hf, show n - (i + 1) = f by omega]
    rfl
  · rw [if_neg (fun q => h q.1), show n - i = 0 by omega]
    rfl
theorem sp_ind {p : Int32 → Bool} {tx : Nat → Int32} {n : Nat} {P : Nat → Prop} (h0 : ∀ i, ¬ (i < n ∧ p (tx i) = true) → P i) (h1 : ∀ i, i < n → p (tx i) = true → P (i + 1) → P i) : ∀ i, P i := by
  have key : ∀ f i, n - i ≤ f → P i := by
    intro f
    induction f with
    | zero => intro i hi; exact h0 i (fun q => by omega)
    | succ f ih =>
      intro i hi
      by_cases h : i < n ∧ p (tx i) = true
      · exact h1 i h.1 h.2 (ih (i + 1) (by omega))
      · exact h0 i h
  exact fun i => key (n - i) i (Nat.le_refl _)
theorem sp_ge (p : Int32 → Bool) (tx : Nat → Int32) (n i : Nat) : i ≤ sp p tx n i := by
  refine sp_ind (p := p) (tx := tx) (n := n) (P := fun i => i ≤ sp p tx n i) (fun i h => ?_) (fun i h1 h2 h3 => ?_) i
  · rw [sp_eq, if_neg h]
    exact Nat.le_refl _
  · rw [sp_eq, if_pos ⟨h1, h2⟩]
    omega
theorem sp_le (p : Int32 → Bool) (tx : Nat → Int32) (n i : Nat) (hi : i ≤ n) : sp p tx n i ≤ n := by
  refine sp_ind (p := p) (tx := tx) (n := n) (P := fun i => i ≤ n → sp p tx n i ≤ n) (fun i h => ?_) (fun i h1 h2 h3 => ?_) i hi
  · rw [sp_eq, if_neg h]
    exact id
  · rw [sp_eq, if_pos ⟨h1, h2⟩]
    exact fun _ => h3 h1
theorem sp_in {p : Int32 → Bool} {tx : Nat → Int32} {n i q : Nat} (h1 : i ≤ q) (h2 : q < sp p tx n i) : q < n ∧ p (tx q) = true := by
  revert h1 h2
  refine sp_ind (p := p) (tx := tx) (n := n) (P := fun i => i ≤ q → q < sp p tx n i → q < n ∧ p (tx q) = true) (fun i h => ?_) (fun i g1 g2 g3 => ?_) i
  · intro a b
    rw [sp_eq, if_neg h] at b
    omega
  · intro a b
    rw [sp_eq, if_pos ⟨g1, g2⟩] at b
    by_cases e : i = q
    · subst e; exact ⟨g1, g2⟩
    · exact g3 (by omega) b
theorem sp_stop (p : Int32 → Bool) (tx : Nat → Int32) (n i : Nat) : ¬ (sp p tx n i < n ∧ p (tx (sp p tx n i)) = true) := by
  refine sp_ind (p := p) (tx := tx) (n := n) (P := fun i => ¬ (sp p tx n i < n ∧ p (tx (sp p tx n i)) = true)) (fun i h => ?_) (fun i g1 g2 g3 => ?_) i
  · rw [sp_eq, if_neg h]
    exact h
  · rw [sp_eq, if_pos ⟨g1, g2⟩]
    exact g3
def isB (v : Int32) : Bool := decide (v = 10 ∨ v = 32)
def isLt (v : Int32) : Bool := decide (97 ≤ v ∧ v ≤ 122)
def isDg (v : Int32) : Bool := decide (48 ≤ v ∧ v ≤ 57)
--
--
