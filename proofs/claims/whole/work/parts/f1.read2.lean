/-! ===== reading: the reference's steps ===== -/
def TKS (T : Nat → T4) (tx : Nat → Int32) (n : Nat) : Prop := TXT tx n ∧ ∀ i, ∃ k, k ≤ n ∧ (T i).1 = nI k ∧ mtok tx n k (T i).2.2.2 = T (i + 1)
/-- the reference stands at token i; what counts between calls is M's -/
def RDr (M c : CT) (T : Nat → T4) (n i : Nat) : Prop := TKS T (M.1 1) n ∧ MA M c ∧ c.1 0 61 = nI n ∧ (c.1 0 62 = (T i).1 ∧ c.1 0 63 = (T i).2.1 ∧ c.1 0 64 = (T i).2.2.1 ∧ c.1 0 65 = (T i).2.2.2) ∧ c.1 0 66 = 0 ∧ c.1 0 67 = -1
def FLr (M c : CT) (k p : Int32) : Prop := MA M c ∧ c.1 0 66 = k ∧ c.1 0 67 = p
def flt (c : CT) (k : Int32) : CT := sI (sI c 0 66 k) 0 67 (c.1 0 63)
/-- a cell of the plan that is being read -/
def sU (c : CT) (j k : Nat) (v : Int32) : CT := sI c j (half j + k) v
theorem nrv_u {j k : Nat} (h : 2 ≤ j ∧ j ≤ 32) : ¬ RV j (half j + k) := by
  unfold RV
  omega
theorem nrv_0 {k : Nat} (h : (46 ≤ k ∧ k ≤ 67) ∨ k = 70) : ¬ RV 0 k := by
  unfold RV
  omega
theorem wTk_ne {c : CT} {t : T4} {j k : Nat} (h : ¬ (j = 0 ∧ 62 ≤ k ∧ k ≤ 65)) : (wTk c t).1 j k = c.1 j k := by
  unfold wTk
  dsimp only
  by_cases e : j = 0
  · rw [if_pos e, if_neg (by omega), if_neg (by omega), if_neg (by omega), if_neg (by omega), e]
  · rw [if_neg e]
theorem sU_ne {c : CT} {j k j' k' : Nat} {v : Int32} (h : j' ≠ j) : (sU c j k v).1 j' k' = c.1 j' k' := sI_ne fun z => h z.1
theorem flt_ne {c : CT} {x : Int32} {j k : Nat} (h : ¬ (j = 0 ∧ 66 ≤ k ∧ k ≤ 67)) : (flt c x).1 j k = c.1 j k := by
  unfold flt
  rw [sI_ne (by omega), sI_ne (by omega)]
theorem flt_66 {c : CT} {x : Int32} : (flt c x).1 0 66 = x := by
  unfold flt
  rw [sI_ne (by omega), sI_same]
theorem MA.s {M c : CT} {j k : Nat} {v : Int32} (h : MA M c) (n : ¬ RV j k) : MA M (sI c j k v) := fun j' k' r => by
  rw [sI_ne (by rintro ⟨rfl, rfl⟩; exact n r)]
  exact h j' k' r
theorem MA.t {M c : CT} {t : T4} (h : MA M c) : MA M (wTk c t) := fun j' k' r => by
  rw [wTk_ne]
  · exact h j' k' r
  · rintro ⟨rfl, z⟩
    exact nrv_0 (by omega) r
/-! the view of the plan that is being read -/
theorem uppV_u {c : CT} {j k : Nat} (h : j ≠ 0) : uppV c j k = c.1 j (half j + k) := if_neg h
theorem uppV_0 {c : CT} {k : Nat} : uppV c 0 k = c.1 0 (k + 12) := if_pos rfl
theorem upp_s {c : CT} {j k : Nat} {v : Int32} (hj : j ≠ 0) : uppV (sU c j k v) j k = v := by
  rw [uppV_u hj]
  exact sI_same
theorem upp_sn {c : CT} {j k j' k' : Nat} {v : Int32} (hj : j ≠ 0) (h : ¬ (j' = j ∧ k' = k)) : uppV (sU c j k v) j' k' = uppV c j' k' := by
  by_cases e : j' = 0
  · subst e
    rw [uppV_0, uppV_0, sU_ne (Ne.symm hj)]
  · rw [uppV_u e, uppV_u e]
    refine sI_ne ?_
    rintro ⟨rfl, z⟩
    exact h ⟨rfl, by omega⟩
theorem upp_f {c : CT} {k j' k' : Nat} {v : Int32} (h : ¬ (j' = 0 ∧ k' + 12 = k)) : uppV (sI c 0 k v) j' k' = uppV c j' k' := by
  by_cases e : j' = 0
  · subst e
    rw [uppV_0, uppV_0, sI_ne (by omega)]
  · rw [uppV_u e, uppV_u e, sI_ne (by omega)]
theorem upp_fs {c : CT} {k k' : Nat} {v : Int32} (h : k' + 12 = k) : uppV (sI c 0 k v) 0 k' = v := by
  rw [uppV_0, h, sI_same]
theorem upp_t {c : CT} {t : T4} {j k : Nat} (h : j = 0 → k ≤ 45) : uppV (wTk c t) j k = uppV c j k := by
  by_cases e : j = 0
  · subst e
    have := h rfl
    rw [uppV_0, uppV_0, wTk_ne (by omega)]
  · rw [uppV_u e, uppV_u e, wTk_ne (by omega)]
theorem wr_u {c : CT} {j N k : Nat} {a v : Int32} {Q : CT → Prop} (ha : a = nI (half j)) (hk : half j + k < N) (hN : N < 2 ^ 31) (hQ : Q (sU c j k v)) : wrI c j N (a + nI k) v Q := by
  rw [ha, nI_add, wrI_n hk hN]
  exact hQ
theorem wr_u' {c : CT} {j N k : Nat} {v : Int32} {Q : CT → Prop} (hk : half j + k < N) (hN : N < 2 ^ 31) (hQ : Q (sU c j k v)) : wrI c j N (nI (half j + k)) v Q := by
  rw [wrI_n hk hN]
  exact hQ
theorem rd_u {c : CT} {j N k : Nat} {Q : Int32 → Prop} (hk : half j + k < N) (hN : N < 2 ^ 31) (hj : j ≠ 0) (hQ : Q (uppV c j k)) : rdI c j N (nI (half j + k)) Q := by
  rw [rdI_n hk hN]
  rw [uppV_u hj] at hQ
  exact hQ
theorem inc_n {a : Nat} : nI a + 1 = nI (a + 1) := by
  rw [li_1, nI_add]
section RdR
variable {M c : CT} {T : Nat → T4} {n i : Nat} {Q : CT → Prop} {Q1 : Int32 → CT → Prop} {Q0 : Int32 → Prop} {k p lo up sb v : Int32}
theorem RDr.s {j x : Nat} (h : RDr M c T n i) (a : ¬ RV j x) (b : ¬ (j = 0 ∧ 61 ≤ x ∧ x ≤ 67)) : RDr M (sI c j x v) T n i := by
  obtain ⟨h1, h2, h3, ⟨h4, h5, h6, h7⟩, h8, h9⟩ := h
  exact ⟨h1, h2.s a, (sI_ne (by omega)).trans h3, ⟨(sI_ne (by omega)).trans h4, (sI_ne (by omega)).trans h5, (sI_ne (by omega)).trans h6, (sI_ne (by omega)).trans h7⟩, (sI_ne (by omega)).trans h8, (sI_ne (by omega)).trans h9⟩
theorem RDr.u {j x : Nat} (h : RDr M c T n i) (hj : 2 ≤ j ∧ j ≤ 32) : RDr M (sU c j x v) T n i := h.s (nrv_u hj) (by omega)
theorem RDr.tk (h : RDr M c T n i) : RDr M (wTk c (T (i + 1))) T n (i + 1) := by
  obtain ⟨h1, h2, h3, -, h8, h9⟩ := h
  exact ⟨h1, h2.t, (wTk_ne (by omega)).trans h3, ⟨rfl, rfl, rfl, rfl⟩, (wTk_ne (by omega)).trans h8, (wTk_ne (by omega)).trans h9⟩
theorem RDr.fl (h : RDr M c T n i) : FLr M (flt c k) k (T i).2.1 := by
  obtain ⟨h1, h2, h3, ⟨h4, h5, -⟩, h8, h9⟩ := h
  refine ⟨(h2.s (nrv_0 (by omega))).s (nrv_0 (by omega)), flt_66, ?_⟩
  unfold flt
  rw [sI_same]
  exact h5
theorem FLr.s {j x : Nat} (h : FLr M c k p) (a : ¬ RV j x) (b : ¬ (j = 0 ∧ 66 ≤ x ∧ x ≤ 67)) : FLr M (sI c j x v) k p := ⟨h.1.s a, (sI_ne (by omega)).trans h.2.1, (sI_ne (by omega)).trans h.2.2⟩
theorem FLr.u {j x : Nat} (h : FLr M c k p) (hj : 2 ≤ j ∧ j ≤ 32) : FLr M (sU c j x v) k p := h.s (nrv_u hj) (by omega)
theorem token_s (h : RDr M c T n i) (hQ : Q (wTk c (T (i + 1)))) : k2_X12_token c Q := by
  obtain ⟨⟨ht, hs⟩, ma, h61, ⟨h62, h63, h64, h65⟩, -⟩ := h
  obtain ⟨k, k1, k2, k3⟩ := hs i
  have e1 : c.1 1 = M.1 1 := funext fun x => ma 1 x (Or.inr (Or.inl rfl))
  refine ⟨n, k, ⟨h61, ht.1, k1, h62.trans k2, by rw [e1]; exact ht.2⟩, ?_⟩
  rw [e1, h65, k3]
  exact hQ
theorem goOn_s (h : RDr M c T n i) (hQ : Q (wTk c (T (i + 1)))) : k2_X12_goOn c Q := by
  unfold k2_X12_goOn
  rw [if_neg (by rw [h.2.2.2.2.1]; exact fun z => z rfl)]
  exact token_s h hQ
theorem goOn_x (h : FLr M c k p) (hk : k ≠ 0) (hQ : Q c) : k2_X12_goOn c Q := by
  unfold k2_X12_goOn
  rw [if_pos (by rw [h.2.1]; exact hk)]
  exact hQ
theorem wrong_s (h : RDr M c T n i) (hQ : Q (flt c k)) : k_X12_wrong c k Q := by
  unfold k_X12_wrong
  rw [if_pos h.2.2.2.2.1, wrF_eq, wrF_eq, sI_ne (by omega)]
  exact hQ
theorem wrong_x {k' : Int32} (h : FLr M c k p) (hk : k ≠ 0) (hQ : Q c) : k_X12_wrong c k' Q := by
  unfold k_X12_wrong
  rw [if_neg (by rw [h.2.1]; exact hk)]
  exact hQ
theorem isNumeral_s (h : RDr M c T n i) (z : nf (T i) lo up = 0) (hQ : Q1 1 c) : k_X12_isNumeral c lo up Q1 := by
  have h0 := h.2.2.2.2.1
  obtain ⟨-, -, -, ⟨-, -, h6, h7⟩, -⟩ := h
  unfold k_X12_isNumeral
  have s2 := nf_2 z
  unfold nf at z
  rw [if_pos s2] at z
  rw [if_pos h0, jn_eq, h6, if_pos s2, h7]
  by_cases y : (T i).2.2.2 < lo ∨ up < (T i).2.2.2
  · rw [if_pos y] at z
    exact absurd z (by decide)
  · rw [if_neg (fun q => y (Or.inl q)), if_pos (Int32.not_lt.mp fun q => y (Or.inr q))]
    dsimp only
    rw [if_pos (by rw [h0]; exact fun q => q rfl), rZ_1]
    exact hQ
theorem isNumeral_f (h : RDr M c T n i) (z : nf (T i) lo up ≠ 0) (hQ : Q1 0 (flt c (nf (T i) lo up))) : k_X12_isNumeral c lo up Q1 := by
  have h0 := h.2.2.2.2.1
  have hh := h
  obtain ⟨-, -, -, ⟨-, -, h6, h7⟩, -⟩ := h
  unfold k_X12_isNumeral
  have fin : ∀ x : Int32, x ≠ 0 → Q1 0 (flt c x) → rZ (if ¬ (((flt c x).1 0 66) ≠ (0 : Int32)) then (1 : Int32) else (0 : Int32)) (fun t50 => Q1 t50 (flt c x)) := fun x hx q => by
    rw [flt_66, if_neg (fun y => y hx), rZ_0]
    exact q
  rw [if_pos h0, jn_eq, h6]
  unfold nf at z hQ
  by_cases s2 : (T i).2.2.1 = 2
  · rw [if_pos s2] at z hQ
    rw [if_pos s2, h7]
    by_cases y : (T i).2.2.2 < lo ∨ up < (T i).2.2.2
    · rw [if_pos y] at hQ
      by_cases q : (T i).2.2.2 < lo
      · rw [if_pos q]
        exact wrong_s hh (fin 2 (by decide) hQ)
      · rw [if_neg q, if_neg (Int32.not_le.mpr (y.resolve_left q))]
        exact wrong_s hh (fin 2 (by decide) hQ)
    · rw [if_neg y] at z
      exact absurd rfl z
  · rw [if_neg s2] at hQ
    rw [if_neg s2]
    exact wrong_s hh (fin 1 (by decide) hQ)
theorem isNumeral_x (h : FLr M c k p) (hk : k ≠ 0) (hQ : Q1 0 c) : k_X12_isNumeral c lo up Q1 := by
  unfold k_X12_isNumeral
  rw [if_neg (by rw [h.2.1]; exact hk)]
  exact hQ
theorem numeral_s (h : RDr M c T n i) (z : nf (T i) lo up = 0) (hQ : Q1 (T i).2.2.2 (wTk c (T (i + 1)))) : k2_X12_numeral c lo up Q1 := by
  unfold k2_X12_numeral
  refine isNumeral_s h z ?_
  rw [if_pos (by decide), vK_eq]
  refine token_s h ?_
  rw [h.2.2.2.1.2.2.2]
  exact hQ
theorem numeral_f (h : RDr M c T n i) (z : nf (T i) lo up ≠ 0) (hQ : Q1 lo (flt c (nf (T i) lo up))) : k2_X12_numeral c lo up Q1 := by
  unfold k2_X12_numeral
  refine isNumeral_f h z ?_
  rw [if_neg (fun y => y rfl)]
  exact hQ
theorem numeral_x (h : FLr M c k p) (hk : k ≠ 0) (hQ : Q1 lo c) : k2_X12_numeral c lo up Q1 := by
  unfold k2_X12_numeral
  refine isNumeral_x h hk ?_
  rw [if_neg (fun y => y rfl)]
  exact hQ
theorem bit_s (h : RDr M c T n i) (z : fb (T i) sb up = 0) (hQ : Q1 (sb ||| ((1 : Int32) <<< ((T i).2.2.2 &&& 31))) (wTk c (T (i + 1)))) : k2_X12_bit c sb up Q1 := by
  unfold k2_X12_bit
  unfold fb at z
  have e0 : nf (T i) 0 up = 0 := by
    by_cases e : nf (T i) 0 up = 0
    · exact e
    · rw [if_neg e] at z
      exact z
  rw [if_pos e0] at z
  refine isNumeral_s h e0 ?_
  rw [if_pos (by decide), jn_eq, h.2.2.2.1.2.2.2, if_pos]
  · dsimp only
    rw [if_pos h.2.2.2.2.1, vK_eq]
    refine token_s h ?_
    rw [h.2.2.2.1.2.2.2]
    exact hQ
  · intro y
    rw [if_pos y] at z
    exact absurd z (by decide)
theorem bit_f (h : RDr M c T n i) (z : fb (T i) sb up ≠ 0) (hQ : Q1 sb (flt c (fb (T i) sb up))) : k2_X12_bit c sb up Q1 := by
  unfold k2_X12_bit
  unfold fb at z hQ
  by_cases e0 : nf (T i) 0 up = 0
  · rw [if_pos e0] at z hQ
    refine isNumeral_s h e0 ?_
    by_cases y : (sb >>> ((T i).2.2.2 &&& 31)) &&& 1 = 1
    · rw [if_pos y] at hQ
      rw [if_pos (by decide), jn_eq, h.2.2.2.1.2.2.2, if_neg (fun w => w y)]
      refine wrong_s h ?_
      dsimp only
      rw [flt_66, if_neg (by decide)]
      exact hQ
    · rw [if_neg y] at z
      exact absurd rfl z
  · rw [if_neg e0] at z hQ
    refine isNumeral_f h e0 ?_
    rw [if_neg (fun y => y rfl)]
    exact hQ
theorem bit_x (h : FLr M c k p) (hk : k ≠ 0) (hQ : Q1 sb c) : k2_X12_bit c sb up Q1 := by
  unfold k2_X12_bit
  refine isNumeral_x h hk ?_
  rw [if_neg (fun y => y rfl)]
  exact hQ
theorem fresh_s {j N fr m : Nat} (hN : fr + m ≤ N) (h9 : N < 2 ^ 31) (h : RDr M c T n i) (z : ff (T i) (fnd (c.1 j) fr (T i).2.2.2 m 0) = 0) (hQ : Q1 (T i).2.2.2 (wTk c (T (i + 1)))) : k2_X12_fresh c j N (nI fr) (nI m) Q1 := by
  unfold k2_X12_fresh
  unfold ff at z
  have h7 := h.2.2.2.1.2.2.2
  by_cases s1 : (T i).2.2.1 = 1
  · rw [if_pos s1] at z
    rw [if_pos h.2.2.2.2.1, jn_eq, h.2.2.2.1.2.2.1, if_pos s1]
    refine found_ok hN h9 ?_
    rw [h7]
    by_cases q : fnd (c.1 j) fr (T i).2.2.2 m 0 = -1
    · rw [if_pos q]
      dsimp only
      rw [if_pos h.2.2.2.2.1, vK_eq]
      refine token_s h ?_
      rw [h7]
      exact hQ
    · rw [if_neg q] at z
      exact absurd z (by decide)
  · rw [if_neg s1] at z
    exact absurd z (by decide)
theorem fresh_f {j N fr m : Nat} (hN : fr + m ≤ N) (h9 : N < 2 ^ 31) (h : RDr M c T n i) (z : ff (T i) (fnd (c.1 j) fr (T i).2.2.2 m 0) ≠ 0) (hQ : Q1 0 (flt c (ff (T i) (fnd (c.1 j) fr (T i).2.2.2 m 0)))) : k2_X12_fresh c j N (nI fr) (nI m) Q1 := by
  unfold k2_X12_fresh
  unfold ff at z hQ
  have h7 := h.2.2.2.1.2.2.2
  rw [if_pos h.2.2.2.2.1, jn_eq, h.2.2.2.1.2.2.1]
  by_cases s1 : (T i).2.2.1 = 1
  · rw [if_pos s1] at z hQ
    rw [if_pos s1]
    refine found_ok hN h9 ?_
    rw [h7]
    by_cases q : fnd (c.1 j) fr (T i).2.2.2 m 0 = -1
    · rw [if_pos q] at z
      exact absurd rfl z
    · rw [if_neg q] at hQ
      rw [if_neg q]
      refine wrong_s h ?_
      dsimp only
      rw [flt_66, if_neg (by decide)]
      exact hQ
  · rw [if_neg s1] at hQ
    rw [if_neg s1]
    refine wrong_s h ?_
    dsimp only
    rw [flt_66, if_neg (by decide)]
    exact hQ
theorem fresh_x {j N : Nat} {a b : Int32} (h : FLr M c k p) (hk : k ≠ 0) (hQ : Q1 0 c) : k2_X12_fresh c j N a b Q1 := by
  unfold k2_X12_fresh
  rw [if_neg (by rw [h.2.1]; exact hk)]
  exact hQ
theorem ahead_s {j N fr m : Nat} (hN : fr + m ≤ N) (h9 : N < 2 ^ 31) (h : RDr M c T n i) (z : fa (T i) (fnd (c.1 j) fr (T i).2.2.2 m 0) = 0) (hQ : Q1 (fnd (c.1 j) fr (T i).2.2.2 m 0) (wTk c (T (i + 1)))) : k2_X12_ahead c j N (nI fr) (nI m) Q1 := by
  unfold k2_X12_ahead
  unfold fa at z
  have h7 := h.2.2.2.1.2.2.2
  by_cases s1 : (T i).2.2.1 = 1
  · rw [if_pos s1] at z
    rw [if_pos h.2.2.2.2.1, jn_eq, h.2.2.2.1.2.2.1, if_pos s1]
    refine found_ok hN h9 ?_
    rw [h7]
    by_cases q : fnd (c.1 j) fr (T i).2.2.2 m 0 = -1
    · rw [if_pos q] at z
      exact absurd z (by decide)
    · rw [if_pos q]
      dsimp only
      rw [if_pos h.2.2.2.2.1]
      refine found_ok hN h9 ?_
      rw [h7]
      exact token_s h hQ
  · rw [if_neg s1] at z
    exact absurd z (by decide)
theorem ahead_f {j N fr m : Nat} (hN : fr + m ≤ N) (h9 : N < 2 ^ 31) (h : RDr M c T n i) (z : fa (T i) (fnd (c.1 j) fr (T i).2.2.2 m 0) ≠ 0) (hQ : Q1 0 (flt c (fa (T i) (fnd (c.1 j) fr (T i).2.2.2 m 0)))) : k2_X12_ahead c j N (nI fr) (nI m) Q1 := by
  unfold k2_X12_ahead
  unfold fa at z hQ
  have h7 := h.2.2.2.1.2.2.2
  rw [if_pos h.2.2.2.2.1, jn_eq, h.2.2.2.1.2.2.1]
  by_cases s1 : (T i).2.2.1 = 1
  · rw [if_pos s1] at z hQ
    rw [if_pos s1]
    refine found_ok hN h9 ?_
    rw [h7]
    by_cases q : fnd (c.1 j) fr (T i).2.2.2 m 0 = -1
    · rw [if_pos q] at hQ
      rw [if_neg (fun w => w q)]
      refine wrong_s h ?_
      dsimp only
      rw [flt_66, if_neg (by decide)]
      exact hQ
    · rw [if_neg q] at z
      exact absurd rfl z
  · rw [if_neg s1] at hQ
    rw [if_neg s1]
    refine wrong_s h ?_
    dsimp only
    rw [flt_66, if_neg (by decide)]
    exact hQ
theorem ahead_x {j N : Nat} {a b : Int32} (h : FLr M c k p) (hk : k ≠ 0) (hQ : Q1 0 c) : k2_X12_ahead c j N a b Q1 := by
  unfold k2_X12_ahead
  rw [if_neg (by rw [h.2.1]; exact hk)]
  exact hQ
/-- a tool's name, as the reference looks it up -/
def ftR (c : CT) (l q : Nat) (x : Int32) : Int32 := if fnd (c.1 2) 4 x l 0 = -1 then fnd (c.1 4) 3 x q 0 else fnd (c.1 2) 4 x l 0
theorem freshTool_s {l q : Nat} (hl : c.1 0 46 = nI l) (hq : c.1 0 47 = nI q) (l4 : l ≤ 4) (q3 : q ≤ 3) (h : RDr M c T n i) (z : ff (T i) (ftR c l q (T i).2.2.2) = 0) (hQ : Q1 (T i).2.2.2 (wTk c (T (i + 1)))) : k2_X12_freshTool c Q1 := by
  unfold k2_X12_freshTool
  unfold ff at z
  have h7 := h.2.2.2.1.2.2.2
  have h0 := h.2.2.2.2.1
  have h6 := h.2.2.2.1.2.2.1
  by_cases s1 : (T i).2.2.1 = 1
  · rw [if_pos s1] at z
    rw [jn_eq, if_neg (fun w => w h0), if_neg (fun w => w (h6.trans s1)), hl, hq, h7]
    have go : (fun (c2 : CT) => jn (fun (c4 : CT) => (if (c4.1 0 66) = (0 : Int32) then vK (c4.1 0 65) (fun v13 => k2_X12_token c4 (fun c14 => Q1 v13 c14)) else Q1 (0 : Int32) c4)) (fun J21 => (if (c2.1 0 66) ≠ (0 : Int32) then J21 c2 else (if (c2.1 0 64) = (1 : Int32) then J21 c2 else k_X12_wrong c2 (1 : Int32) (fun c23 => J21 c23))))) c := by
      dsimp only
      rw [jn_eq, if_neg (fun w => w h0), if_pos (h6.trans s1)]
      dsimp only
      rw [if_pos h0, vK_eq]
      refine token_s h ?_
      rw [h7]
      exact hQ
    refine found_ok (fr := 4) (by omega) (by omega) ?_
    unfold ftR at z
    by_cases e1 : fnd (c.1 2) 4 (T i).2.2.2 l 0 = -1
    · rw [if_pos e1] at z
      rw [if_neg (fun w => w e1)]
      refine found_ok (fr := 3) (by omega) (by omega) ?_
      by_cases e2 : fnd (c.1 4) 3 (T i).2.2.2 q 0 = -1
      · rw [if_pos e2]
        exact go
      · rw [if_neg e2] at z
        exact absurd z (by decide)
    · rw [if_neg e1, if_neg e1] at z
      exact absurd z (by decide)
  · rw [if_neg s1] at z
    exact absurd z (by decide)
theorem freshTool_f {l q : Nat} (hl : c.1 0 46 = nI l) (hq : c.1 0 47 = nI q) (l4 : l ≤ 4) (q3 : q ≤ 3) (h : RDr M c T n i) (z : ff (T i) (ftR c l q (T i).2.2.2) ≠ 0) (hQ : Q1 0 (flt c (ff (T i) (ftR c l q (T i).2.2.2)))) : k2_X12_freshTool c Q1 := by
  unfold k2_X12_freshTool
  unfold ff at z hQ
  have h7 := h.2.2.2.1.2.2.2
  have h0 := h.2.2.2.2.1
  have h6 := h.2.2.2.1.2.2.1
  by_cases s1 : (T i).2.2.1 = 1
  · rw [if_pos s1] at z hQ
    rw [jn_eq, if_neg (fun w => w h0), if_neg (fun w => w (h6.trans s1)), hl, hq, h7]
    have go : Q1 0 (flt c 3) → (fun (c2 : CT) => jn (fun (c4 : CT) => (if (c4.1 0 66) = (0 : Int32) then vK (c4.1 0 65) (fun v13 => k2_X12_token c4 (fun c14 => Q1 v13 c14)) else Q1 (0 : Int32) c4)) (fun J21 => (if (c2.1 0 66) ≠ (0 : Int32) then J21 c2 else (if (c2.1 0 64) = (1 : Int32) then J21 c2 else k_X12_wrong c2 (1 : Int32) (fun c23 => J21 c23))))) (flt c 3) := fun q => by
      dsimp only
      rw [jn_eq, flt_66, if_pos (by decide)]
      dsimp only
      rw [flt_66, if_neg (by decide)]
      exact q
    refine found_ok (fr := 4) (by omega) (by omega) ?_
    unfold ftR at z hQ
    by_cases e1 : fnd (c.1 2) 4 (T i).2.2.2 l 0 = -1
    · rw [if_pos e1] at z hQ
      rw [if_neg (fun w => w e1)]
      refine found_ok (fr := 3) (by omega) (by omega) ?_
      by_cases e2 : fnd (c.1 4) 3 (T i).2.2.2 q 0 = -1
      · rw [if_pos e2] at z
        exact absurd rfl z
      · rw [if_neg e2] at hQ
        rw [if_neg e2]
        exact wrong_s h (go hQ)
    · rw [if_neg e1, if_neg e1] at hQ
      rw [if_pos e1]
      exact wrong_s h (go hQ)
  · rw [if_neg s1] at hQ
    rw [jn_eq, if_neg (fun w => w h0), if_pos (fun w => s1 (h6.symm.trans w))]
    dsimp only
    rw [jn_eq, if_neg (fun w => w h0), if_neg (fun w => s1 (h6.symm.trans w))]
    refine wrong_s h ?_
    dsimp only
    rw [flt_66, if_neg (by decide)]
    exact hQ
theorem isWord_s {a : Int32} (h : RDr M c T n i) (hy : (T i).2.2.1 = 0 ∧ (T i).2.2.2 = a → Q0 1) (hn : ¬ ((T i).2.2.1 = 0 ∧ (T i).2.2.2 = a) → Q0 0) : k_X12_isWord c a Q0 := by
  unfold k_X12_isWord
  rw [h.2.2.2.2.1, h.2.2.2.1.2.2.1, h.2.2.2.1.2.2.2]
  by_cases e : (T i).2.2.1 = 0 ∧ (T i).2.2.2 = a
  · rw [if_pos ⟨fun z => z rfl, fun z => z e.1, fun z => z e.2⟩, rZ_1]
    exact hy e
  · rw [if_neg (fun z => e ⟨Classical.not_not.mp z.2.1, Classical.not_not.mp z.2.2⟩), rZ_0]
    exact hn e
theorem isWord_x {a : Int32} (h : FLr M c k p) (hk : k ≠ 0) (hn : Q0 0) : k_X12_isWord c a Q0 := by
  unfold k_X12_isWord
  rw [h.2.1, if_neg (fun z => z.1 hk), rZ_0]
  exact hn
theorem isSign_s {a : Int32} (h : RDr M c T n i) (hy : (T i).2.2.1 = 3 ∧ (T i).2.2.2 = a → Q0 1) (hn : ¬ ((T i).2.2.1 = 3 ∧ (T i).2.2.2 = a) → Q0 0) : k_X12_isSign c a Q0 := by
  unfold k_X12_isSign
  rw [h.2.2.2.2.1, h.2.2.2.1.2.2.1, h.2.2.2.1.2.2.2]
  by_cases e : (T i).2.2.1 = 3 ∧ (T i).2.2.2 = a
  · rw [if_pos ⟨fun z => z rfl, fun z => z e.1, fun z => z e.2⟩, rZ_1]
    exact hy e
  · rw [if_neg (fun z => e ⟨Classical.not_not.mp z.2.1, Classical.not_not.mp z.2.2⟩), rZ_0]
    exact hn e
end RdR
