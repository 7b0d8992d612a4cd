/-! ===== working with the formulas ===== -/
theorem inX_n {i n : Nat} (h : i < n) (hn : n < 2 ^ 31) : inX (nI i) n := nI_in h hn
theorem rdI_n {c : CT} {j n i : Nat} {Q : Int32 → Prop} (h : i < n) (hn : n < 2 ^ 31) : rdI c j n (nI i) Q = Q (c.1 j i) := by
  unfold rdI
  rw [nI_clamp (by omega)]
  exact propext ⟨fun q => q.2, fun q => ⟨inX_n h hn, q⟩⟩
theorem rdL_n {c : CT} {j n i : Nat} {Q : Int64 → Prop} (h : i < n) (hn : n < 2 ^ 31) : rdL c j n (nI i) Q = Q (c.2 j i) := by
  unfold rdL
  rw [nI_clamp (by omega)]
  exact propext ⟨fun q => q.2, fun q => ⟨inX_n h hn, q⟩⟩
theorem wrI_n {c : CT} {j n i : Nat} {x : Int32} {Q : CT → Prop} (h : i < n) (hn : n < 2 ^ 31) : wrI c j n (nI i) x Q = Q (sI c j i x) := by
  unfold wrI
  rw [nI_clamp (by omega)]
  exact propext ⟨fun q => q.2, fun q => ⟨inX_n h hn, q⟩⟩
theorem wrL_n {c : CT} {j n i : Nat} {x : Int64} {Q : CT → Prop} (h : i < n) (hn : n < 2 ^ 31) : wrL c j n (nI i) x Q = Q (sL c j i x) := by
  unfold wrL
  rw [nI_clamp (by omega)]
  exact propext ⟨fun q => q.2, fun q => ⟨inX_n h hn, q⟩⟩
theorem ixN_n {n i : Nat} {Q : Nat → Prop} (h : i < n) (hn : n < 2 ^ 31) : ixN n (nI i) Q = Q i := by
  unfold ixN
  rw [nI_clamp (by omega)]
  exact propext ⟨fun q => q.2, fun q => ⟨inX_n h hn, q⟩⟩
theorem wrF_eq {c : CT} {j k : Nat} {x : Int32} {Q : CT → Prop} : wrF c j k x Q = Q (sI c j k x) := rfl
theorem dvI_eq {a b : Int32} {Q : Int32 → Prop} (h : b ≠ 0) : dvI a b Q = Q (a / b) := propext ⟨fun q => q.2, fun q => ⟨h, q⟩⟩
theorem rmI_eq {a b : Int32} {Q : Int32 → Prop} (h : b ≠ 0) : rmI a b Q = Q (a - a / b * b) := propext ⟨fun q => q.2, fun q => ⟨h, q⟩⟩
theorem rZ_eq {x : Int32} {Q : Int32 → Prop} (h : x = 0 ∨ x = 1) : rZ x Q = Q x := propext ⟨fun q => q.2, fun q => ⟨h, q⟩⟩
theorem rZ_ite {p : Prop} [Decidable p] {Q : Int32 → Prop} : rZ (if p then 1 else 0) Q = Q (if p then 1 else 0) := rZ_eq (by split <;> simp)
theorem rZ_ite' {p : Prop} [Decidable p] {Q : Int32 → Prop} : rZ (if p then 0 else 1) Q = Q (if p then 0 else 1) := rZ_eq (by split <;> simp)
theorem rZ_0 {Q : Int32 → Prop} : rZ 0 Q = Q 0 := rZ_eq (Or.inl rfl)
theorem rZ_1 {Q : Int32 → Prop} : rZ 1 Q = Q 1 := rZ_eq (Or.inr rfl)
theorem sI_at {c : CT} {j k j' k' : Nat} {x : Int32} : (sI c j k x).1 j' k' = if j' = j ∧ k' = k then x else c.1 j' k' := rfl
theorem sI_same {c : CT} {j k : Nat} {x : Int32} : (sI c j k x).1 j k = x := if_pos ⟨rfl, rfl⟩
theorem sI_ne {c : CT} {j k j' k' : Nat} {x : Int32} (h : ¬ (j' = j ∧ k' = k)) : (sI c j k x).1 j' k' = c.1 j' k' := if_neg h
theorem sI_2 {c : CT} {j k : Nat} {x : Int32} : (sI c j k x).2 = c.2 := rfl
theorem sL_at {c : CT} {j k j' k' : Nat} {x : Int64} : (sL c j k x).2 j' k' = if j' = j ∧ k' = k then x else c.2 j' k' := rfl
theorem sL_1 {c : CT} {j k : Nat} {x : Int64} : (sL c j k x).1 = c.1 := rfl
theorem bo1 : vp_nar .boolean 1 = 1 := by decide
theorem bo0 : vp_nar .boolean 0 = 0 := by decide
theorem it10 {p : Prop} [Decidable p] : ((if p then (1 : Int32) else 0) = 0) = ¬ p := by by_cases h : p <;> simp [h]
theorem it11 {p : Prop} [Decidable p] : ((if p then (1 : Int32) else 0) = 1) = p := by by_cases h : p <;> simp [h]
theorem it1n {p : Prop} [Decidable p] : ((if p then (1 : Int32) else 0) ≠ 0) = p := by by_cases h : p <;> simp [h]
theorem nI_in0 {a : Nat} (ha : a < 2 ^ 31) : (nI a < 0) = False := eq_false (nI_pos ha)
theorem nI_nn {a : Nat} (ha : a < 2 ^ 31) : (0 ≤ nI a) = True := eq_true (nI_pos' ha)
theorem nI_eqm {a : Nat} (ha : a < 2 ^ 31) : (nI a = -1) = False := m1_ne ha
theorem i32_cases (x : Int32) : x < 0 ∨ ∃ n : Nat, n < 2 ^ 31 ∧ x = nI n := by
  by_cases h : x < 0
  · exact Or.inl h
  · exact Or.inr (nI_of h)
theorem m1_add (n : Nat) : nI (n + 1) + -1 = nI n := pk_m1 n
/-- a number within bounds -/
def NB (v : Int32) (b : Nat) : Prop := ∃ n : Nat, n ≤ b ∧ v = nI n
theorem li_0 : (0 : Int32) = nI 0 := rfl
theorem li_1 : (1 : Int32) = nI 1 := rfl
theorem li_2 : (2 : Int32) = nI 2 := rfl
theorem li_3 : (3 : Int32) = nI 3 := rfl
theorem li_4 : (4 : Int32) = nI 4 := rfl
theorem li_5 : (5 : Int32) = nI 5 := rfl
theorem li_6 : (6 : Int32) = nI 6 := rfl
theorem li_7 : (7 : Int32) = nI 7 := rfl
theorem li_8 : (8 : Int32) = nI 8 := rfl
theorem li_9 : (9 : Int32) = nI 9 := rfl
theorem li_10 : (10 : Int32) = nI 10 := rfl
theorem li_11 : (11 : Int32) = nI 11 := rfl
theorem li_12 : (12 : Int32) = nI 12 := rfl
theorem li_13 : (13 : Int32) = nI 13 := rfl
theorem li_14 : (14 : Int32) = nI 14 := rfl
theorem li_15 : (15 : Int32) = nI 15 := rfl
theorem li_16 : (16 : Int32) = nI 16 := rfl
theorem li_17 : (17 : Int32) = nI 17 := rfl
theorem li_18 : (18 : Int32) = nI 18 := rfl
theorem li_19 : (19 : Int32) = nI 19 := rfl
theorem li_20 : (20 : Int32) = nI 20 := rfl
theorem li_21 : (21 : Int32) = nI 21 := rfl
theorem li_22 : (22 : Int32) = nI 22 := rfl
theorem li_23 : (23 : Int32) = nI 23 := rfl
theorem li_24 : (24 : Int32) = nI 24 := rfl
theorem li_25 : (25 : Int32) = nI 25 := rfl
theorem li_26 : (26 : Int32) = nI 26 := rfl
theorem li_27 : (27 : Int32) = nI 27 := rfl
theorem li_28 : (28 : Int32) = nI 28 := rfl
theorem li_29 : (29 : Int32) = nI 29 := rfl
theorem li_30 : (30 : Int32) = nI 30 := rfl
theorem li_31 : (31 : Int32) = nI 31 := rfl
theorem li_32 : (32 : Int32) = nI 32 := rfl
theorem li_50 : (50 : Int32) = nI 50 := rfl
theorem li_60 : (60 : Int32) = nI 60 := rfl
theorem li_64 : (64 : Int32) = nI 64 := rfl
theorem li_72 : (72 : Int32) = nI 72 := rfl
theorem li_99 : (99 : Int32) = nI 99 := rfl
theorem li_100 : (100 : Int32) = nI 100 := rfl
theorem li_120 : (120 : Int32) = nI 120 := rfl
theorem li_126 : (126 : Int32) = nI 126 := rfl
theorem li_127 : (127 : Int32) = nI 127 := rfl
theorem li_128 : (128 : Int32) = nI 128 := rfl
theorem li_199 : (199 : Int32) = nI 199 := rfl
theorem li_200 : (200 : Int32) = nI 200 := rfl
theorem li_256 : (256 : Int32) = nI 256 := rfl
theorem li_300 : (300 : Int32) = nI 300 := rfl
theorem li_400 : (400 : Int32) = nI 400 := rfl
theorem li_600 : (600 : Int32) = nI 600 := rfl
theorem li_756 : (756 : Int32) = nI 756 := rfl
theorem li_880 : (880 : Int32) = nI 880 := rfl
theorem li_900 : (900 : Int32) = nI 900 := rfl
theorem li_999 : (999 : Int32) = nI 999 := rfl
theorem li_2000 : (2000 : Int32) = nI 2000 := rfl
theorem li_4096 : (4096 : Int32) = nI 4096 := rfl
theorem li_9999 : (9999 : Int32) = nI 9999 := rfl
--
--
--
