/-! ===== names, sums ===== -/
theorem fnd_s {g : Nat → Int32} {fr l k : Nat} {x : Int32} : fnd g fr x (l + 1) k = if g (fr + k) = x then nI k else fnd g fr x l (k + 1) := rfl
theorem fnd_0 {g : Nat → Int32} {fr k : Nat} {x : Int32} : fnd g fr x 0 k = -1 := rfl
theorem fnd_cg {g g' : Nat → Int32} {fr fr' : Nat} {x : Int32} : ∀ (l k : Nat), (∀ i, k ≤ i → i < k + l → g (fr + i) = g' (fr' + i)) → fnd g fr x l k = fnd g' fr' x l k
  | 0, _, _ => rfl
  | l + 1, k, h => by
    rw [fnd_s, fnd_s, h k (by omega) (by omega), fnd_cg l (k + 1) fun i h1 h2 => h i (by omega) (by omega)]
--
theorem found_ok {M : CT} {j N fr m : Nat} {x : Int32} {Q : Int32 → Prop} (hN : fr + m ≤ N) (h9 : N < 2 ^ 31) (hQ : Q (fnd (M.1 j) fr x m 0)) : k_X12_found M j N (nI fr) (nI m) x Q := by
  unfold k_X12_found
  refine LP1.ind (fun v => ∃ i, i ≤ m ∧ v = nI i ∧ Q (fnd (M.1 j) fr x (m - i) i)) (fun v => m - v.toNatClampNeg) ?_ ⟨0, by omega, rfl, hQ⟩
  rintro R v ⟨i, hi, rfl, hq⟩ ih
  by_cases hin : i < m
  · obtain ⟨l, e⟩ : ∃ l, m - i = l + 1 := ⟨m - i - 1, by omega⟩
    rw [e, fnd_s] at hq
    simp (disch := omega) only [rdI_n, rdL_n, wrI_n, wrL_n, ixN_n, wrF_eq, vK_eq, jn_eq, rZ_ite, rZ_ite', rZ_0, rZ_1, bo0, bo1, it10, it11, it1n, nI_lt', nI_le', nI_eq', nI_add, nI_in0, nI_nn, nI_eqm, pk_mul, show (m ≤ i) = False from eq_false (by omega), if_false]
    by_cases hx : M.1 j (fr + i) = x
    · rw [if_pos hx] at hq
      rw [if_neg (fun z => z hx)]
      exact hq
    · rw [if_neg hx] at hq
      rw [if_pos hx, nI_1]
      exact ih _ ⟨i + 1, by omega, rfl, by rw [show m - (i + 1) = l by omega]; exact hq⟩ (by rw [nI_clamp (by omega), nI_clamp (by omega)]; omega)
  · have e : i = m := by omega
    subst e
    rw [Nat.sub_self, fnd_0] at hq
    simp (disch := omega) only [nI_lt', nI_le', nI_eq', nI_add, nI_in0, nI_nn, nI_eqm, pk_mul, Nat.le_refl, if_true]
    exact hq
section Find
variable {P : CT} {m : Nat} {x : Int32} {Q : Int32 → Prop}
theorem findFront_ok (hv : P.1 0 1 = nI m) (h9 : m ≤ 5) (hQ : Q (fnd (fun i => P.1 (15 + 3 * i) 0) 0 x m 0)) : k_X6_findFront P x Q := by
  unfold k_X6_findFront
  refine LP1.ind (fun v => ∃ i, i ≤ m ∧ v = nI i ∧ Q (fnd (fun i => P.1 (15 + 3 * i) 0) 0 x (m - i) i)) (fun v => m - v.toNatClampNeg) ?_ ⟨0, by omega, rfl, hQ⟩
  rintro R v ⟨i, hi, rfl, hq⟩ ih
  by_cases hin : i < m
  · obtain ⟨l, e⟩ : ∃ l, m - i = l + 1 := ⟨m - i - 1, by omega⟩
    rw [e, fnd_s, Nat.zero_add] at hq
    simp (disch := omega) only [rdI_n, rdL_n, wrI_n, wrL_n, ixN_n, wrF_eq, vK_eq, jn_eq, rZ_ite, rZ_ite', rZ_0, rZ_1, bo0, bo1, it10, it11, it1n, nI_lt', nI_le', nI_eq', nI_add, nI_in0, nI_nn, nI_eqm, pk_mul, hv, show (m ≤ i) = False from eq_false (by omega), if_false]
    by_cases hx : P.1 (15 + 3 * i) 0 = x
    · rw [if_pos hx] at hq
      rw [if_neg (fun z => z hx)]
      exact hq
    · rw [if_neg hx] at hq
      rw [if_pos hx, nI_1]
      exact ih _ ⟨i + 1, by omega, rfl, by rw [show m - (i + 1) = l by omega]; exact hq⟩ (by rw [nI_clamp (by omega), nI_clamp (by omega)]; omega)
  · have e : i = m := by omega
    subst e
    rw [Nat.sub_self, fnd_0] at hq
    simp (disch := omega) only [nI_lt', nI_le', nI_eq', nI_add, nI_in0, nI_nn, nI_eqm, pk_mul, hv, Nat.le_refl, if_true]
    exact hq
theorem findMan_ok (hv : P.1 0 2 = nI m) (h9 : m ≤ 3) (hQ : Q (fnd (fun i => P.1 (30 + i) 0) 0 x m 0)) : k_X6_findMan P x Q := by
  unfold k_X6_findMan
  refine LP1.ind (fun v => ∃ i, i ≤ m ∧ v = nI i ∧ Q (fnd (fun i => P.1 (30 + i) 0) 0 x (m - i) i)) (fun v => m - v.toNatClampNeg) ?_ ⟨0, by omega, rfl, hQ⟩
  rintro R v ⟨i, hi, rfl, hq⟩ ih
  by_cases hin : i < m
  · obtain ⟨l, e⟩ : ∃ l, m - i = l + 1 := ⟨m - i - 1, by omega⟩
    rw [e, fnd_s, Nat.zero_add] at hq
    simp (disch := omega) only [rdI_n, rdL_n, wrI_n, wrL_n, ixN_n, wrF_eq, vK_eq, jn_eq, rZ_ite, rZ_ite', rZ_0, rZ_1, bo0, bo1, it10, it11, it1n, nI_lt', nI_le', nI_eq', nI_add, nI_in0, nI_nn, nI_eqm, pk_mul, hv, show (m ≤ i) = False from eq_false (by omega), if_false]
    by_cases hx : P.1 (30 + i) 0 = x
    · rw [if_pos hx] at hq
      rw [if_neg (fun z => z hx)]
      exact hq
    · rw [if_neg hx] at hq
      rw [if_pos hx, nI_1]
      exact ih _ ⟨i + 1, by omega, rfl, by rw [show m - (i + 1) = l by omega]; exact hq⟩ (by rw [nI_clamp (by omega), nI_clamp (by omega)]; omega)
  · have e : i = m := by omega
    subst e
    rw [Nat.sub_self, fnd_0] at hq
    simp (disch := omega) only [nI_lt', nI_le', nI_eq', nI_add, nI_in0, nI_nn, nI_eqm, pk_mul, hv, Nat.le_refl, if_true]
    exact hq
theorem findHouse_ok (hv : P.1 0 3 = nI m) (h9 : m ≤ 10) (hQ : Q (fnd (fun i => P.1 (33 + i) 0) 0 x m 0)) : k_X6_findHouse P x Q := by
  unfold k_X6_findHouse
  refine LP1.ind (fun v => ∃ i, i ≤ m ∧ v = nI i ∧ Q (fnd (fun i => P.1 (33 + i) 0) 0 x (m - i) i)) (fun v => m - v.toNatClampNeg) ?_ ⟨0, by omega, rfl, hQ⟩
  rintro R v ⟨i, hi, rfl, hq⟩ ih
  by_cases hin : i < m
  · obtain ⟨l, e⟩ : ∃ l, m - i = l + 1 := ⟨m - i - 1, by omega⟩
    rw [e, fnd_s, Nat.zero_add] at hq
    simp (disch := omega) only [rdI_n, rdL_n, wrI_n, wrL_n, ixN_n, wrF_eq, vK_eq, jn_eq, rZ_ite, rZ_ite', rZ_0, rZ_1, bo0, bo1, it10, it11, it1n, nI_lt', nI_le', nI_eq', nI_add, nI_in0, nI_nn, nI_eqm, pk_mul, hv, show (m ≤ i) = False from eq_false (by omega), if_false]
    by_cases hx : P.1 (33 + i) 0 = x
    · rw [if_pos hx] at hq
      rw [if_neg (fun z => z hx)]
      exact hq
    · rw [if_neg hx] at hq
      rw [if_pos hx, nI_1]
      exact ih _ ⟨i + 1, by omega, rfl, by rw [show m - (i + 1) = l by omega]; exact hq⟩ (by rw [nI_clamp (by omega), nI_clamp (by omega)]; omega)
  · have e : i = m := by omega
    subst e
    rw [Nat.sub_self, fnd_0] at hq
    simp (disch := omega) only [nI_lt', nI_le', nI_eq', nI_add, nI_in0, nI_nn, nI_eqm, pk_mul, hv, Nat.le_refl, if_true]
    exact hq
/-- which tool bears a name -/
def ftS (V : VW) (l q : Nat) (x : Int32) : Int32 := if fnd (V 2) 0 x l 0 = -1 then (if fnd (V 4) 0 x q 0 = -1 then -1 else nI l + fnd (V 4) 0 x q 0) else fnd (V 2) 0 x l 0
theorem fnd_nat {g : Nat → Int32} {fr : Nat} {x : Int32} : ∀ l k, fnd g fr x l k = -1 ∨ ∃ i, k ≤ i ∧ i < k + l ∧ fnd g fr x l k = nI i
  | 0, _ => Or.inl rfl
  | l + 1, k => by
    rw [fnd_s]
    split
    · exact Or.inr ⟨k, by omega, by omega, rfl⟩
    · rcases fnd_nat l (k + 1) with h | ⟨i, h1, h2, h3⟩
      · exact Or.inl h
      · exact Or.inr ⟨i, by omega, by omega, h3⟩
theorem find_ok {l q : Nat} (hl : P.1 1 0 = nI l) (hq : P.1 1 1 = nI q) (l4 : l ≤ 4) (q3 : q ≤ 3) (hQ : Q (ftS P.1 l q x)) : k_X8_find P x Q := by
  unfold k_X8_find
  have inner : (fnd (P.1 2) 0 x l 0 = -1) → LP1 (fun R45 (v44 : Int32) => (if (P.1 1 1) ≤ v44 then Q (-1 : Int32) else rdI P 4 3 v44 (fun t56 => (if t56 ≠ x then R45 (v44 + 1) else Q ((P.1 1 0) + v44))))) (0 : Int32) := by
    intro hz
    unfold ftS at hQ
    rw [if_pos hz] at hQ
    refine LP1.ind (fun v => ∃ i, i ≤ q ∧ v = nI i ∧ Q (if fnd (P.1 4) 0 x (q - i) i = -1 then -1 else nI l + fnd (P.1 4) 0 x (q - i) i)) (fun v => q - v.toNatClampNeg) ?_ ⟨0, by omega, rfl, hQ⟩
    rintro R v ⟨i, hi, rfl, hq'⟩ ih
    by_cases hin : i < q
    · obtain ⟨u, e⟩ : ∃ u, q - i = u + 1 := ⟨q - i - 1, by omega⟩
      rw [e, fnd_s, Nat.zero_add] at hq'
      simp (disch := omega) only [rdI_n, nI_le', hq, hl, show (q ≤ i) = False from eq_false (by omega), if_false]
      by_cases hx : P.1 4 i = x
      · rw [if_pos hx, if_neg (by rw [m1_ne (by omega)]; exact id)] at hq'
        rw [if_neg (fun z => z hx)]
        exact hq'
      · rw [if_neg hx] at hq'
        rw [if_pos hx, nI_1]
        exact ih _ ⟨i + 1, by omega, rfl, by rw [show q - (i + 1) = u by omega]; exact hq'⟩ (by rw [nI_clamp (by omega), nI_clamp (by omega)]; omega)
    · have e : i = q := by omega
      subst e
      rw [Nat.sub_self, fnd_0, if_pos rfl] at hq'
      simp (disch := omega) only [nI_lt', nI_le', nI_eq', nI_add, nI_in0, nI_nn, nI_eqm, pk_mul, hq, Nat.le_refl, if_true]
      exact hq'
  refine LP1.ind (fun v => ∃ i, i ≤ l ∧ v = nI i ∧ fnd (P.1 2) 0 x (l - i) i = fnd (P.1 2) 0 x l 0) (fun v => l - v.toNatClampNeg) ?_ ⟨0, by omega, rfl, rfl⟩
  rintro R v ⟨i, hi, rfl, hq'⟩ ih
  by_cases hin : i < l
  · obtain ⟨u, e⟩ : ∃ u, l - i = u + 1 := ⟨l - i - 1, by omega⟩
    rw [e, fnd_s, Nat.zero_add] at hq'
    rw [hl, if_neg (nI_ge hin (by omega)), rdI_n (by omega) (by omega)]
    by_cases hx : P.1 2 i = x
    · rw [if_pos hx] at hq'
      rw [if_neg (fun z => z hx)]
      unfold ftS at hQ
      rw [← hq', if_neg (by rw [m1_ne (by omega)]; exact id)] at hQ
      exact hQ
    · rw [if_neg hx] at hq'
      rw [if_pos hx, nI_1]
      exact ih _ ⟨i + 1, by omega, rfl, by rw [show l - (i + 1) = u by omega]; exact hq'⟩ (by rw [nI_clamp (by omega), nI_clamp (by omega)]; omega)
  · have e : i = l := by omega
    subst e
    rw [Nat.sub_self, fnd_0] at hq'
    rw [hl, if_pos (Int32.le_refl _)]
    rw [hl] at inner
    exact inner hq'.symm
end Find
def sumI (g : Nat → Int32) : Nat → Int32
  | 0 => 0
  | k + 1 => sumI g k + g k
theorem sumI_s {g : Nat → Int32} {k : Nat} : sumI g (k + 1) = sumI g k + g k := rfl
theorem sumI_cg {g g' : Nat → Int32} : ∀ {k : Nat}, (∀ i, i < k → g i = g' i) → sumI g k = sumI g' k
  | 0, _ => rfl
  | k + 1, h => by rw [sumI_s, sumI_s, sumI_cg fun i hi => h i (by omega), h k (by omega)]
section Get2
variable {H P K I M : CT} {l q f m h D n : Nat} {a1 a2 a3 : Int32}
theorem g_named (g : CO H P K I M l q f m h D n) : k_X11_named H P a1 a2 fun x => k_X12_named M a1 a2 fun y M' => x = y ∧ MA M M' := by
  obtain ⟨-, -, ⟨⟨b, bp, bv⟩, g2, g3, gf, gm, gh, -⟩, -⟩ := g
  unfold k_X11_named
  have key : ∀ x : Int32, (x = if a1 = 0 then ftS M.1 l q a2 else if a1 = 1 then fnd (M.1 7) 0 a2 f 0 else if a1 = 2 then fnd (M.1 15) 0 a2 m 0 else if a1 = 3 then fnd (M.1 19) 0 a2 h 0 else -1) → k_X12_named M a1 a2 fun y M' => x = y ∧ MA M M' := by
    intro x hx
    subst hx
    unfold k_X12_named
    rw [wrF_eq]
    rw [th_at (by omega), th_at (by omega), th_at (by omega), th_at (by omega), th_at (by omega), bv.1, bv.2.1, bv.2.2.1, bv.2.2.2.1, bv.2.2.2.2]
    refine found_ok (fr := 0) (by omega) (by omega) (found_ok (fr := 0) (by omega) (by omega) ?_)
    refine ite_b (fun z0 => ?_) fun z0 => ite_b (fun z1 => ?_) fun z1 => ite_b (fun z2 => ?_) fun z2 => ite_b (fun z3 => ?_) fun z3 => ?_
    · rw [if_pos z0]
      rw [jn_eq]
      unfold ftS
      show (if fnd (M.1 2) 0 a2 l 0 = -1 then _ else _)
      refine ite_b (fun y0 => ?_) fun y0 => ?_
      · refine ⟨?_, MA.th⟩
        rw [if_pos y0]
        show (if fnd (M.1 4) 0 a2 q 0 = -1 then _ else _) = (if ¬ (fnd (M.1 4) 0 a2 q 0 = -1) then _ else _)
        by_cases y1 : fnd (M.1 4) 0 a2 q 0 = -1
        · rw [if_pos y1, if_neg (fun z => z y1)]
        · rw [if_neg y1, if_pos y1]
          rfl
      · refine ⟨?_, MA.th⟩
        rw [if_neg y0]
        rfl
    · rw [if_neg z0, if_pos z1]
      exact found_ok (fr := 0) (by omega) (by omega) ⟨rfl, MA.th⟩
    · rw [if_neg z0, if_neg z1, if_pos z2]
      exact found_ok (fr := 0) (by omega) (by omega) ⟨rfl, MA.th⟩
    · rw [if_neg z0, if_neg z1, if_neg z2, if_pos z3]
      exact found_ok (fr := 0) (by omega) (by omega) ⟨rfl, MA.th⟩
    · rw [if_neg z0, if_neg z1, if_neg z2, if_neg z3]
      exact ⟨rfl, MA.th⟩
  refine ite_b (fun z0 => ?_) fun z0 => ite_b (fun z1 => ?_) fun z1 => ite_b (fun z2 => ?_) fun z2 => ite_b (fun z3 => ?_) fun z3 => ?_
  · refine find_ok bp.1 bp.2.1 (by omega) (by omega) (key _ ?_)
    rw [if_pos z0]
    unfold ftS
    rw [fnd_cg (g := P.1 2) (g' := M.1 2) (fr := 0) (fr' := 0) l 0 fun i _ hi => by rw [Nat.zero_add]; exact (g2 i (by omega)).1, fnd_cg (g := P.1 4) (g' := M.1 4) (fr := 0) (fr' := 0) q 0 fun i _ hi => by rw [Nat.zero_add]; exact (g3 i (by omega)).1]
  · refine findFront_ok bp.2.2.1 (by omega) (key _ ?_)
    rw [if_neg z0, if_pos z1]
    exact fnd_cg f 0 fun i _ hi => by rw [Nat.zero_add]; exact (gf i (by omega)).1
  · refine findMan_ok bp.2.2.2.1 (by omega) (key _ ?_)
    rw [if_neg z0, if_neg z1, if_pos z2]
    exact fnd_cg m 0 fun i _ hi => by rw [Nat.zero_add]; exact (gm i (by omega)).1
  · refine findHouse_ok bp.2.2.2.2 (by omega) (key _ ?_)
    rw [if_neg z0, if_neg z1, if_neg z2, if_pos z3]
    exact fnd_cg h 0 fun i _ hi => by rw [Nat.zero_add]; exact (gh i (by omega)).1
  · refine key _ ?_
    rw [if_neg z0, if_neg z1, if_neg z2, if_neg z3]
end Get2
