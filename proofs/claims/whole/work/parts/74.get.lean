/-! ===== plain questions ===== -/
theorem inh_y {v : Int32} {h i : Nat} (hv : v = nI h) (hh : h < 2 ^ 31) (hi : i < h) : (if (¬ (nI i < (0 : Int32)) ∧ ¬ (v ≤ nI i)) then (1 : Int32) else 0) = 1 := by
  rw [if_pos]
  refine ⟨nI_pos (by omega), ?_⟩
  rw [hv, nI_le' hh (by omega)]
  omega
theorem inh_n {v a : Int32} {h : Nat} (hv : v = nI h) (hh : h < 2 ^ 31) (hn : ¬ ∃ i, i < h ∧ a = nI i) : (if (¬ (a < (0 : Int32)) ∧ ¬ (v ≤ a)) then (1 : Int32) else 0) = 0 := by
  rw [if_neg]
  rintro ⟨q1, q2⟩
  obtain ⟨i, hi, rfl⟩ := nI_of q1
  rw [hv, nI_le' hh hi] at q2
  exact hn ⟨i, by omega, rfl⟩
section Has
variable {P M : CT} {h i : Nat} {a : Int32} {Q : Int32 → Prop}
theorem hasHouse_y (hv : P.1 0 3 = nI h) (hh : h < 2 ^ 31) (hi : i < h) : k_X6_hasHouse P (nI i) Q = Q 1 := by unfold k_X6_hasHouse; rw [rZ_ite, inh_y hv hh hi]
theorem hasHouse_n (hv : P.1 0 3 = nI h) (hh : h < 2 ^ 31) (hn : ¬ ∃ i, i < h ∧ a = nI i) : k_X6_hasHouse P a Q = Q 0 := by unfold k_X6_hasHouse; rw [rZ_ite, inh_n hv hh hn]
theorem hasMan_y (hv : P.1 0 2 = nI h) (hh : h < 2 ^ 31) (hi : i < h) : k_X6_hasMan P (nI i) Q = Q 1 := by unfold k_X6_hasMan; rw [rZ_ite, inh_y hv hh hi]
theorem hasMan_n (hv : P.1 0 2 = nI h) (hh : h < 2 ^ 31) (hn : ¬ ∃ i, i < h ∧ a = nI i) : k_X6_hasMan P a Q = Q 0 := by unfold k_X6_hasMan; rw [rZ_ite, inh_n hv hh hn]
theorem hasFront_y (hv : P.1 0 1 = nI h) (hh : h < 2 ^ 31) (hi : i < h) : k_X6_hasFront P (nI i) Q = Q 1 := by unfold k_X6_hasFront; rw [rZ_ite, inh_y hv hh hi]
theorem hasFront_n (hv : P.1 0 1 = nI h) (hh : h < 2 ^ 31) (hn : ¬ ∃ i, i < h ∧ a = nI i) : k_X6_hasFront P a Q = Q 0 := by unfold k_X6_hasFront; rw [rZ_ite, inh_n hv hh hn]
theorem isHouse_y (hv : M.1 0 38 = nI h) (hh : h < 2 ^ 31) (hi : i < h) : k_X12_isHouse M (nI i) Q = Q 1 := by unfold k_X12_isHouse; rw [rZ_ite, inh_y hv hh hi]
theorem isHouse_n (hv : M.1 0 38 = nI h) (hh : h < 2 ^ 31) (hn : ¬ ∃ i, i < h ∧ a = nI i) : k_X12_isHouse M a Q = Q 0 := by unfold k_X12_isHouse; rw [rZ_ite, inh_n hv hh hn]
theorem isMan_y (hv : M.1 0 37 = nI h) (hh : h < 2 ^ 31) (hi : i < h) : k_X12_isMan M (nI i) Q = Q 1 := by unfold k_X12_isMan; rw [rZ_ite, inh_y hv hh hi]
theorem isMan_n (hv : M.1 0 37 = nI h) (hh : h < 2 ^ 31) (hn : ¬ ∃ i, i < h ∧ a = nI i) : k_X12_isMan M a Q = Q 0 := by unfold k_X12_isMan; rw [rZ_ite, inh_n hv hh hn]
theorem isFront_y (hv : M.1 0 36 = nI h) (hh : h < 2 ^ 31) (hi : i < h) : k_X12_isFront M (nI i) Q = Q 1 := by unfold k_X12_isFront; rw [rZ_ite, inh_y hv hh hi]
theorem isFront_n (hv : M.1 0 36 = nI h) (hh : h < 2 ^ 31) (hn : ¬ ∃ i, i < h ∧ a = nI i) : k_X12_isFront M a Q = Q 0 := by unfold k_X12_isFront; rw [rZ_ite, inh_n hv hh hn]
end Has
theorem i1z : ((1 : Int32) = 0) = False := by decide
theorem i1n : ((1 : Int32) ≠ 0) = True := by decide
theorem i0n : ((0 : Int32) ≠ 0) = False := by decide
--
--
theorem ite_b {p : Prop} [Decidable p] {A B : Prop} (h1 : p → A) (h2 : ¬ p → B) : if p then A else B := by
  by_cases h : p
  · rw [if_pos h]; exact h1 h
  · rw [if_neg h]; exact h2 h
/-- the reference's answers are read without the sign of a throw -/
theorem th_at {M : CT} {x : Int32} {j k : Nat} (h : ¬ (j = 0 ∧ k = 0)) : (sI M 0 0 x).1 j k = M.1 j k := sI_ne h
section Get
variable {H P K I M : CT} {l q f m h D n : Nat} {a1 a2 a3 : Int32}
theorem g_fault (g : CO H P K I M l q f m h D n) : k_X11_fault H a1 fun x => k_X12_fault M a1 fun y M' => x = y ∧ MA M M' := by
  obtain ⟨-, ⟨e1, e2⟩, -⟩ := g
  unfold k_X11_fault k_X12_fault
  simp (disch := omega) only [rdI_n, rdL_n, wrI_n, wrL_n, ixN_n, wrF_eq, vK_eq, jn_eq, rZ_ite, rZ_ite', rZ_0, rZ_1, bo0, bo1, it10, it11, it1n, th_at]
  by_cases h0 : a1 = 0
  · simp only [h0, i1z, i1n, i0n, if_true, if_false, ite_true, ite_false, eq_self, ne_eq, not_true_eq_false, not_false_eq_true, it10, it11, it1n]
    exact ⟨e1, MA.th⟩
  · by_cases h1 : a1 = 1
    · simp only [h1, i1z, i1n, i0n, if_true, if_false, ite_true, ite_false, eq_self, ne_eq, not_true_eq_false, not_false_eq_true, it10, it11, it1n]
      exact ⟨e2, MA.th⟩
    · simp only [h0, h1, i1z, i1n, i0n, if_true, if_false, ite_true, ite_false, eq_self, ne_eq, not_true_eq_false, not_false_eq_true, it10, it11, it1n]
      first | exact MA.th | exact ⟨trivial, MA.th⟩ | exact ⟨rfl, MA.th⟩
theorem g_wet (g : CO H P K I M l q f m h D n) : k_X11_wet H P a1 fun x => k_X12_wet M a1 fun y M' => x = y ∧ MA M M' := by
  have gw := g.2.2.1.2.2.2.2.2.2.1
  unfold k_X11_wet k_X12_wet
  rcases i32_cases a1 with hn | ⟨i, hi, rfl⟩
  · simp only [rdI_n, rdL_n, wrI_n, wrL_n, ixN_n, wrF_eq, vK_eq, jn_eq, rZ_ite, rZ_ite', rZ_0, rZ_1, bo0, bo1, it10, it11, it1n, hn, i1z, i1n, i0n, if_true, if_false, ite_true, ite_false, eq_self, ne_eq, not_true_eq_false, not_false_eq_true, it10, it11, it1n]
    first | exact MA.th | exact ⟨trivial, MA.th⟩ | exact ⟨rfl, MA.th⟩
  · by_cases h2 : i < 200
    · simp (disch := omega) only [rdI_n, rdL_n, wrI_n, wrL_n, ixN_n, wrF_eq, vK_eq, jn_eq, rZ_ite, rZ_ite', rZ_0, rZ_1, bo0, bo1, it10, it11, it1n, nI_lt', nI_le', nI_eq', nI_add, nI_in0, nI_nn, nI_eqm, pk_mul, i1z, i1n, i0n, if_true, if_false, ite_true, ite_false, eq_self, ne_eq, not_true_eq_false, not_false_eq_true, it10, it11, it1n, li_200, h2, th_at, (gw i h2).1]
      rcases (gw i h2).2 with e | e
      · rw [e]
        first | exact MA.th | exact ⟨trivial, MA.th⟩ | exact ⟨rfl, MA.th⟩
      · rw [e]
        first | exact MA.th | exact ⟨trivial, MA.th⟩ | exact ⟨rfl, MA.th⟩
    · simp (disch := omega) only [rdI_n, rdL_n, wrI_n, wrL_n, ixN_n, wrF_eq, vK_eq, jn_eq, rZ_ite, rZ_ite', rZ_0, rZ_1, bo0, bo1, it10, it11, it1n, nI_lt', nI_le', nI_eq', nI_add, nI_in0, nI_nn, nI_eqm, pk_mul, i1z, i1n, i0n, if_true, if_false, ite_true, ite_false, eq_self, ne_eq, not_true_eq_false, not_false_eq_true, it10, it11, it1n, li_200, h2]
      first | exact MA.th | exact ⟨trivial, MA.th⟩ | exact ⟨rfl, MA.th⟩
theorem g_walk (g : CO H P K I M l q f m h D n) : k_X11_walk H P a1 a2 fun x => k_X12_walk M a1 a2 fun y M' => x = y ∧ MA M M' := by
  obtain ⟨-, -, ⟨⟨b, bp, bv⟩, -, -, -, -, gh, -⟩, -⟩ := g
  unfold k_X11_walk k_X12_walk
  by_cases c1 : ∃ i, i < h ∧ a1 = nI i
  · obtain ⟨i, hi, rfl⟩ := c1
    by_cases c2 : ∃ i, i < h ∧ a2 = nI i
    · obtain ⟨j, hj, rfl⟩ := c2
      obtain ⟨-, -, ⟨s1, -⟩, ⟨p1, -⟩, -⟩ := gh i hi
      obtain ⟨-, -, ⟨s2, -⟩, ⟨p2, -⟩, -⟩ := gh j hj
      unfold k_X6_apart k_X12_between k_X12_apart
      have v38 : (sI M 0 0 0).1 0 38 = nI h := (th_at (by omega)).trans bv.2.2.2.2
      simp (disch := omega) only [rdI_n, rdL_n, wrI_n, wrL_n, ixN_n, wrF_eq, vK_eq, jn_eq, rZ_ite, rZ_ite', rZ_0, rZ_1, bo0, bo1, it10, it11, it1n, hasHouse_y bp.2.2.2.2, isHouse_y v38, hi, hj, i1z, i1n, i0n, if_true, if_false, ite_true, ite_false, eq_self, ne_eq, not_true_eq_false, not_false_eq_true, it10, it11, it1n, s1, s2, p1, p2, th_at]
      first | exact MA.th | exact ⟨trivial, MA.th⟩ | exact ⟨rfl, MA.th⟩
    · have v38 : (sI M 0 0 0).1 0 38 = nI h := (th_at (by omega)).trans bv.2.2.2.2
      simp (disch := omega) only [rdI_n, rdL_n, wrI_n, wrL_n, ixN_n, wrF_eq, vK_eq, jn_eq, rZ_ite, rZ_ite', rZ_0, rZ_1, bo0, bo1, it10, it11, it1n, hasHouse_y bp.2.2.2.2, isHouse_y v38, hi, hasHouse_n bp.2.2.2.2 (by omega) c2, isHouse_n v38 (by omega) c2, i1z, i1n, i0n, if_true, if_false, ite_true, ite_false, eq_self, ne_eq, not_true_eq_false, not_false_eq_true, it10, it11, it1n]
      first | exact MA.th | exact ⟨trivial, MA.th⟩ | exact ⟨rfl, MA.th⟩
  · have v38 : (sI M 0 0 0).1 0 38 = nI h := (th_at (by omega)).trans bv.2.2.2.2
    simp (disch := omega) only [rdI_n, rdL_n, wrI_n, wrL_n, ixN_n, wrF_eq, vK_eq, jn_eq, rZ_ite, rZ_ite', rZ_0, rZ_1, bo0, bo1, it10, it11, it1n, hasHouse_n bp.2.2.2.2 (by omega) c1, isHouse_n v38 (by omega) c1, i1z, i1n, i0n, if_true, if_false, ite_true, ite_false, eq_self, ne_eq, not_true_eq_false, not_false_eq_true, it10, it11, it1n]
    first | exact MA.th | exact ⟨trivial, MA.th⟩ | exact ⟨rfl, MA.th⟩
theorem g_now (g : CO H P K I M l q f m h D n) : k_X11_now H P K a1 a2 fun x => k_X12_now M a1 a2 fun y M' => x = y ∧ MA M M' := by
  obtain ⟨-, -, ⟨⟨b, bp, bv⟩, -⟩, ⟨⟨-, gb, -⟩, -⟩, -⟩ := g
  have v38 : (sI M 0 0 0).1 0 38 = nI h := (th_at (by omega)).trans bv.2.2.2.2
  unfold k_X11_now
  by_cases c1 : ∃ i, i < h ∧ a1 = nI i
  · obtain ⟨i, hi, rfl⟩ := c1
    obtain ⟨-, ⟨e2, e3, -⟩, e4, e5, ⟨e6, z6⟩, e7, e8⟩ := gb i hi
    rw [show oT false + i = i from Nat.zero_add i] at e2 e3 e4 e5 e6 e7 e8
    rw [hasHouse_y bp.2.2.2.2 (by omega) hi, if_pos (by decide)]
    refine ite_b (fun z0 => ?_) fun z0 => ite_b (fun z1 => ?_) fun z1 => ite_b (fun z2 => ?_) fun z2 => ite_b (fun z3 => ?_) fun z3 => ite_b (fun z4 => ?_) fun z4 => ite_b (fun z5 => ?_) fun z5 => ite_b (fun z6 => ?_) fun z6 => ?_
    · simp (disch := omega) only [rdI_n, rdL_n, wrI_n, wrL_n, ixN_n, wrF_eq, vK_eq, jn_eq, rZ_ite, rZ_ite', rZ_0, rZ_1, bo0, bo1, it10, it11, it1n, k_X12_now, isHouse_y v38, hi, i1z, i1n, i0n, if_true, if_false, ite_true, ite_false, eq_self, ne_eq, not_true_eq_false, not_false_eq_true, it10, it11, it1n, th_at, e2, z0]; first | exact MA.th | exact ⟨trivial, MA.th⟩ | exact ⟨rfl, MA.th⟩
    · simp (disch := omega) only [rdI_n, rdL_n, wrI_n, wrL_n, ixN_n, wrF_eq, vK_eq, jn_eq, rZ_ite, rZ_ite', rZ_0, rZ_1, bo0, bo1, it10, it11, it1n, k_X12_now, isHouse_y v38, hi, i1z, i1n, i0n, if_true, if_false, ite_true, ite_false, eq_self, ne_eq, not_true_eq_false, not_false_eq_true, it10, it11, it1n, th_at, e3, z0, z1]; first | exact MA.th | exact ⟨trivial, MA.th⟩ | exact ⟨rfl, MA.th⟩
    · simp (disch := omega) only [rdI_n, rdL_n, wrI_n, wrL_n, ixN_n, wrF_eq, vK_eq, jn_eq, rZ_ite, rZ_ite', rZ_0, rZ_1, bo0, bo1, it10, it11, it1n, k_X12_now, isHouse_y v38, hi, i1z, i1n, i0n, if_true, if_false, ite_true, ite_false, eq_self, ne_eq, not_true_eq_false, not_false_eq_true, it10, it11, it1n, th_at, e4, z0, z1, z2]; first | exact MA.th | exact ⟨trivial, MA.th⟩ | exact ⟨rfl, MA.th⟩
    · simp (disch := omega) only [rdI_n, rdL_n, wrI_n, wrL_n, ixN_n, wrF_eq, vK_eq, jn_eq, rZ_ite, rZ_ite', rZ_0, rZ_1, bo0, bo1, it10, it11, it1n, k_X12_now, isHouse_y v38, hi, i1z, i1n, i0n, if_true, if_false, ite_true, ite_false, eq_self, ne_eq, not_true_eq_false, not_false_eq_true, it10, it11, it1n, th_at, e5, z0, z1, z2, z3]; first | exact MA.th | exact ⟨trivial, MA.th⟩ | exact ⟨rfl, MA.th⟩
    · rcases z6 with e | e
      · simp (disch := omega) only [rdI_n, rdL_n, wrI_n, wrL_n, ixN_n, wrF_eq, vK_eq, jn_eq, rZ_ite, rZ_ite', rZ_0, rZ_1, bo0, bo1, it10, it11, it1n, k_X12_now, isHouse_y v38, hi, i1z, i1n, i0n, if_true, if_false, ite_true, ite_false, eq_self, ne_eq, not_true_eq_false, not_false_eq_true, it10, it11, it1n, th_at, ← e6, e, z0, z1, z2, z3, z4]; first | exact MA.th | exact ⟨trivial, MA.th⟩ | exact ⟨rfl, MA.th⟩
      · simp (disch := omega) only [rdI_n, rdL_n, wrI_n, wrL_n, ixN_n, wrF_eq, vK_eq, jn_eq, rZ_ite, rZ_ite', rZ_0, rZ_1, bo0, bo1, it10, it11, it1n, k_X12_now, isHouse_y v38, hi, i1z, i1n, i0n, if_true, if_false, ite_true, ite_false, eq_self, ne_eq, not_true_eq_false, not_false_eq_true, it10, it11, it1n, th_at, ← e6, e, z0, z1, z2, z3, z4]; first | exact MA.th | exact ⟨trivial, MA.th⟩ | exact ⟨rfl, MA.th⟩
    · simp (disch := omega) only [rdI_n, rdL_n, wrI_n, wrL_n, ixN_n, wrF_eq, vK_eq, jn_eq, rZ_ite, rZ_ite', rZ_0, rZ_1, bo0, bo1, it10, it11, it1n, k_X12_now, isHouse_y v38, hi, i1z, i1n, i0n, if_true, if_false, ite_true, ite_false, eq_self, ne_eq, not_true_eq_false, not_false_eq_true, it10, it11, it1n, th_at, e7, z0, z1, z2, z3, z4, z5]; first | exact MA.th | exact ⟨trivial, MA.th⟩ | exact ⟨rfl, MA.th⟩
    · simp (disch := omega) only [rdI_n, rdL_n, wrI_n, wrL_n, ixN_n, wrF_eq, vK_eq, jn_eq, rZ_ite, rZ_ite', rZ_0, rZ_1, bo0, bo1, it10, it11, it1n, k_X12_now, isHouse_y v38, hi, i1z, i1n, i0n, if_true, if_false, ite_true, ite_false, eq_self, ne_eq, not_true_eq_false, not_false_eq_true, it10, it11, it1n, th_at, e8, z0, z1, z2, z3, z4, z5, z6]; first | exact MA.th | exact ⟨trivial, MA.th⟩ | exact ⟨rfl, MA.th⟩
    · simp (disch := omega) only [rdI_n, rdL_n, wrI_n, wrL_n, ixN_n, wrF_eq, vK_eq, jn_eq, rZ_ite, rZ_ite', rZ_0, rZ_1, bo0, bo1, it10, it11, it1n, k_X12_now, isHouse_y v38, hi, i1z, i1n, i0n, if_true, if_false, ite_true, ite_false, eq_self, ne_eq, not_true_eq_false, not_false_eq_true, it10, it11, it1n, th_at, z0, z1, z2, z3, z4, z5, z6]; first | exact MA.th | exact ⟨trivial, MA.th⟩ | exact ⟨rfl, MA.th⟩
  · rw [hasHouse_n bp.2.2.2.2 (by omega) c1, if_neg (by decide)]
    simp (disch := omega) only [rdI_n, rdL_n, wrI_n, wrL_n, ixN_n, wrF_eq, vK_eq, jn_eq, rZ_ite, rZ_ite', rZ_0, rZ_1, bo0, bo1, it10, it11, it1n, k_X12_now, isHouse_n v38 (by omega) c1, i1z, i1n, i0n, if_true, if_false, ite_true, ite_false, eq_self, ne_eq, not_true_eq_false, not_false_eq_true, it10, it11, it1n]; first | exact MA.th | exact ⟨trivial, MA.th⟩ | exact ⟨rfl, MA.th⟩
theorem g_front (g : CO H P K I M l q f m h D n) : k_X11_front H P a1 a2 fun x => k_X12_front M a1 a2 fun y M' => x = y ∧ MA M M' := by
  obtain ⟨-, -, ⟨⟨b, bp, bv⟩, -, -, gf, -⟩, -⟩ := g
  have v36 : (sI M 0 0 0).1 0 36 = nI f := (th_at (by omega)).trans bv.2.2.1
  unfold k_X11_front
  by_cases c1 : ∃ i, i < f ∧ a1 = nI i
  · obtain ⟨i, hi, rfl⟩ := c1
    obtain ⟨-, w, u, p, bb, s, -, -, -, -, -, ⟨e1, e2, e3, e4, e5⟩, ⟨f1, f2, f3, f4, f5⟩, -⟩ := gf i hi
    rw [hasFront_y bp.2.2.1 (by omega) hi, if_pos (by decide), ixN_n (by omega) (by omega)]
    refine ite_b (fun z0 => ?_) fun z0 => ite_b (fun z1 => ?_) fun z1 => ite_b (fun z2 => ?_) fun z2 => ite_b (fun z3 => ?_) fun z3 => ite_b (fun z4 => ?_) fun z4 => ?_
    · simp (disch := omega) only [rdI_n, rdL_n, wrI_n, wrL_n, ixN_n, wrF_eq, vK_eq, jn_eq, rZ_ite, rZ_ite', rZ_0, rZ_1, bo0, bo1, it10, it11, it1n, k_X12_front, isFront_y v36, hi, i1z, i1n, i0n, if_true, if_false, ite_true, ite_false, eq_self, ne_eq, not_true_eq_false, not_false_eq_true, it10, it11, it1n, th_at, e1, f1, z0]; first | exact MA.th | exact ⟨trivial, MA.th⟩ | exact ⟨rfl, MA.th⟩
    · simp (disch := omega) only [rdI_n, rdL_n, wrI_n, wrL_n, ixN_n, wrF_eq, vK_eq, jn_eq, rZ_ite, rZ_ite', rZ_0, rZ_1, bo0, bo1, it10, it11, it1n, k_X12_front, isFront_y v36, hi, i1z, i1n, i0n, if_true, if_false, ite_true, ite_false, eq_self, ne_eq, not_true_eq_false, not_false_eq_true, it10, it11, it1n, th_at, e2, f2, z0, z1]; first | exact MA.th | exact ⟨trivial, MA.th⟩ | exact ⟨rfl, MA.th⟩
    · simp (disch := omega) only [rdI_n, rdL_n, wrI_n, wrL_n, ixN_n, wrF_eq, vK_eq, jn_eq, rZ_ite, rZ_ite', rZ_0, rZ_1, bo0, bo1, it10, it11, it1n, k_X12_front, isFront_y v36, hi, i1z, i1n, i0n, if_true, if_false, ite_true, ite_false, eq_self, ne_eq, not_true_eq_false, not_false_eq_true, it10, it11, it1n, th_at, e3, f3, z0, z1, z2]; first | exact MA.th | exact ⟨trivial, MA.th⟩ | exact ⟨rfl, MA.th⟩
    · simp (disch := omega) only [rdI_n, rdL_n, wrI_n, wrL_n, ixN_n, wrF_eq, vK_eq, jn_eq, rZ_ite, rZ_ite', rZ_0, rZ_1, bo0, bo1, it10, it11, it1n, k_X12_front, isFront_y v36, hi, i1z, i1n, i0n, if_true, if_false, ite_true, ite_false, eq_self, ne_eq, not_true_eq_false, not_false_eq_true, it10, it11, it1n, th_at, e4, f4, z0, z1, z2, z3]; first | exact MA.th | exact ⟨trivial, MA.th⟩ | exact ⟨rfl, MA.th⟩
    · simp (disch := omega) only [rdI_n, rdL_n, wrI_n, wrL_n, ixN_n, wrF_eq, vK_eq, jn_eq, rZ_ite, rZ_ite', rZ_0, rZ_1, bo0, bo1, it10, it11, it1n, k_X12_front, isFront_y v36, hi, i1z, i1n, i0n, if_true, if_false, ite_true, ite_false, eq_self, ne_eq, not_true_eq_false, not_false_eq_true, it10, it11, it1n, th_at, e5, f5, z0, z1, z2, z3, z4]; first | exact MA.th | exact ⟨trivial, MA.th⟩ | exact ⟨rfl, MA.th⟩
    · simp (disch := omega) only [rdI_n, rdL_n, wrI_n, wrL_n, ixN_n, wrF_eq, vK_eq, jn_eq, rZ_ite, rZ_ite', rZ_0, rZ_1, bo0, bo1, it10, it11, it1n, k_X12_front, isFront_y v36, hi, i1z, i1n, i0n, if_true, if_false, ite_true, ite_false, eq_self, ne_eq, not_true_eq_false, not_false_eq_true, it10, it11, it1n, th_at, z0, z1, z2, z3, z4]; first | exact MA.th | exact ⟨trivial, MA.th⟩ | exact ⟨rfl, MA.th⟩
  · rw [hasFront_n bp.2.2.1 (by omega) c1, if_neg (by decide)]
    simp (disch := omega) only [rdI_n, rdL_n, wrI_n, wrL_n, ixN_n, wrF_eq, vK_eq, jn_eq, rZ_ite, rZ_ite', rZ_0, rZ_1, bo0, bo1, it10, it11, it1n, k_X12_front, isFront_n v36 (by omega) c1, i1z, i1n, i0n, if_true, if_false, ite_true, ite_false, eq_self, ne_eq, not_true_eq_false, not_false_eq_true, it10, it11, it1n]; first | exact MA.th | exact ⟨trivial, MA.th⟩ | exact ⟨rfl, MA.th⟩
theorem g_pane (g : CO H P K I M l q f m h D n) : k_X11_pane H P a1 a2 a3 fun x => k_X12_pane M a1 a2 a3 fun y M' => x = y ∧ MA M M' := by
  obtain ⟨-, -, ⟨⟨b, bp, bv⟩, -, -, gf, -⟩, -⟩ := g
  have v36 : (sI M 0 0 0).1 0 36 = nI f := (th_at (by omega)).trans bv.2.2.1
  unfold k_X11_pane
  by_cases c1 : ∃ i, i < f ∧ a1 = nI i
  · obtain ⟨i, hi, rfl⟩ := c1
    obtain ⟨-, w, u, p, bb, s, -, -, hp, -, -, ⟨e1, e2, e3, e4, e5⟩, ⟨f1, f2, f3, f4, f5⟩, gp⟩ := gf i hi
    rw [hasFront_y bp.2.2.1 (by omega) hi, if_pos (by decide), ixN_n (by omega) (by omega)]
    rcases i32_cases a2 with hn | ⟨k, hk, rfl⟩
    · rw [if_pos hn]
      simp (disch := omega) only [rdI_n, rdL_n, wrI_n, wrL_n, ixN_n, wrF_eq, vK_eq, jn_eq, rZ_ite, rZ_ite', rZ_0, rZ_1, bo0, bo1, it10, it11, it1n, k_X12_pane, isFront_y v36, hi, i1z, i1n, i0n, if_true, if_false, ite_true, ite_false, eq_self, ne_eq, not_true_eq_false, not_false_eq_true, it10, it11, it1n, hn]; first | exact MA.th | exact ⟨trivial, MA.th⟩ | exact ⟨rfl, MA.th⟩
    rw [if_neg (nI_pos hk), f3]
    by_cases hkp : k < p
    · obtain ⟨p1, p2, -⟩ := gp k hkp
      have hkn : (p ≤ k) = False := eq_false (by omega)
      rw [if_pos (nI_lt hkp (by omega))]
      refine ite_b (fun z0 => ?_) fun z0 => ite_b (fun z1 => ?_) fun z1 => ?_
      · subst z0
        simp (disch := omega) only [rdI_n, rdL_n, wrI_n, wrL_n, ixN_n, wrF_eq, vK_eq, jn_eq, rZ_ite, rZ_ite', rZ_0, rZ_1, bo0, bo1, it10, it11, it1n, nI_lt', nI_le', nI_eq', nI_add, nI_in0, nI_nn, nI_eqm, pk_mul, k_X12_pane, isFront_y v36, hi, i1z, i1n, i0n, if_true, if_false, ite_true, ite_false, eq_self, ne_eq, not_true_eq_false, not_false_eq_true, it10, it11, it1n, th_at, e3, hkn, p1, Int32.lt_irrefl, li_12, show ((0 : Int32) ≤ 1) = True from by decide]; first | exact MA.th | exact ⟨trivial, MA.th⟩ | exact ⟨rfl, MA.th⟩
      · subst z1
        simp (disch := omega) only [rdI_n, rdL_n, wrI_n, wrL_n, ixN_n, wrF_eq, vK_eq, jn_eq, rZ_ite, rZ_ite', rZ_0, rZ_1, bo0, bo1, it10, it11, it1n, nI_lt', nI_le', nI_eq', nI_add, nI_in0, nI_nn, nI_eqm, pk_mul, k_X12_pane, isFront_y v36, hi, i1z, i1n, i0n, if_true, if_false, ite_true, ite_false, eq_self, ne_eq, not_true_eq_false, not_false_eq_true, it10, it11, it1n, th_at, e3, hkn, p2, li_12, show ((1 : Int32) ≤ 1) = True from by decide, show ((1 : Int32) < 0) = False from by decide]; first | exact MA.th | exact ⟨trivial, MA.th⟩ | exact ⟨rfl, MA.th⟩
      · simp (disch := omega) only [rdI_n, rdL_n, wrI_n, wrL_n, ixN_n, wrF_eq, vK_eq, jn_eq, rZ_ite, rZ_ite', rZ_0, rZ_1, bo0, bo1, it10, it11, it1n, nI_lt', nI_le', nI_eq', nI_add, nI_in0, nI_nn, nI_eqm, pk_mul, k_X12_pane, isFront_y v36, hi, i1z, i1n, i0n, if_true, if_false, ite_true, ite_false, eq_self, ne_eq, not_true_eq_false, not_false_eq_true, it10, it11, it1n, th_at, e3, hkn, z0, z1]
        by_cases y1 : a3 < 0
        · rw [if_pos y1]
          first | exact MA.th | exact ⟨trivial, MA.th⟩ | exact ⟨rfl, MA.th⟩
        · rw [if_neg y1, if_neg]
          · first | exact MA.th | exact ⟨trivial, MA.th⟩ | exact ⟨rfl, MA.th⟩
          · intro y2
            obtain ⟨t, ht, rfl⟩ := nI_of y1
            rw [li_1, nI_le' ht (by omega)] at y2
            rcases (show t = 0 ∨ t = 1 by omega) with rfl | rfl
            · exact z0 rfl
            · exact z1 rfl
    · have hkn : (p ≤ k) = True := eq_true (by omega)
      rw [if_neg (nI_nlt (by omega) (by omega))]
      simp (disch := omega) only [rdI_n, rdL_n, wrI_n, wrL_n, ixN_n, wrF_eq, vK_eq, jn_eq, rZ_ite, rZ_ite', rZ_0, rZ_1, bo0, bo1, it10, it11, it1n, nI_lt', nI_le', nI_eq', nI_add, nI_in0, nI_nn, nI_eqm, pk_mul, k_X12_pane, isFront_y v36, hi, i1z, i1n, i0n, if_true, if_false, ite_true, ite_false, eq_self, ne_eq, not_true_eq_false, not_false_eq_true, it10, it11, it1n, th_at, e3, hkn]; first | exact MA.th | exact ⟨trivial, MA.th⟩ | exact ⟨rfl, MA.th⟩
  · rw [hasFront_n bp.2.2.1 (by omega) c1, if_neg (by decide)]
    simp (disch := omega) only [rdI_n, rdL_n, wrI_n, wrL_n, ixN_n, wrF_eq, vK_eq, jn_eq, rZ_ite, rZ_ite', rZ_0, rZ_1, bo0, bo1, it10, it11, it1n, k_X12_pane, isFront_n v36 (by omega) c1, i1z, i1n, i0n, if_true, if_false, ite_true, ite_false, eq_self, ne_eq, not_true_eq_false, not_false_eq_true, it10, it11, it1n]; first | exact MA.th | exact ⟨trivial, MA.th⟩ | exact ⟨rfl, MA.th⟩
end Get
