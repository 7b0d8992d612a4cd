/-! ===== loops that add up ===== -/
theorem sum_lp {f : (Int32 → Int32 → Prop) → Int32 → Int32 → Prop} {g : Nat → Int32} {N : Nat} {E : Int32 → Prop} (hN : N < 2 ^ 31) (hs : ∀ R s i, i < N → R (s + g i) (nI (i + 1)) → f R s (nI i)) (he : ∀ R s, E s → f R s (nI N)) (h : E (sumI g N)) : LP2 f 0 0 := by
  refine LP2.ind (fun s v => ∃ i, i ≤ N ∧ v = nI i ∧ s = sumI g i) (fun _ v => N - v.toNatClampNeg) ?_ ⟨0, by omega, rfl, rfl⟩
  rintro R s v ⟨i, hi, rfl, rfl⟩ ih
  by_cases hin : i < N
  · exact hs R _ i hin (ih _ _ ⟨i + 1, by omega, rfl, rfl⟩ (by rw [nI_clamp (by omega), nI_clamp (by omega)]; omega))
  · have e : i = N := by omega
    subst e
    exact he R _ h
theorem sum_lp3 {f : (Int32 → Int32 → CT → Prop) → Int32 → Int32 → CT → Prop} {g : Nat → Int32} {N : Nat} {J : CT → Prop} {E : Int32 → CT → Prop} {c0 : CT} (hN : N < 2 ^ 31) (hs : ∀ R s i c, J c → i < N → (∀ c', J c' → R (s + g i) (nI (i + 1)) c') → f R s (nI i) c) (he : ∀ R s c, J c → E s c → f R s (nI N) c) (h0 : J c0) (h : ∀ c, J c → E (sumI g N) c) : LP3 f 0 0 c0 := by
  refine LP3.ind (fun s v c => ∃ i, i ≤ N ∧ v = nI i ∧ s = sumI g i ∧ J c) (fun _ v _ => N - v.toNatClampNeg) ?_ ⟨0, by omega, rfl, rfl, h0⟩
  rintro R s v c ⟨i, hi, rfl, rfl, hc⟩ ih
  by_cases hin : i < N
  · exact hs R _ i c hc hin fun c' hc' => ih _ _ _ ⟨i + 1, by omega, rfl, rfl, hc'⟩ (by rw [nI_clamp (by omega), nI_clamp (by omega)]; omega)
  · have e : i = N := by omega
    subst e
    exact he R _ c hc (h c hc)
theorem nle_f {a b : Nat} (h : a < b) : (b ≤ a) = False := eq_false (by omega)
theorem nle_t {a b : Nat} (h : b ≤ a) : (b ≤ a) = True := eq_true h
theorem i32_ss (a b c : Int32) : a - b - c = a - (b + c) := by rw [Int32.sub_eq_add_neg, Int32.sub_eq_add_neg, Int32.sub_eq_add_neg, Int32.neg_add, Int32.add_assoc, ← Int32.sub_eq_add_neg (-b)]
/-- the class's book but for its scratch row -/
def KA (K K' : CT) : Prop := K'.2 = K.2 ∧ ∀ j k, j ≠ 14 → K'.1 j k = K.1 j k
theorem KA.refl (K : CT) : KA K K := ⟨rfl, fun _ _ _ => rfl⟩
theorem KA.trans {A B C : CT} (h : KA A B) (g : KA B C) : KA A C := ⟨g.1.trans h.1, fun j k e => (g.2 j k e).trans (h.2 j k e)⟩
theorem NRel.mvK {K K' M : CT} {o n : Nat} (g : NRel K M o n) (e : KA K K') : NRel K' M o n := fun i hi => by
  rw [e.2 11 i (by decide), e.2 12 i (by decide), e.2 13 i (by decide)]
  exact g i hi
theorem BDay.mvK {K K' M : CT} {u : Bool} {m h d : Nat} (g : BDay K M u m h d) (e : KA K K') : BDay K' M u m h d := by
  unfold BDay at *
  rw [e.2 9 d (by decide), e.1]
  exact g
theorem BHou.mvB {B B' : VW} {M : CT} {u : Bool} {m i : Nat} (g : BHou B M u m i) (e : ∀ j, 1 ≤ j → j ≤ 8 → B' j i = B j i) : BHou B' M u m i := by
  unfold BHou at *
  rw [e 1 (by omega) (by omega), e 2 (by omega) (by omega), e 3 (by omega) (by omega), e 4 (by omega) (by omega), e 5 (by omega) (by omega), e 6 (by omega) (by omega), e 7 (by omega) (by omega), e 8 (by omega) (by omega)]
  exact g
theorem BRel.mvK {B B' : VW} {K K' M : CT} {u : Bool} {m h D n : Nat} (g : BRel B K M u m h D n) (e : KA K K') (e2 : ∀ j k, j ≤ 8 → B' j k = B j k) : BRel B' K' M u m h D n := by
  obtain ⟨⟨g1, g1', g1a, g1b⟩, g2, g3, g4, g5, g6⟩ := g
  refine ⟨⟨g1, g1', by rw [e2 0 0 (by omega)]; exact g1a, by rw [e2 0 1 (by omega)]; exact g1b⟩, fun i hi => (g2 i hi).mvB fun j h1 h2 => e2 j i h2, fun d hd => (g3 d hd).mvK e, fun i hi => ?_, g5.mvK e, g6⟩
  rw [e2 3 i (by omega)]
  exact g4 i hi
theorem CO.mvK {H P K K' I M : CT} {l q f m h D n : Nat} (g : CO H P K I M l q f m h D n) (e : KA K K') : CO H P K' I M l q f m h D n := by
  obtain ⟨g1, g2, g3, ⟨g4, g5⟩, g6, g7⟩ := g
  refine ⟨g1, g2, g3, ⟨g4.mvK e fun j k hj => e.2 j k (by omega), g5⟩, ?_, g7⟩
  rcases g6 with g | ⟨a, b, D', n', c1, c2, c3, c4⟩
  · exact Or.inl g
  · exact Or.inr ⟨a, b, D', n', c1, c2, c3.mvK e fun _ _ _ => rfl, c4⟩
section Get3
variable {H P K I M : CT} {l q f m h D n : Nat} {a1 a2 a3 : Int32}
theorem sumOf_ok {j : Nat} {Q : Int32 → Prop} (hh : h ≤ 10) (hQ : Q (sumI (K.1 j) h)) : k_X0_sumOf K j (nI h) Q := by
  unfold k_X0_sumOf
  refine sum_lp (g := K.1 j) (N := h) (E := Q) (by omega) (fun R s i hi hr => ?_) (fun R s hE => ?_) hQ
  · simp (disch := omega) only [rdI_n, rdL_n, wrI_n, wrL_n, ixN_n, wrF_eq, vK_eq, jn_eq, rZ_ite, rZ_ite', rZ_0, rZ_1, bo0, bo1, it10, it11, it1n, nI_lt', nI_le', nI_eq', nI_add, nI_in0, nI_nn, nI_eqm, pk_mul, li_10, nle_f, if_false, nI_1]
    exact hr
  · simp (disch := omega) only [nI_lt', nI_le', nI_eq', nI_add, nI_in0, nI_nn, nI_eqm, pk_mul, Nat.le_refl, if_true]
    exact hE
theorem wetDays_ok {Q : Int32 → Prop} (hQ : Q (sumI (fun d => if P.1 10 d = 0 then 0 else 1) 200)) : k_X6_wetDays P Q := by
  unfold k_X6_wetDays
  refine sum_lp (g := fun d => if P.1 10 d = 0 then 0 else 1) (N := 200) (E := Q) (by omega) (fun R s i hi hr => ?_) (fun R s hE => ?_) hQ
  · simp (disch := omega) only [rdI_n, rdL_n, wrI_n, wrL_n, ixN_n, wrF_eq, vK_eq, jn_eq, rZ_ite, rZ_ite', rZ_0, rZ_1, bo0, bo1, it10, it11, it1n, nI_lt', nI_le', nI_eq', nI_add, nI_in0, nI_nn, nI_eqm, pk_mul, li_200, nle_f, if_false, nI_1]
    by_cases e : P.1 10 i = 0
    · rw [if_pos e]
      rw [if_pos e, Int32.add_zero] at hr
      exact hr
    · rw [if_neg e]
      rw [if_neg e] at hr
      exact hr
  · simp (disch := omega) only [nI_lt', nI_le', nI_eq', nI_add, nI_in0, nI_nn, nI_eqm, pk_mul, li_200, Nat.le_refl, if_true]
    exact hE
theorem g_count (g : CO H P K I M l q f m h D n) : k_X11_count H P K a1 fun x => k_X12_count M a1 fun y M' => x = y ∧ MA M M' := by
  obtain ⟨-, -, ⟨⟨b, bp, bv⟩, -, -, -, -, -, gw, ⟨ca, cn, cb, ck, r1, -, -, -, r5, -, -, -, r9, -⟩, t1, t2, -⟩, ⟨⟨⟨-, -, k0, k1⟩, gb, -⟩, d1, d2, -⟩, -⟩ := g
  unfold k_X11_count
  have key : ∀ x : Int32, (x = if a1 = 0 then M.1 0 34 else if a1 = 1 then M.1 0 35 else if a1 = 2 then M.1 0 36 else if a1 = 3 then M.1 0 37 else if a1 = 4 then M.1 0 38 else if a1 = 5 then M.1 0 78 else if a1 = 6 then M.1 0 77 else if a1 = 7 then M.1 0 45 else if a1 = 8 then sumI (fun d => if M.1 30 d = 0 then 0 else 1) 200 else if a1 = 9 then M.1 0 43 else if a1 = 10 then M.1 0 44 else if a1 = 11 then sumI (M.1 39) h else if a1 = 12 then sumI (M.1 40) h else -1) → k_X12_count M a1 fun y M' => x = y ∧ MA M M' := by
    intro x hx
    subst hx
    unfold k_X12_count
    rw [wrF_eq]
    rw [jn_eq]
    refine ite_b (fun z0 => ?_) fun z0 => ite_b (fun z1 => ?_) fun z1 => ite_b (fun z2 => ?_) fun z2 => ite_b (fun z3 => ?_) fun z3 => ite_b (fun z4 => ?_) fun z4 => ite_b (fun z5 => ?_) fun z5 => ite_b (fun z6 => ?_) fun z6 => ite_b (fun z7 => ?_) fun z7 => ite_b (fun z8 => ?_) fun z8 => ite_b (fun z9 => ?_) fun z9 => ite_b (fun z10 => ?_) fun z10 => ite_b (fun z11 => ?_) fun z11 => ite_b (fun z12 => ?_) fun z12 => ?_
    · rw [if_pos z0]; exact ⟨rfl, MA.th⟩
    · rw [if_neg z0, if_pos z1]; exact ⟨rfl, MA.th⟩
    · rw [if_neg z0, if_neg z1, if_pos z2]; exact ⟨rfl, MA.th⟩
    · rw [if_neg z0, if_neg z1, if_neg z2, if_pos z3]; exact ⟨rfl, MA.th⟩
    · rw [if_neg z0, if_neg z1, if_neg z2, if_neg z3, if_pos z4]; exact ⟨rfl, MA.th⟩
    · rw [if_neg z0, if_neg z1, if_neg z2, if_neg z3, if_neg z4, if_pos z5]; exact ⟨rfl, MA.th⟩
    · rw [if_neg z0, if_neg z1, if_neg z2, if_neg z3, if_neg z4, if_neg z5, if_pos z6]; exact ⟨rfl, MA.th⟩
    · rw [if_neg z0, if_neg z1, if_neg z2, if_neg z3, if_neg z4, if_neg z5, if_neg z6, if_pos z7]; exact ⟨rfl, MA.th⟩
    · rw [if_neg z0, if_neg z1, if_neg z2, if_neg z3, if_neg z4, if_neg z5, if_neg z6, if_neg z7, if_pos z8]
      refine sum_lp (g := fun d => if M.1 30 d = 0 then 0 else 1) (N := 200) (E := fun y => _ = y ∧ MA M (sI M 0 0 0)) (by omega) (fun R s i hi hr => ?_) (fun R s hE => ?_) ⟨rfl, MA.th⟩
      · simp (disch := omega) only [rdI_n, rdL_n, wrI_n, wrL_n, ixN_n, wrF_eq, vK_eq, jn_eq, rZ_ite, rZ_ite', rZ_0, rZ_1, bo0, bo1, it10, it11, it1n, nI_lt', nI_le', nI_eq', nI_add, nI_in0, nI_nn, nI_eqm, pk_mul, li_200, nle_f, if_false, nI_1, th_at]
        by_cases e : M.1 30 i = 0
        · rw [if_pos e]
          rw [if_pos e] at hr
          exact hr
        · rw [if_neg e]
          rw [if_neg e] at hr
          exact hr
      · simp (disch := omega) only [nI_lt', nI_le', nI_eq', nI_add, nI_in0, nI_nn, nI_eqm, pk_mul, li_200, Nat.le_refl, if_true]
        exact hE
    · rw [if_neg z0, if_neg z1, if_neg z2, if_neg z3, if_neg z4, if_neg z5, if_neg z6, if_neg z7, if_neg z8, if_pos z9]; exact ⟨rfl, MA.th⟩
    · rw [if_neg z0, if_neg z1, if_neg z2, if_neg z3, if_neg z4, if_neg z5, if_neg z6, if_neg z7, if_neg z8, if_neg z9, if_pos z10]; exact ⟨rfl, MA.th⟩
    · rw [if_neg z0, if_neg z1, if_neg z2, if_neg z3, if_neg z4, if_neg z5, if_neg z6, if_neg z7, if_neg z8, if_neg z9, if_neg z10, if_pos z11]
      refine sum_lp (g := M.1 39) (N := h) (E := fun y => _ = y ∧ MA M (sI M 0 0 0)) (by omega) (fun R s i hi hr => ?_) (fun R s hE => ?_) ⟨rfl, MA.th⟩
      · simp (disch := omega) only [rdI_n, rdL_n, wrI_n, wrL_n, ixN_n, wrF_eq, vK_eq, jn_eq, rZ_ite, rZ_ite', rZ_0, rZ_1, bo0, bo1, it10, it11, it1n, nI_lt', nI_le', nI_eq', nI_add, nI_in0, nI_nn, nI_eqm, pk_mul, th_at, bv.2.2.2.2, nle_f, if_false, nI_1, z11, i1z, i1n, i0n, if_true, if_false, ite_true, ite_false, eq_self, ne_eq, not_true_eq_false, not_false_eq_true, it10, it11, it1n]
        exact hr
      · simp (disch := omega) only [th_at, bv.2.2.2.2, nI_lt', nI_le', nI_eq', nI_add, nI_in0, nI_nn, nI_eqm, pk_mul, Nat.le_refl, if_true]
        exact hE
    · rw [if_neg z0, if_neg z1, if_neg z2, if_neg z3, if_neg z4, if_neg z5, if_neg z6, if_neg z7, if_neg z8, if_neg z9, if_neg z10, if_neg z11, if_pos z12]
      refine sum_lp (g := M.1 40) (N := h) (E := fun y => _ = y ∧ MA M (sI M 0 0 0)) (by omega) (fun R s i hi hr => ?_) (fun R s hE => ?_) ⟨rfl, MA.th⟩
      · simp (disch := omega) only [rdI_n, rdL_n, wrI_n, wrL_n, ixN_n, wrF_eq, vK_eq, jn_eq, rZ_ite, rZ_ite', rZ_0, rZ_1, bo0, bo1, it10, it11, it1n, nI_lt', nI_le', nI_eq', nI_add, nI_in0, nI_nn, nI_eqm, pk_mul, th_at, bv.2.2.2.2, nle_f, if_false, nI_1, z11, i1z, i1n, i0n, if_true, if_false, ite_true, ite_false, eq_self, ne_eq, not_true_eq_false, not_false_eq_true, it10, it11, it1n]
        exact hr
      · simp (disch := omega) only [th_at, bv.2.2.2.2, nI_lt', nI_le', nI_eq', nI_add, nI_in0, nI_nn, nI_eqm, pk_mul, Nat.le_refl, if_true]
        exact hE
    · rw [if_neg z0, if_neg z1, if_neg z2, if_neg z3, if_neg z4, if_neg z5, if_neg z6, if_neg z7, if_neg z8, if_neg z9, if_neg z10, if_neg z11, if_neg z12]; exact ⟨rfl, MA.th⟩
  refine ite_b (fun z0 => key _ ?_) fun z0 => ite_b (fun z1 => key _ ?_) fun z1 => ite_b (fun z2 => key _ ?_) fun z2 => ite_b (fun z3 => key _ ?_) fun z3 => ite_b (fun z4 => key _ ?_) fun z4 => ite_b (fun z5 => key _ ?_) fun z5 => ite_b (fun z6 => key _ ?_) fun z6 => ite_b (fun z7 => ?_) fun z7 => ite_b (fun z8 => ?_) fun z8 => ite_b (fun z9 => key _ ?_) fun z9 => ite_b (fun z10 => key _ ?_) fun z10 => ite_b (fun z11 => ?_) fun z11 => ite_b (fun z12 => ?_) fun z12 => key _ ?_
  · rw [if_pos z0, bp.1, bv.1]
  · rw [if_neg z0, if_pos z1, bp.2.1, bv.2.1]
  · rw [if_neg z0, if_neg z1, if_pos z2, bp.2.2.1, bv.2.2.1]
  · rw [if_neg z0, if_neg z1, if_neg z2, if_pos z3, bp.2.2.2.1, bv.2.2.2.1]
  · rw [if_neg z0, if_neg z1, if_neg z2, if_neg z3, if_pos z4, bp.2.2.2.2, bv.2.2.2.2]
  · rw [if_neg z0, if_neg z1, if_neg z2, if_neg z3, if_neg z4, if_pos z5, k1, d2]
  · rw [if_neg z0, if_neg z1, if_neg z2, if_neg z3, if_neg z4, if_neg z5, if_pos z6, k0, d1]
  · unfold k_X6_knots
    refine key _ ?_
    rw [if_neg z0, if_neg z1, if_neg z2, if_neg z3, if_neg z4, if_neg z5, if_neg z6, if_pos z7, r1, r5, r9, nI_add]
  · refine wetDays_ok (key _ ?_)
    rw [if_neg z0, if_neg z1, if_neg z2, if_neg z3, if_neg z4, if_neg z5, if_neg z6, if_neg z7, if_pos z8]
    exact sumI_cg fun i hi => by rw [(gw i hi).1]
  · rw [if_neg z0, if_neg z1, if_neg z2, if_neg z3, if_neg z4, if_neg z5, if_neg z6, if_neg z7, if_neg z8, if_pos z9, t1]
  · rw [if_neg z0, if_neg z1, if_neg z2, if_neg z3, if_neg z4, if_neg z5, if_neg z6, if_neg z7, if_neg z8, if_neg z9, if_pos z10, t2]
  · rw [bp.2.2.2.2]
    refine sumOf_ok (by omega) (key _ ?_)
    rw [if_neg z0, if_neg z1, if_neg z2, if_neg z3, if_neg z4, if_neg z5, if_neg z6, if_neg z7, if_neg z8, if_neg z9, if_neg z10, if_pos z11]
    exact sumI_cg fun i hi => by rw [(gb i hi).2.2.1]; rw [show oT false + i = i from Nat.zero_add i]
  · rw [bp.2.2.2.2]
    refine sumOf_ok (by omega) (key _ ?_)
    rw [if_neg z0, if_neg z1, if_neg z2, if_neg z3, if_neg z4, if_neg z5, if_neg z6, if_neg z7, if_neg z8, if_neg z9, if_neg z10, if_neg z11, if_pos z12]
    exact sumI_cg fun i hi => by rw [(gb i hi).2.2.2.1]; rw [show oT false + i = i from Nat.zero_add i]
  · rw [if_neg z0, if_neg z1, if_neg z2, if_neg z3, if_neg z4, if_neg z5, if_neg z6, if_neg z7, if_neg z8, if_neg z9, if_neg z10, if_neg z11, if_neg z12]
end Get3
