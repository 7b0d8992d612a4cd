/-! ===== the class's questions to the token under the cursor ===== -/
theorem nI_lit_le {m : Nat} {u : Int32} (hm : m ≤ 100000) (hu : u ≤ 9999) (h : 9999 < m) : u < nI m := by
  refine Int32.lt_of_le_of_lt hu ?_
  rw [show (9999 : Int32) = nI 9999 from rfl, nI_lt' (by omega) (by omega)]
  exact h
theorem NR_le {v1 v0 u : Int32} (h : NR v1 v0) (hu : u ≤ 9999) : (v0 ≤ u) = (v1 ≤ u) := by
  rcases h with ⟨m, -, h1, h0⟩ | ⟨m1, m0, a1, b1, a0, b0, h1, h0⟩
  · rw [h1, h0]
  · rw [h1, h0]
    have e1 := nI_lit_le (show m1 ≤ 100000 by omega) hu a1
    have e0 := nI_lit_le b0 hu a0
    exact propext ⟨fun q => absurd e0 (Int32.not_lt.mpr q), fun q => absurd e1 (Int32.not_lt.mpr q)⟩
theorem NR_ge {v1 v0 u : Int32} (h : NR v1 v0) (hu : u ≤ 9999) : (u ≤ v0) = (u ≤ v1) := by
  rcases h with ⟨m, -, h1, h0⟩ | ⟨m1, m0, a1, b1, a0, b0, h1, h0⟩
  · rw [h1, h0]
  · rw [h1, h0]
    have e1 := nI_lit_le (show m1 ≤ 100000 by omega) hu a1
    have e0 := nI_lit_le b0 hu a0
    exact propext ⟨fun _ => Int32.le_of_lt e1, fun _ => Int32.le_of_lt e0⟩
theorem NR_eq {v1 v0 u : Int32} (h : NR v1 v0) (hu : u ≤ 9999) (hv : v1 ≤ u) : v0 = v1 := by
  rcases h with ⟨m, -, h1, h0⟩ | ⟨m1, m0, a1, b1, a0, b0, h1, h0⟩
  · rw [h1, h0]
  · have e1 := nI_lit_le (show m1 ≤ 100000 by omega) hu a1
    rw [← h1] at e1
    exact absurd e1 (Int32.not_lt.mpr hv)
section CRd2
variable {y : Nat} {rest : HP} {z : Nat × Nat} {R : BC} {T : Nat → T4} {K n i : Nat} {g : Int32} {f : F2}
/-- the value under the cursor, where the token is a number in bounds -/
theorem rk_val (h : RK R T K n) (hi : i ≤ K) {lo up : Int32} (hup : up ≤ 9999) (hf : nf (T i) lo up = 0) : R.1 3 i = (T i).2.2.2 := by
  obtain ⟨-, -, -, -, h5, -⟩ := h
  unfold nf at hf
  by_cases h2 : (T i).2.2.1 = 2
  · rw [if_pos h2] at hf
    by_cases h3 : (T i).2.2.2 < lo ∨ up < (T i).2.2.2
    · rw [if_pos h3] at hf
      exact absurd hf (by decide)
    · exact NR_eq ((h5 i hi).2.2.2 h2) hup (Int32.not_lt.mp (fun q => h3 (Or.inr q)))
  · rw [if_neg h2] at hf
    exact absurd hf (by decide)
theorem rk_free (h : RK R T K n) (hi : i ≤ K) (h1 : (T i).2.2.1 = 1) : R.1 3 i = (T i).2.2.2 := (h.2.2.2.2.1 i hi).2.2.1 h1
theorem rk_lt (h : RK R T K n) (hi : i ≤ K) (h4 : (T i).2.2.1 ≠ 4) : i < K := by
  rcases Nat.lt_or_ge i K with q | q
  · exact q
  · have : i = K := by omega
    subst this
    exact absurd h.2.2.2.2.2.1 h4
theorem nf_2 {t : T4} {lo up : Int32} (hf : nf t lo up = 0) : t.2.2.1 = 2 := by
  unfold nf at hf
  by_cases h2 : t.2.2.1 = 2
  · exact h2
  · rw [if_neg h2] at hf
    exact absurd hf (by decide)
theorem cr_isNumber (h : RK R T K n) (hi : i ≤ K) {lo up : Int32} (hlo : lo ≤ 9999) (hup : up ≤ 9999) : m_X7_isNumber [.ref y, .int lo, .int up] (rs y rest z (wC R i g f)) = if nf (T i) lo up = 0 then some (some (.int 1), rs y rest z (wC R i g f)) else some (some (.int 0), rs y rest z (wC R i g (nf (T i) lo up, (T i).2.1))) := by
  have h5 := h.2.2.2.2.1 i hi
  have hs := h.2.2.2.2.2.2.2 i
  rw [e_X7_isNumber]
  unfold b_X7_isNumber
  simp only [eK, eI, eA, eL, eU, eB, c1, c2, cT, cF, evL, eC, sStI, sStA, sStL, sInc, sP2, sP3, sUF, sUA, sC, sCp, sRI, sRZ, sRL, sRA, sR0, sNop, sBr, sSw, sSeq_t, sBlk_t, sBrIf_t, eT_t, cIf_t, thn_0, thn_1, thn_2, thn_3, thn_4, thn_5, thn_r, thn_n, thn_ite, dn_0, dn_1, dn_2, dn_3, dn_4, dn_5, thn_6, dn_6, thn_7, dn_7, thn_8, dn_8, thn_9, dn_9, thn_10, dn_10, thn_11, dn_11, thn_12, dn_12, thn_13, dn_13, thn_14, dn_14, thn_15, dn_15, thn_16, dn_16, thn_17, dn_17, dn_r, dn_n, dn_ite, fin_r, fin_ite, bind_ite', map_ite', Option.bind_some, Option.bind_none, Option.map_some, Option.map_none, List.getElem?_cons_zero, List.getElem?_cons_succ, sto1, sto2, clr, List.set_cons_zero, List.set_cons_succ, q_eq, q_ne, q_lt, q_ge, q_gt, q_le, z_eq, z_ne, z_lt, z_ge, z_gt, z_le, z_null, z_nonnull, o_iadd, o_isub, o_imul, o_iand, o_ior, o_ixor, o_ishl, o_ishr, o_ladd, o_lsub, o_lmul, o_land, o_lor, o_iushr, o_lushr, o_lshl, o_lcmp, o_idiv, o_irem, o_ldiv, o_ineg, o_lneg, o_i2l, o_l2i, o_i2b, o_imax, o_imin, o_iabs, o_labs, decide_eq_true_eq, Nat.sub_self, Nat.add_one_sub_one, Nat.reduceSub, ite_true, ite_false, if_true, if_false, Bool.false_eq_true, eq_self, true_or, or_true, false_or, or_false, and_true, true_and, false_and, and_false, not_true_eq_false, not_false_eq_true, ite_self, ne_eq, Classical.not_not, reduceCtorEq, Bool.not_true, Bool.not_false, rg_fault, rp_fault, rg_faultPlace, rp_faultPlace, rg_length, rp_length, rg_kinds, rg_starts, rg_values, rg_tokens, rp_tokens, rg_token, rp_token, rg_kind, rp_kind, rg_value, rp_value, rg_got, rp_got, rg_plan, rp_plan, rg_waiting, rg_waitings, rp_waitings, rg_open, rp_open, rV_reader, rl_kinds, rt_kinds, rn_kinds, rl_starts, rt_starts, rn_starts, rl_values, rt_values, rn_values, rl_waiting, rt_waiting, rn_waiting, wC_0, wC_1, wC_7, wC_8, wC_9, wC_10, wC_2, wC_6, wC_13, wC_14, wC_r, vC_0, vC_1, vC_10, cr_fail h hi, h5.1, KT_numb hs, nf]
  by_cases h2 : (T i).2.2.1 = 2
  · have hN := h5.2.2.2 h2
    have e1 : (R.1 3 i < lo) = ((T i).2.2.2 < lo) := by
      rw [← Int32.not_le, ← Int32.not_le, NR_ge hN hlo]
    have e2 : (up < R.1 3 i) = (up < (T i).2.2.2) := by
      rw [← Int32.not_le, ← Int32.not_le, NR_le hN hup]
    have e3 := NR_ge hN hlo
    have e4 := NR_le hN hup
    simp only [e1, e2, e3, e4]
    by_cases h3 : (T i).2.2.2 < lo
    · simp [h2, h3, Int32.not_le.mpr h3]
    · by_cases h4 : up < (T i).2.2.2
      · simp [h2, h3, h4, Int32.not_le.mpr h4, Int32.not_lt.mp h3]
      · simp [h2, h3, h4, Int32.not_lt.mp h4, Int32.not_lt.mp h3]
  · simp [h2]
theorem cr_takeNumber (h : RK R T K n) (hi : i ≤ K) {lo up : Int32} (hlo : lo ≤ 9999) (hup : up ≤ 9999) : m_X7_takeNumber [.ref y, .int lo, .int up] (rs y rest z (wC R i g f)) = if nf (T i) lo up = 0 then some (some (.int 1), rs y rest z (wC R (i + 1) (T i).2.2.2 f)) else some (some (.int 0), rs y rest z (wC R i g (nf (T i) lo up, (T i).2.1))) := by
  rw [e_X7_takeNumber]
  unfold b_X7_takeNumber
  simp only [eK, eI, eA, eL, eU, eB, c1, c2, cT, cF, evL, eC, sStI, sStA, sStL, sInc, sP2, sP3, sUF, sUA, sC, sCp, sRI, sRZ, sRL, sRA, sR0, sNop, sBr, sSw, sSeq_t, sBlk_t, sBrIf_t, eT_t, cIf_t, thn_0, thn_1, thn_2, thn_3, thn_4, thn_5, thn_r, thn_n, thn_ite, dn_0, dn_1, dn_2, dn_3, dn_4, dn_5, thn_6, dn_6, thn_7, dn_7, thn_8, dn_8, thn_9, dn_9, thn_10, dn_10, thn_11, dn_11, thn_12, dn_12, thn_13, dn_13, thn_14, dn_14, thn_15, dn_15, thn_16, dn_16, thn_17, dn_17, dn_r, dn_n, dn_ite, fin_r, fin_ite, bind_ite', map_ite', Option.bind_some, Option.bind_none, Option.map_some, Option.map_none, List.getElem?_cons_zero, List.getElem?_cons_succ, sto1, sto2, clr, List.set_cons_zero, List.set_cons_succ, q_eq, q_ne, q_lt, q_ge, q_gt, q_le, z_eq, z_ne, z_lt, z_ge, z_gt, z_le, z_null, z_nonnull, o_iadd, o_isub, o_imul, o_iand, o_ior, o_ixor, o_ishl, o_ishr, o_ladd, o_lsub, o_lmul, o_land, o_lor, o_iushr, o_lushr, o_lshl, o_lcmp, o_idiv, o_irem, o_ldiv, o_ineg, o_lneg, o_i2l, o_l2i, o_i2b, o_imax, o_imin, o_iabs, o_labs, decide_eq_true_eq, Nat.sub_self, Nat.add_one_sub_one, Nat.reduceSub, ite_true, ite_false, if_true, if_false, Bool.false_eq_true, eq_self, true_or, or_true, false_or, or_false, and_true, true_and, false_and, and_false, not_true_eq_false, not_false_eq_true, ite_self, ne_eq, Classical.not_not, reduceCtorEq, Bool.not_true, Bool.not_false, rg_fault, rp_fault, rg_faultPlace, rp_faultPlace, rg_length, rp_length, rg_kinds, rg_starts, rg_values, rg_tokens, rp_tokens, rg_token, rp_token, rg_kind, rp_kind, rg_value, rp_value, rg_got, rp_got, rg_plan, rp_plan, rg_waiting, rg_waitings, rp_waitings, rg_open, rp_open, rV_reader, rl_kinds, rt_kinds, rn_kinds, rl_starts, rt_starts, rn_starts, rl_values, rt_values, rn_values, rl_waiting, rt_waiting, rn_waiting, wC_0, wC_1, wC_7, wC_8, wC_9, wC_10, wC_2, wC_6, wC_13, wC_14, wC_r, vC_0, vC_1, vC_10, cr_isNumber h hi hlo hup]
  by_cases h2 : nf (T i) lo up = 0
  · have hK : i < K := rk_lt h hi (by rw [nf_2 h2]; decide)
    simp [h2, eK, eI, eA, eL, eU, eB, c1, c2, cT, cF, evL, eC, sStI, sStA, sStL, sInc, sP2, sP3, sUF, sUA, sC, sCp, sRI, sRZ, sRL, sRA, sR0, sNop, sBr, sSw, sSeq_t, sBlk_t, sBrIf_t, eT_t, cIf_t, thn_0, thn_1, thn_2, thn_3, thn_4, thn_5, thn_r, thn_n, thn_ite, dn_0, dn_1, dn_2, dn_3, dn_4, dn_5, thn_6, dn_6, thn_7, dn_7, thn_8, dn_8, thn_9, dn_9, thn_10, dn_10, thn_11, dn_11, thn_12, dn_12, thn_13, dn_13, thn_14, dn_14, thn_15, dn_15, thn_16, dn_16, thn_17, dn_17, dn_r, dn_n, dn_ite, fin_r, fin_ite, bind_ite', map_ite', Option.bind_some, Option.bind_none, Option.map_some, Option.map_none, List.getElem?_cons_zero, List.getElem?_cons_succ, sto1, sto2, clr, List.set_cons_zero, List.set_cons_succ, q_eq, q_ne, q_lt, q_ge, q_gt, q_le, z_eq, z_ne, z_lt, z_ge, z_gt, z_le, z_null, z_nonnull, o_iadd, o_isub, o_imul, o_iand, o_ior, o_ixor, o_ishl, o_ishr, o_ladd, o_lsub, o_lmul, o_land, o_lor, o_iushr, o_lushr, o_lshl, o_lcmp, o_idiv, o_irem, o_ldiv, o_ineg, o_lneg, o_i2l, o_l2i, o_i2b, o_imax, o_imin, o_iabs, o_labs, decide_eq_true_eq, Nat.sub_self, Nat.add_one_sub_one, Nat.reduceSub, rg_fault, rp_fault, rg_faultPlace, rp_faultPlace, rg_length, rp_length, rg_kinds, rg_starts, rg_values, rg_tokens, rp_tokens, rg_token, rp_token, rg_kind, rp_kind, rg_value, rp_value, rg_got, rp_got, rg_plan, rp_plan, rg_waiting, rg_waitings, rp_waitings, rg_open, rp_open, rV_reader, rl_kinds, rt_kinds, rn_kinds, rl_starts, rt_starts, rn_starts, rl_values, rt_values, rn_values, rl_waiting, rt_waiting, rn_waiting, wC_0, wC_1, wC_7, wC_8, wC_9, wC_10, wC_2, wC_6, wC_13, wC_14, wC_r, vC_0, vC_1, vC_10, cr_advance h hK, rk_val h hi hup h2]
  · simp [h2]
theorem cr_isNewName (h : RK R T K n) (hi : i ≤ K) (q : Int32) : m_X7_isNewName [.ref y, .int q] (rs y rest z (wC R i g f)) = if ff (T i) q = 0 then some (some (.int 1), rs y rest z (wC R i g f)) else some (some (.int 0), rs y rest z (wC R i g (ff (T i) q, (T i).2.1))) := by
  have h5 := h.2.2.2.2.1 i hi
  have hs := h.2.2.2.2.2.2.2 i
  rw [e_X7_isNewName]
  unfold b_X7_isNewName
  simp only [eK, eI, eA, eL, eU, eB, c1, c2, cT, cF, evL, eC, sStI, sStA, sStL, sInc, sP2, sP3, sUF, sUA, sC, sCp, sRI, sRZ, sRL, sRA, sR0, sNop, sBr, sSw, sSeq_t, sBlk_t, sBrIf_t, eT_t, cIf_t, thn_0, thn_1, thn_2, thn_3, thn_4, thn_5, thn_r, thn_n, thn_ite, dn_0, dn_1, dn_2, dn_3, dn_4, dn_5, thn_6, dn_6, thn_7, dn_7, thn_8, dn_8, thn_9, dn_9, thn_10, dn_10, thn_11, dn_11, thn_12, dn_12, thn_13, dn_13, thn_14, dn_14, thn_15, dn_15, thn_16, dn_16, thn_17, dn_17, dn_r, dn_n, dn_ite, fin_r, fin_ite, bind_ite', map_ite', Option.bind_some, Option.bind_none, Option.map_some, Option.map_none, List.getElem?_cons_zero, List.getElem?_cons_succ, sto1, sto2, clr, List.set_cons_zero, List.set_cons_succ, q_eq, q_ne, q_lt, q_ge, q_gt, q_le, z_eq, z_ne, z_lt, z_ge, z_gt, z_le, z_null, z_nonnull, o_iadd, o_isub, o_imul, o_iand, o_ior, o_ixor, o_ishl, o_ishr, o_ladd, o_lsub, o_lmul, o_land, o_lor, o_iushr, o_lushr, o_lshl, o_lcmp, o_idiv, o_irem, o_ldiv, o_ineg, o_lneg, o_i2l, o_l2i, o_i2b, o_imax, o_imin, o_iabs, o_labs, decide_eq_true_eq, Nat.sub_self, Nat.add_one_sub_one, Nat.reduceSub, ite_true, ite_false, if_true, if_false, Bool.false_eq_true, eq_self, true_or, or_true, false_or, or_false, and_true, true_and, false_and, and_false, not_true_eq_false, not_false_eq_true, ite_self, ne_eq, Classical.not_not, reduceCtorEq, Bool.not_true, Bool.not_false, rg_fault, rp_fault, rg_faultPlace, rp_faultPlace, rg_length, rp_length, rg_kinds, rg_starts, rg_values, rg_tokens, rp_tokens, rg_token, rp_token, rg_kind, rp_kind, rg_value, rp_value, rg_got, rp_got, rg_plan, rp_plan, rg_waiting, rg_waitings, rp_waitings, rg_open, rp_open, rV_reader, rl_kinds, rt_kinds, rn_kinds, rl_starts, rt_starts, rn_starts, rl_values, rt_values, rn_values, rl_waiting, rt_waiting, rn_waiting, wC_0, wC_1, wC_7, wC_8, wC_9, wC_10, wC_2, wC_6, wC_13, wC_14, wC_r, vC_0, vC_1, vC_10, cr_fail h hi, h5.1, KT_name hs, ff]
  by_cases h2 : (T i).2.2.1 = 1
  · by_cases h3 : q = -1 <;> simp [h2, h3]
  · simp [h2]
theorem cr_isToldName (h : RK R T K n) (hi : i ≤ K) (q : Int32) : m_X7_isToldName [.ref y, .int q] (rs y rest z (wC R i g f)) = if fa (T i) q = 0 then some (some (.int 1), rs y rest z (wC R i g f)) else some (some (.int 0), rs y rest z (wC R i g (fa (T i) q, (T i).2.1))) := by
  have h5 := h.2.2.2.2.1 i hi
  have hs := h.2.2.2.2.2.2.2 i
  rw [e_X7_isToldName]
  unfold b_X7_isToldName
  simp only [eK, eI, eA, eL, eU, eB, c1, c2, cT, cF, evL, eC, sStI, sStA, sStL, sInc, sP2, sP3, sUF, sUA, sC, sCp, sRI, sRZ, sRL, sRA, sR0, sNop, sBr, sSw, sSeq_t, sBlk_t, sBrIf_t, eT_t, cIf_t, thn_0, thn_1, thn_2, thn_3, thn_4, thn_5, thn_r, thn_n, thn_ite, dn_0, dn_1, dn_2, dn_3, dn_4, dn_5, thn_6, dn_6, thn_7, dn_7, thn_8, dn_8, thn_9, dn_9, thn_10, dn_10, thn_11, dn_11, thn_12, dn_12, thn_13, dn_13, thn_14, dn_14, thn_15, dn_15, thn_16, dn_16, thn_17, dn_17, dn_r, dn_n, dn_ite, fin_r, fin_ite, bind_ite', map_ite', Option.bind_some, Option.bind_none, Option.map_some, Option.map_none, List.getElem?_cons_zero, List.getElem?_cons_succ, sto1, sto2, clr, List.set_cons_zero, List.set_cons_succ, q_eq, q_ne, q_lt, q_ge, q_gt, q_le, z_eq, z_ne, z_lt, z_ge, z_gt, z_le, z_null, z_nonnull, o_iadd, o_isub, o_imul, o_iand, o_ior, o_ixor, o_ishl, o_ishr, o_ladd, o_lsub, o_lmul, o_land, o_lor, o_iushr, o_lushr, o_lshl, o_lcmp, o_idiv, o_irem, o_ldiv, o_ineg, o_lneg, o_i2l, o_l2i, o_i2b, o_imax, o_imin, o_iabs, o_labs, decide_eq_true_eq, Nat.sub_self, Nat.add_one_sub_one, Nat.reduceSub, ite_true, ite_false, if_true, if_false, Bool.false_eq_true, eq_self, true_or, or_true, false_or, or_false, and_true, true_and, false_and, and_false, not_true_eq_false, not_false_eq_true, ite_self, ne_eq, Classical.not_not, reduceCtorEq, Bool.not_true, Bool.not_false, rg_fault, rp_fault, rg_faultPlace, rp_faultPlace, rg_length, rp_length, rg_kinds, rg_starts, rg_values, rg_tokens, rp_tokens, rg_token, rp_token, rg_kind, rp_kind, rg_value, rp_value, rg_got, rp_got, rg_plan, rp_plan, rg_waiting, rg_waitings, rp_waitings, rg_open, rp_open, rV_reader, rl_kinds, rt_kinds, rn_kinds, rl_starts, rt_starts, rn_starts, rl_values, rt_values, rn_values, rl_waiting, rt_waiting, rn_waiting, wC_0, wC_1, wC_7, wC_8, wC_9, wC_10, wC_2, wC_6, wC_13, wC_14, wC_r, vC_0, vC_1, vC_10, cr_fail h hi, h5.1, KT_name hs, fa]
  by_cases h2 : (T i).2.2.1 = 1
  · by_cases h3 : q = -1 <;> simp [h2, h3]
  · simp [h2]
/-- what is wrong with a token that should be a number of 0 .. up whose bit is not set in s -/
def fb (t : T4) (s up : Int32) : Int32 := if nf t 0 up = 0 then (if (s >>> (t.2.2.2 &&& 31)) &&& 1 = 1 then 3 else 0) else nf t 0 up
theorem NR_nn {v1 v0 : Int32} (h : NR v1 v0) : 0 ≤ v1 := by
  rcases h with ⟨m, a, h1, h0⟩ | ⟨m1, m0, a1, b1, a0, b0, h1, h0⟩
  · rw [h1, show (0 : Int32) = nI 0 from rfl, nI_le' (by omega) (by omega)]; omega
  · rw [h1, show (0 : Int32) = nI 0 from rfl, nI_le' (by omega) (by omega)]; omega
theorem bit01 (x : Int32) : (x &&& 1 = 0) = (¬ x &&& 1 = 1) := by
  have : x &&& 1 = 0 ∨ x &&& 1 = 1 := by
    have : ∀ b : BitVec 32, b &&& 1#32 = 0#32 ∨ b &&& 1#32 = 1#32 := by
      intro b
      have e : (b &&& 1#32).toNat = b.toNat % 2 := by
        rw [BitVec.toNat_and]
        exact Nat.and_one_is_mod _
      rcases Nat.mod_two_eq_zero_or_one b.toNat with q | q
      · exact Or.inl (BitVec.eq_of_toNat_eq (e.trans q))
      · exact Or.inr (BitVec.eq_of_toNat_eq (e.trans q))
    rcases this x.toBitVec with q | q
    · exact Or.inl (Int32.toBitVec_inj.mp q)
    · exact Or.inr (Int32.toBitVec_inj.mp q)
  rcases this with q | q
  · rw [q]; decide
  · rw [q]; decide
theorem cr_isFreshBit (h : RK R T K n) (hi : i ≤ K) {s up : Int32} (hup : up ≤ 9999) : m_X7_isFreshBit [.ref y, .int s, .int up] (rs y rest z (wC R i g f)) = if fb (T i) s up = 0 then some (some (.int 1), rs y rest z (wC R i g f)) else some (some (.int 0), rs y rest z (wC R i g (fb (T i) s up, (T i).2.1))) := by
  have h5 := h.2.2.2.2.1 i hi
  have hs := h.2.2.2.2.2.2.2 i
  rw [e_X7_isFreshBit]
  unfold b_X7_isFreshBit
  simp only [eK, eI, eA, eL, eU, eB, c1, c2, cT, cF, evL, eC, sStI, sStA, sStL, sInc, sP2, sP3, sUF, sUA, sC, sCp, sRI, sRZ, sRL, sRA, sR0, sNop, sBr, sSw, sSeq_t, sBlk_t, sBrIf_t, eT_t, cIf_t, thn_0, thn_1, thn_2, thn_3, thn_4, thn_5, thn_r, thn_n, thn_ite, dn_0, dn_1, dn_2, dn_3, dn_4, dn_5, thn_6, dn_6, thn_7, dn_7, thn_8, dn_8, thn_9, dn_9, thn_10, dn_10, thn_11, dn_11, thn_12, dn_12, thn_13, dn_13, thn_14, dn_14, thn_15, dn_15, thn_16, dn_16, thn_17, dn_17, dn_r, dn_n, dn_ite, fin_r, fin_ite, bind_ite', map_ite', Option.bind_some, Option.bind_none, Option.map_some, Option.map_none, List.getElem?_cons_zero, List.getElem?_cons_succ, sto1, sto2, clr, List.set_cons_zero, List.set_cons_succ, q_eq, q_ne, q_lt, q_ge, q_gt, q_le, z_eq, z_ne, z_lt, z_ge, z_gt, z_le, z_null, z_nonnull, o_iadd, o_isub, o_imul, o_iand, o_ior, o_ixor, o_ishl, o_ishr, o_ladd, o_lsub, o_lmul, o_land, o_lor, o_iushr, o_lushr, o_lshl, o_lcmp, o_idiv, o_irem, o_ldiv, o_ineg, o_lneg, o_i2l, o_l2i, o_i2b, o_imax, o_imin, o_iabs, o_labs, decide_eq_true_eq, Nat.sub_self, Nat.add_one_sub_one, Nat.reduceSub, ite_true, ite_false, if_true, if_false, Bool.false_eq_true, eq_self, true_or, or_true, false_or, or_false, and_true, true_and, false_and, and_false, not_true_eq_false, not_false_eq_true, ite_self, ne_eq, Classical.not_not, reduceCtorEq, Bool.not_true, Bool.not_false, rg_fault, rp_fault, rg_faultPlace, rp_faultPlace, rg_length, rp_length, rg_kinds, rg_starts, rg_values, rg_tokens, rp_tokens, rg_token, rp_token, rg_kind, rp_kind, rg_value, rp_value, rg_got, rp_got, rg_plan, rp_plan, rg_waiting, rg_waitings, rp_waitings, rg_open, rp_open, rV_reader, rl_kinds, rt_kinds, rn_kinds, rl_starts, rt_starts, rn_starts, rl_values, rt_values, rn_values, rl_waiting, rt_waiting, rn_waiting, wC_0, wC_1, wC_7, wC_8, wC_9, wC_10, wC_2, wC_6, wC_13, wC_14, wC_r, vC_0, vC_1, vC_10, cr_fail h hi, h5.1, KT_numb hs, fb]
  by_cases h2 : (T i).2.2.1 = 2
  · have hN := h5.2.2.2 h2
    have h0 : ¬ (T i).2.2.2 < 0 := Int32.not_lt.mpr (NR_nn hN)
    have e4 := NR_le hN hup
    by_cases h4 : up < (T i).2.2.2
    · have hn : nf (T i) 0 up = 2 := by simp [nf, h2, h0, h4]
      simp only [e4, hn]
      simp [h2, Int32.not_le.mpr h4]
    · have hn : nf (T i) 0 up = 0 := by simp [nf, h2, h0, h4]
      have hv := rk_val h hi hup hn
      simp only [e4, hn, hv, bit01]
      by_cases h6 : (s >>> ((T i).2.2.2 &&& 31)) &&& 1 = 1
      · simp [h2, h6, Int32.not_lt.mp h4]
      · simp [h2, h6, Int32.not_lt.mp h4]
  · have hn : nf (T i) 0 up = 1 := by simp [nf, h2]
    simp [h2, hn]
end CRd2
theorem sgV_mem : ∀ (m : Fin 256) (b1 b2 : Bool), sgS (nI m.val) = 3 → sgVb (nI m.val) b1 b2 ∈ sgL := by decide +kernel
theorem mtok_shp {tx : Nat → Int32} {n k : Nat} (htx : ∀ i, i < n → 0 ≤ tx i ∧ tx i < 256) (v : Int32) : SHP (mtok tx n k v) := by
  unfold mtok
  generalize sp isB tx n k = p
  by_cases h1 : n ≤ p
  · rw [if_pos h1]; exact Or.inr (Or.inr (Or.inr (Or.inr (Or.inl rfl))))
  rw [if_neg h1]
  by_cases h2 : isLt (tx p) = true
  · rw [if_pos h2]
    by_cases h3 : wfind tx p (sp isLt tx n p) wl1 0 = -1
    · rw [if_pos h3]
      by_cases h4 : sp isLt tx n p - p ≤ 6
      · rw [if_pos h4]; exact Or.inr (Or.inl rfl)
      · rw [if_neg h4]; exact Or.inr (Or.inr (Or.inr (Or.inr (Or.inr rfl))))
    · rw [if_neg h3]
      rcases wfind_01 (tp := tx) (tx := tx) (p := p) (e := sp isLt tx n p) (fun _ _ _ => rfl) with q | ⟨m, q, -⟩
      · exact absurd q.1 h3
      · exact Or.inl ⟨rfl, m, q⟩
  rw [if_neg h2]
  by_cases h3 : isDg (tx p) = true
  · rw [if_pos h3]; exact Or.inr (Or.inr (Or.inl rfl))
  rw [if_neg h3]
  obtain ⟨m, hm⟩ := by256 (htx p (by omega)).1 (htx p (by omega)).2
  rw [hm, sgV_b]
  rcases (sg_all m (decide ((if p + 1 < n then tx (p + 1) else -1) = 61)) (decide ((if p + 1 < n then tx (p + 1) else -1) = 62))).2.2 with q | q
  · exact Or.inr (Or.inr (Or.inr (Or.inl ⟨q, sgV_mem m _ _ q⟩)))
  · exact Or.inr (Or.inr (Or.inr (Or.inr (Or.inr q))))
theorem cur_shp {c : BC} {n : Nat} {v0 : Int32} (h : TX c n) : ∀ i, SHP (cur (c.1 1) n v0 i)
  | 0 => mtok_shp h.2.2 _
  | _ + 1 => mtok_shp h.2.2 _
