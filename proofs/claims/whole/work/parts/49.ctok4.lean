/-! the class's tokens, one after the other -/
def enC (tp : Nat → Int32) (n p : Nat) : Nat := if isLt (tp p) = true then sp isLt tp n p else if isDg (tp p) = true then sp isDg tp n p else if sgK (tp p) (if p + 1 < n then tp (p + 1) else 0) = 31 ∨ sgK (tp p) (if p + 1 < n then tp (p + 1) else 0) = 33 ∨ sgK (tp p) (if p + 1 < n then tp (p + 1) else 0) = 34 then p + 2 else p + 1
def kdC (tp : Nat → Int32) (n p : Nat) : Int32 := if isLt (tp p) = true then (if wfind tp p (sp isLt tp n p) wl0 0 = -1 then (if sp isLt tp n p - p ≤ 6 then 25 else 40) else wfind tp p (sp isLt tp n p) wl0 0) else if isDg (tp p) = true then 26 else sgK (tp p) (if p + 1 < n then tp (p + 1) else 0)
def vaC (tp : Nat → Int32) (n p : Nat) : Int32 := if isLt (tp p) = true then letF tp p (sp isLt tp n p - p) p 0 else if isDg (tp p) = true then numCF tp (sp isDg tp n p - p) p 0 else 0
def posC (tp : Nat → Int32) (n : Nat) : Nat → Nat
  | 0 => 0
  | k + 1 => enC tp n (sp isB tp n (posC tp n k))
def tokR (R : BC) (tp : Nat → Int32) (n : Nat) : Nat → BC
  | 0 => setI R 0 6 0
  | k + 1 => addT (tokR R tp n k) k (kdC tp n (sp isB tp n (posC tp n k))) (nI (sp isB tp n (posC tp n k))) (vaC tp n (sp isB tp n (posC tp n k)))
theorem tokR_6 (R : BC) (tp : Nat → Int32) (n : Nat) : ∀ k, (tokR R tp n k).1 0 6 = nI k
  | 0 => setI_get
  | k + 1 => setI_get
theorem tokR_o (R : BC) (tp : Nat → Int32) (n : Nat) {q : Nat} (hq : q ≠ 6) : ∀ k, (tokR R tp n k).1 0 q = R.1 0 q
  | 0 => setI_ne (by omega)
  | k + 1 => by
    show (addT (tokR R tp n k) k _ _ _).1 0 q = _
    unfold addT
    rw [setI_ne (by omega), setI_ne (by omega), setI_ne (by omega), setI_ne (by omega)]
    exact tokR_o R tp n hq k
theorem sgK_2 {ch nx : Int32} (h : sgK ch nx = 31 ∨ sgK ch nx = 33 ∨ sgK ch nx = 34) : nx = 61 ∨ nx = 62 := by
  unfold sgK at h
  by_cases h61 : nx = 61
  · exact Or.inl h61
  by_cases h62 : nx = 62
  · exact Or.inr h62
  exfalso
  simp only [h61, h62, if_false] at h
  repeat' split at h
  all_goals exact absurd h (by decide)
theorem enC_gt {tp : Nat → Int32} {n p : Nat} (hp : p < n) : p < enC tp n p ∧ enC tp n p ≤ n := by
  unfold enC
  split
  · rename_i h
    have : sp isLt tp n p = sp isLt tp n (p + 1) := by rw [sp_eq isLt tp n p, if_pos ⟨hp, h⟩]
    have h1 := sp_ge isLt tp n (p + 1)
    exact ⟨by omega, sp_le isLt tp n p (by omega)⟩
  · split
    · rename_i h
      have : sp isDg tp n p = sp isDg tp n (p + 1) := by rw [sp_eq isDg tp n p, if_pos ⟨hp, h⟩]
      have h1 := sp_ge isDg tp n (p + 1)
      exact ⟨by omega, sp_le isDg tp n p (by omega)⟩
    · have hnx : ¬ p + 1 < n → ¬ ((if p + 1 < n then tp (p + 1) else 0) = 61 ∨ (if p + 1 < n then tp (p + 1) else 0) = 62) := by
        intro h1 h2
        rw [if_neg h1] at h2
        rcases h2 with h2 | h2 <;> exact absurd h2 (by decide)
      generalize (if p + 1 < n then tp (p + 1) else 0) = nx at hnx ⊢
      split
      · rename_i h
        have h2 := sgK_2 h
        by_cases h1 : p + 1 < n
        · exact ⟨by omega, by omega⟩
        · exact absurd h2 (hnx h1)
      · exact ⟨by omega, by omega⟩
theorem sp_blank {p : Int32 → Bool} {tx : Nat → Int32} {n i j : Nat} (h1 : i ≤ j) (h2 : ∀ q, i ≤ q → q < j → q < n ∧ p (tx q) = true) : sp p tx n i = sp p tx n j := by
  induction h1 with
  | refl => rfl
  | step hm ih =>
    rename_i m
    rw [ih (fun q a b => h2 q a (by omega)), sp_eq p tx n m, if_pos (h2 m hm (by omega))]
section CTok4
variable {a y : Nat} {rest : HP} {z : Nat × Nat} {R : BC} {tp : Nat → Int32} {n : Nat}
theorem lq_splitTape (hT : TP a y rest z tp) (hn : R.1 0 2 = nI n) (h9 : n ≤ 900) : ∀ (l j k : Nat), j + l = n → k ≤ j → posC tp n k ≤ n → (∀ q, posC tp n k ≤ q → q < j → isB (tp q) = true) → ∃ (K : Nat) (u v : Int32), sLoop l_X7_splitTape_0 [.ref y, .ref a, .int (nI (posC tp n k)), .int (nI j)] (rs y rest z (tokR R tp n k)) = some (.inl 1, [.ref y, .ref a, .int u, .int v], rs y rest z (tokR R tp n K)) ∧ k ≤ K ∧ K ≤ n ∧ posC tp n K ≤ n ∧ sp isB tp n (posC tp n K) = n ∧ ∀ q, k ≤ q → q < K → sp isB tp n (posC tp n q) < n := by
  have hn2 : ∀ k, (tokR R tp n k).1 0 2 = nI n := fun k => (tokR_o R tp n (by decide) k).trans hn
  intro l
  induction l with
  | zero =>
    intro j k hj hk hE hb
    refine ⟨k, nI (posC tp n k), nI j, ?_, Nat.le_refl _, by omega, hE, ?_, fun q h1 h2 => by omega⟩
    · refine loop_br ?_
      unfold l_X7_splitTape_0
      simp only [eK, eI, eA, eL, eU, eB, c1, c2, cT, cF, evL, eC, sStI, sStA, sStL, sInc, sP2, sP3, sUF, sUA, sC, sCp, sRI, sRZ, sRL, sRA, sR0, sNop, sBr, sSw, sSeq_t, sBlk_t, sBrIf_t, eT_t, cIf_t, thn_0, thn_1, thn_2, thn_3, thn_4, thn_5, thn_r, thn_n, thn_ite, dn_0, dn_1, dn_2, dn_3, dn_4, dn_5, thn_6, dn_6, thn_7, dn_7, thn_8, dn_8, thn_9, dn_9, thn_10, dn_10, thn_11, dn_11, thn_12, dn_12, thn_13, dn_13, thn_14, dn_14, thn_15, dn_15, thn_16, dn_16, thn_17, dn_17, dn_r, dn_n, dn_ite, fin_r, fin_ite, bind_ite', map_ite', Option.bind_some, Option.bind_none, Option.map_some, Option.map_none, List.getElem?_cons_zero, List.getElem?_cons_succ, sto1, sto2, clr, List.set_cons_zero, List.set_cons_succ, q_eq, q_ne, q_lt, q_ge, q_gt, q_le, z_eq, z_ne, z_lt, z_ge, z_gt, z_le, z_null, z_nonnull, o_iadd, o_isub, o_imul, o_iand, o_ior, o_ixor, o_ishl, o_ishr, o_ladd, o_lsub, o_lmul, o_land, o_lor, o_iushr, o_lushr, o_lshl, o_lcmp, o_idiv, o_irem, o_ldiv, o_ineg, o_lneg, o_i2l, o_l2i, o_i2b, o_imax, o_imin, o_iabs, o_labs, decide_eq_true_eq, Nat.sub_self, Nat.add_one_sub_one, Nat.reduceSub, ite_true, ite_false, if_true, if_false, Bool.false_eq_true, eq_self, true_or, or_true, false_or, or_false, and_true, true_and, false_and, and_false, not_true_eq_false, not_false_eq_true, ite_self, ne_eq, Classical.not_not, reduceCtorEq, Bool.not_true, Bool.not_false, rg_fault, rp_fault, rg_faultPlace, rp_faultPlace, rg_length, rp_length, rg_kinds, rg_starts, rg_values, rg_tokens, rp_tokens, rg_token, rp_token, rg_kind, rp_kind, rg_value, rp_value, rg_got, rp_got, rg_plan, rp_plan, rg_waiting, rg_waitings, rp_waitings, rg_open, rp_open, rV_reader, rl_kinds, rt_kinds, rn_kinds, rl_starts, rt_starts, rn_starts, rl_values, rt_values, rn_values, rl_waiting, rt_waiting, rn_waiting, hn2, nI_le' (show n < 2 ^ 31 by omega) (show j < 2 ^ 31 by omega), show (n ≤ j) = True from eq_true (by omega)]
    · rw [sp_blank hE (fun q h1 h2 => ⟨h2, hb q h1 (by omega)⟩), sp_eq, if_neg (by omega)]
  | succ l ih =>
    intro j k hj hk hE hb
    have h5 : nI j + Int32.ofInt 1 = nI (j + 1) := nI_1 j
    have hlt : (nI j < nI (posC tp n k)) = (j < posC tp n k) := nI_lt' (by omega) (by omega)
    have hTj := fun R => hT.at (show j < 900 by omega) R
    by_cases h1 : j < posC tp n k
    · have hstep : l_X7_splitTape_0 [.ref y, .ref a, .int (nI (posC tp n k)), .int (nI j)] (rs y rest z (tokR R tp n k)) = some (.inl 0, [.ref y, .ref a, .int (nI (posC tp n k)), .int (nI (j + 1))], rs y rest z (tokR R tp n k)) := by
        unfold l_X7_splitTape_0
        simp only [eK, eI, eA, eL, eU, eB, c1, c2, cT, cF, evL, eC, sStI, sStA, sStL, sInc, sP2, sP3, sUF, sUA, sC, sCp, sRI, sRZ, sRL, sRA, sR0, sNop, sBr, sSw, sSeq_t, sBlk_t, sBrIf_t, eT_t, cIf_t, thn_0, thn_1, thn_2, thn_3, thn_4, thn_5, thn_r, thn_n, thn_ite, dn_0, dn_1, dn_2, dn_3, dn_4, dn_5, thn_6, dn_6, thn_7, dn_7, thn_8, dn_8, thn_9, dn_9, thn_10, dn_10, thn_11, dn_11, thn_12, dn_12, thn_13, dn_13, thn_14, dn_14, thn_15, dn_15, thn_16, dn_16, thn_17, dn_17, dn_r, dn_n, dn_ite, fin_r, fin_ite, bind_ite', map_ite', Option.bind_some, Option.bind_none, Option.map_some, Option.map_none, List.getElem?_cons_zero, List.getElem?_cons_succ, sto1, sto2, clr, List.set_cons_zero, List.set_cons_succ, q_eq, q_ne, q_lt, q_ge, q_gt, q_le, z_eq, z_ne, z_lt, z_ge, z_gt, z_le, z_null, z_nonnull, o_iadd, o_isub, o_imul, o_iand, o_ior, o_ixor, o_ishl, o_ishr, o_ladd, o_lsub, o_lmul, o_land, o_lor, o_iushr, o_lushr, o_lshl, o_lcmp, o_idiv, o_irem, o_ldiv, o_ineg, o_lneg, o_i2l, o_l2i, o_i2b, o_imax, o_imin, o_iabs, o_labs, decide_eq_true_eq, Nat.sub_self, Nat.add_one_sub_one, Nat.reduceSub, ite_true, ite_false, if_true, if_false, Bool.false_eq_true, eq_self, true_or, or_true, false_or, or_false, and_true, true_and, false_and, and_false, not_true_eq_false, not_false_eq_true, ite_self, ne_eq, Classical.not_not, reduceCtorEq, Bool.not_true, Bool.not_false, rg_fault, rp_fault, rg_faultPlace, rp_faultPlace, rg_length, rp_length, rg_kinds, rg_starts, rg_values, rg_tokens, rp_tokens, rg_token, rp_token, rg_kind, rp_kind, rg_value, rp_value, rg_got, rp_got, rg_plan, rp_plan, rg_waiting, rg_waitings, rp_waitings, rg_open, rp_open, rV_reader, rl_kinds, rt_kinds, rn_kinds, rl_starts, rt_starts, rn_starts, rl_values, rt_values, rn_values, rl_waiting, rt_waiting, rn_waiting, hn2, nI_le' (show n < 2 ^ 31 by omega) (show j < 2 ^ 31 by omega), show (n ≤ j) = False from eq_false (by omega), hlt, h1, h5]
      obtain ⟨K, u, v, g1, g2⟩ := ih (j + 1) k (by omega) (by omega) hE (fun q q1 q2 => by omega)
      exact ⟨K, u, v, by rw [loop_go hstep]; exact g1, g2⟩
    · by_cases h2 : isB (tp j) = true
      · have hstep : l_X7_splitTape_0 [.ref y, .ref a, .int (nI (posC tp n k)), .int (nI j)] (rs y rest z (tokR R tp n k)) = some (.inl 0, [.ref y, .ref a, .int (nI (posC tp n k)), .int (nI (j + 1))], rs y rest z (tokR R tp n k)) := by
          unfold l_X7_splitTape_0
          have h2' := of_decide_eq_true h2
          by_cases hA : tp j = 10
          · simp only [eK, eI, eA, eL, eU, eB, c1, c2, cT, cF, evL, eC, sStI, sStA, sStL, sInc, sP2, sP3, sUF, sUA, sC, sCp, sRI, sRZ, sRL, sRA, sR0, sNop, sBr, sSw, sSeq_t, sBlk_t, sBrIf_t, eT_t, cIf_t, thn_0, thn_1, thn_2, thn_3, thn_4, thn_5, thn_r, thn_n, thn_ite, dn_0, dn_1, dn_2, dn_3, dn_4, dn_5, thn_6, dn_6, thn_7, dn_7, thn_8, dn_8, thn_9, dn_9, thn_10, dn_10, thn_11, dn_11, thn_12, dn_12, thn_13, dn_13, thn_14, dn_14, thn_15, dn_15, thn_16, dn_16, thn_17, dn_17, dn_r, dn_n, dn_ite, fin_r, fin_ite, bind_ite', map_ite', Option.bind_some, Option.bind_none, Option.map_some, Option.map_none, List.getElem?_cons_zero, List.getElem?_cons_succ, sto1, sto2, clr, List.set_cons_zero, List.set_cons_succ, q_eq, q_ne, q_lt, q_ge, q_gt, q_le, z_eq, z_ne, z_lt, z_ge, z_gt, z_le, z_null, z_nonnull, o_iadd, o_isub, o_imul, o_iand, o_ior, o_ixor, o_ishl, o_ishr, o_ladd, o_lsub, o_lmul, o_land, o_lor, o_iushr, o_lushr, o_lshl, o_lcmp, o_idiv, o_irem, o_ldiv, o_ineg, o_lneg, o_i2l, o_l2i, o_i2b, o_imax, o_imin, o_iabs, o_labs, decide_eq_true_eq, Nat.sub_self, Nat.add_one_sub_one, Nat.reduceSub, ite_true, ite_false, if_true, if_false, Bool.false_eq_true, eq_self, true_or, or_true, false_or, or_false, and_true, true_and, false_and, and_false, not_true_eq_false, not_false_eq_true, ite_self, ne_eq, Classical.not_not, reduceCtorEq, Bool.not_true, Bool.not_false, rg_fault, rp_fault, rg_faultPlace, rp_faultPlace, rg_length, rp_length, rg_kinds, rg_starts, rg_values, rg_tokens, rp_tokens, rg_token, rp_token, rg_kind, rp_kind, rg_value, rp_value, rg_got, rp_got, rg_plan, rp_plan, rg_waiting, rg_waitings, rp_waitings, rg_open, rp_open, rV_reader, rl_kinds, rt_kinds, rn_kinds, rl_starts, rt_starts, rn_starts, rl_values, rt_values, rn_values, rl_waiting, rt_waiting, rn_waiting, hn2, nI_le' (show n < 2 ^ 31 by omega) (show j < 2 ^ 31 by omega), show (n ≤ j) = False from eq_false (by omega), hlt, h1, h5, hTj, hA]
          · have hB : tp j = 32 := h2'.resolve_left hA
            simp only [eK, eI, eA, eL, eU, eB, c1, c2, cT, cF, evL, eC, sStI, sStA, sStL, sInc, sP2, sP3, sUF, sUA, sC, sCp, sRI, sRZ, sRL, sRA, sR0, sNop, sBr, sSw, sSeq_t, sBlk_t, sBrIf_t, eT_t, cIf_t, thn_0, thn_1, thn_2, thn_3, thn_4, thn_5, thn_r, thn_n, thn_ite, dn_0, dn_1, dn_2, dn_3, dn_4, dn_5, thn_6, dn_6, thn_7, dn_7, thn_8, dn_8, thn_9, dn_9, thn_10, dn_10, thn_11, dn_11, thn_12, dn_12, thn_13, dn_13, thn_14, dn_14, thn_15, dn_15, thn_16, dn_16, thn_17, dn_17, dn_r, dn_n, dn_ite, fin_r, fin_ite, bind_ite', map_ite', Option.bind_some, Option.bind_none, Option.map_some, Option.map_none, List.getElem?_cons_zero, List.getElem?_cons_succ, sto1, sto2, clr, List.set_cons_zero, List.set_cons_succ, q_eq, q_ne, q_lt, q_ge, q_gt, q_le, z_eq, z_ne, z_lt, z_ge, z_gt, z_le, z_null, z_nonnull, o_iadd, o_isub, o_imul, o_iand, o_ior, o_ixor, o_ishl, o_ishr, o_ladd, o_lsub, o_lmul, o_land, o_lor, o_iushr, o_lushr, o_lshl, o_lcmp, o_idiv, o_irem, o_ldiv, o_ineg, o_lneg, o_i2l, o_l2i, o_i2b, o_imax, o_imin, o_iabs, o_labs, decide_eq_true_eq, Nat.sub_self, Nat.add_one_sub_one, Nat.reduceSub, ite_true, ite_false, if_true, if_false, Bool.false_eq_true, eq_self, true_or, or_true, false_or, or_false, and_true, true_and, false_and, and_false, not_true_eq_false, not_false_eq_true, ite_self, ne_eq, Classical.not_not, reduceCtorEq, Bool.not_true, Bool.not_false, rg_fault, rp_fault, rg_faultPlace, rp_faultPlace, rg_length, rp_length, rg_kinds, rg_starts, rg_values, rg_tokens, rp_tokens, rg_token, rp_token, rg_kind, rp_kind, rg_value, rp_value, rg_got, rp_got, rg_plan, rp_plan, rg_waiting, rg_waitings, rp_waitings, rg_open, rp_open, rV_reader, rl_kinds, rt_kinds, rn_kinds, rl_starts, rt_starts, rn_starts, rl_values, rt_values, rn_values, rl_waiting, rt_waiting, rn_waiting, hn2, nI_le' (show n < 2 ^ 31 by omega) (show j < 2 ^ 31 by omega), show (n ≤ j) = False from eq_false (by omega), hlt, h1, h5, hTj, hB, show ((32 : Int32) = 10) = False by decide]
        obtain ⟨K, u, v, g1, g2⟩ := ih (j + 1) k (by omega) (by omega) hE (fun q q1 q2 => by
          by_cases e : q = j
          · rw [e]; exact h2
          · exact hb q q1 (by omega))
        exact ⟨K, u, v, by rw [loop_go hstep]; exact g1, g2⟩
      · have hp : sp isB tp n (posC tp n k) = j := by
          rw [sp_blank (show posC tp n k ≤ j by omega) (fun q q1 q2 => ⟨by omega, hb q q1 q2⟩), sp_eq, if_neg (fun q => h2 q.2)]
        have hE1 : posC tp n (k + 1) = enC tp n j := by
          show enC tp n (sp isB tp n (posC tp n k)) = _
          rw [hp]
        have hR1 : tokR R tp n (k + 1) = addT (tokR R tp n k) k (kdC tp n j) (nI j) (vaC tp n j) := by
          show addT (tokR R tp n k) k (kdC tp n (sp isB tp n (posC tp n k))) (nI (sp isB tp n (posC tp n k))) (vaC tp n (sp isB tp n (posC tp n k))) = _
          rw [hp]
        obtain ⟨hg1, hg2⟩ := enC_gt (tp := tp) (show j < n by omega)
        have hnB : ¬ (tp j = 10 ∨ tp j = 32) := fun q => h2 (decide_eq_true q)
        have hA : ¬ tp j = 10 := fun q => hnB (Or.inl q)
        have hB : ¬ tp j = 32 := fun q => hnB (Or.inr q)
        have hstep : l_X7_splitTape_0 [.ref y, .ref a, .int (nI (posC tp n k)), .int (nI j)] (rs y rest z (tokR R tp n k)) = some (.inl 0, [.ref y, .ref a, .int (nI (posC tp n (k + 1))), .int (nI (j + 1))], rs y rest z (tokR R tp n (k + 1))) := by
          rw [hE1, hR1]
          unfold l_X7_splitTape_0 enC kdC vaC
          by_cases hL : isLt (tp j) = true
          · simp only [eK, eI, eA, eL, eU, eB, c1, c2, cT, cF, evL, eC, sStI, sStA, sStL, sInc, sP2, sP3, sUF, sUA, sC, sCp, sRI, sRZ, sRL, sRA, sR0, sNop, sBr, sSw, sSeq_t, sBlk_t, sBrIf_t, eT_t, cIf_t, thn_0, thn_1, thn_2, thn_3, thn_4, thn_5, thn_r, thn_n, thn_ite, dn_0, dn_1, dn_2, dn_3, dn_4, dn_5, thn_6, dn_6, thn_7, dn_7, thn_8, dn_8, thn_9, dn_9, thn_10, dn_10, thn_11, dn_11, thn_12, dn_12, thn_13, dn_13, thn_14, dn_14, thn_15, dn_15, thn_16, dn_16, thn_17, dn_17, dn_r, dn_n, dn_ite, fin_r, fin_ite, bind_ite', map_ite', Option.bind_some, Option.bind_none, Option.map_some, Option.map_none, List.getElem?_cons_zero, List.getElem?_cons_succ, sto1, sto2, clr, List.set_cons_zero, List.set_cons_succ, q_eq, q_ne, q_lt, q_ge, q_gt, q_le, z_eq, z_ne, z_lt, z_ge, z_gt, z_le, z_null, z_nonnull, o_iadd, o_isub, o_imul, o_iand, o_ior, o_ixor, o_ishl, o_ishr, o_ladd, o_lsub, o_lmul, o_land, o_lor, o_iushr, o_lushr, o_lshl, o_lcmp, o_idiv, o_irem, o_ldiv, o_ineg, o_lneg, o_i2l, o_l2i, o_i2b, o_imax, o_imin, o_iabs, o_labs, decide_eq_true_eq, Nat.sub_self, Nat.add_one_sub_one, Nat.reduceSub, ite_true, ite_false, if_true, if_false, Bool.false_eq_true, eq_self, true_or, or_true, false_or, or_false, and_true, true_and, false_and, and_false, not_true_eq_false, not_false_eq_true, ite_self, ne_eq, Classical.not_not, reduceCtorEq, Bool.not_true, Bool.not_false, rg_fault, rp_fault, rg_faultPlace, rp_faultPlace, rg_length, rp_length, rg_kinds, rg_starts, rg_values, rg_tokens, rp_tokens, rg_token, rp_token, rg_kind, rp_kind, rg_value, rp_value, rg_got, rp_got, rg_plan, rp_plan, rg_waiting, rg_waitings, rp_waitings, rg_open, rp_open, rV_reader, rl_kinds, rt_kinds, rn_kinds, rl_starts, rt_starts, rn_starts, rl_values, rt_values, rn_values, rl_waiting, rt_waiting, rn_waiting, hn2, nI_le' (show n < 2 ^ 31 by omega) (show j < 2 ^ 31 by omega), show (n ≤ j) = False from eq_false (by omega), hlt, h1, h5, hTj, hA, hB, cc_isLetter, hL, show ((1 : Int32) = 0) = False by decide, cc_splitWord hT (hn2 k) h9 (tokR_6 R tp n k) (show k ≤ 900 by omega) (show j ≤ n by omega)]
          · by_cases hD : isDg (tp j) = true
            · simp only [eK, eI, eA, eL, eU, eB, c1, c2, cT, cF, evL, eC, sStI, sStA, sStL, sInc, sP2, sP3, sUF, sUA, sC, sCp, sRI, sRZ, sRL, sRA, sR0, sNop, sBr, sSw, sSeq_t, sBlk_t, sBrIf_t, eT_t, cIf_t, thn_0, thn_1, thn_2, thn_3, thn_4, thn_5, thn_r, thn_n, thn_ite, dn_0, dn_1, dn_2, dn_3, dn_4, dn_5, thn_6, dn_6, thn_7, dn_7, thn_8, dn_8, thn_9, dn_9, thn_10, dn_10, thn_11, dn_11, thn_12, dn_12, thn_13, dn_13, thn_14, dn_14, thn_15, dn_15, thn_16, dn_16, thn_17, dn_17, dn_r, dn_n, dn_ite, fin_r, fin_ite, bind_ite', map_ite', Option.bind_some, Option.bind_none, Option.map_some, Option.map_none, List.getElem?_cons_zero, List.getElem?_cons_succ, sto1, sto2, clr, List.set_cons_zero, List.set_cons_succ, q_eq, q_ne, q_lt, q_ge, q_gt, q_le, z_eq, z_ne, z_lt, z_ge, z_gt, z_le, z_null, z_nonnull, o_iadd, o_isub, o_imul, o_iand, o_ior, o_ixor, o_ishl, o_ishr, o_ladd, o_lsub, o_lmul, o_land, o_lor, o_iushr, o_lushr, o_lshl, o_lcmp, o_idiv, o_irem, o_ldiv, o_ineg, o_lneg, o_i2l, o_l2i, o_i2b, o_imax, o_imin, o_iabs, o_labs, decide_eq_true_eq, Nat.sub_self, Nat.add_one_sub_one, Nat.reduceSub, ite_true, ite_false, if_true, if_false, Bool.false_eq_true, eq_self, true_or, or_true, false_or, or_false, and_true, true_and, false_and, and_false, not_true_eq_false, not_false_eq_true, ite_self, ne_eq, Classical.not_not, reduceCtorEq, Bool.not_true, Bool.not_false, rg_fault, rp_fault, rg_faultPlace, rp_faultPlace, rg_length, rp_length, rg_kinds, rg_starts, rg_values, rg_tokens, rp_tokens, rg_token, rp_token, rg_kind, rp_kind, rg_value, rp_value, rg_got, rp_got, rg_plan, rp_plan, rg_waiting, rg_waitings, rp_waitings, rg_open, rp_open, rV_reader, rl_kinds, rt_kinds, rn_kinds, rl_starts, rt_starts, rn_starts, rl_values, rt_values, rn_values, rl_waiting, rt_waiting, rn_waiting, hn2, nI_le' (show n < 2 ^ 31 by omega) (show j < 2 ^ 31 by omega), show (n ≤ j) = False from eq_false (by omega), hlt, h1, h5, hTj, hA, hB, cc_isLetter, hL, cc_isDigit, hD, show ((1 : Int32) = 0) = False by decide, cc_splitNumber hT (hn2 k) h9 (tokR_6 R tp n k) (show k ≤ 900 by omega) (show j ≤ n by omega)]
            · simp only [eK, eI, eA, eL, eU, eB, c1, c2, cT, cF, evL, eC, sStI, sStA, sStL, sInc, sP2, sP3, sUF, sUA, sC, sCp, sRI, sRZ, sRL, sRA, sR0, sNop, sBr, sSw, sSeq_t, sBlk_t, sBrIf_t, eT_t, cIf_t, thn_0, thn_1, thn_2, thn_3, thn_4, thn_5, thn_r, thn_n, thn_ite, dn_0, dn_1, dn_2, dn_3, dn_4, dn_5, thn_6, dn_6, thn_7, dn_7, thn_8, dn_8, thn_9, dn_9, thn_10, dn_10, thn_11, dn_11, thn_12, dn_12, thn_13, dn_13, thn_14, dn_14, thn_15, dn_15, thn_16, dn_16, thn_17, dn_17, dn_r, dn_n, dn_ite, fin_r, fin_ite, bind_ite', map_ite', Option.bind_some, Option.bind_none, Option.map_some, Option.map_none, List.getElem?_cons_zero, List.getElem?_cons_succ, sto1, sto2, clr, List.set_cons_zero, List.set_cons_succ, q_eq, q_ne, q_lt, q_ge, q_gt, q_le, z_eq, z_ne, z_lt, z_ge, z_gt, z_le, z_null, z_nonnull, o_iadd, o_isub, o_imul, o_iand, o_ior, o_ixor, o_ishl, o_ishr, o_ladd, o_lsub, o_lmul, o_land, o_lor, o_iushr, o_lushr, o_lshl, o_lcmp, o_idiv, o_irem, o_ldiv, o_ineg, o_lneg, o_i2l, o_l2i, o_i2b, o_imax, o_imin, o_iabs, o_labs, decide_eq_true_eq, Nat.sub_self, Nat.add_one_sub_one, Nat.reduceSub, ite_true, ite_false, if_true, if_false, Bool.false_eq_true, eq_self, true_or, or_true, false_or, or_false, and_true, true_and, false_and, and_false, not_true_eq_false, not_false_eq_true, ite_self, ne_eq, Classical.not_not, reduceCtorEq, Bool.not_true, Bool.not_false, rg_fault, rp_fault, rg_faultPlace, rp_faultPlace, rg_length, rp_length, rg_kinds, rg_starts, rg_values, rg_tokens, rp_tokens, rg_token, rp_token, rg_kind, rp_kind, rg_value, rp_value, rg_got, rp_got, rg_plan, rp_plan, rg_waiting, rg_waitings, rp_waitings, rg_open, rp_open, rV_reader, rl_kinds, rt_kinds, rn_kinds, rl_starts, rt_starts, rn_starts, rl_values, rt_values, rn_values, rl_waiting, rt_waiting, rn_waiting, hn2, nI_le' (show n < 2 ^ 31 by omega) (show j < 2 ^ 31 by omega), show (n ≤ j) = False from eq_false (by omega), hlt, h1, h5, hTj, hA, hB, cc_isLetter, hL, cc_isDigit, hD, cc_splitSign hT (hn2 k) h9 (tokR_6 R tp n k) (show k ≤ 900 by omega) (show j < n by omega)]
        obtain ⟨K, u, v, g1, g2, g3, g4, g5, g6⟩ := ih (j + 1) (k + 1) (by omega) (by omega) (by rw [hE1]; exact hg2) (fun q q1 q2 => by rw [hE1] at q1; omega)
        refine ⟨K, u, v, by rw [loop_go hstep]; exact g1, by omega, g3, g4, g5, fun q q1 q2 => ?_⟩
        by_cases e : q = k
        · rw [e, hp]; omega
        · exact g6 q (by omega) q2
theorem cc_splitTape (hT : TP a y rest z tp) (hn : R.1 0 2 = nI n) (h9 : n ≤ 900) : ∃ K, m_X7_splitTape [.ref y, .ref a] (rs y rest z R) = some (none, rs y rest z (addT (tokR R tp n K) K 41 (nI n) 0)) ∧ K ≤ n ∧ sp isB tp n (posC tp n K) = n ∧ ∀ q, q < K → sp isB tp n (posC tp n q) < n := by
  obtain ⟨K, u, v, g1, g2, g3, g4, g5, g6⟩ := lq_splitTape (R := R) hT hn h9 n 0 0 (by omega) (Nat.le_refl _) (Nat.zero_le _) (fun q q1 q2 => by omega)
  have hn2 : (tokR R tp n K).1 0 2 = nI n := (tokR_o R tp n (by decide) K).trans hn
  refine ⟨K, ?_, g3, g5, fun q hq => g6 q (Nat.zero_le _) hq⟩
  rw [e_X7_splitTape]
  unfold b_X7_splitTape
  have g1' : sLoop l_X7_splitTape_0 [.ref y, .ref a, .int 0, .int 0] (rs y rest z (setI R 0 6 0)) = some (.inl 1, [.ref y, .ref a, .int u, .int v], rs y rest z (tokR R tp n K)) := g1
  simp only [eK, eI, eA, eL, eU, eB, c1, c2, cT, cF, evL, eC, sStI, sStA, sStL, sInc, sP2, sP3, sUF, sUA, sC, sCp, sRI, sRZ, sRL, sRA, sR0, sNop, sBr, sSw, sSeq_t, sBlk_t, sBrIf_t, eT_t, cIf_t, thn_0, thn_1, thn_2, thn_3, thn_4, thn_5, thn_r, thn_n, thn_ite, dn_0, dn_1, dn_2, dn_3, dn_4, dn_5, thn_6, dn_6, thn_7, dn_7, thn_8, dn_8, thn_9, dn_9, thn_10, dn_10, thn_11, dn_11, thn_12, dn_12, thn_13, dn_13, thn_14, dn_14, thn_15, dn_15, thn_16, dn_16, thn_17, dn_17, dn_r, dn_n, dn_ite, fin_r, fin_ite, bind_ite', map_ite', Option.bind_some, Option.bind_none, Option.map_some, Option.map_none, List.getElem?_cons_zero, List.getElem?_cons_succ, sto1, sto2, clr, List.set_cons_zero, List.set_cons_succ, q_eq, q_ne, q_lt, q_ge, q_gt, q_le, z_eq, z_ne, z_lt, z_ge, z_gt, z_le, z_null, z_nonnull, o_iadd, o_isub, o_imul, o_iand, o_ior, o_ixor, o_ishl, o_ishr, o_ladd, o_lsub, o_lmul, o_land, o_lor, o_iushr, o_lushr, o_lshl, o_lcmp, o_idiv, o_irem, o_ldiv, o_ineg, o_lneg, o_i2l, o_l2i, o_i2b, o_imax, o_imin, o_iabs, o_labs, decide_eq_true_eq, Nat.sub_self, Nat.add_one_sub_one, Nat.reduceSub, ite_true, ite_false, if_true, if_false, Bool.false_eq_true, eq_self, true_or, or_true, false_or, or_false, and_true, true_and, false_and, and_false, not_true_eq_false, not_false_eq_true, ite_self, ne_eq, Classical.not_not, reduceCtorEq, Bool.not_true, Bool.not_false, rg_fault, rp_fault, rg_faultPlace, rp_faultPlace, rg_length, rp_length, rg_kinds, rg_starts, rg_values, rg_tokens, rp_tokens, rg_token, rp_token, rg_kind, rp_kind, rg_value, rp_value, rg_got, rp_got, rg_plan, rp_plan, rg_waiting, rg_waitings, rp_waitings, rg_open, rp_open, rV_reader, rl_kinds, rt_kinds, rn_kinds, rl_starts, rt_starts, rn_starts, rl_values, rt_values, rn_values, rl_waiting, rt_waiting, rn_waiting, g1', hn2, cc_addToken (tokR_6 R tp n K) (show K ≤ 900 by omega)]
end CTok4
