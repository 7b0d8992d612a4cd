/-! ===== a new plan: the rows of objects ===== -/
section Rw
variable {z kf sl n N q ci nL w : Nat} {h : HP} {V V0 : Nat → Value} {ss : List CS} {f : XF} {C : String} {T0 : List MC}
def rwC (C : String) (n a w i : Nat) : MC := .inl (.object C, n, .inr (.inr (.inr (.inr (rwF a w i)))))
def rwB (kf ci N : Nat) (C : String) (V0 : Nat → Value) (f : XF) (n : Int32) : XS := sSeq (sSeq (sBrIf (c2 q_ge (eI 1) (eK (.int n))) 1) (sSeq (sP3 (asR ci C) (eU (gF 6 kf) (eA 0)) (eI 1) (eNew ci N V0 f [])) (sInc 1 1))) sNop
theorem rw_it {i : Nat} (hf : f = mth nL (sSeq sOI (prC ci ss sR0))) (n1 : Nat.ble 1 nL = true) (ok : ss.all okC = true) (hw : ∀ a, (blk ci ss V0 a).length = w) (hq : q < T0.length) (hV : V kf = .ref (z + (q + 1))) (hi : i < n) (hn : n < 2 ^ 31) : rwB kf ci N C V0 f (nI n) [.ref z, .int (nI i)] (plS z V (T0.set q (rwC C n (z + (T0.length + 1)) w i) ++ bls ci ss V0 (z + (T0.length + 1)) w i) h sl) = some (.inl 0, [.ref z, .int (nI (i + 1))], plS z V (T0.set q (rwC C n (z + (T0.length + 1)) w (i + 1)) ++ bls ci ss V0 (z + (T0.length + 1)) w (i + 1)) h (sl + N + slC ss)) := by
  generalize htl : T0.set q (rwC C n (z + (T0.length + 1)) w i) ++ bls ci ss V0 (z + (T0.length + 1)) w i = tl
  have ltl : tl.length = T0.length + w * i := by rw [← htl, List.length_append, List.length_set, bls_len hw]
  have atq : tl[q]? = some (rwC C n (z + (T0.length + 1)) w i) := by rw [← htl, List.getElem?_append_left (by rw [List.length_set]; exact hq), List.getElem?_set_self hq]
  have st : sP3 (asR ci C) (eU (gF 6 kf) (eA 0)) (eI 1) (eNew ci N V0 f []) [.ref z, .int (nI i)] (plS z V tl h sl) = some (.inl 0, [.ref z, .int (nI i)], plS z V ((tl ++ blk ci ss V0 (z + (tl.length + 1))).set q (rwC C n (z + (T0.length + 1)) w (i + 1))) h (sl + N + slC ss)) := by
    have e1 : eU (gF 6 kf) (eA 0) [.ref z, .int (nI i)] (plS z V tl h sl) = some (.ref (z + (q + 1)), plS z V tl h sl) := by
      unfold eU eA
      dsimp only [List.getElem?_cons_zero, Option.bind_some]
      rw [show gF 6 kf (.ref z) (plS z V tl h sl) = some (V kf) from la_gF (z := z) (i := 0) rfl, hV]
      rfl
    have e2 : ∀ s : ST, eI 1 [.ref z, .int (nI i)] s = some (.int (nI i), s) := fun _ => rfl
    have e3 : eNew ci N V0 f [] [.ref z, .int (nI i)] (plS z V tl h sl) = some (.ref (z + (tl.length + 1)), plS z V (tl ++ blk ci ss V0 (z + (tl.length + 1))) h (sl + N + slC ss)) := la_new (cs := .inr (6, V) :: tl) hf n1 ok
    unfold sP3
    rw [e1, Option.bind_some]
    dsimp only
    rw [e2, Option.bind_some]
    dsimp only
    rw [e3, Option.bind_some]
    dsimp only
    have ad : z + (tl.length + 1) = z + (T0.length + 1) + w * i := by omega
    have lj : (Sum.inr (6, V) :: (tl ++ blk ci ss V0 (z + (tl.length + 1))))[tl.length + 1]? = some (.inr (ci, (rnC ss (z + (tl.length + 1) + 1) V0).1)) := by
      rw [List.getElem?_cons_succ, List.getElem?_append_right (Nat.le_refl _), Nat.sub_self]
      rfl
    have lq : (Sum.inr (6, V) :: (tl ++ blk ci ss V0 (z + (tl.length + 1))))[q + 1]? = some (rwC C n (z + (T0.length + 1)) w i) := by
      rw [List.getElem?_cons_succ, List.getElem?_append_left (by omega)]
      exact atq
    have s := la_asR (z := z) (i := q + 1) (j := tl.length + 1) (h := h) (sl := sl + N + slC ss) lq lj hi hn
    rw [show va_up (rwF (z + (T0.length + 1)) w i) i (some (z + (tl.length + 1))) = rwF (z + (T0.length + 1)) w (i + 1) by rw [ad, rwF_s]] at s
    rw [show asR ci C (.ref (z + (q + 1))) (.int (nI i)) (.ref (z + (tl.length + 1))) (plS z V (tl ++ blk ci ss V0 (z + (tl.length + 1))) h (sl + N + slC ss)) = _ from s]
    rfl
  have cnd : sBrIf (c2 q_ge (eI 1) (eK (.int (nI n)))) 1 [.ref z, .int (nI i)] (plS z V tl h sl) = some (.inl 0, [.ref z, .int (nI i)], plS z V tl h sl) := by
    unfold sBrIf c2 eI eK
    dsimp only [List.getElem?_cons_zero, List.getElem?_cons_succ, Option.bind_some]
    rw [show q_ge (.int (nI i)) (.int (nI n)) = some false from congrArg some (decide_eq_false (by rw [nI_le' hn (by omega)]; omega))]
    rfl
  have nx : (tl ++ blk ci ss V0 (z + (tl.length + 1))).set q (rwC C n (z + (T0.length + 1)) w (i + 1)) = T0.set q (rwC C n (z + (T0.length + 1)) w (i + 1)) ++ bls ci ss V0 (z + (T0.length + 1)) w (i + 1) := by
    have ad : z + (tl.length + 1) = z + (T0.length + 1) + w * i := by omega
    rw [ad, ← htl, List.append_assoc, List.set_append_left _ _ (by rw [List.length_set]; exact hq), List.set_set]
    rfl
  rw [nx] at st
  unfold rwB
  rw [sSeq_t, sSeq_t, cnd, thn_0, sSeq_t, st, thn_0]
  have inc : sInc 1 1 [.ref z, .int (nI i)] (plS z V (T0.set q (rwC C n (z + (T0.length + 1)) w (i + 1)) ++ bls ci ss V0 (z + (T0.length + 1)) w (i + 1)) h (sl + N + slC ss)) = some (.inl 0, [.ref z, .int (nI (i + 1))], plS z V (T0.set q (rwC C n (z + (T0.length + 1)) w (i + 1)) ++ bls ci ss V0 (z + (T0.length + 1)) w (i + 1)) h (sl + N + slC ss)) := by
    unfold sInc
    dsimp only [List.getElem?_cons_zero, List.getElem?_cons_succ]
    rw [of_1, inc_n]
    rfl
  rw [inc, thn_0]
  rfl
theorem rw_lp (hf : f = mth nL (sSeq sOI (prC ci ss sR0))) (n1 : Nat.ble 1 nL = true) (ok : ss.all okC = true) (hw : ∀ a, (blk ci ss V0 a).length = w) (hq : q < T0.length) (hV : V kf = .ref (z + (q + 1))) (hn : n < 2 ^ 31) : ∀ (m i sl : Nat), i + m = n → sBlk (sLoop (rwB kf ci N C V0 f (nI n))) [.ref z, .int (nI i)] (plS z V (T0.set q (rwC C n (z + (T0.length + 1)) w i) ++ bls ci ss V0 (z + (T0.length + 1)) w i) h sl) = some (.inl 0, [.ref z, .int (nI n)], plS z V (T0.set q (rwC C n (z + (T0.length + 1)) w n) ++ bls ci ss V0 (z + (T0.length + 1)) w n) h (sl + m * (N + slC ss)))
  | 0, i, sl, hm => by
    have e : i = n := by omega
    subst e
    have cnd : ∀ s : ST, rwB kf ci N C V0 f (nI i) [.ref z, .int (nI i)] s = some (.inl 1, [.ref z, .int (nI i)], s) := fun s => by
      have c : sBrIf (c2 q_ge (eI 1) (eK (.int (nI i)))) 1 [.ref z, .int (nI i)] s = some (.inl 1, [.ref z, .int (nI i)], s) := by
        unfold sBrIf c2 eI eK
        dsimp only [List.getElem?_cons_zero, List.getElem?_cons_succ, Option.bind_some]
        rw [show q_ge (.int (nI i)) (.int (nI i)) = some true from congrArg some (decide_eq_true (Int32.le_refl _))]
        rfl
      unfold rwB
      rw [sSeq_t, sSeq_t, c]
      rfl
    unfold sBlk
    rw [sLoop_eq, cnd, Nat.zero_mul]
    rfl
  | m + 1, i, sl, hm => by
    have ih := rw_lp hf n1 ok hw hq hV hn m (i + 1) (sl + N + slC ss) (by omega)
    unfold sBlk at ih ⊢
    rw [sLoop_eq, rw_it (sl := sl) hf n1 ok hw hq hV (by omega) hn, Option.bind_some]
    refine Eq.trans ih ?_
    rw [show sl + N + slC ss + m * (N + slC ss) = sl + (m + 1) * (N + slC ss) by rw [Nat.succ_mul]; omega]
end Rw
