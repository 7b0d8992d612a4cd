/-! ===== a heap that grows by a list of cells ===== -/
def laS (z : Nat) (cs : List MC) (h : HP) (sl : Nat) : ST := (laC z cs h, z + cs.length, sl)
section La
variable {z i j k ci n N sl : Nat} {cs : List MC} {h : HP} {c : MC} {V : Nat → Value}
theorem la_get (hi : i < cs.length) : (laS z cs h sl).1 (z + i) = cs[i]? := by
  show laC z cs h (z + i) = cs[i]?
  unfold laC
  rw [if_pos (by omega), Nat.add_sub_cancel_left]
theorem la_at (hi : cs[i]? = some c) : (laS z cs h sl).1 (z + i) = some c := (la_get (List.getElem?_eq_some_iff.mp hi).1).trans hi
theorem la_alloc : alloc (laS z cs h sl) c n = laS z (cs ++ [c]) h (sl + n) := by
  unfold alloc laS
  have l : (cs ++ [c]).length = cs.length + 1 := by rw [List.length_append]; rfl
  refine Prod.ext (funext fun a => ?_) (by show (z + cs.length + 1, sl + n) = (z + (cs ++ [c]).length, sl + n); rw [l]; rfl)
  show (if a = z + cs.length then some c else laC z cs h a) = laC z (cs ++ [c]) h a
  unfold laC
  rw [l]
  by_cases e : a = z + cs.length
  · rw [if_pos e, if_pos (by omega), e, Nat.add_sub_cancel_left, List.getElem?_append_right (Nat.le_refl _), Nat.sub_self]
    rfl
  · rw [if_neg e]
    by_cases q : z ≤ a ∧ a < z + cs.length
    · rw [if_pos q, if_pos (by omega), List.getElem?_append_left (by omega)]
    · rw [if_neg q, if_neg (by omega)]
theorem la_upd (hi : i < cs.length) : updH (laS z cs h sl) (z + i) c = laS z (cs.set i c) h sl := by
  unfold updH laS
  refine Prod.ext (funext fun a => ?_) (by show (z + cs.length, sl) = (z + (cs.set i c).length, sl); rw [List.length_set])
  show (if a = z + i then some c else laC z cs h a) = laC z (cs.set i c) h a
  unfold laC
  rw [List.length_set]
  by_cases e : a = z + i
  · rw [if_pos e, if_pos (by omega), e, Nat.add_sub_cancel_left, List.getElem?_set_self hi]
  · rw [if_neg e]
    by_cases q : z ≤ a ∧ a < z + cs.length
    · rw [if_pos q, if_pos q, List.getElem?_set_ne (by omega)]
    · rw [if_neg q, if_neg q]
theorem la_pF {ty : FieldType} {v : Value} (hi : cs[i]? = some (.inr (ci, V))) (hv : vfit ty v = true) : pF ci k ty (.ref (z + i)) v (laS z cs h sl) = some (laS z (cs.set i (.inr (ci, updV V k v))) h sl) := by
  unfold pF
  dsimp only
  rw [la_at hi]
  dsimp only
  rw [if_pos ⟨rfl, hv⟩, la_upd (List.getElem?_eq_some_iff.mp hi).1]
theorem la_gF (hi : cs[i]? = some (.inr (ci, V))) : gF ci k (.ref (z + i)) (laS z cs h sl) = some (V k) := by
  unfold gF
  dsimp only
  rw [la_at hi]
  dsimp only
  rw [if_pos rfl]
theorem la_asR {C : String} {f : Nat → Option Nat} {ix : Nat} (hi : cs[i]? = some (.inl (.object C, n, .inr (.inr (.inr (.inr f)))))) (hj : cs[j]? = some (.inr (ci, V))) (hx : ix < n) (hn : n < 2 ^ 31) : asR ci C (.ref (z + i)) (.int (nI ix)) (.ref (z + j)) (laS z cs h sl) = some (laS z (cs.set i (.inl (.object C, n, .inr (.inr (.inr (.inr (va_up f ix (some (z + j)))))))) ) h sl) := by
  unfold asR
  dsimp only
  rw [la_at hi, la_at hj]
  dsimp only
  have e : (nI ix).toNatClampNeg = ix := nI_clamp (by omega)
  rw [if_pos, e, la_upd (List.getElem?_eq_some_iff.mp hi).1]
  refine ⟨⟨rfl, rfl⟩, ?_⟩
  rw [e]
  rintro (y | y)
  · exact absurd (nI_pos' (show ix < 2 ^ 31 by omega)) (Int32.not_le.mpr y)
  · omega
/-- steps of a constructor on an object of the list -/
theorem la_prC {L : List Value} {t : XS} {ss : List CS} (hL : L[0]? = some (.ref (z + i))) (hi : cs[i]? = some (.inr (ci, V))) (ok : ss.all okC = true) : prC ci ss t L (laS z cs h sl) = t L (laS z (cs.set i (.inr (ci, (rnC ss (z + cs.length) V).1)) ++ (rnC ss (z + cs.length) V).2.1) h (sl + (rnC ss (z + cs.length) V).2.2)) := by
  have lt := (List.getElem?_eq_some_iff.mp hi).1
  have run := prC_run (ci := ci) (t := t) hL ss V (laC z cs h) (z + cs.length) sl (by omega) ok
  have e1 : laS z cs h sl = (fun a => if a = z + i then some (.inr (ci, V)) else laC z cs h a, z + cs.length, sl) := by
    unfold laS
    refine Prod.ext (funext fun a => ?_) rfl
    show laC z cs h a = if a = z + i then some (.inr (ci, V)) else laC z cs h a
    by_cases e : a = z + i
    · rw [if_pos e, e]
      exact la_at (sl := sl) hi
    · rw [if_neg e]
  rw [e1, run]
  refine congrArg (t L) ?_
  unfold laS
  have ln : (cs.set i (.inr (ci, (rnC ss (z + cs.length) V).1)) ++ (rnC ss (z + cs.length) V).2.1).length = cs.length + (rnC ss (z + cs.length) V).2.1.length := by rw [List.length_append, List.length_set]
  refine Prod.ext (funext fun a => ?_) (by rw [ln]; show (z + cs.length + _, _) = (z + (cs.length + _), _); rw [Nat.add_assoc])
  dsimp only
  generalize (rnC ss (z + cs.length) V).1 = V' at *
  generalize (rnC ss (z + cs.length) V).2.1 = ns at *
  show (if a = z + i then some (.inr (ci, V')) else laC (z + cs.length) ns (laC z cs h) a) = laC z (cs.set i (.inr (ci, V')) ++ ns) h a
  unfold laC
  rw [ln]
  by_cases e : a = z + i
  · rw [if_pos e, if_pos (by omega), e, Nat.add_sub_cancel_left, List.getElem?_append_left (by rw [List.length_set]; exact lt), List.getElem?_set_self lt]
  · rw [if_neg e]
    by_cases q : z + cs.length ≤ a ∧ a < z + cs.length + ns.length
    · rw [if_pos q, if_pos (by omega), List.getElem?_append_right (by rw [List.length_set]; omega), List.length_set, show a - z - cs.length = a - (z + cs.length) by omega]
    · rw [if_neg q]
      by_cases q2 : z ≤ a ∧ a < z + cs.length
      · rw [if_pos q2, if_pos (by omega), List.getElem?_append_left (by rw [List.length_set]; omega), List.getElem?_set_ne (by omega)]
      · rw [if_neg q2, if_neg (by omega)]
/-- a new object whose constructor is a list of steps -/
theorem la_new {L : List Value} {nL : Nat} {ss : List CS} {f : XF} (hf : f = mth nL (sSeq sOI (prC ci ss sR0))) (n1 : Nat.ble 1 nL = true) (ok : ss.all okC = true) : eNew ci N V f [] L (laS z cs h sl) = some (.ref (z + cs.length), laS z (cs ++ (.inr (ci, (rnC ss (z + cs.length + 1) V).1) :: (rnC ss (z + cs.length + 1) V).2.1)) h (sl + N + slC ss)) := by
  subst hf
  have hl : (expA [Value.ref (z + cs.length)]).length ≤ nL := Nat.le_of_ble_eq_true n1
  unfold eNew evL
  dsimp only [Option.bind_some]
  rw [la_alloc, mth_fin (by exact hl)]
  have h0 : (L0 nL [Value.ref (z + cs.length)])[0]? = some (.ref (z + cs.length)) := rfl
  have so : sOI (L0 nL [Value.ref (z + cs.length)]) (laS z (cs ++ [.inr (ci, V)]) h (sl + N)) = some (.inl 0, L0 nL [Value.ref (z + cs.length)], laS z (cs ++ [.inr (ci, V)]) h (sl + N)) := rfl
  have ln : (cs ++ [Sum.inr (ci, V)]).length = cs.length + 1 := by rw [List.length_append]; rfl
  have at0 : (cs ++ [Sum.inr (ci, V)])[cs.length]? = some (.inr (ci, V)) := by
    rw [List.getElem?_append_right (Nat.le_refl _), Nat.sub_self]
    rfl
  show (fin (sSeq sOI (prC ci ss sR0) (L0 nL [Value.ref (z + cs.length)]) (laS z (cs ++ [.inr (ci, V)]) h (sl + N)))).bind _ = _
  rw [sSeq_t, so, thn_0, la_prC h0 at0 ok, ln]
  have e : (cs ++ [Sum.inr (ci, V)]).set cs.length (.inr (ci, (rnC ss (z + (cs.length + 1)) V).1)) = cs ++ [.inr (ci, (rnC ss (z + (cs.length + 1)) V).1)] := by
    rw [List.set_append_right _ _ (Nat.le_refl _), Nat.sub_self]
    rfl
  rw [e, rnC_sl, List.append_assoc]
  rfl
end La
