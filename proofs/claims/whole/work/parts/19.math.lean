def o_imax : Value → Value → ST → Option Value := fun a b _ => match a, b with
  | .int x, .int y => some (.int (if x < y then y else x))
  | _, _ => none
def o_imin : Value → Value → ST → Option Value := fun a b _ => match a, b with
  | .int x, .int y => some (.int (if y < x then y else x))
  | _, _ => none
def o_iabs : Value → ST → Option Value := fun a _ => match a with
  | .int x => some (.int (if 0 ≤ x then x else 0 - x))
  | _ => none
def o_labs : Value → ST → Option Value := fun a _ => match a with
  | .long x => some (.long (if 0 < x then x else -x))
  | _ => none
section MathX
variable {M : MX} {d w pc : Nat}
theorem g_pureR {X : RX} {pc' : Nat} {L stk stk' : List Value} {σ : ST} (k : G M d X pc' L stk' σ)
    (h : ∀ (p : Program) (l : Launch) (e : Env) (R : Room) (s : State) (m : MethodId) (args : Array Value) (below : List Frame) (meth : Method) (c : Code) (H : Heap) (locs : List Loc) (cells slots : Nat) (Q : State → Prop) (ls : Array Slot), CX M X.1 p l s m args meth c → c.maxLocals = ls.size → R.frames = d → R.locals = 60 * d → cells ≤ R.cells → slots ≤ R.slots →
      W p l e R s m args below meth c H locs cells slots Q (F0 m pc' ls stk') → W p l e R s m args below meth c H locs cells slots Q (F0 m pc ls stk)) : G M d X pc L stk σ := by
  intro h1 h2
  obtain ⟨k1, k2⟩ := k h1 h2
  refine ⟨k1, fun p l e s m args below meth c C H locs ls hl hR hz hS => ?_⟩
  exact h p l e _ s m args below meth c H locs _ _ _ ls C (C.2.2.2.1.trans hl.1.symm) rfl rfl (by show _ ≤ X.2.2.2.2.1 - X.2.1.1; omega) (by show _ ≤ X.2.2.2.2.2 - X.2.1.2; omega) (k2 p l e s m args below meth c C H locs ls hl hR hz hS)
theorem ie_max {e1 e2 : XE} {p1 p2 index : Nat} (h1 : IE M d w pc e1 p1) (h2 : IE M d (w + 2) p1 e2 p2) (hd : decode M.2.1 p2 = .ok (.invokestatic index, 3)) (hl : Cond.methodLink M.1 index yJ9_max_7cf53 ∈ lwG) (K : CeeS yJ9_max_7cf53 cJ9_max_7cf53 2 (some .int) 2) (h3 : 1 ≤ d) (hw : w ≤ 8) : IE M d w pc (eB o_imax e1 e2) (p2 + 3) := by
  intro X L stk σ σ' v hwt he k
  unfold eB at he
  obtain ⟨⟨a, σ1⟩, g1, he⟩ := Option.bind_eq_some_iff.mp he
  obtain ⟨⟨b, σ2⟩, g2, he⟩ := Option.bind_eq_some_iff.mp he
  obtain ⟨v2, g3, he⟩ := Option.map_eq_some_iff.mp he
  cases he
  unfold o_imax at g3
  dsimp only at g3
  split at g3
  · cases g3
    refine h1 X L stk σ σ1 _ hwt g1 (h2 X L _ σ1 _ _ (wt_le hwt) g2 ?_)
    refine g_pureR k fun p l e R s m args below meth c H locs cells slots Q ls C hml hfr hlo hc hs w => ?_
    exact va_mmax C.1 C.2.1 hml C.2.2.2.2.1 (C.2.2.2.2.2.1 _ hl) (C.2.2.2.2.2.1 _ K.1) (C.2.2.2.2.2.1 _ K.2.1) (C.2.2.2.2.2.1 _ K.2.2.1) (by rw [hfr]; exact h3) (by rw [hlo]; show wt stk + 13 ≤ 60 * d; omega) hc hs hd w
  · cases g3
theorem ie_min {e1 e2 : XE} {p1 p2 index : Nat} (h1 : IE M d w pc e1 p1) (h2 : IE M d (w + 2) p1 e2 p2) (hd : decode M.2.1 p2 = .ok (.invokestatic index, 3)) (hl : Cond.methodLink M.1 index yJ9_min_7cf53 ∈ lwG) (K : CeeS yJ9_min_7cf53 cJ9_min_7cf53 2 (some .int) 2) (h3 : 1 ≤ d) (hw : w ≤ 8) : IE M d w pc (eB o_imin e1 e2) (p2 + 3) := by
  intro X L stk σ σ' v hwt he k
  unfold eB at he
  obtain ⟨⟨a, σ1⟩, g1, he⟩ := Option.bind_eq_some_iff.mp he
  obtain ⟨⟨b, σ2⟩, g2, he⟩ := Option.bind_eq_some_iff.mp he
  obtain ⟨v2, g3, he⟩ := Option.map_eq_some_iff.mp he
  cases he
  unfold o_imin at g3
  dsimp only at g3
  split at g3
  · cases g3
    refine h1 X L stk σ σ1 _ hwt g1 (h2 X L _ σ1 _ _ (wt_le hwt) g2 ?_)
    refine g_pureR k fun p l e R s m args below meth c H locs cells slots Q ls C hml hfr hlo hc hs w => ?_
    exact va_mmin C.1 C.2.1 hml C.2.2.2.2.1 (C.2.2.2.2.2.1 _ hl) (C.2.2.2.2.2.1 _ K.1) (C.2.2.2.2.2.1 _ K.2.1) (C.2.2.2.2.2.1 _ K.2.2.1) (by rw [hfr]; exact h3) (by rw [hlo]; show wt stk + 13 ≤ 60 * d; omega) hc hs hd w
  · cases g3
theorem ie_abs {e1 : XE} {p1 index : Nat} (h1 : IE M d w pc e1 p1) (hd : decode M.2.1 p1 = .ok (.invokestatic index, 3)) (hl : Cond.methodLink M.1 index yJ9_abs_0f7a4 ∈ lwG) (K : CeeS yJ9_abs_0f7a4 cJ9_abs_0f7a4 1 (some .int) 1) (h3 : 1 ≤ d) (hw : w ≤ 8) : IE M d w pc (eU o_iabs e1) (p1 + 3) := by
  intro X L stk σ σ' v hwt he k
  unfold eU at he
  obtain ⟨⟨a, σ1⟩, g1, he⟩ := Option.bind_eq_some_iff.mp he
  obtain ⟨v2, g3, he⟩ := Option.map_eq_some_iff.mp he
  cases he
  unfold o_iabs at g3
  dsimp only at g3
  split at g3
  · cases g3
    refine h1 X L stk σ _ _ hwt g1 ?_
    refine g_pureR k fun p l e R s m args below meth c H locs cells slots Q ls C hml hfr hlo hc hs w => ?_
    exact va_mabs C.1 C.2.1 hml C.2.2.2.2.1 (C.2.2.2.2.2.1 _ hl) (C.2.2.2.2.2.1 _ K.1) (C.2.2.2.2.2.1 _ K.2.1) (C.2.2.2.2.2.1 _ K.2.2.1) (by rw [hfr]; exact h3) (by rw [hlo]; show wt stk + 13 ≤ 60 * d; omega) hc hs hd w
  · cases g3
theorem ie_labs {e1 : XE} {p1 index : Nat} (h1 : IE M d w pc e1 p1) (hd : decode M.2.1 p1 = .ok (.invokestatic index, 3)) (hl : Cond.methodLink M.1 index yJ9_abs_067f4 ∈ lwG) (K : CeeS yJ9_abs_067f4 cJ9_abs_067f4 2 (some .long) 1) (h3 : 1 ≤ d) (hw : w ≤ 8) : IE M d w pc (eU o_labs e1) (p1 + 3) := by
  intro X L stk σ σ' v hwt he k
  unfold eU at he
  obtain ⟨⟨a, σ1⟩, g1, he⟩ := Option.bind_eq_some_iff.mp he
  obtain ⟨v2, g3, he⟩ := Option.map_eq_some_iff.mp he
  cases he
  unfold o_labs at g3
  dsimp only at g3
  split at g3
  · cases g3
    refine h1 X L stk σ _ _ hwt g1 ?_
    refine g_pureR k fun p l e R s m args below meth c H locs cells slots Q ls C hml hfr hlo hc hs w => ?_
    exact va_mabs_long C.1 C.2.1 hml C.2.2.2.2.1 (C.2.2.2.2.2.1 _ hl) (C.2.2.2.2.2.1 _ K.1) (C.2.2.2.2.2.1 _ K.2.1) (C.2.2.2.2.2.1 _ K.2.2.1) (by rw [hfr]; exact h3) (by rw [hlo]; show wt stk + 13 ≤ 60 * d; omega) hc hs hd w
  · cases g3
end MathX
