/-! ===== what constructors lay (tools/gen22.py) ===== -/
def frT : CT := (fun j k => if j = 0 ∧ k = 10 then -1 else 0, fun _ _ => 0)
def ssT : List CS := [(1, tyX9 1, .inl .null), (2, tyX9 2, .inl .null), (3, tyX9 3, .inr (.int, zI, 7)), (4, tyX9 4, .inl (.int 0)), (5, tyX9 5, .inr (.int, zI, 7)), (6, tyX9 6, .inr (.int, zI, 10)), (7, tyX9 7, .inr (.int, zI, 10)), (8, tyX9 8, .inl (.int 0)), (9, tyX9 9, .inl .null), (10, tyX9 10, .inl (.int (-1))), (11, tyX9 11, .inl (.int 0)), (12, tyX9 12, .inr (.int, zI, 10)), (13, tyX9 13, .inr (.int, zI, 10)), (14, tyX9 14, .inr (.int, zI, 11)), (15, tyX9 15, .inr (.int, zI, 3)), (16, tyX9 16, .inr (.int, zI, 3))]
theorem hi_T : ∀ s ∈ ssT, s.1 < 17 := by
  intro s hs
  simp only [ssT, List.mem_cons, List.not_mem_nil, or_false] at hs
  rcases hs with rfl | rfl | rfl | rfl | rfl | rfl | rfl | rfl | rfl | rfl | rfl | rfl | rfl | rfl | rfl | rfl <;> decide
theorem lay_T {z : Nat} {h : HP} : (fun a => if a = z then some (.inr (9, (rnC ssT (z + 1) (dV tyX9 17)).1)) else laC (z + 1) (rnC ssT (z + 1) (dV tyX9 17)).2.1 h a) = bOv z tLay (frT.1, frT.2, fun _ _ => none) h := by
  have l : (rnC ssT (z + 1) (dV tyX9 17)).2.1.length = 9 := rfl
  have lf : tLay.length = 10 := rfl
  funext a
  unfold bOv laC
  rw [l, lf]
  by_cases e : a = z
  · subst e
    rw [if_pos rfl, if_pos (by omega), Nat.sub_self]
    show _ = (some (Sum.inr (9, bVal a (frT.1, frT.2, fun _ _ => none) 0 [1, 1, 1, 3, 0, 4, 5, 6, 0, 1, 0, 0, 7, 8, 9, 10, 11])) : Option MC)
    refine congrArg (fun f => (some (Sum.inr (9, f)) : Option MC)) (funext fun k => ?_)
    by_cases hk : k < 17
    · rcases (show k = 0 ∨ k = 1 ∨ k = 2 ∨ k = 3 ∨ k = 4 ∨ k = 5 ∨ k = 6 ∨ k = 7 ∨ k = 8 ∨ k = 9 ∨ k = 10 ∨ k = 11 ∨ k = 12 ∨ k = 13 ∨ k = 14 ∨ k = 15 ∨ k = 16 by omega) with rfl | rfl | rfl | rfl | rfl | rfl | rfl | rfl | rfl | rfl | rfl | rfl | rfl | rfl | rfl | rfl | rfl <;> rfl
    · rw [rnC_hi ssT _ _ (fun s hs => by have := hi_T s hs; omega)]
      obtain ⟨m, rfl⟩ : ∃ m, k = m + 17 := ⟨k - 17, by omega⟩
      rfl
  · rw [if_neg e]
    by_cases e2 : z + 1 ≤ a ∧ a < z + 1 + 9
    · rw [if_pos e2, if_pos (by omega)]
      rcases (show a = z + 1 ∨ a = z + 2 ∨ a = z + 3 ∨ a = z + 4 ∨ a = z + 5 ∨ a = z + 6 ∨ a = z + 7 ∨ a = z + 8 ∨ a = z + 9 by omega) with q | q | q | q | q | q | q | q | q
      · rw [show a - (z + 1) = 0 by omega, show a - z = 1 by omega]; rfl
      · rw [show a - (z + 1) = 1 by omega, show a - z = 2 by omega]; rfl
      · rw [show a - (z + 1) = 2 by omega, show a - z = 3 by omega]; rfl
      · rw [show a - (z + 1) = 3 by omega, show a - z = 4 by omega]; rfl
      · rw [show a - (z + 1) = 4 by omega, show a - z = 5 by omega]; rfl
      · rw [show a - (z + 1) = 5 by omega, show a - z = 6 by omega]; rfl
      · rw [show a - (z + 1) = 6 by omega, show a - z = 7 by omega]; rfl
      · rw [show a - (z + 1) = 7 by omega, show a - z = 8 by omega]; rfl
      · rw [show a - (z + 1) = 8 by omega, show a - z = 9 by omega]; rfl
    · rw [if_neg e2, if_neg (by omega)]

def ssI : List CS := [(0, tyX0 0, .inl (.int 0)), (1, tyX0 1, .inl (.int 0)), (2, tyX0 2, .inr (.int, zI, 10)), (3, tyX0 3, .inr (.int, zI, 10)), (4, tyX0 4, .inr (.int, zI, 10)), (5, tyX0 5, .inr (.int, zI, 10)), (6, tyX0 6, .inr (.int, zI, 10)), (7, tyX0 7, .inr (.boolean, zI, 10)), (8, tyX0 8, .inr (.int, zI, 10)), (9, tyX0 9, .inr (.int, zI, 10))]
theorem hi_I : ∀ s ∈ ssI, s.1 < 16 := by
  intro s hs
  simp only [ssI, List.mem_cons, List.not_mem_nil, or_false] at hs
  rcases hs with rfl | rfl | rfl | rfl | rfl | rfl | rfl | rfl | rfl | rfl <;> decide
theorem lay_I {z : Nat} {h : HP} : (fun a => if a = z then some (.inr (0, (rnC ssI (z + 1) (dV tyX0 16)).1)) else laC (z + 1) (rnC ssI (z + 1) (dV tyX0 16)).2.1 h a) = bOv z iLay (c00.1, c00.2, fun _ _ => none) h := by
  have l : (rnC ssI (z + 1) (dV tyX0 16)).2.1.length = 8 := rfl
  have lf : iLay.length = 9 := rfl
  funext a
  unfold bOv laC
  rw [l, lf]
  by_cases e : a = z
  · subst e
    rw [if_pos rfl, if_pos (by omega), Nat.sub_self]
    show _ = (some (Sum.inr (0, bVal a (c00.1, c00.2, fun _ _ => none) 0 [0, 0, 3, 4, 5, 6, 7, 8, 9, 10, 1, 1, 1, 1, 1, 1])) : Option MC)
    refine congrArg (fun f => (some (Sum.inr (0, f)) : Option MC)) (funext fun k => ?_)
    by_cases hk : k < 16
    · rcases (show k = 0 ∨ k = 1 ∨ k = 2 ∨ k = 3 ∨ k = 4 ∨ k = 5 ∨ k = 6 ∨ k = 7 ∨ k = 8 ∨ k = 9 ∨ k = 10 ∨ k = 11 ∨ k = 12 ∨ k = 13 ∨ k = 14 ∨ k = 15 by omega) with rfl | rfl | rfl | rfl | rfl | rfl | rfl | rfl | rfl | rfl | rfl | rfl | rfl | rfl | rfl | rfl <;> rfl
    · rw [rnC_hi ssI _ _ (fun s hs => by have := hi_I s hs; omega)]
      obtain ⟨m, rfl⟩ : ∃ m, k = m + 16 := ⟨k - 16, by omega⟩
      rfl
  · rw [if_neg e]
    by_cases e2 : z + 1 ≤ a ∧ a < z + 1 + 8
    · rw [if_pos e2, if_pos (by omega)]
      rcases (show a = z + 1 ∨ a = z + 2 ∨ a = z + 3 ∨ a = z + 4 ∨ a = z + 5 ∨ a = z + 6 ∨ a = z + 7 ∨ a = z + 8 by omega) with q | q | q | q | q | q | q | q
      · rw [show a - (z + 1) = 0 by omega, show a - z = 1 by omega]; rfl
      · rw [show a - (z + 1) = 1 by omega, show a - z = 2 by omega]; rfl
      · rw [show a - (z + 1) = 2 by omega, show a - z = 3 by omega]; rfl
      · rw [show a - (z + 1) = 3 by omega, show a - z = 4 by omega]; rfl
      · rw [show a - (z + 1) = 4 by omega, show a - z = 5 by omega]; rfl
      · rw [show a - (z + 1) = 5 by omega, show a - z = 6 by omega]; rfl
      · rw [show a - (z + 1) = 6 by omega, show a - z = 7 by omega]; rfl
      · rw [show a - (z + 1) = 7 by omega, show a - z = 8 by omega]; rfl
    · rw [if_neg e2, if_neg (by omega)]

def frR : CT := (fun j k => if j = 0 ∧ k = 1 then -1 else if j = 0 ∧ k = 8 then 41 else 0, fun _ _ => 0)
def ssR : List CS := [(0, tyX7 0, .inl (.int 0)), (1, tyX7 1, .inl (.int (-1))), (2, tyX7 2, .inl (.int 0)), (3, tyX7 3, .inr (.int, zI, 901)), (4, tyX7 4, .inr (.int, zI, 901)), (5, tyX7 5, .inr (.int, zI, 901)), (6, tyX7 6, .inl (.int 0)), (7, tyX7 7, .inl (.int 0)), (8, tyX7 8, .inl (.int 41)), (9, tyX7 9, .inl (.int 0)), (10, tyX7 10, .inl (.int 0)), (11, tyX7 11, .inl .null), (12, tyX7 12, .inr (.int, zI, 72)), (13, tyX7 13, .inl (.int 0)), (14, tyX7 14, .inl (.int 0))]
theorem hi_R : ∀ s ∈ ssR, s.1 < 15 := by
  intro s hs
  simp only [ssR, List.mem_cons, List.not_mem_nil, or_false] at hs
  rcases hs with rfl | rfl | rfl | rfl | rfl | rfl | rfl | rfl | rfl | rfl | rfl | rfl | rfl | rfl | rfl <;> decide
theorem lay_R {z : Nat} {h : HP} : (fun a => if a = z then some (.inr (7, (rnC ssR (z + 1) (dV tyX7 15)).1)) else laC (z + 1) (rnC ssR (z + 1) (dV tyX7 15)).2.1 h a) = bOv z rLay (frR.1, frR.2, fun _ _ => none) h := by
  have l : (rnC ssR (z + 1) (dV tyX7 15)).2.1.length = 4 := rfl
  have lf : rLay.length = 5 := rfl
  funext a
  unfold bOv laC
  rw [l, lf]
  by_cases e : a = z
  · subst e
    rw [if_pos rfl, if_pos (by omega), Nat.sub_self]
    show _ = (some (Sum.inr (7, bVal a (frR.1, frR.2, fun _ _ => none) 0 [0, 0, 0, 3, 4, 5, 0, 0, 0, 0, 0, 1, 6, 0, 0])) : Option MC)
    refine congrArg (fun f => (some (Sum.inr (7, f)) : Option MC)) (funext fun k => ?_)
    by_cases hk : k < 15
    · rcases (show k = 0 ∨ k = 1 ∨ k = 2 ∨ k = 3 ∨ k = 4 ∨ k = 5 ∨ k = 6 ∨ k = 7 ∨ k = 8 ∨ k = 9 ∨ k = 10 ∨ k = 11 ∨ k = 12 ∨ k = 13 ∨ k = 14 by omega) with rfl | rfl | rfl | rfl | rfl | rfl | rfl | rfl | rfl | rfl | rfl | rfl | rfl | rfl | rfl <;> rfl
    · rw [rnC_hi ssR _ _ (fun s hs => by have := hi_R s hs; omega)]
      obtain ⟨m, rfl⟩ : ∃ m, k = m + 15 := ⟨k - 15, by omega⟩
      rfl
  · rw [if_neg e]
    by_cases e2 : z + 1 ≤ a ∧ a < z + 1 + 4
    · rw [if_pos e2, if_pos (by omega)]
      rcases (show a = z + 1 ∨ a = z + 2 ∨ a = z + 3 ∨ a = z + 4 by omega) with q | q | q | q
      · rw [show a - (z + 1) = 0 by omega, show a - z = 1 by omega]; rfl
      · rw [show a - (z + 1) = 1 by omega, show a - z = 2 by omega]; rfl
      · rw [show a - (z + 1) = 2 by omega, show a - z = 3 by omega]; rfl
      · rw [show a - (z + 1) = 3 by omega, show a - z = 4 by omega]; rfl
    · rw [if_neg e2, if_neg (by omega)]

