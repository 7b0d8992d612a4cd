/-! ===== feed on both sides ===== -/
section Feed
variable {H P K I M : CT} {l q f m h D n t : Nat} {a : Int32}
theorem lay_ok {Q : CT → Prop} (ht : H.1 0 1 = nI t) (t9 : t + 4 ≤ 900) (hQ : ∀ H' : CT, H'.1 0 1 = nI (t + 4) → (∀ i, i < 4 → H'.1 1 (t + i) = scI (byI a i)) → (∀ j k, ¬ (j = 0 ∧ k = 1) → ¬ (j = 1 ∧ t ≤ k ∧ k < t + 4) → H'.1 j k = H.1 j k) → Q H') : k_X11_layOnTape H a Q := by
  have st : ∀ (c : CT) (s : Nat) (x : Int32) (J : CT → Prop), c.1 0 1 = nI s → s < 900 → J (sI (sI c 1 s x) 0 1 (nI (s + 1))) → (if (900 : Int32) ≤ (c.1 0 1) then False else wrI c 1 900 (c.1 0 1) x (fun c22 => wrF c22 0 1 ((c22.1 0 1) + (1 : Int32)) J)) := fun c s x J e1 e2 w => by
    rw [e1, if_neg (by rw [show (900 : Int32) = nI 900 from rfl, nI_le' (by omega) (by omega)]; omega), wrI_n (by omega) (by omega), wrF_eq, sI_ne (by omega), e1, inc_n]
    exact w
  have st2 : ∀ (c : CT) (s : Nat) (x : Int32) (R9 : Prop) (J : CT → Prop), c.1 0 1 = nI s → s < 900 → J (sI (sI c 1 s x) 0 1 (nI (s + 1))) → (if (900 : Int32) ≤ (c.1 0 1) then R9 else wrI c 1 900 (c.1 0 1) x (fun c22 => wrF c22 0 1 ((c22.1 0 1) + (1 : Int32)) J)) := fun c s x R9 J e1 e2 w => by
    have := st c s x J e1 e2 w
    rw [e1, if_neg (by rw [show (900 : Int32) = nI 900 from rfl, nI_le' (by omega) (by omega)]; omega)] at this ⊢
    exact this
  unfold k_X11_layOnTape
  intro S hS
  refine hS _ _ ?_
  dsimp only
  rw [if_neg (by decide), by_c0]
  refine st2 H t _ _ _ ht (by omega) ?_
  refine hS _ _ ?_
  dsimp only
  rw [show (24 : Int32) + -8 = 16 by decide, if_neg (by decide), by_c1]
  refine st2 _ (t + 1) _ _ _ sI_same (by omega) ?_
  refine hS _ _ ?_
  dsimp only
  rw [show (16 : Int32) + -8 = 8 by decide, if_neg (by decide), by_c2]
  refine st2 _ (t + 1 + 1) _ _ _ sI_same (by omega) ?_
  refine hS _ _ ?_
  dsimp only
  rw [show (8 : Int32) + -8 = 0 by decide, if_neg (by decide), by_c3]
  refine st2 _ (t + 1 + 1 + 1) _ _ _ sI_same (by omega) ?_
  refine hS _ _ ?_
  dsimp only
  rw [if_pos (by decide)]
  refine hQ _ sI_same (fun i hi => ?_) fun j k z1 z2 => ?_
  · rcases (show i = 0 ∨ i = 1 ∨ i = 2 ∨ i = 3 by omega) with rfl | rfl | rfl | rfl
    · rw [sI_ne (by omega), sI_ne (by omega), sI_ne (by omega), sI_ne (by omega), sI_ne (by omega), sI_ne (by omega), sI_ne (by omega)]
      exact sI_same
    · rw [sI_ne (by omega), sI_ne (by omega), sI_ne (by omega), sI_ne (by omega), sI_ne (by omega)]
      exact sI_same
    · rw [sI_ne (by omega), sI_ne (by omega), sI_ne (by omega)]
      exact sI_same
    · rw [sI_ne (by omega)]
      exact sI_same
  · rw [sI_ne (by omega), sI_ne (by omega), sI_ne (by omega), sI_ne (by omega), sI_ne (by omega), sI_ne (by omega), sI_ne (by omega), sI_ne (by omega)]
/-- byte j of five words -/
def fdB (a1 a2 a3 a4 a5 : Int32) (j : Nat) : Int32 := byI (if j < 4 then a1 else if j < 8 then a2 else if j < 12 then a3 else if j < 16 then a4 else a5) (j % 4)
theorem byI_r (a : Int32) (j : Nat) : 0 ≤ byI a j ∧ byI a j < 256 := by
  unfold byI
  have e : ∀ x : Int32, 0 ≤ (x &&& 255) ∧ (x &&& 255) < 256 := fun x => by
    have h1 : (x &&& 255).toBitVec = x.toBitVec &&& 255#32 := rfl
    have h2 : (x.toBitVec &&& 255#32).toNat ≤ 255 := by
      rw [BitVec.toNat_and]
      exact Nat.and_le_right
    have h3 : (x &&& 255).toInt = ((x.toBitVec &&& 255#32).toNat : Int) := by
      show (x &&& 255).toBitVec.toInt = _
      rw [h1, BitVec.toInt_eq_toNat_of_lt (by omega)]
    refine ⟨?_, ?_⟩
    · rw [Int32.le_iff_toInt_le, h3]
      show (0 : Int) ≤ _
      omega
    · rw [Int32.lt_iff_toInt_lt, h3]
      show _ < (256 : Int)
      omega
  exact e _
end Feed
