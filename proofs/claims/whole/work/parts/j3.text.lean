/-! ===== text in changing worlds: plan and spare change places ===== -/
def swp (b : Nat) : Nat := if b = 1 then 2 else if b = 2 then 1 else b
def swA (A : Nat → Nat) : Nat → Nat := fun b => if b = 1 then A 2 else if b = 2 then A 1 else A b
theorem swp_swp (b : Nat) : swp (swp b) = b := by
  unfold swp
  by_cases h1 : b = 1
  · rw [if_pos h1, if_neg (by decide), if_pos rfl, h1]
  · rw [if_neg h1]
    by_cases h2 : b = 2
    · rw [if_pos h2, if_pos rfl, h2]
    · rw [if_neg h2, if_neg h1, if_neg h2]
theorem swp_lt {b : Nat} (h : b < 13) : swp b < 13 := by
  unfold swp
  by_cases h1 : b = 1
  · rw [if_pos h1]
    decide
  · rw [if_neg h1]
    by_cases h2 : b = 2
    · rw [if_pos h2]
      decide
    · rw [if_neg h2]
      exact h
/-- the two plans told in the other order -/
theorem Hd.xch {w w' : WR} {C C' : List CT} {σ : ST} (h : Hd w C σ) (e1 : ∀ b, w'.1[b]? = w.1[swp b]?) (e2 : ∀ b, C'[b]? = C[swp b]?) (e3 : ∀ b q, w'.1[b]? = some q → q.2 ≠ [] → w'.2 b = w.2 (swp b)) : Hd w' C' σ := by
  obtain ⟨h1, h2, h3, h4⟩ := h
  have ne : ∀ {q : Nat × LY} {j : Nat}, j < q.2.length → q.2 ≠ [] := fun hj e => by
    rw [e] at hj
    exact absurd hj (Nat.not_lt_zero _)
  refine ⟨fun b b' q q' a1 a2 n => ?_, fun b q a1 => ?_, fun b q c b3 a1 a2 j hj => ?_, fun q c a1 a2 j hj => ?_⟩
  · rw [e1] at a1 a2
    exact h1 _ _ _ _ a1 a2 fun z => n (by rw [← swp_swp b, z, swp_swp])
  · rw [e1] at a1
    exact h2 _ _ a1
  · have r := e3 b q a1 (ne hj)
    rw [e1] at a1
    rw [e2] at a2
    have e : bc w' b c = bc w (swp b) c := by
      unfold bc
      rw [r]
    rw [e]
    exact h3 _ _ _ (swp_lt b3) a1 a2 j hj
  · have r := e3 13 q a1 (ne hj)
    have a1 : w.1[13]? = some q := (e1 13).symm.trans a1
    have a2 : C[6]? = some c := (e2 6).symm.trans a2
    have e : bcV w' c = bcV w c := by
      unfold bcV
      rw [r]
      rfl
    rw [e]
    exact h4 _ _ a1 a2 j hj
/-- the world before the references are exchanged, told in the other order -/
def pw (A : Nat → Nat) (d : LZD) : WR := ([(A 0, hLay), (A 2, pLay), (A 1, pLay), (A 3, rLay), (A 4, kLay), lzB A d 5 fLay, lzB A d 6 woLay, lzB A d 7 tLay, lzB A d 8 nLay, lzB A d 9 uLay, lzB A d 10 iLay, (A 11, mLay), (A 12, oLay), if d.1 6 then (A 13, vLay) else (0, [])], fun b => if b = 1 then rfD A d 2 else if b = 2 then rfD A d 1 else rfD A d b)
theorem lst_swp {α : Type} {a0 a1 a2 : α} {r : List α} : ∀ b, (a0 :: a2 :: a1 :: r)[b]? = (a0 :: a1 :: a2 :: r)[swp b]?
  | 0 => rfl
  | 1 => rfl
  | 2 => rfl
  | b + 3 => by
    have e : swp (b + 3) = b + 3 := by
      unfold swp
      rw [if_neg (by omega), if_neg (by omega)]
    rw [e]
    rfl
def dRp (A : Nat → Nat) (d : LZD) : LZD := (d.1, stG d.2.1 3 (some (A 2)), d.2.2)
section Ztx
variable {A : Nat → Nat} {d : LZD} {cH cP cS cR cK cF cW cT cN cU cI cM cO : CT}
theorem to_pw {σ : ST} (h : Hd (wd A d) [cH, cP, cS, cR, cK, cF, cW, cT, cN, cU, cI, cM, cO] σ) : Hd (pw A d) [cH, cS, cP, cR, cK, cF, cW, cT, cN, cU, cI, cM, cO] σ := h.xch lst_swp lst_swp fun b q e _ => by
  have : b < 14 := (List.getElem?_eq_some_iff.mp e).1
  rcases (show b = 0 ∨ b = 1 ∨ b = 2 ∨ b = 3 ∨ b = 4 ∨ b = 5 ∨ b = 6 ∨ b = 7 ∨ b = 8 ∨ b = 9 ∨ b = 10 ∨ b = 11 ∨ b = 12 ∨ b = 13 by omega) with rfl | rfl | rfl | rfl | rfl | rfl | rfl | rfl | rfl | rfl | rfl | rfl | rfl | rfl <;> rfl
theorem rfD_3 : rfD A (dRp A d) 3 = up2 (rfD A d 3) 0 11 (some (A 2)) := by
  have e : ∀ x : LZD, rfD A x 3 = fun j k => if j = 0 ∧ k = 11 then x.2.1 3 else none := fun _ => rfl
  rw [e, e]
  funext j k
  unfold up2
  by_cases z : j = 0 ∧ k = 11
  · rw [if_pos z, if_pos z]
    rfl
  · rw [if_neg z, if_neg z]
    dsimp only
    rw [if_neg z]
theorem of_pw {σ : ST} (h : Hd ((pw A d).1, upRf (pw A d).2 3 0 11 (some (A 2))) [cH, cS, cP, cR, cK, cF, cW, cT, cN, cU, cI, cM, cO] σ) : Hd (wd A (dRp A d)) [cH, cP, cS, cR, cK, cF, cW, cT, cN, cU, cI, cM, cO] σ := h.xch lst_swp lst_swp fun b q e _ => by
  have : b < 14 := (List.getElem?_eq_some_iff.mp e).1
  rcases (show b = 0 ∨ b = 1 ∨ b = 2 ∨ b = 3 ∨ b = 4 ∨ b = 5 ∨ b = 6 ∨ b = 7 ∨ b = 8 ∨ b = 9 ∨ b = 10 ∨ b = 11 ∨ b = 12 ∨ b = 13 by omega) with rfl | rfl | rfl | rfl | rfl | rfl | rfl | rfl | rfl | rfl | rfl | rfl | rfl | rfl
  · rfl
  · rfl
  · rfl
  · exact rfD_3
  all_goals rfl
/-- the references are exchanged: the same, with the addresses exchanged -/
theorem of_xch {σ : ST} (h : Hd ((wd A d).1, upRf (upRf (wd A d).2 0 0 2 (some (A 2))) 0 0 3 (some (A 1))) [cH, cP, cS, cR, cK, cF, cW, cT, cN, cU, cI, cM, cO] σ) : Hd (wd (swA A) d) [cH, cS, cP, cR, cK, cF, cW, cT, cN, cU, cI, cM, cO] σ := h.xch lst_swp lst_swp fun b q e _ => by
  have : b < 14 := (List.getElem?_eq_some_iff.mp e).1
  rcases (show b = 0 ∨ b = 1 ∨ b = 2 ∨ b = 3 ∨ b = 4 ∨ b = 5 ∨ b = 6 ∨ b = 7 ∨ b = 8 ∨ b = 9 ∨ b = 10 ∨ b = 11 ∨ b = 12 ∨ b = 13 by omega) with rfl | rfl | rfl | rfl | rfl | rfl | rfl | rfl | rfl | rfl | rfl | rfl | rfl | rfl
  · show rfD (swA A) d 0 = up2 (up2 (rfD A d 0) 0 2 (some (A 2))) 0 3 (some (A 1))
    funext j k
    unfold up2
    by_cases hj : j = 0
    · subst hj
      by_cases h3 : k = 3
      · subst h3
        rfl
      · rw [if_neg (c := (0 : Nat) = 0 ∧ k = 3) (fun y => h3 y.2)]
        by_cases h2 : k = 2
        · subst h2
          rfl
        · rw [if_neg (c := (0 : Nat) = 0 ∧ k = 2) (fun y => h2 y.2)]
          unfold rfD
          rw [if_pos rfl, if_pos rfl, if_pos rfl, if_pos rfl, if_neg (c := k = 2) h2, if_neg (c := k = 2) h2, if_neg (c := k = 3) h3, if_neg (c := k = 3) h3]
          rfl
    · rw [if_neg (fun y => hj y.1), if_neg (fun y => hj y.1)]
      unfold rfD
      rw [if_pos rfl, if_pos rfl, if_neg hj, if_neg hj]
  all_goals rfl
end Ztx
