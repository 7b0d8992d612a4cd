/-! ===== what holds between the law's calls ===== -/
/-- dead blocks' addresses chosen anew -/
def nwA (A : Nat → Nat) (d : LZD) (t : Nat → Nat) : Nat → Nat := fun b => if (5 ≤ b ∧ b ≤ 10 ∧ d.1 b = false) ∨ (b = 13 ∧ d.1 6 = false) then t b else A b
section NwA
variable {A : Nat → Nat} {d : LZD} {t : Nat → Nat} {C : List CT} {σ : ST}
theorem nwA_l {b : Nat} (z : d.1 b = false) (hb : 5 ≤ b ∧ b ≤ 10 := by decide) : nwA A d t b = t b := if_pos (Or.inl ⟨hb.1, hb.2, z⟩)
theorem nwA_13 (z : d.1 6 = false) : nwA A d t 13 = t 13 := if_pos (Or.inr ⟨rfl, z⟩)
theorem nwA_o {b : Nat} (h : b < 5 ∨ b = 11 ∨ b = 12 := by decide) : nwA A d t b = A b := if_neg (by omega)
theorem nwA_y {b : Nat} (h : d.1 b = true) (hb : b ≠ 13 := by decide) : nwA A d t b = A b := if_neg (by
  rw [h]
  rintro (⟨-, -, z⟩ | ⟨z, -⟩)
  · exact absurd z (by decide)
  · exact hb z)
theorem nwA_13y (h : d.1 6 = true) : nwA A d t 13 = A 13 := if_neg (by
  rw [h]
  rintro (⟨-, z, -⟩ | ⟨-, z⟩)
  · omega
  · exact absurd z (by decide))
theorem lzB_nw {b : Nat} {lay : LY} (hb : 5 ≤ b ∧ b ≤ 10) : lzB (nwA A d t) d b lay = lzB A d b lay := by
  unfold lzB
  by_cases z : d.1 b = true
  · rw [if_pos z, if_pos z, nwA_y z (by omega)]
  · rw [if_neg z, if_neg z]
theorem HL.nw (iz : IVz d) (h : HL A d C σ) : HL (nwA A d t) d C σ := by
  refine ⟨h.1.refs ?_ ?_, h.2⟩
  · unfold wd
    dsimp only
    rw [nwA_o, nwA_o, nwA_o, nwA_o, nwA_o, nwA_o, nwA_o, lzB_nw (by decide), lzB_nw (by decide), lzB_nw (by decide), lzB_nw (by decide), lzB_nw (by decide), lzB_nw (by decide)]
    by_cases z : d.1 6 = true
    · rw [if_pos z, if_pos z, nwA_13y z]
    · rw [if_neg z, if_neg z]
  · intro b q hq hne
    show rfD (nwA A d t) d b = rfD A d b
    unfold rfD
    funext j k
    rw [nwA_o (b := 1), nwA_o (b := 2), nwA_o (b := 3), nwA_o (b := 4)]
    have eo : ∀ b, (5 ≤ b ∧ b ≤ 10) → (if d.1 b then some (nwA A d t b) else none) = (if d.1 b then some (A b) else none) := fun b hb => by
      by_cases z : d.1 b = true
      · rw [if_pos z, if_pos z, nwA_y z (by omega)]
      · rw [if_neg z, if_neg z]
    rw [eo 10 (by decide), eo 5 (by decide), eo 6 (by decide), eo 7 (by decide), eo 8 (by decide), eo 9 (by decide)]
    by_cases b6 : b = 6
    · have z : d.1 6 = true := by
        by_cases z : d.1 6 = true
        · exact z
        · subst b6
          have : (wd A d).1[6]? = some (lzB A d 6 woLay) := rfl
          rw [this] at hq
          have := Option.some.inj hq
          rw [lzB_n (Bool.eq_false_iff.mpr z)] at this
          rw [← this] at hne
          exact absurd rfl hne
      rw [nwA_13y z, nwA_y (iz.1 z)]
    · rw [if_neg (c := b = 6) b6, if_neg (c := b = 6) b6]
end NwA
def INV (c0 s0 : Nat) (d : LZD) (H P K F W T N U I M : CT) : Prop := (IVz d ∧ potC d = c0 ∧ potS d = s0) ∧ (∃ l q f m h D n, CO H P K I M l q f m h D n ∧ FOK F (clV M) l q f ∧ TOK T U (clV M) m h (cwN K h)) ∧ ((d.1 5 = false → F = frF) ∧ (d.1 6 = false → W = c00) ∧ (d.1 7 = false → T = frT) ∧ (d.1 8 = false → N = c00) ∧ (d.1 9 = false → U = c00) ∧ (d.1 10 = false → I = c00)) ∧ (¬ T.1 0 8 = 0 → d.1 9 = true) ∧ (¬ H.1 0 7 = 0 → d.1 10 = true)
def HI (c0 s0 x y o : Nat) (σ : ST) : Prop := ∃ A d H P S R K F W T N U I M O, A 0 = x ∧ A 11 = y ∧ A 12 = o ∧ HL A d [H, P, S, R, K, F, W, T, N, U, I, M, O] σ ∧ INV c0 s0 d H P K F W T N U I M
section Objs
variable {A : Nat → Nat} {d d' : LZD} {t : Nat → Nat} {H P S R K F W T N U I M O : CT} {σ : ST}
theorem mObj (h : Hd (wd A d) [H, P, S, R, K, F, W, T, N, U, I, M, O] σ) : ∃ V, σ.1 (A 11) = some (.inr (12, V)) := ⟨_, h.2.2.1 11 _ M (by decide) q_bM rfl 0 (Nat.le_of_ble_eq_true rfl)⟩
theorem hObj (h : Hd (wd A d) [H, P, S, R, K, F, W, T, N, U, I, M, O] σ) : ∃ V, σ.1 (A 0) = some (.inr (11, V)) := ⟨_, h.2.2.1 0 _ H (by decide) q_bH rfl 0 (Nat.le_of_ble_eq_true rfl)⟩
theorem mObjN (h : HL (nwA A d t) d' [H, P, S, R, K, F, W, T, N, U, I, M, O] σ) : ∃ V, σ.1 (A 11) = some (.inr (12, V)) := by
  have q := mObj h.1
  rw [nwA_o] at q
  exact q
end Objs
theorem HI.x {c0 s0 x y o : Nat} {σ : ST} (h : HI c0 s0 x y o σ) : ∃ V, σ.1 x = some (.inr (11, V)) := by
  obtain ⟨A, d, H, P, S, R, K, F, W, T, N, U, I, M, O, rfl, rfl, rfl, hσ, -⟩ := h
  exact hObj hσ.1
theorem HI.y {c0 s0 x y o : Nat} {σ : ST} (h : HI c0 s0 x y o σ) : ∃ V, σ.1 y = some (.inr (12, V)) := by
  obtain ⟨A, d, H, P, S, R, K, F, W, T, N, U, I, M, O, rfl, rfl, rfl, hσ, -⟩ := h
  exact mObj hσ.1
/-- the class's method and the reference's answer alike, and all stands as before -/
def STP (f g : XF) (as : List Value) : Prop := ∀ c0 s0 x y o σ, HI c0 s0 x y o σ → ∃ v σ1 σ2, f (.ref x :: as) σ = some (some (.int v), σ1) ∧ (∃ V, σ1.1 y = some (.inr (12, V))) ∧ g (.ref y :: as) σ1 = some (some (.int v), σ2) ∧ HI c0 s0 x y o σ2
section Frs
variable {d d' : LZD}
theorem GZ.dn {b : Nat} (gz : GZ d d') (z : d'.1 b = false) : d.1 b = false := by
  by_cases y : d.1 b = true
  · rw [gz.1 b y] at z
    exact absurd z (by decide)
  · exact Bool.eq_false_iff.mpr y
theorem GZ.frs {b : Nat} {e c f : CT} (gz : GZ d d') (h : d.1 b = false → c = f) (k : e = c ∨ d'.1 b = true) : d'.1 b = false → e = f := fun z => by
  rcases k with k | k
  · rw [k]
    exact h (gz.dn z)
  · rw [k] at z
    exact absurd z (by decide)
theorem GZ.iv {c0 s0 : Nat} (gz : GZ d d') (h : IVz d ∧ potC d = c0 ∧ potS d = s0) : IVz d' ∧ potC d' = c0 ∧ potS d' = s0 := ⟨gz.2.1 h.1, gz.2.2.1.trans h.2.1, gz.2.2.2.trans h.2.2⟩
theorem dT_6 : (dT d).1 6 = d.1 6 := by
  unfold dT
  split
  · rfl
  · rfl
theorem dT_5 : (dT d).1 5 = d.1 5 := by
  unfold dT
  split
  · rfl
  · rfl
theorem dT_8 : (dT d).1 8 = d.1 8 := by
  unfold dT
  split
  · rfl
  · rfl
theorem dT_9 : (dT d).1 9 = d.1 9 := by
  unfold dT
  split
  · rfl
  · rfl
end Frs
