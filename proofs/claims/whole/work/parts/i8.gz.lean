/-! ===== what is kept while things are made ===== -/
def potC (d : LZD) : Nat := d.2.2.1 + ((if d.1 5 then 0 else 14) + ((if d.1 6 then 0 else 6) + ((if d.1 7 then 0 else 10) + ((if d.1 8 then 0 else 1) + ((if d.1 9 then 0 else 1) + (if d.1 10 then 0 else 9))))))
def potS (d : LZD) : Nat := d.2.2.2 + ((if d.1 5 then 0 else 5799) + ((if d.1 6 then 0 else 109) + ((if d.1 7 then 0 else 88) + ((if d.1 8 then 0 else 896) + ((if d.1 9 then 0 else 3072) + (if d.1 10 then 0 else 96))))))
def IVz (d : LZD) : Prop := (d.1 6 = true → d.1 5 = true) ∧ (d.1 7 = false → d.1 8 = false ∧ d.1 9 = false)
def GZ (d d' : LZD) : Prop := (∀ b, d.1 b = true → d'.1 b = true) ∧ (IVz d → IVz d') ∧ potC d' = potC d ∧ potS d' = potS d
section Gz
variable {d d1 d2 : LZD}
theorem GZ.refl : GZ d d := ⟨fun _ h => h, id, rfl, rfl⟩
theorem GZ.trans (a : GZ d d1) (b : GZ d1 d2) : GZ d d2 := ⟨fun x h => b.1 x (a.1 x h), fun h => b.2.1 (a.2.1 h), b.2.2.1.trans a.2.2.1, b.2.2.2.trans a.2.2.2⟩
theorem GZ.sP {A : Nat → Nat} {b : Nat} : GZ d (sP A d b) := ⟨fun _ h => h, id, rfl, rfl⟩
theorem onB_le {m : Nat → Bool} {b x : Nat} (h : m x = true) : onB m b x = true := by
  unfold onB
  by_cases e : x = b
  · rw [if_pos e]
  · rw [if_neg e]
    exact h
theorem GZ.dF : GZ d (dF d) := by
  by_cases z : d.1 5 = true
  · rw [dF_y z]
    exact GZ.refl
  · have z := Bool.eq_false_iff.mpr z
    rw [dF_n z]
    refine ⟨fun _ h => onB_le h, fun h => ⟨fun _ => rfl, h.2⟩, ?_, ?_⟩
    · unfold potC
      show d.2.2.1 + 14 + (0 + ((if d.1 6 then 0 else 6) + ((if d.1 7 then 0 else 10) + ((if d.1 8 then 0 else 1) + ((if d.1 9 then 0 else 1) + (if d.1 10 then 0 else 9)))))) = _
      rw [z, if_neg (c := false = true) (by decide)]
      omega
    · unfold potS
      show d.2.2.2 + 5799 + (0 + ((if d.1 6 then 0 else 109) + ((if d.1 7 then 0 else 88) + ((if d.1 8 then 0 else 896) + ((if d.1 9 then 0 else 3072) + (if d.1 10 then 0 else 96)))))) = _
      rw [z, if_neg (c := false = true) (by decide)]
      omega
theorem GZ.dT : GZ d (dT d) := by
  by_cases z : d.1 7 = true
  · rw [dT_y z]
    exact GZ.refl
  · have z := Bool.eq_false_iff.mpr z
    rw [dT_n z]
    refine ⟨fun _ h => onB_le h, fun h => ⟨h.1, fun y => absurd y (by show ¬ (true = false); decide)⟩, ?_, ?_⟩
    · unfold potC
      show d.2.2.1 + 10 + ((if d.1 5 then 0 else 14) + ((if d.1 6 then 0 else 6) + (0 + ((if d.1 8 then 0 else 1) + ((if d.1 9 then 0 else 1) + (if d.1 10 then 0 else 9)))))) = _
      rw [z, if_neg (c := false = true) (by decide)]
      omega
    · unfold potS
      show d.2.2.2 + 88 + ((if d.1 5 then 0 else 5799) + ((if d.1 6 then 0 else 109) + (0 + ((if d.1 8 then 0 else 896) + ((if d.1 9 then 0 else 3072) + (if d.1 10 then 0 else 96)))))) = _
      rw [z, if_neg (c := false = true) (by decide)]
      omega
theorem GZ.dW : GZ d (dW d) := by
  by_cases z : d.1 6 = true
  · rw [dW_y z]
    exact GZ.refl
  · have z := Bool.eq_false_iff.mpr z
    rw [dW_n z]
    refine ⟨fun _ h => onB_le (onB_le h), fun h => ⟨fun _ => rfl, h.2⟩, ?_, ?_⟩
    · unfold potC
      show (if d.1 5 then (d.2.2.1 + 6, d.2.2.2 + 109) else (d.2.2.1 + 20, d.2.2.2 + 5908)).1 + (0 + (0 + ((if d.1 7 then 0 else 10) + ((if d.1 8 then 0 else 1) + ((if d.1 9 then 0 else 1) + (if d.1 10 then 0 else 9)))))) = _
      rw [z, if_neg (c := false = true) (by decide)]
      by_cases y : d.1 5 = true
      · rw [if_pos y, if_pos y]
        dsimp only
        omega
      · rw [if_neg y, if_neg y]
        dsimp only
        omega
    · unfold potS
      show (if d.1 5 then (d.2.2.1 + 6, d.2.2.2 + 109) else (d.2.2.1 + 20, d.2.2.2 + 5908)).2 + (0 + (0 + ((if d.1 7 then 0 else 88) + ((if d.1 8 then 0 else 896) + ((if d.1 9 then 0 else 3072) + (if d.1 10 then 0 else 96)))))) = _
      rw [z, if_neg (c := false = true) (by decide)]
      by_cases y : d.1 5 = true
      · rw [if_pos y, if_pos y]
        dsimp only
        omega
      · rw [if_neg y, if_neg y]
        dsimp only
        omega
theorem GZ.dN (y : d.1 7 = true) : GZ d (dR d 8 896) := by
  by_cases z : d.1 8 = true
  · rw [dR_y z]
    exact GZ.refl
  · have z := Bool.eq_false_iff.mpr z
    rw [dR_n z]
    refine ⟨fun _ h => onB_le h, fun h => ⟨h.1, fun q => absurd (y.symm.trans q) (by decide)⟩, ?_, ?_⟩
    · unfold potC
      show d.2.2.1 + 1 + ((if d.1 5 then 0 else 14) + ((if d.1 6 then 0 else 6) + ((if d.1 7 then 0 else 10) + (0 + ((if d.1 9 then 0 else 1) + (if d.1 10 then 0 else 9)))))) = _
      rw [z, if_neg (c := false = true) (by decide)]
      omega
    · unfold potS
      show d.2.2.2 + 896 + ((if d.1 5 then 0 else 5799) + ((if d.1 6 then 0 else 109) + ((if d.1 7 then 0 else 88) + (0 + ((if d.1 9 then 0 else 3072) + (if d.1 10 then 0 else 96)))))) = _
      rw [z, if_neg (c := false = true) (by decide)]
      omega
theorem GZ.dU (y : d.1 7 = true) : GZ d (dR d 9 3072) := by
  by_cases z : d.1 9 = true
  · rw [dR_y z]
    exact GZ.refl
  · have z := Bool.eq_false_iff.mpr z
    rw [dR_n z]
    refine ⟨fun _ h => onB_le h, fun h => ⟨h.1, fun q => absurd (y.symm.trans q) (by decide)⟩, ?_, ?_⟩
    · unfold potC
      show d.2.2.1 + 1 + ((if d.1 5 then 0 else 14) + ((if d.1 6 then 0 else 6) + ((if d.1 7 then 0 else 10) + ((if d.1 8 then 0 else 1) + (0 + (if d.1 10 then 0 else 9)))))) = _
      rw [z, if_neg (c := false = true) (by decide)]
      omega
    · unfold potS
      show d.2.2.2 + 3072 + ((if d.1 5 then 0 else 5799) + ((if d.1 6 then 0 else 109) + ((if d.1 7 then 0 else 88) + ((if d.1 8 then 0 else 896) + (0 + (if d.1 10 then 0 else 96)))))) = _
      rw [z, if_neg (c := false = true) (by decide)]
      omega
end Gz
section Fe
variable {w : WR} {C : List CT} {b r j : Nat} {lay : LY} {c : CT} {PC : List CT → Prop}
theorem pw_Fe {ci k : Nat} {ks : List Nat} {ty : FieldType} {x : Int32} {F : CT → Prop} (hw : w.1[b]? = some (r, lay)) (hc : C[b]? = some c) (hl : lay[j]? = some (.inr (ci, ks))) (hk : ks.getD k 0 = 0) (hv : vfit ty (.int x) = true) (h : wrF c j k x F) (kk : ∀ u, u = sI c j k x → F u → PC (C.set b u)) (b3 : b < 13 := by decide) (b6 : b ≠ 6 ∨ j = 0 := by first | exact Or.inl (by decide) | exact Or.inr rfl) : P2W w (pF ci k ty) (.ref (r + j)) (.int x) C PC := pw_F (F := fun u => u = sI c j k x ∧ F u) hw hc hl hk hv ⟨rfl, h⟩ (fun u q => kk u q.1 q.2) b3 b6
end Fe
theorem zs_seqZ {A : Nat → Nat} {d : LZD} {L : List Value} {C : List CT} {QS : LZD → XO → List Value → List CT → Prop} {a b : XS} (h : ∀ q : LZD → XO → List Value → List CT → Prop, (∀ d o L C, zqK A b QS d o L C → q d o L C) → ZS A d a L C q) : ZS A d (sSeq a b) L C QS := zs_seq (h _ fun _ _ _ _ h => h)
theorem zs_incK {A : Nat → Nat} {d : LZD} {L : List Value} {C : List CT} {QS : LZD → XO → List Value → List CT → Prop} {i : Nat} {n : Int} {x m : Int32} (hm : Int32.ofInt n = m) (hi : L[i]? = some (.int x)) (h : QS d (.inl 0) (sto1 L i (.int (x + m))) C) : ZS A d (sInc i n) L C QS := zs_of (sw_incK hm hi h)
