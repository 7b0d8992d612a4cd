/-! ===== class, reference and the law's row as the law begins ===== -/
theorem CO.start : CO frH frP c00 c00 frM 0 0 0 0 0 0 0 := by
  have no : ∀ {P : Nat → Prop} (i : Nat), i < 0 → P i := fun i hi => absurd hi (Nat.not_lt_zero _)
  have ru : ∀ x : Nat → Int32, RulR x frM.1 0 0 := fun x => ⟨by decide, by decide, fun i hi => absurd hi (Nat.not_lt_zero _), fun i hi => absurd hi (Nat.not_lt_zero _), fun h => absurd h (Nat.lt_irrefl _)⟩
  refine ⟨⟨0, by decide, rfl, rfl, fun i hi => absurd hi (Nat.not_lt_zero _)⟩, ⟨rfl, rfl⟩, ⟨⟨⟨by decide, by decide, by decide, by decide, by decide⟩, ⟨rfl, rfl, rfl, rfl, rfl⟩, ⟨rfl, rfl, rfl, rfl, rfl⟩⟩, fun i hi => absurd hi (Nat.not_lt_zero _), fun i hi => absurd hi (Nat.not_lt_zero _), fun i hi => absurd hi (Nat.not_lt_zero _), fun i hi => absurd hi (Nat.not_lt_zero _), fun i hi => absurd hi (Nat.not_lt_zero _), fun d _ => ⟨rfl, Or.inl rfl⟩, ⟨0, 0, 0, 0, rfl, rfl, rfl, ru _, rfl, rfl, rfl, ru _, rfl, by decide⟩, ⟨rfl, rfl, 0, 0, by decide, by decide, rfl, rfl⟩⟩, ⟨⟨⟨by decide, by decide, rfl, rfl⟩, fun i hi => absurd hi (Nat.not_lt_zero _), fun i hi => absurd hi (Nat.not_lt_zero _), fun i hi => absurd hi (Nat.not_lt_zero _), fun i hi => absurd hi (Nat.not_lt_zero _), fun i hi => absurd hi (Nat.not_lt_zero _)⟩, rfl, rfl, fun i hi => absurd hi (Nat.not_lt_zero _)⟩, Or.inl ⟨rfl, rfl⟩, fun i hi => absurd hi (Nat.not_lt_zero _)⟩
theorem Hd.none {h : HP} {z sl : Nat} {rf : Nat → Nat → Nat → Option Nat} {C : List CT} : Hd (List.replicate 14 (0, []), rf) C (h, z, sl) := by
  have e : ∀ {b : Nat} {q : Nat × LY}, (List.replicate 14 ((0, []) : Nat × LY))[b]? = some q → q = (0, []) := fun hq => List.eq_of_mem_replicate (List.mem_of_getElem? hq)
  refine ⟨fun b b' q q' h1 h2 _ => ?_, fun b q h1 => ?_, fun b q c _ h1 _ j hj => ?_, fun q c h1 _ j hj => ?_⟩
  · rw [e h1, e h2]
    exact Or.inl (Nat.le_refl _)
  · rw [e h1]
    exact Nat.zero_le _
  · rw [e h1] at hj
    exact absurd hj (Nat.not_lt_zero _)
  · rw [e h1] at hj
    exact absurd hj (Nat.not_lt_zero _)
def stCt : List CT := [frH, frP, frP, frR, c00, frF, c00, frT, c00, c00, c00, frM, c00]
/-- the heap as the law's loop begins -/
def stS (z sl' : Nat) (h : HP) : HP := bOv (z + 168) oLay (c00.1, c00.2, rfD (stA z) (stD z sl') 12) (bOv (z + 108) mLay (frM.1, frM.2, rfD (stA z) (stD z sl') 11) (bOv (z + 93) kLay (c00.1, c00.2, rfD (stA z) (stD z sl') 4) (bOv (z + 88) rLay (frR.1, frR.2, rfD (stA z) (stD z sl') 3) (bOv (z + 45) pLay (frP.1, frP.2, rfD (stA z) (stD z sl') 2) (bOv (z + 2) pLay (frP.1, frP.2, rfD (stA z) (stD z sl') 1) (bOv z hLay (frH.1, frH.2, rfD (stA z) (stD z sl') 0) h))))))
theorem st_HL {z sl' : Nat} {h : HP} : HL (stA z) (stD z sl') stCt (stS z sl' h, z + 169, sl') := by
  have s0 : Hd (List.replicate 14 (0, []), rfD (stA z) (stD z sl')) stCt (h, z, 0) := Hd.none
  have s1 : Hd (((List.replicate 14 (0, [])).set 0 (z, hLay), rfD (stA z) (stD z sl'))) stCt (bOv z hLay (frH.1, frH.2, rfD (stA z) (stD z sl') 0) h, z + 2, 0) := s0.new (b := 0) (by decide) rfl
  have s2 : Hd ((((List.replicate 14 (0, [])).set 0 (z, hLay)).set 1 (z + 2, pLay), rfD (stA z) (stD z sl'))) stCt (bOv (z + 2) pLay (frP.1, frP.2, rfD (stA z) (stD z sl') 1) (bOv z hLay (frH.1, frH.2, rfD (stA z) (stD z sl') 0) h), z + 2 + 43, 0) := s1.new (b := 1) (by decide) rfl
  rw [show z + 2 + 43 = z + 45 from rfl] at s2
  have s3 := s2.new (b := 2) (lay := pLay) (c := frP) (sl := 0) (by decide) rfl
  have s3' : Hd (_, rfD (stA z) (stD z sl')) stCt (bOv (z + 45) pLay (frP.1, frP.2, rfD (stA z) (stD z sl') 2) _, z + 45 + 43, 0) := s3
  rw [show z + 45 + 43 = z + 88 from rfl] at s3'
  have s4 := s3'.new (b := 3) (lay := rLay) (c := frR) (sl := 0) (by decide) rfl
  have s4' : Hd (_, rfD (stA z) (stD z sl')) stCt (bOv (z + 88) rLay (frR.1, frR.2, rfD (stA z) (stD z sl') 3) _, z + 88 + 5, 0) := s4
  rw [show z + 88 + 5 = z + 93 from rfl] at s4'
  have s5 := s4'.new (b := 4) (lay := kLay) (c := c00) (sl := 0) (by decide) rfl
  have s5' : Hd (_, rfD (stA z) (stD z sl')) stCt (bOv (z + 93) kLay (c00.1, c00.2, rfD (stA z) (stD z sl') 4) _, z + 93 + 15, 0) := s5
  rw [show z + 93 + 15 = z + 108 from rfl] at s5'
  have s6 := s5'.new (b := 11) (lay := mLay) (c := frM) (sl := 0) (by decide) rfl
  have s6' : Hd (_, rfD (stA z) (stD z sl')) stCt (bOv (z + 108) mLay (frM.1, frM.2, rfD (stA z) (stD z sl') 11) _, z + 108 + 60, 0) := s6
  rw [show z + 108 + 60 = z + 168 from rfl] at s6'
  have s7 := s6'.new (b := 12) (lay := oLay) (c := c00) (sl := sl') (by decide) rfl
  exact ⟨s7, rfl⟩
theorem st_HI {z sl' : Nat} {h : HP} : HI (potC (stD z sl')) (potS (stD z sl')) z (z + 108) (z + 168) (stS z sl' h, z + 169, sl') := by
  refine ⟨stA z, stD z sl', frH, frP, frP, frR, c00, frF, c00, frT, c00, c00, c00, frM, c00, rfl, rfl, rfl, st_HL, ⟨⟨?_, ?_⟩, rfl, rfl⟩, ⟨0, 0, 0, 0, 0, 0, 0, CO.start, FOK.fresh (by decide), TOK.fresh⟩, ⟨fun _ => rfl, fun _ => rfl, fun _ => rfl, fun _ => rfl, fun _ => rfl, fun _ => rfl⟩, fun z => absurd rfl z, fun z => absurd rfl z⟩
  · exact fun y => absurd (show false = true from y) (by decide)
  · exact fun _ => ⟨rfl, rfl⟩
theorem st_new {L : List Value} {σ : ST} {sl' : Nat} : eNew 11 13 (dV tyX11 13) m_X11_init [] L σ = some (.ref σ.2.1, (bOv (σ.2.1 + 93) kLay (c00.1, c00.2, rfD (stA σ.2.1) (stD σ.2.1 sl') 4) (bOv (σ.2.1 + 88) rLay (frR.1, frR.2, rfD (stA σ.2.1) (stD σ.2.1 sl') 3) (bOv (σ.2.1 + 45) pLay (frP.1, frP.2, rfD (stA σ.2.1) (stD σ.2.1 sl') 2) (bOv (σ.2.1 + 2) pLay (frP.1, frP.2, rfD (stA σ.2.1) (stD σ.2.1 sl') 1) (bOv σ.2.1 hLay (frH.1, frH.2, rfD (stA σ.2.1) (stD σ.2.1 sl') 0) σ.1)))), σ.2.1 + 108, σ.2.2 + 6177)) := by
  unfold eNew
  show (m_X11_init [.ref σ.2.1] (alloc σ (.inr (11, dV tyX11 13)) 13)).bind _ = _
  rw [init_H (sl' := sl')]
  rfl
theorem st_newM {L : List Value} {g : HP} {n sl : Nat} : eNew 12 108 (dV tyX12 108) m_X12_init [] L (g, n, sl) = some (.ref n, (bOv n mLay (frM.1, frM.2, fun _ _ => none) g, n + 60, sl + 18330)) := by
  unfold eNew
  show (m_X12_init [.ref n] (alloc (g, n, sl) (.inr (12, dV tyX12 108)) 108)).bind _ = _
  rw [show m_X12_init [.ref n] (alloc (g, n, sl) (.inr (12, dV tyX12 108)) 108) = _ from init_M (σ := (g, n, sl))]
  rfl
theorem st_newO {L : List Value} {g : HP} {n sl : Nat} : eNA .long zL (eK (.int 1)) L (g, n, sl) = some (.ref n, (bOv n oLay (c00.1, c00.2, fun _ _ => none) g, n + 1, sl + 1)) := by
  have e : alloc (g, n, sl) (.inl (.long, zL 1)) 1 = (bOv n oLay (c00.1, c00.2, fun _ _ => none) g, n + 1, sl + 1) := by
    unfold alloc
    refine Prod.ext (funext fun a => ?_) rfl
    show (if a = n then some (Sum.inl (FieldType.long, zL 1)) else g a) = bOv n oLay _ g a
    unfold bOv
    by_cases e : a = n
    · rw [if_pos e, if_pos (by rw [e]; exact ⟨Nat.le_refl _, Nat.lt_succ_self _⟩), e, Nat.sub_self]
      rfl
    · rw [if_neg e, if_neg (by show ¬ (n ≤ a ∧ a < n + 1); omega)]
  rw [← e]
  rfl
