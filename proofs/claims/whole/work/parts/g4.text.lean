/-! ===== reading: the whole text (tools/gen17.py) ===== -/
section All
variable {H P R c M : CT} {T : Nat → T4} {K n i l q f m h t : Nat} {Q : Int32 → CT → CT → Prop}
/-- the reference as a text begins -/
def hdM (M : CT) (n : Nat) : CT := (sI (sI (sI (sI (sI (sI (sI (sI (sI (sI (sI (sI (sI (sI (sI (sI (sI (sI (sI (sI (sI (sI M 0 0 (0 : Int32)) 0 61 (nI n)) 0 2 (0 : Int32)) 0 62 (0 : Int32)) 0 66 (0 : Int32)) 0 67 (-1 : Int32)) 0 46 (0 : Int32)) 0 47 (0 : Int32)) 0 48 (0 : Int32)) 0 49 (0 : Int32)) 0 50 (0 : Int32)) 0 51 (0 : Int32)) 0 52 (0 : Int32)) 0 53 (0 : Int32)) 0 54 (0 : Int32)) 0 55 (0 : Int32)) 0 56 (0 : Int32)) 0 57 (0 : Int32)) 0 58 (0 : Int32)) 0 59 (0 : Int32)) 0 60 (0 : Int32)) 0 70 (0 : Int32))
def hdC (j k : Nat) : Prop := j = 0 ∧ (k = 0 ∨ k = 2 ∨ (46 ≤ k ∧ k ≤ 62) ∨ k = 66 ∨ k = 67 ∨ k = 70)
theorem hd_ne {j k : Nat} (e : ¬ hdC j k) : (hdM M n).1 j k = M.1 j k := by
  unfold hdC at e
  unfold hdM
  rw [sI_ne (by omega), sI_ne (by omega), sI_ne (by omega), sI_ne (by omega), sI_ne (by omega), sI_ne (by omega), sI_ne (by omega), sI_ne (by omega), sI_ne (by omega), sI_ne (by omega), sI_ne (by omega), sI_ne (by omega), sI_ne (by omega), sI_ne (by omega), sI_ne (by omega), sI_ne (by omega), sI_ne (by omega), sI_ne (by omega), sI_ne (by omega), sI_ne (by omega), sI_ne (by omega), sI_ne (by omega)]
theorem hd_0 {k : Nat} (e : (46 ≤ k ∧ k ≤ 60) ∨ k = 62 ∨ k = 66 ∨ k = 70 ∨ k = 2) : (hdM M n).1 0 k = 0 := by
  unfold hdM
  by_cases e70 : k = 70
  · subst e70
    exact sI_same
  rw [sI_ne (by omega)]
  by_cases e60 : k = 60
  · subst e60
    exact sI_same
  rw [sI_ne (by omega)]
  by_cases e59 : k = 59
  · subst e59
    exact sI_same
  rw [sI_ne (by omega)]
  by_cases e58 : k = 58
  · subst e58
    exact sI_same
  rw [sI_ne (by omega)]
  by_cases e57 : k = 57
  · subst e57
    exact sI_same
  rw [sI_ne (by omega)]
  by_cases e56 : k = 56
  · subst e56
    exact sI_same
  rw [sI_ne (by omega)]
  by_cases e55 : k = 55
  · subst e55
    exact sI_same
  rw [sI_ne (by omega)]
  by_cases e54 : k = 54
  · subst e54
    exact sI_same
  rw [sI_ne (by omega)]
  by_cases e53 : k = 53
  · subst e53
    exact sI_same
  rw [sI_ne (by omega)]
  by_cases e52 : k = 52
  · subst e52
    exact sI_same
  rw [sI_ne (by omega)]
  by_cases e51 : k = 51
  · subst e51
    exact sI_same
  rw [sI_ne (by omega)]
  by_cases e50 : k = 50
  · subst e50
    exact sI_same
  rw [sI_ne (by omega)]
  by_cases e49 : k = 49
  · subst e49
    exact sI_same
  rw [sI_ne (by omega)]
  by_cases e48 : k = 48
  · subst e48
    exact sI_same
  rw [sI_ne (by omega)]
  by_cases e47 : k = 47
  · subst e47
    exact sI_same
  rw [sI_ne (by omega)]
  by_cases e46 : k = 46
  · subst e46
    exact sI_same
  rw [sI_ne (by omega)]
  rw [sI_ne (by omega)]
  by_cases e66 : k = 66
  · subst e66
    exact sI_same
  rw [sI_ne (by omega)]
  by_cases e62 : k = 62
  · subst e62
    exact sI_same
  rw [sI_ne (by omega)]
  by_cases e2 : k = 2
  · subst e2
    exact sI_same
  rw [sI_ne (by omega)]
  rw [sI_ne (by omega)]
  omega
theorem hd_61 : (hdM M n).1 0 61 = nI n := by
  unfold hdM
  rw [sI_ne (by omega), sI_ne (by omega), sI_ne (by omega), sI_ne (by omega), sI_ne (by omega), sI_ne (by omega), sI_ne (by omega), sI_ne (by omega), sI_ne (by omega), sI_ne (by omega), sI_ne (by omega), sI_ne (by omega), sI_ne (by omega), sI_ne (by omega), sI_ne (by omega), sI_ne (by omega), sI_ne (by omega), sI_ne (by omega), sI_ne (by omega), sI_ne (by omega), sI_same]
theorem hd_67 : (hdM M n).1 0 67 = -1 := by
  unfold hdM
  rw [sI_ne (by omega), sI_ne (by omega), sI_ne (by omega), sI_ne (by omega), sI_ne (by omega), sI_ne (by omega), sI_ne (by omega), sI_ne (by omega), sI_ne (by omega), sI_ne (by omega), sI_ne (by omega), sI_ne (by omega), sI_ne (by omega), sI_ne (by omega), sI_ne (by omega), sI_ne (by omega), sI_same]
def zF (c : CT) (j o b : Nat) : CT := (fun x k => if x = j ∧ o ≤ k ∧ k < o + b then 0 else c.1 x k, c.2)
theorem zF_at {j o b k : Nat} (h : o ≤ k ∧ k < o + b) : (zF c j o b).1 j k = 0 := if_pos ⟨rfl, h.1, h.2⟩
theorem zF_ne {j o b x k : Nat} (h : ¬ (x = j ∧ o ≤ k ∧ k < o + b)) : (zF c j o b).1 x k = c.1 x k := if_neg h
theorem zF_0 {j o : Nat} : zF c j o 0 = c := by
  refine Prod.ext ?_ rfl
  funext x k
  exact zF_ne (by omega)
theorem zF_s {j o b : Nat} : sI (zF c j o b) j (o + b) 0 = zF c j o (b + 1) := by
  refine Prod.ext ?_ rfl
  funext x k
  by_cases e : x = j ∧ k = o + b
  · obtain ⟨rfl, rfl⟩ := e
    rw [sI_same, zF_at (by omega)]
  · rw [sI_ne e]
    by_cases g : x = j ∧ o ≤ k ∧ k < o + b
    · obtain ⟨rfl, g⟩ := g
      rw [zF_at g, zF_at (by omega)]
    · rw [zF_ne g, zF_ne (by omega)]
/-- the end of the reference's text -/
def tFin (Q : Int32 → CT → Prop) (c226 : CT) : Prop := wrF c226 0 68 (c226.1 0 66) (fun c227 => wrF c227 0 69 (c227.1 0 67) (fun c228 => (if (c228.1 0 66) = (0 : Int32) then k_X12_laid c228 (fun c235 => Q (c235.1 0 60) c235) else Q (-1 : Int32) c228)))
def tBd (Q : Int32 → CT → Prop) (S : CT → Prop) (c245 : CT) : Prop := if (c245.1 0 66) ≠ (0 : Int32) then tFin Q c245 else (if (c245.1 0 64) = (4 : Int32) then tFin Q c245 else k2_X12_line c245 (fun c253 => S c253))
def tLp (Q : Int32 → CT → Prop) (c : CT) : Prop := LP1 (tBd Q) c
theorem tLp_go {Q : Int32 → CT → Prop} {c' : CT} (hb : ∀ S : CT → Prop, S c' → tBd Q S c) (w : tLp Q c') : tLp Q c := fun S hS => hS c (hb S (w S hS))
theorem tLp_x {Q : Int32 → CT → Prop} {k p : Int32} (g : FLr M c k p) (hk : k ≠ 0) (w : tFin Q c) : tLp Q c := fun S hS => hS c (by
  unfold tBd
  rw [if_pos (by rw [g.2.1]; exact hk)]
  exact w)
theorem tLp_e {Q : Int32 → CT → Prop} (g : RDr M c T n i) (h4 : (T i).2.2.1 = 4) (w : tFin Q c) : tLp Q c := fun S hS => hS c (by
  unfold tBd
  rw [if_neg (by rw [g.2.2.2.2.1]; exact fun y => y rfl), if_pos (g.2.2.2.1.2.2.1.trans h4)]
  exact w)
theorem tBd_l {Q : Int32 → CT → Prop} {S : CT → Prop} (g : RDr M c T n i) (h4 : (T i).2.2.1 ≠ 4) (w : k2_X12_line c (fun c253 => S c253)) : tBd Q S c := by
  unfold tBd
  rw [if_neg (by rw [g.2.2.2.2.1]; exact fun y => y rfl), if_neg (by rw [g.2.2.2.1.2.2.1]; exact h4)]
  exact w
/-- where the reference's lines begin -/
def tSt (M : CT) (n : Nat) : CT := zF (hdM M n) 30 200 200
theorem text_go {Q : Int32 → CT → Prop} {s : Nat} (hn : n ≤ s) (hs : s ≤ 900) (h2 : M.1 0 2 = nI s) (w : k2_X12_token (tSt M n) (fun c224 => tLp Q c224)) : k2_X12_text M (nI n) Q := by
  unfold k2_X12_text
  simp only [wrF_eq, jn_eq]
  rw [if_neg (nI_pos (by omega)), sI_ne (by omega), h2, if_pos (by rw [nI_le' (by omega) (by omega)]; exact hn)]
  show LP2 _ (nI 0) (hdM M n)
  refine upl2 (N := 200) (a := 0) (by omega) (fun j d => d = zF (hdM M n) 30 200 j) (fun S j d h1 h2 hd k => ?_) (fun S d hd => ?_) (by omega) zF_0.symm
  · rw [hd, if_neg (by rw [li_200, nI_le' (by omega) (by omega)]; omega), li_200, nI_add, wrI_n (by omega) (by omega), bo0, zF_s, inc_n]
    exact k _ rfl
  · rw [hd, if_pos (by rw [li_200]; exact Int32.le_refl _)]
    exact w
theorem clear_ok {S : CT → Prop} (hS : ∀ P', (P'.1 1 0 = 0 ∧ P'.1 1 1 = 0 ∧ P'.1 0 1 = 0 ∧ P'.1 0 2 = 0 ∧ P'.1 0 3 = 0) → (∀ d, d < 200 → P'.1 10 d = 0) → (P'.1 11 0 = 0 ∧ P'.1 13 0 = 0 ∧ P'.1 0 10 = 0 ∧ P'.1 0 11 = 0 ∧ P'.1 0 12 = 0) → S P') : k_X6_clear P S := by
  unfold k_X6_clear
  simp only [wrF_eq]
  refine upl2 (N := 200) (a := 0) (by omega) (fun j d => d = zF (sI (sI (sI (sI (sI P 1 0 0) 1 1 0) 0 1 0) 0 2 0) 0 3 0) 10 0 j) (fun R j d h1 h2 hd k => ?_) (fun R d hd => ?_) (by omega) zF_0.symm
  · have zs := zF_s (c := sI (sI (sI (sI (sI P 1 0 0) 1 1 0) 0 1 0) 0 2 0) 0 3 0) (j := 10) (o := 0) (b := j)
    rw [Nat.zero_add] at zs
    rw [hd, if_neg (by rw [li_200, nI_le' (by omega) (by omega)]; omega), wrI_n (by omega) (by omega), bo0, zs, inc_n]
    exact k _ rfl
  · rw [hd, if_pos (by rw [li_200]; exact Int32.le_refl _)]
    refine hS _ ⟨?_, ?_, ?_, ?_, ?_⟩ (fun x hx => ?_) ⟨?_, ?_, ?_, ?_, ?_⟩
    · rw [sI_ne (by omega), sI_ne (by omega), sI_ne (by omega), sI_ne (by omega), sI_ne (by omega), zF_ne (by omega), sI_ne (by omega), sI_ne (by omega), sI_ne (by omega), sI_ne (by omega), sI_same]
    · rw [sI_ne (by omega), sI_ne (by omega), sI_ne (by omega), sI_ne (by omega), sI_ne (by omega), zF_ne (by omega), sI_ne (by omega), sI_ne (by omega), sI_ne (by omega), sI_same]
    · rw [sI_ne (by omega), sI_ne (by omega), sI_ne (by omega), sI_ne (by omega), sI_ne (by omega), zF_ne (by omega), sI_ne (by omega), sI_ne (by omega), sI_same]
    · rw [sI_ne (by omega), sI_ne (by omega), sI_ne (by omega), sI_ne (by omega), sI_ne (by omega), zF_ne (by omega), sI_ne (by omega), sI_same]
    · rw [sI_ne (by omega), sI_ne (by omega), sI_ne (by omega), sI_ne (by omega), sI_ne (by omega), zF_ne (by omega), sI_same]
    · rw [sI_ne (by omega), sI_ne (by omega), sI_ne (by omega), sI_ne (by omega), sI_ne (by omega), zF_at (by omega)]
    · rw [sI_ne (by omega), sI_ne (by omega), sI_ne (by omega), sI_ne (by omega), sI_same]
    · rw [sI_ne (by omega), sI_ne (by omega), sI_ne (by omega), sI_same]
    · rw [sI_ne (by omega), sI_ne (by omega), sI_same]
    · rw [sI_ne (by omega), sI_same]
    · exact sI_same
theorem PRel.ln {P' V' P V : VW} (g : PRel P V l q f m h) (eP : ∀ j k, ¬ (j = 0 ∧ k = 12) → P' j k = P j k) (eV : ∀ j k, VWR j k → V' j k = V j k) : PRel P' V' l q f m h := by
  obtain ⟨c1, c2, c3, c4, c5, c6, c7, c8⟩ := g.chg (B := fun _ _ => False) eP (fun j k w _ => eV j k w)
  obtain ⟨a, ⟨b1, b2, b3, b4, b5⟩, d1, d2, d3, d4, d5⟩ := g.1
  exact ⟨⟨a, ⟨(eP _ _ (by omega)).trans b1, (eP _ _ (by omega)).trans b2, (eP _ _ (by omega)).trans b3, (eP _ _ (by omega)).trans b4, (eP _ _ (by omega)).trans b5⟩, (eV _ _ (Or.inl (by omega))).trans d1, (eV _ _ (Or.inl (by omega))).trans d2, (eV _ _ (Or.inl (by omega))).trans d3, (eV _ _ (Or.inl (by omega))).trans d4, (eV _ _ (Or.inl (by omega))).trans d5⟩, fun i hi => c1 i hi fun j _ _ => ⟨by omega, id⟩, fun i hi => c2 i hi fun j _ _ => ⟨by omega, id⟩, fun i hi => c3 i hi (by omega) (fun _ _ _ => id) (fun _ _ _ _ _ => id), fun i hi => c4 i hi (by omega) (fun _ _ _ => id), fun i hi => c5 i hi (by omega) (fun _ _ _ => id), fun d hd => c6 d hd (by omega) id, c7 (by omega) (fun _ _ _ _ _ => id) (fun _ _ _ _ => id), c8 (by omega) ⟨id, id⟩⟩
end All
