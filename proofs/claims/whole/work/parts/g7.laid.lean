/-! ===== the text's end: the plan that was read is laid (tools/gen19.py) ===== -/
section Laid
variable {P c M : CT} {l q f m h : Nat}
/-- rows of S have their upper halves copied down -/
def LD (c c' : CT) (S : Nat → Prop) : Prop := (∀ j k, ¬ (2 ≤ j ∧ j ≤ 32 ∧ k < half j ∧ S j) → c'.1 j k = c.1 j k) ∧ ∀ j k, 2 ≤ j → j ≤ 32 → S j → k < half j → c'.1 j k = c.1 j (half j + k)
theorem half_ld {c' : CT} {S : Nat → Prop} {j N : Nat} {Q : CT → Prop} (g : LD c c' S) (hj : 2 ≤ j ∧ j ≤ 32) (hN : N = 2 * half j) (h9 : N < 2 ^ 31) (hQ : ∀ c'', LD c c'' (fun x => S x ∨ x = j) → Q c'') : k_X12_half c' j N Q := by
  unfold k_X12_half
  show dvI (nI N) (nI 2) _
  rw [dv_n h9 (by omega) (by omega), show N / 2 = half j by omega]
  refine upl2 (N := half j) (a := 0) (by omega) (fun i d => (∀ x k, ¬ (x = j ∧ k < i) → d.1 x k = c'.1 x k) ∧ ∀ k, k < i → d.1 j k = c.1 j (half j + k)) (fun R i d h1 h2 hd k => ?_) (fun R d hd => ?_) (by omega) ⟨fun _ _ _ => rfl, fun k hk => absurd hk (by omega)⟩
  · rw [if_neg (by rw [nI_le' (by omega) (by omega)]; omega), nI_add, rdI_n (by omega) (by omega), wrI_n (by omega) (by omega), inc_n]
    refine k _ ⟨fun x y z => ?_, fun y hy => ?_⟩
    · rw [sI_ne (by omega)]
      exact hd.1 x y (by omega)
    · by_cases e : y = i
      · subst e
        rw [sI_same, hd.1 j _ (by omega), g.1 j _ (by omega)]
      · rw [sI_ne (by omega)]
        exact hd.2 y (by omega)
  · rw [if_pos (Int32.le_refl _)]
    refine hQ d ⟨fun x y z => ?_, fun x y h1 h2 h3 h4 => ?_⟩
    · have z' : ¬ (x = j ∧ y < half j) := by
        rintro ⟨rfl, z1⟩
        exact z ⟨hj.1, hj.2, z1, Or.inr rfl⟩
      rw [hd.1 x y z']
      exact g.1 x y fun q => z ⟨q.1, q.2.1, q.2.2.1, Or.inl q.2.2.2⟩
    · by_cases e : x = j
      · subst e
        exact hd.2 y h4
      · rw [hd.1 x y (by omega)]
        exact g.2 x y h1 h2 (h3.resolve_right e) h4
/-- the same plan in a view that differs only in dogs of houses that aren't there -/
theorem PRel.vb {P V V' : VW} (g : PRel P V l q f m h) (eV : ∀ j k, VWR j k → ¬ (j = 27 ∧ h ≤ k) → V' j k = V j k) : PRel P V' l q f m h := by
  obtain ⟨c1, c2, c3, c4, c5, c6, c7, c8⟩ := g.chg (A := fun _ _ => False) (fun _ _ _ => rfl) eV
  obtain ⟨a, b, d1, d2, d3, d4, d5⟩ := g.1
  exact ⟨⟨a, b, (eV _ _ (Or.inl (by omega)) (by omega)).trans d1, (eV _ _ (Or.inl (by omega)) (by omega)).trans d2, (eV _ _ (Or.inl (by omega)) (by omega)).trans d3, (eV _ _ (Or.inl (by omega)) (by omega)).trans d4, (eV _ _ (Or.inl (by omega)) (by omega)).trans d5⟩, fun i hi => c1 i hi fun j _ _ => ⟨id, by omega⟩, fun i hi => c2 i hi fun j _ _ => ⟨id, by omega⟩, fun i hi => c3 i hi (fun _ _ _ => id) (by omega) (by omega), fun i hi => c4 i hi (fun _ => id) (by omega), fun i hi => c5 i hi (fun _ => id) (by omega), fun d hd => c6 d hd id (by omega), c7 (fun _ _ _ _ => id) (by omega) (by omega), c8 ⟨id, id⟩ (by omega)⟩
/-- what the reference is when the plan is laid, before the days begin -/
def LDD (c c' : CT) (m h : Nat) : Prop := (∀ j k, VWR j k → ¬ (j = 27 ∧ h ≤ k) → c'.1 j k = uppV c j k) ∧ ∀ j k, ¬ VWR j k → c'.1 j k = c.1 j k
theorem laid_ok {Q : CT → Prop} (hp : PRel P.1 (uppV c) l q f m h) (hQ : ∀ c', LDD c c' m h → k_X12_begins c' (fun c103 => Q c103)) : k_X12_laid c Q := by
  have hh : h ≤ 10 := hp.1.1.2.2.2.2
  unfold k_X12_laid
  simp only [wrF_eq]
  simp (disch := omega) only [sI_ne]
  have hd : ∀ j k, ¬ (j = 0 ∧ 34 ≤ k ∧ k ≤ 45) → (sI (sI (sI (sI (sI (sI (sI (sI (sI (sI (sI (sI c 0 34 (c.1 0 46)) 0 35 (c.1 0 47)) 0 36 (c.1 0 48)) 0 37 (c.1 0 49)) 0 38 (c.1 0 50)) 0 39 (c.1 0 51)) 0 40 (c.1 0 52)) 0 41 (c.1 0 53)) 0 42 (c.1 0 54)) 0 43 (c.1 0 55)) 0 44 (c.1 0 56)) 0 45 (c.1 0 57)).1 j k = c.1 j k := fun j k z => by
    rw [sI_ne (by omega), sI_ne (by omega), sI_ne (by omega), sI_ne (by omega), sI_ne (by omega), sI_ne (by omega), sI_ne (by omega), sI_ne (by omega), sI_ne (by omega), sI_ne (by omega), sI_ne (by omega), sI_ne (by omega)]
  have hv : ∀ k, 34 ≤ k → k ≤ 45 → (sI (sI (sI (sI (sI (sI (sI (sI (sI (sI (sI (sI c 0 34 (c.1 0 46)) 0 35 (c.1 0 47)) 0 36 (c.1 0 48)) 0 37 (c.1 0 49)) 0 38 (c.1 0 50)) 0 39 (c.1 0 51)) 0 40 (c.1 0 52)) 0 41 (c.1 0 53)) 0 42 (c.1 0 54)) 0 43 (c.1 0 55)) 0 44 (c.1 0 56)) 0 45 (c.1 0 57)).1 0 k = c.1 0 (k + 12) := fun k h1 h2 => by
    by_cases e45 : k = 45
    · subst e45
      exact sI_same
    rw [sI_ne (by omega)]
    by_cases e44 : k = 44
    · subst e44
      exact sI_same
    rw [sI_ne (by omega)]
    by_cases e43 : k = 43
    · subst e43
      exact sI_same
    rw [sI_ne (by omega)]
    by_cases e42 : k = 42
    · subst e42
      exact sI_same
    rw [sI_ne (by omega)]
    by_cases e41 : k = 41
    · subst e41
      exact sI_same
    rw [sI_ne (by omega)]
    by_cases e40 : k = 40
    · subst e40
      exact sI_same
    rw [sI_ne (by omega)]
    by_cases e39 : k = 39
    · subst e39
      exact sI_same
    rw [sI_ne (by omega)]
    by_cases e38 : k = 38
    · subst e38
      exact sI_same
    rw [sI_ne (by omega)]
    by_cases e37 : k = 37
    · subst e37
      exact sI_same
    rw [sI_ne (by omega)]
    by_cases e36 : k = 36
    · subst e36
      exact sI_same
    rw [sI_ne (by omega)]
    by_cases e35 : k = 35
    · subst e35
      exact sI_same
    rw [sI_ne (by omega)]
    by_cases e34 : k = 34
    · subst e34
      exact sI_same
    rw [sI_ne (by omega)]
    omega
  generalize (sI (sI (sI (sI (sI (sI (sI (sI (sI (sI (sI (sI c 0 34 (c.1 0 46)) 0 35 (c.1 0 47)) 0 36 (c.1 0 48)) 0 37 (c.1 0 49)) 0 38 (c.1 0 50)) 0 39 (c.1 0 51)) 0 40 (c.1 0 52)) 0 41 (c.1 0 53)) 0 42 (c.1 0 54)) 0 43 (c.1 0 55)) 0 44 (c.1 0 56)) 0 45 (c.1 0 57)) = c0 at hd hv ⊢
  have g0 : LD c0 c0 (fun _ => False) := ⟨fun _ _ _ => rfl, fun _ _ _ _ h => h.elim⟩
  refine half_ld g0 (by omega) rfl (by omega) fun c1 g1 => ?_
  refine half_ld g1 (by omega) rfl (by omega) fun c2 g2 => ?_
  refine half_ld g2 (by omega) rfl (by omega) fun c3 g3 => ?_
  refine half_ld g3 (by omega) rfl (by omega) fun c4 g4 => ?_
  refine half_ld g4 (by omega) rfl (by omega) fun c5 g5 => ?_
  refine half_ld g5 (by omega) rfl (by omega) fun c6 g6 => ?_
  refine half_ld g6 (by omega) rfl (by omega) fun c7 g7 => ?_
  refine half_ld g7 (by omega) rfl (by omega) fun c8 g8 => ?_
  refine half_ld g8 (by omega) rfl (by omega) fun c9 g9 => ?_
  refine half_ld g9 (by omega) rfl (by omega) fun c10 g10 => ?_
  refine half_ld g10 (by omega) rfl (by omega) fun c11 g11 => ?_
  refine half_ld g11 (by omega) rfl (by omega) fun c12 g12 => ?_
  refine half_ld g12 (by omega) rfl (by omega) fun c13 g13 => ?_
  refine half_ld g13 (by omega) rfl (by omega) fun c14 g14 => ?_
  refine half_ld g14 (by omega) rfl (by omega) fun c15 g15 => ?_
  refine half_ld g15 (by omega) rfl (by omega) fun c16 g16 => ?_
  refine half_ld g16 (by omega) rfl (by omega) fun c17 g17 => ?_
  refine half_ld g17 (by omega) rfl (by omega) fun c18 g18 => ?_
  refine half_ld g18 (by omega) rfl (by omega) fun c19 g19 => ?_
  refine half_ld g19 (by omega) rfl (by omega) fun c20 g20 => ?_
  refine half_ld g20 (by omega) rfl (by omega) fun c21 g21 => ?_
  refine half_ld g21 (by omega) rfl (by omega) fun c22 g22 => ?_
  refine half_ld g22 (by omega) rfl (by omega) fun c23 g23 => ?_
  refine half_ld g23 (by omega) rfl (by omega) fun c24 g24 => ?_
  refine half_ld g24 (by omega) rfl (by omega) fun c25 g25 => ?_
  refine half_ld g25 (by omega) rfl (by omega) fun c26 g26 => ?_
  refine half_ld g26 (by omega) rfl (by omega) fun c27 g27 => ?_
  refine half_ld g27 (by omega) rfl (by omega) fun c28 g28 => ?_
  refine half_ld g28 (by omega) rfl (by omega) fun c29 g29 => ?_
  have up : ∀ j k, 2 ≤ j → j ≤ 32 → c29.1 j (half j + k) = uppV c j k := fun j k h1 h2 => by
    rw [g29.1 j _ (by omega), hd j _ (by omega), uppV_u (by omega)]
  have lo : ∀ j k, 2 ≤ j → j ≤ 32 → j ≠ 27 → j ≠ 30 → k < half j → c29.1 j k = uppV c j k := fun j k h1 h2 h3 h4 hk => by
    rw [g29.2 j k h1 h2 (by omega) hk, hd j _ (by omega), uppV_u (by omega)]
  have ot : ∀ j k, ¬ (2 ≤ j ∧ j ≤ 32 ∧ k < half j) → c29.1 j k = c0.1 j k := fun j k z => g29.1 j k (by omega)
  refine upl2 (N := 10) (a := 0) (by omega) (fun i d => (∀ x k, ¬ (x = 27 ∧ k < i) → d.1 x k = c29.1 x k) ∧ ∀ k, k < i → k < h → d.1 27 k = uppV c 27 k) (fun R i d h1 h2 hd' k => ?_) (fun R d hd' => ?_) (by omega) ⟨fun _ _ _ => rfl, fun k hk => absurd hk (by omega)⟩
  · rw [if_neg (by rw [li_10, nI_le' (by omega) (by omega)]; omega), li_10, nI_add, rdI_n (by omega) (by omega), wrI_n (by omega) (by omega), inc_n]
    refine k _ ⟨fun x y z => ?_, fun y hy hyh => ?_⟩
    · rw [sI_ne (by omega)]
      exact hd'.1 x y (by omega)
    · by_cases e : y = i
      · subst e
        have e1 : d.1 27 (10 + y) = uppV c 27 y := (hd'.1 27 _ (by omega)).trans (up 27 y (by omega) (by omega))
        rw [sI_same, e1]
        rcases (hp.2.2.2.2.2.1 y hyh).2.2.2.2.2.2.2.1.2 with e | e
        · rw [e]
          exact bo0
        · rw [e]
          exact bo1
      · rw [sI_ne (by omega)]
        exact hd'.2 y (by omega) hyh
  · rw [if_pos (by rw [li_10]; exact Int32.le_refl _)]
    refine upl2 (N := 200) (a := 0) (by omega) (fun i e => (∀ x k, ¬ (x = 30 ∧ k < i) → e.1 x k = d.1 x k) ∧ ∀ k, k < i → e.1 30 k = uppV c 30 k) (fun R i e h1 h2 he k => ?_) (fun R e he => ?_) (by omega) ⟨fun _ _ _ => rfl, fun k hk => absurd hk (by omega)⟩
    · rw [if_neg (by rw [li_200, nI_le' (by omega) (by omega)]; omega), li_200, nI_add, rdI_n (by omega) (by omega), wrI_n (by omega) (by omega), inc_n]
      refine k _ ⟨fun x y z => ?_, fun y hy => ?_⟩
      · rw [sI_ne (by omega)]
        exact he.1 x y (by omega)
      · by_cases e' : y = i
        · subst e'
          have e1 : e.1 30 (200 + y) = uppV c 30 y := (he.1 30 _ (by omega)).trans ((hd'.1 30 _ (by omega)).trans (up 30 y (by omega) (by omega)))
          rw [sI_same, e1]
          rcases (hp.2.2.2.2.2.2.1 y (by omega)).2 with z | z
          · rw [z]
            exact bo0
          · rw [z]
            exact bo1
        · rw [sI_ne (by omega)]
          exact he.2 y (by omega)
    · rw [if_pos (by rw [li_200]; exact Int32.le_refl _)]
      refine hQ e ⟨fun j k wv z => ?_, fun j k z => ?_⟩
      · rcases wv with ⟨rfl, w1, w2⟩ | ⟨w1, w2, w3⟩
        · rw [he.1 _ _ (by omega), hd'.1 _ _ (by omega), ot _ _ (by omega), hv k w1 w2, uppV_0]
        · by_cases e30 : j = 30
          · subst e30
            exact he.2 k w3
          · rw [he.1 _ _ (by omega)]
            by_cases e27 : j = 27
            · subst e27
              have w3' : k < 10 := w3
              exact hd'.2 k w3' (by omega)
            · rw [hd'.1 _ _ (by omega)]
              exact lo j k w1 w2 e27 e30 w3
      · unfold VWR at z
        have z30 : ¬ (j = 30 ∧ k < 200) := by
          rintro ⟨rfl, y⟩
          exact z (Or.inr ⟨by omega, by omega, y⟩)
        have z27 : ¬ (j = 27 ∧ k < 10) := by
          rintro ⟨rfl, y⟩
          exact z (Or.inr ⟨by omega, by omega, y⟩)
        rw [he.1 _ _ z30, hd'.1 _ _ z27, ot _ _ (by omega), hd _ _ (by omega)]
end Laid
