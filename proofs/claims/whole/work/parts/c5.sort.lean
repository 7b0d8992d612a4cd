/-! ===== houses by street ===== -/
def posB (bh : Nat → Nat → Bool) (T : Nat → Nat) (i : Nat) : Nat → Nat
  | 0 => 0
  | p + 1 => if bh (T p) i = true then posB bh T i p else p + 1
theorem posB_s {bh : Nat → Nat → Bool} {T : Nat → Nat} {i p : Nat} : posB bh T i (p + 1) = if bh (T p) i = true then posB bh T i p else p + 1 := rfl
theorem posB_le (bh : Nat → Nat → Bool) (T : Nat → Nat) (i : Nat) : ∀ p, posB bh T i p ≤ p
  | 0 => Nat.le_refl 0
  | p + 1 => by
    unfold posB
    split
    · exact Nat.le_succ_of_le (posB_le bh T i p)
    · exact Nat.le_refl _
def sq (V : VW) : Nat → Nat → Nat
  | 0 => fun i => i
  | k + 1 => insF (sq V k) (posB (bhS V) (sq V k) k k) k
theorem sq_ok (V : VW) : ∀ k, (∀ i, i < k → sq V k i < k) ∧ ∀ i j, i < j → j < k → sq V k i ≠ sq V k j
  | 0 => ⟨fun i h => absurd h (by omega), fun i j _ h => absurd h (by omega)⟩
  | k + 1 => by
    obtain ⟨h1, h2⟩ := sq_ok V k
    have hp := posB_le (bhS V) (sq V k) k k
    have e : sq V (k + 1) = insF (sq V k) (posB (bhS V) (sq V k) k k) k := rfl
    rw [e]
    generalize posB (bhS V) (sq V k) k k = p at hp
    refine ⟨fun i hi => ?_, fun i j hij hj => ?_⟩
    · unfold insF
      split
      · have := h1 i (by omega)
        omega
      · split
        · omega
        · have := h1 (i - 1) (by omega)
          omega
    · unfold insF
      by_cases a : i < p
      · rw [if_pos a]
        have ai := h1 i (by omega)
        by_cases b : j < p
        · rw [if_pos b]
          exact h2 i j hij (by omega)
        · rw [if_neg b]
          by_cases c : j = p
          · rw [if_pos c]
            omega
          · rw [if_neg c]
            exact h2 i (j - 1) (by omega) (by omega)
      · rw [if_neg a, if_neg (show ¬ j < p by omega), if_neg (show ¬ j = p by omega)]
        have bj := h1 (j - 1) (by omega)
        by_cases c : i = p
        · rw [if_pos c]
          omega
        · rw [if_neg c]
          exact h2 (i - 1) (j - 1) (by omega) (by omega)
section Srt
variable {P M T : CT} {V : VW} {f m h : Nat}
/-- a row of the houses, k of them in order, the hole at p -/
def HOLE (c : CT) (j : Nat) (S : Nat → Nat) (p k : Nat) : Prop := (∀ x, x < p → c.1 j x = nI (S x)) ∧ ∀ x, p ≤ x → x < k → c.1 j (x + 1) = nI (S x)
theorem HOLE.fill {c : CT} {j p k i : Nat} {S : Nat → Nat} (g : HOLE c j S p k) (hp : p ≤ k) : ∀ x, x < k + 1 → (sI c j p (nI i)).1 j x = nI (insF S p i x) := fun x hx => by
  rw [sI_at]
  unfold insF
  by_cases k1 : x < p
  · rw [if_neg (by omega), if_pos k1]
    exact g.1 x k1
  · by_cases k2 : x = p
    · rw [if_pos ⟨rfl, k2⟩, if_neg k1, if_pos k2]
    · rw [if_neg (by omega), if_neg k1, if_neg k2]
      obtain ⟨x', rfl⟩ : ∃ x', x = x' + 1 := ⟨x - 1, by omega⟩
      exact g.2 x' (by omega) (by omega)
theorem HOLE.down {c : CT} {j p k : Nat} {S : Nat → Nat} (g : HOLE c j S (p + 1) k) (hp : p < k) : HOLE (sI c j (p + 1) (nI (S p))) j S p k := by
  refine ⟨fun x hx => ?_, fun x h1 h2 => ?_⟩
  · rw [sI_ne (by omega)]
    exact g.1 x (by omega)
  · rw [sI_at]
    by_cases y : x = p
    · rw [if_pos ⟨rfl, by omega⟩, y]
    · rw [if_neg (by omega)]
      exact g.2 x (by omega) h2
theorem sortHouses_ok {Q : CT → Prop} (ph : P.1 0 3 = nI h) (h9 : h ≤ 10) (gh : ∀ i, i < h → PHou P.1 V f m i) (hQ : ∀ T', (∀ j k, j ≠ 3 → j ≠ 4 → T'.1 j k = T.1 j k) → (∀ i, i < h → T'.1 3 i = nI (sq V h i) ∧ T'.1 4 (sq V h i) = nI i) → Q T') : k_X9_sortHouses P T Q := by
  unfold k_X9_sortHouses
  refine upl2 (N := h) (a := 0) (by omega) (fun k c => (∀ j x, j ≠ 3 → c.1 j x = T.1 j x) ∧ ∀ x, x < k → c.1 3 x = nI (sq V k x)) ?_ ?_ (by omega) ⟨fun _ _ _ => rfl, fun x hx => absurd hx (by omega)⟩
  · rintro R k c - hk ⟨c1, c2⟩ ih
    obtain ⟨s1, s2⟩ := sq_ok V k
    rw [ph, if_neg (nI_ge hk (by omega))]
    have fin : ∀ c p, p ≤ k → posB (bhS V) (sq V k) k k = p → (∀ j x, j ≠ 3 → c.1 j x = T.1 j x) → HOLE c 3 (sq V k) p k → R (nI k + 1) (sI c 3 p (nI k)) := fun c p hp ep f1 f2 => by
      rw [nI_1]
      refine ih _ ⟨fun j x hj => (sI_ne (by omega)).trans (f1 j x hj), ?_⟩
      have := f2.fill (i := k) hp
      rw [show sq V (k + 1) = insF (sq V k) (posB (bhS V) (sq V k) k k) k from rfl, ep]
      exact this
    refine LP3.ind (fun a v c => ∃ p, p ≤ k ∧ a = nI p ∧ v = nI p ∧ posB (bhS V) (sq V k) k p = posB (bhS V) (sq V k) k k ∧ (∀ j x, j ≠ 3 → c.1 j x = T.1 j x) ∧ HOLE c 3 (sq V k) p k) (fun _ v _ => v.toNatClampNeg) ?_ ⟨k, by omega, rfl, rfl, rfl, c1, c2, fun x h1 h2 => by omega⟩
    rintro R2 a v c ⟨p, hp, rfl, rfl, e, f1, f2⟩ ih2
    cases p with
    | zero =>
      rw [if_pos (show nI 0 ≤ 0 from by decide), wrI_n (by omega) (by omega)]
      exact fin c 0 hp e.symm f1 f2
    | succ p =>
      have hs := s1 p (by omega)
      rw [if_neg (nI_nle (by omega) (by omega)), nI_pred, rdI_n (by omega) (by omega), f2.1 p (by omega), behindC (gh _ (by omega)) (gh k hk) (by omega) (by omega)]
      rw [posB_s] at e
      by_cases z : bhS V (sq V k p) k = true
      · rw [if_pos z] at e
        rw [if_pos z, if_neg (by decide), rdI_n (by omega) (by omega), f2.1 p (by omega), wrI_n (by omega) (by omega), vK_eq, m1_add]
        exact ih2 _ _ _ ⟨p, by omega, rfl, rfl, e, fun j x hj => (sI_ne (by omega)).trans (f1 j x hj), f2.down (by omega)⟩ (by rw [nI_clamp (by omega), nI_clamp (by omega)]; omega)
      · rw [if_neg z] at e
        rw [if_neg z, if_pos rfl, wrI_n (by omega) (by omega)]
        exact fin c (p + 1) hp e.symm f1 f2
  · rintro R c ⟨c1, c2⟩
    obtain ⟨s1, s2⟩ := sq_ok V h
    rw [ph, if_pos (Int32.le_refl _)]
    refine upl2 (N := h) (a := 0) (by omega) (fun k c' => (∀ j x, j ≠ 4 → c'.1 j x = c.1 j x) ∧ ∀ x, x < k → c'.1 4 (sq V h x) = nI x) ?_ ?_ (by omega) ⟨fun _ _ _ => rfl, fun x hx => absurd hx (by omega)⟩
    · rintro R2 k c' - hk ⟨d1, d2⟩ ih
      have hs := s1 k hk
      rw [if_neg (nI_ge hk (by omega)), rdI_n (by omega) (by omega), d1 3 k (by omega), c2 k hk, wrI_n (by omega) (by omega), nI_1]
      refine ih _ ⟨fun j x hj => (sI_ne (by omega)).trans (d1 j x hj), fun x hx => ?_⟩
      by_cases e : x = k
      · subst e
        rw [sI_same]
      · rw [sI_ne (fun z => s2 x k (by omega) hk z.2)]
        exact d2 x (by omega)
    · rintro R2 c' ⟨d1, d2⟩
      rw [if_pos (Int32.le_refl _)]
      exact hQ c' (fun j k h3 h4 => (d1 j k h4).trans (c1 j k h3)) fun i hi => ⟨(d1 3 i (by omega)).trans (c2 i hi), d2 i hi⟩
theorem sorts_ok {Q : CT → Prop} (v38 : M.1 0 38 = nI h) (pv : PV M V) (h9 : h ≤ 10) (gh : ∀ i, i < h → PHou P.1 V f m i) (hQ : ∀ M', (∀ j k, j ≠ 57 → M'.1 j k = M.1 j k) → (∀ i, i < h → M'.1 57 i = nI (sq V h i)) → Q M') : k_X12_sorts M Q := by
  unfold k_X12_sorts
  refine upl2 (N := h) (a := 0) (by omega) (fun k c => (∀ j x, j ≠ 57 → c.1 j x = M.1 j x) ∧ ∀ x, x < k → c.1 57 x = nI (sq V k x)) ?_ ?_ (by omega) ⟨fun _ _ _ => rfl, fun x hx => absurd hx (by omega)⟩
  · rintro R k c - hk ⟨c1, c2⟩ ih
    obtain ⟨s1, s2⟩ := sq_ok V k
    rw [c1 0 38 (by omega), v38, if_neg (nI_ge hk (by omega))]
    have fin : ∀ c p, p ≤ k → posB (bhS V) (sq V k) k k = p → (∀ j x, j ≠ 57 → c.1 j x = M.1 j x) → HOLE c 57 (sq V k) p k → R (nI k + 1) (sI c 57 p (nI k)) := fun c p hp ep f1 f2 => by
      rw [nI_1]
      refine ih _ ⟨fun j x hj => (sI_ne (by omega)).trans (f1 j x hj), ?_⟩
      have := f2.fill (i := k) hp
      rw [show sq V (k + 1) = insF (sq V k) (posB (bhS V) (sq V k) k k) k from rfl, ep]
      exact this
    refine LP2.ind (fun v c => ∃ p, p ≤ k ∧ v = nI p ∧ posB (bhS V) (sq V k) k p = posB (bhS V) (sq V k) k k ∧ (∀ j x, j ≠ 57 → c.1 j x = M.1 j x) ∧ HOLE c 57 (sq V k) p k) (fun v _ => v.toNatClampNeg) ?_ ⟨k, by omega, rfl, rfl, c1, c2, fun x h1 h2 => by omega⟩
    rintro R2 v c ⟨p, hp, rfl, e, f1, f2⟩ ih2
    cases p with
    | zero =>
      rw [if_pos (show nI 0 ≤ 0 from by decide), wrI_n (by omega) (by omega)]
      exact fin c 0 hp e.symm f1 f2
    | succ p =>
      have hs := s1 p (by omega)
      rw [if_neg (nI_nle (by omega) (by omega)), nI_pred, rdI_n (by omega) (by omega), f2.1 p (by omega), behindR (fun j x h1 h2 h3 => (f1 j x (by omega)).trans (pv j x h1 h2 h3)) (gh _ (by omega)) (gh k hk) (by omega) (by omega)]
      rw [posB_s] at e
      by_cases z : bhS V (sq V k p) k = true
      · rw [if_pos z] at e
        rw [if_pos z, if_neg (by decide), rdI_n (by omega) (by omega), f2.1 p (by omega), wrI_n (by omega) (by omega), m1_add]
        exact ih2 _ _ ⟨p, by omega, rfl, e, fun j x hj => (sI_ne (by omega)).trans (f1 j x hj), f2.down (by omega)⟩ (by rw [nI_clamp (by omega), nI_clamp (by omega)]; omega)
      · rw [if_neg z] at e
        rw [if_neg z, if_pos rfl, wrI_n (by omega) (by omega)]
        exact fin c (p + 1) hp e.symm f1 f2
  · rintro R c ⟨c1, c2⟩
    rw [c1 0 38 (by omega), v38, if_pos (Int32.le_refl _)]
    exact hQ c c1 c2
/-- the houses of a share in order -/
def shL (V : VW) (sh : Nat → Nat) (b : Nat) (k h : Nat) : List Nat := ((List.range k).map (sq V h)).filter fun x => decide (sh x = b)
theorem shL_s {sh : Nat → Nat} {b k : Nat} : shL V sh b (k + 1) h = if sh (sq V h k) = b then shL V sh b k h ++ [sq V h k] else shL V sh b k h := by
  unfold shL
  rw [List.range_succ, List.map_append, List.filter_append, List.map_singleton]
  by_cases e : sh (sq V h k) = b
  · rw [if_pos e]
    simp [e]
  · rw [if_neg e]
    simp [e]
theorem shL_lt {sh : Nat → Nat} {b k : Nat} (hk : k ≤ h) : ∀ a ∈ shL V sh b k h, a < h := fun a ha => by
  unfold shL at ha
  obtain ⟨h1, -⟩ := List.mem_filter.mp ha
  obtain ⟨i, i1, i2⟩ := List.mem_map.mp h1
  rw [← i2]
  exact (sq_ok V h).1 i (by have := List.mem_range.mp i1; omega)
/-- a walk with one house more -/
theorem wlk_app {man x : Nat} {r : List Nat} : wlk V man (r ++ [x]) (r.length + 1) = wlk V man r r.length + (if r.length = 0 then hmS V man x else btS V (r.getD (r.length - 1) 0) x) := by
  have cg : ∀ k, k ≤ r.length → wlk V man (r ++ [x]) k = wlk V man r k := by
    intro k
    induction k with
    | zero => intro _; rfl
    | succ k ih =>
      intro hk
      show wlk V man (r ++ [x]) k + _ = wlk V man r k + _
      rw [ih (by omega), getD_init (show k < r.length by omega)]
      by_cases e : k = 0
      · subst e
        rw [if_pos rfl, if_pos rfl, getD_init hk]
      · rw [if_neg e, if_neg e, getD_init (by omega)]
  show wlk V man (r ++ [x]) r.length + _ = _
  rw [cg _ (Nat.le_refl _), getD_last]
  congr 1
  by_cases e : r.length = 0
  · rw [if_pos e, if_pos e]
    have := getD_last (r := r) (x := x)
    rw [e] at this
    rw [this]
  · rw [if_neg e, if_neg e, getD_init (by omega)]
end Srt
