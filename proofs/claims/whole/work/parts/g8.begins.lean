/-! ===== the text's end: the days begin (tools/gen20.py) ===== -/
section Begins
variable {P c M : CT} {l q f m h : Nat}
def bgv (c : CT) (r k : Nat) : Int32 := if r = 37 then c.1 28 k else if r = 42 then -1 else if r = 44 then c.1 21 k else 0
/-- the reference when the days begin -/
def BGN (c c' : CT) (l q f : Nat) : Prop := (∀ j k, ¬ ((j = 0 ∧ (k = 77 ∨ k = 78 ∨ k = 93 ∨ k = 73 ∨ k = 76)) ∨ (33 ≤ j ∧ j ≤ 36) ∨ (37 ≤ j ∧ j ≤ 44 ∧ k < 10) ∨ (j = 52 ∧ k < f)) → c'.1 j k = c.1 j k) ∧ (c'.1 0 77 = 0 ∧ c'.1 0 78 = 0 ∧ c'.1 0 93 = 0) ∧ (∀ r k, 37 ≤ r → r ≤ 44 → k < 10 → c'.1 r k = bgv c r k) ∧ ∀ i, i < f → c'.1 52 i = nI (minS (clV c) l q i (2 ^ (l + q) - 1) false)
theorem begins_ok {Q : CT → Prop} (hp : PRel P.1 c.1 l q f m h) (hQ : ∀ c', BGN c c' l q f → Q c') : k_X12_begins c Q := by
  have b := hp.1.1
  have gc := hp.cl
  have t7 : 2 ^ (l + q) ≤ 2 ^ 7 := Nat.pow_le_pow_right (by omega) (by omega)
  have t0 : 0 < 2 ^ (l + q) := Nat.two_pow_pos _
  unfold k_X12_begins
  simp only [wrF_eq]
  have hd : ∀ j k, ¬ (j = 0 ∧ (k = 77 ∨ k = 78 ∨ k = 93)) → (sI (sI (sI c 0 77 0) 0 78 0) 0 93 0).1 j k = c.1 j k := fun j k z => by rw [sI_ne (by omega), sI_ne (by omega), sI_ne (by omega)]
  have hz : (sI (sI (sI c 0 77 0) 0 78 0) 0 93 0).1 0 77 = 0 ∧ (sI (sI (sI c 0 77 0) 0 78 0) 0 93 0).1 0 78 = 0 ∧ (sI (sI (sI c 0 77 0) 0 78 0) 0 93 0).1 0 93 = 0 := ⟨by rw [sI_ne (by omega), sI_ne (by omega), sI_same], by rw [sI_ne (by omega), sI_same], sI_same⟩
  generalize sI (sI (sI c 0 77 0) 0 78 0) 0 93 0 = c3 at hd hz ⊢
  refine upl2 (N := 10) (a := 0) (by omega) (fun i d => (∀ x k, ¬ (37 ≤ x ∧ x ≤ 44 ∧ k < i) → d.1 x k = c3.1 x k) ∧ ∀ r k, 37 ≤ r → r ≤ 44 → k < i → d.1 r k = bgv c r k) (fun R i d h1 h2 hI k => ?_) (fun R d hI => ?_) (by omega) ⟨fun _ _ _ => rfl, fun r k _ _ hk => absurd hk (by omega)⟩
  · have e28 : d.1 28 i = c.1 28 i := (hI.1 _ _ (by omega)).trans (hd _ _ (by omega))
    have e21 : d.1 21 i = c.1 21 i := (hI.1 _ _ (by omega)).trans (hd _ _ (by omega))
    rw [if_neg (by rw [li_10, nI_le' (by omega) (by omega)]; omega), rdI_n (by omega) (by omega), wrI_n (by omega) (by omega), wrI_n (by omega) (by omega), wrI_n (by omega) (by omega), wrI_n (by omega) (by omega), wrI_n (by omega) (by omega), wrI_n (by omega) (by omega), wrI_n (by omega) (by omega), rdI_n (by omega) (by omega), wrI_n (by omega) (by omega), inc_n]
    rw [sI_ne (by omega), sI_ne (by omega), sI_ne (by omega), sI_ne (by omega), sI_ne (by omega), sI_ne (by omega), sI_ne (by omega), e28, e21]
    refine k _ ⟨fun x y z => ?_, fun r y g1 g2 hy => ?_⟩
    · rw [sI_ne (by omega), sI_ne (by omega), sI_ne (by omega), sI_ne (by omega), sI_ne (by omega), sI_ne (by omega), sI_ne (by omega), sI_ne (by omega)]
      exact hI.1 x y (by omega)
    · by_cases e : y = i
      · subst e
        rcases (show r = 37 ∨ r = 38 ∨ r = 39 ∨ r = 40 ∨ r = 41 ∨ r = 42 ∨ r = 43 ∨ r = 44 by omega) with rfl | rfl | rfl | rfl | rfl | rfl | rfl | rfl
        · rw [sI_ne (by omega), sI_ne (by omega), sI_ne (by omega), sI_ne (by omega), sI_ne (by omega), sI_ne (by omega), sI_ne (by omega), sI_same]
          rfl
        · rw [sI_ne (by omega), sI_ne (by omega), sI_ne (by omega), sI_ne (by omega), sI_ne (by omega), sI_ne (by omega), sI_same]
          rfl
        · rw [sI_ne (by omega), sI_ne (by omega), sI_ne (by omega), sI_ne (by omega), sI_ne (by omega), sI_same]
          rfl
        · rw [sI_ne (by omega), sI_ne (by omega), sI_ne (by omega), sI_ne (by omega), sI_same]
          rfl
        · rw [sI_ne (by omega), sI_ne (by omega), sI_ne (by omega), sI_same]
          rfl
        · rw [sI_ne (by omega), sI_ne (by omega), sI_same]
          rfl
        · rw [sI_ne (by omega), sI_same]
          rfl
        · rw [sI_same]
          rfl
      · rw [sI_ne (by omega), sI_ne (by omega), sI_ne (by omega), sI_ne (by omega), sI_ne (by omega), sI_ne (by omega), sI_ne (by omega), sI_ne (by omega)]
        exact hI.2 r y g1 g2 (by omega)
  · rw [if_pos (by rw [li_10]; exact Int32.le_refl _)]
    have dc : ∀ j k, ¬ (37 ≤ j ∧ j ≤ 44 ∧ k < 10) → ¬ (j = 0 ∧ (k = 77 ∨ k = 78 ∨ k = 93)) → d.1 j k = c.1 j k := fun j k z1 z2 => (hI.1 j k z1).trans (hd j k z2)
    refine upl2 (N := f) (a := 0) (by omega) (fun i e => (∀ j k, ¬ ((j = 0 ∧ (k = 73 ∨ k = 76)) ∨ (33 ≤ j ∧ j ≤ 36) ∨ (j = 52 ∧ k < i)) → e.1 j k = d.1 j k) ∧ ∀ k, k < i → e.1 52 k = nI (minS (clV c) l q k (2 ^ (l + q) - 1) false)) (fun R i e h1 h2 he k => ?_) (fun R e he => ?_) (by omega) ⟨fun _ _ _ => rfl, fun k hk => absurd hk (by omega)⟩
    · have e36 : e.1 0 36 = nI f := (he.1 _ _ (by omega)).trans ((dc _ _ (by omega) (by omega)).trans hp.1.2.2.2.2.1)
      have e34 : e.1 0 34 = nI l := (he.1 _ _ (by omega)).trans ((dc _ _ (by omega) (by omega)).trans hp.1.2.2.1)
      have e35 : e.1 0 35 = nI q := (he.1 _ _ (by omega)).trans ((dc _ _ (by omega) (by omega)).trans hp.1.2.2.2.1)
      have vw : PVw e (clV c) l q := ⟨fun j x g1 g2 hx => (he.1 _ _ (by omega)).trans ((dc _ _ (by omega) (by omega)).trans (clV_r ⟨g1, g2⟩ hx).symm), e34, e35⟩
      rw [e36, if_neg (by rw [nI_le' (by omega) (by omega)]; omega), e34, e35, nI_add, shl_1 (by omega), sub1_n t0]
      refine minutesOf_ok (held := false) vw gc.tls (gc.2.2.2.1 i h2) (by omega) (by omega) ⟨fun y => absurd rfl y, fun y => absurd y (by decide)⟩ fun c' rf => ?_
      rw [wrI_n (by omega) (by omega), inc_n]
      refine k _ ⟨fun x y z => ?_, fun y hy => ?_⟩
      · rw [sI_ne (by omega), rf.1 x y (by omega) (by omega)]
        exact he.1 x y (by omega)
      · by_cases e' : y = i
        · subst e'
          exact sI_same
        · rw [sI_ne (by omega), rf.1 52 y (by omega) (by omega)]
          exact he.2 y (by omega)
    · have e36 : e.1 0 36 = nI f := (he.1 _ _ (by omega)).trans ((dc _ _ (by omega) (by omega)).trans hp.1.2.2.2.2.1)
      rw [e36, if_pos (Int32.le_refl _)]
      refine hQ e ⟨fun j k z => ?_, ⟨?_, ?_, ?_⟩, fun r k g1 g2 hk => ?_, he.2⟩
      · rw [he.1 j k (by omega)]
        exact dc j k (by omega) (by omega)
      · rw [he.1 _ _ (by omega), hI.1 _ _ (by omega)]
        exact hz.1
      · rw [he.1 _ _ (by omega), hI.1 _ _ (by omega)]
        exact hz.2.1
      · rw [he.1 _ _ (by omega), hI.1 _ _ (by omega)]
        exact hz.2.2
      · rw [he.1 _ _ (by omega)]
        exact hI.2 r k g1 g2 hk
end Begins
