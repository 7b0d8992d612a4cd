/-! ===== the text's end: both sides stand anew (tools/gen21.py) ===== -/
section Anew
variable {H P K F T I c M : CT} {l q f m h : Nat}
def bkv (P : CT) (r k : Nat) : Int32 := if r = 1 then P.1 (33 + k) 2 else if r = 2 then P.1 (33 + k) 9 else if r = 7 then -1 else 0
theorem beginB_ok {Q : CT → Prop} (hQ : ∀ K', (K'.1 0 0 = 0 ∧ K'.1 0 1 = 0) → (∀ r k, 1 ≤ r → r ≤ 8 → k < 10 → K'.1 r k = bkv P r k) → Q K') : k_X0_begin P K Q := by
  unfold k_X0_begin
  simp only [wrF_eq]
  refine upl2 (N := 10) (a := 0) (by omega) (fun i d => (d.1 0 0 = 0 ∧ d.1 0 1 = 0) ∧ ∀ r k, 1 ≤ r → r ≤ 8 → k < i → d.1 r k = bkv P r k) (fun R i d h1 h2 hI k => ?_) (fun R d hI => ?_) (by omega) ⟨⟨by rw [sI_ne (by omega), sI_same], sI_same⟩, fun r k _ _ hk => absurd hk (by omega)⟩
  · rw [if_neg (by rw [li_10, nI_le' (by omega) (by omega)]; omega), ixN_n (by omega) (by omega), wrI_n (by omega) (by omega), ixN_n (by omega) (by omega), wrI_n (by omega) (by omega), wrI_n (by omega) (by omega), wrI_n (by omega) (by omega), wrI_n (by omega) (by omega), wrI_n (by omega) (by omega), wrI_n (by omega) (by omega), wrI_n (by omega) (by omega), inc_n, bo0]
    refine k _ ⟨⟨?_, ?_⟩, fun r y g1 g2 hy => ?_⟩
    · rw [sI_ne (by omega), sI_ne (by omega), sI_ne (by omega), sI_ne (by omega), sI_ne (by omega), sI_ne (by omega), sI_ne (by omega), sI_ne (by omega)]
      exact hI.1.1
    · rw [sI_ne (by omega), sI_ne (by omega), sI_ne (by omega), sI_ne (by omega), sI_ne (by omega), sI_ne (by omega), sI_ne (by omega), sI_ne (by omega)]
      exact hI.1.2
    · by_cases e : y = i
      · subst e
        rcases (show r = 1 ∨ r = 2 ∨ r = 3 ∨ r = 4 ∨ r = 5 ∨ r = 6 ∨ r = 7 ∨ r = 8 by omega) with rfl | rfl | rfl | rfl | rfl | rfl | rfl | rfl
        · rw [sI_ne (by omega), sI_ne (by omega), sI_ne (by omega), sI_ne (by omega), sI_ne (by omega), sI_ne (by omega), sI_ne (by omega), sI_same]
          rfl
        · rw [sI_ne (by omega), sI_ne (by omega), sI_ne (by omega), sI_ne (by omega), sI_ne (by omega), sI_ne (by omega), sI_same]
          rfl
        · rw [sI_ne (by omega), sI_ne (by omega), sI_ne (by omega), sI_ne (by omega), sI_ne (by omega), sI_same]
          rfl
        · rw [sI_ne (by omega), sI_ne (by omega), sI_ne (by omega), sI_ne (by omega), sI_same]
          rfl
        · rw [sI_ne (by omega), sI_ne (by omega), sI_ne (by omega), sI_same]
          rfl
        · rw [sI_ne (by omega), sI_ne (by omega), sI_same]
          rfl
        · rw [sI_ne (by omega), sI_same]
          rfl
        · rw [sI_same]
          rfl
      · rw [sI_ne (by omega), sI_ne (by omega), sI_ne (by omega), sI_ne (by omega), sI_ne (by omega), sI_ne (by omega), sI_ne (by omega), sI_ne (by omega)]
        exact hI.2 r y g1 g2 (by omega)
  · rw [if_pos (by rw [li_10]; exact Int32.le_refl _)]
    exact hQ d hI.1 hI.2
theorem forget_ok {Q : CT → Prop} (hQ : ∀ F', (∀ k, k < 5 → F'.1 2 k = -1) → Q F') : k_X1_forget F Q := by
  unfold k_X1_forget
  refine upl2 (N := 5) (a := 0) (by omega) (fun i d => ∀ k, k < i → d.1 2 k = -1) (fun R i d h1 h2 hI k => ?_) (fun R d hI => ?_) (by omega) fun k hk => absurd hk (by omega)
  · rw [if_neg (by rw [li_5, nI_le' (by omega) (by omega)]; omega), wrI_n (by omega) (by omega), inc_n]
    refine k _ fun y hy => ?_
    by_cases e : y = i
    · subst e
      exact sI_same
    · rw [sI_ne (by omega)]
      exact hI y (by omega)
  · rw [if_pos (by rw [li_5]; exact Int32.le_refl _)]
    exact hQ d hI
theorem startAnew_ok {Q : CT → CT → CT → CT → Prop} (hf : f ≤ 5) (hQ : ∀ K' F' T', (K'.1 0 0 = 0 ∧ K'.1 0 1 = 0) → (∀ r k, 1 ≤ r → r ≤ 8 → k < 10 → K'.1 r k = bkv P r k) → (∀ V l q, FOK F' V l q f) → (∀ U V m h s, TOK T' U V m h s) → T'.1 0 8 = 0 → Q (sI H 0 7 0) K' F' T') : k_X11_startAnew H P K F T Q := by
  unfold k_X11_startAnew
  refine beginB_ok fun K' a1 a2 => ?_
  rw [wrF_eq]
  refine forget_ok fun F' a3 => ?_
  unfold k_X9_forgetPlan
  rw [wrF_eq, wrF_eq]
  exact hQ K' F' _ a1 a2 (fun V l q x hx => Or.inl (a3 x (by omega))) (fun U V m h s => ⟨Or.inl (by rw [sI_ne (by omega), sI_same]), Or.inl sI_same⟩) (by rw [sI_ne (by omega), sI_same])
/-- a plan has been read: class and reference stand anew -/
theorem CO.anew {c1 c2 : CT} (hH : H.1 0 1 = 0 ∧ H.1 0 7 = 0 ∧ H.1 0 11 = 0 ∧ H.1 0 12 = -1) (hp : PRel P.1 (uppV c) l q f m h) (hx : EXR P c m h) (hc : c.1 0 2 = 0 ∧ c.1 0 68 = 0 ∧ c.1 0 69 = -1) (ld : LDD c c1 m h) (bg : BGN c1 c2 l q f) (k0 : K.1 0 0 = 0 ∧ K.1 0 1 = 0) (kr : ∀ r k, 1 ≤ r → r ≤ 8 → k < 10 → K.1 r k = bkv P r k) : CO H P K I c2 l q f m h 0 0 ∧ c2.1 0 60 = P.1 0 12 := by
  have b := hp.1.1
  have p1 : PRel P.1 c1.1 l q f m h := hp.vb fun j k w z => ld.1 j k w z
  have same : ∀ j k, VWR j k → c2.1 j k = c1.1 j k := fun j k w => bg.1 j k (by unfold VWR at w; omega)
  have p2 : PRel P.1 c2.1 l q f m h := p1.mv (fun k h1 h2 => same 0 k (Or.inl ⟨rfl, h1, h2⟩)) fun j k h1 h2 hk => same j k (Or.inr ⟨h1, h2, hk⟩)
  have nv0 : ∀ k, (k = 2 ∨ k = 60 ∨ k = 68 ∨ k = 69) → c2.1 0 k = c.1 0 k := fun k hk => (bg.1 0 k (by omega)).trans (ld.2 0 k (by unfold VWR; omega))
  have clv : clV c2 = clV c1 := by
    funext j k
    unfold clV
    by_cases e : (j = 0 ∧ 34 ≤ k ∧ k ≤ 45) ∨ (2 ≤ j ∧ j ≤ 32 ∧ k < half j)
    · rw [if_pos e, if_pos e]
      exact same j k e
    · rw [if_neg e, if_neg e]
  have mans : ∀ i, i < h → ∃ x, x < m ∧ P.1 (33 + i) 2 = nI x ∧ c1.1 21 i = nI x := fun i hi => by
    obtain ⟨x, y1, y2, y3⟩ := hx.2.2.2.2 i hi
    refine ⟨x, y1, y2, ?_⟩
    rw [ld.1 21 i (Or.inr ⟨by omega, by omega, show i < 10 by omega⟩) (by omega), uppV_u (by omega)]
    exact y3
  have r : ∀ x k, 37 ≤ x → x ≤ 44 → k < 10 → c2.1 x k = bgv c1 x k := bg.2.2.1
  refine ⟨⟨⟨0, by omega, hH.1, (nv0 2 (by omega)).trans hc.1, fun i hi => absurd hi (by omega)⟩, ⟨?_, ?_⟩, p2, ⟨?_, bg.2.1.1, bg.2.1.2.1, fun i hi => ?_⟩, Or.inl ⟨hH.2.1, bg.2.1.2.2⟩, fun i hi => ?_⟩, ?_⟩
  · rw [hH.2.2.1, nv0 68 (by omega), hc.2.1]
  · rw [hH.2.2.2, nv0 69 (by omega), hc.2.2]
  · refine ⟨⟨by omega, by omega, k0.1, k0.2⟩, fun i hi => ?_, fun d hd => absurd hd (by omega), fun i hi => ⟨?_, fun k hk => absurd hk (Nat.not_lt_zero _)⟩, fun i hi => absurd hi (by omega), fun i hi => absurd hi (by omega)⟩
    · obtain ⟨x, y1, y2, y3⟩ := mans i hi
      have e0 : oT false + i = i := Nat.zero_add i
      have ph := (p1.2.2.2.2.2.1 i hi).2.2.2.2.2.2.2.2.1
      obtain ⟨ph1, d, ph2, ph3⟩ := ph
      unfold BHou
      rw [e0, kr 1 i (by omega) (by omega) (by omega), kr 2 i (by omega) (by omega) (by omega), kr 3 i (by omega) (by omega) (by omega), kr 4 i (by omega) (by omega) (by omega), kr 5 i (by omega) (by omega) (by omega), kr 6 i (by omega) (by omega) (by omega), kr 7 i (by omega) (by omega) (by omega), kr 8 i (by omega) (by omega) (by omega), r 37 i (by omega) (by omega) (by omega), r 38 i (by omega) (by omega) (by omega), r 39 i (by omega) (by omega) (by omega), r 40 i (by omega) (by omega) (by omega), r 41 i (by omega) (by omega) (by omega), r 42 i (by omega) (by omega) (by omega), r 43 i (by omega) (by omega) (by omega), r 44 i (by omega) (by omega) (by omega)]
      refine ⟨⟨?_, x, y1, y2⟩, ⟨?_, rfl, d, 0, 0, by omega, ⟨by omega, by omega⟩, by omega, ?_, rfl, rfl⟩, rfl, rfl, ⟨rfl, Or.inl rfl⟩, rfl, rfl⟩
      · show P.1 (33 + i) 2 = c1.1 21 i
        rw [y2, y3]
      · show P.1 (33 + i) 9 = c1.1 28 i
        exact ph1
      · show P.1 (33 + i) 9 = nI d
        rw [ph1, ph3]
    · exact kr 3 i (by omega) (by omega) (by omega)
  · rw [r 44 i (by omega) (by omega) (by omega), same 21 i (Or.inr ⟨by omega, by omega, show i < 10 by omega⟩)]
    rfl
  · rw [clv]
    exact bg.2.2.2 i hi
  · rw [nv0 60 (by omega)]
    exact hx.2.2.1
end Anew
