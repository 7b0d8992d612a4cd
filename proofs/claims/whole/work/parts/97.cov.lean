/-! ===== what a setting covers ===== -/
theorem lt_sub {n c e : Nat} (hn : n < 2 ^ 30) (hc : c < 2 ^ 30) (he : e < 2 ^ 30) : nI n < nI c - nI e ↔ n + e < c := by
  rw [Int32.lt_iff_toInt_lt, pk_sub_toInt hc he, nI_toInt (by omega)]
  omega
theorem bm_or {p : Nat → Bool} {k : Nat} : bm p k ||| 2 ^ k = bm p k + 2 ^ k := by
  have := Nat.two_pow_add_eq_or_of_lt (bm_lt p k) 1
  rw [Nat.mul_one] at this
  rw [Nat.or_comm, ← this, Nat.add_comm]
theorem mask_lp {f : (Int32 → Int32 → Prop) → Int32 → Int32 → Prop} {p : Nat → Bool} {N : Nat} {E : Int32 → Prop} (hN : N ≤ 12) (h1 : ∀ R s i, i < N → p i = true → R (s ||| ((1 : Int32) <<< (nI i &&& 31))) (nI (i + 1)) → f R s (nI i)) (h0 : ∀ R s i, i < N → p i = false → R s (nI (i + 1)) → f R s (nI i)) (he : ∀ R s, E s → f R s (nI N)) (h : E (nI (bm p N))) : LP2 f 0 0 := by
  refine LP2.ind (fun s v => ∃ i, i ≤ N ∧ v = nI i ∧ s = nI (bm p i)) (fun _ v => N - v.toNatClampNeg) ?_ ⟨0, by omega, rfl, rfl⟩
  rintro R s v ⟨i, hi, rfl, rfl⟩ ih
  by_cases hin : i < N
  · cases e : p i with
    | true =>
      refine h1 R _ i hin e (ih _ _ ⟨i + 1, by omega, rfl, ?_⟩ (by rw [nI_clamp (by omega), nI_clamp (by omega)]; omega))
      rw [shl_1 (by omega), or_n, bm_or]
      show _ = nI (bm p i + if p i = true then 2 ^ i else 0)
      rw [if_pos e]
    | false =>
      refine h0 R _ i hin e (ih _ _ ⟨i + 1, by omega, rfl, ?_⟩ (by rw [nI_clamp (by omega), nI_clamp (by omega)]; omega))
      show _ = nI (bm p i + if p i = true then 2 ^ i else 0)
      rw [if_neg (by rw [e]; decide), Nat.add_zero]
  · have e : i = N := by omega
    subst e
    exact he R _ h
section Cov
variable {P M : CT} {V : VW} {l q f t d c : Nat}
theorem near_ok {Q : Int32 → Prop} (g : PFro P.1 V f) (hf : f < 5) (hc : c < 12) (hQ : Q (nI (bm (nearS V f c) (nv (V 12 f))))) : k_X3_panesNear P f (nI c) Q := by
  obtain ⟨-, w, u, p, b, s, hw, hu, hp, -, -, ⟨-, -, e12, -, -⟩, ⟨-, -, f3, -, -⟩, gp⟩ := g
  rw [e12, nv_n (by omega)] at hQ
  unfold k_X3_panesNear
  have key : ∀ i, i < p → ∃ n : Nat, n < 12 ∧ P.1 (15 + 3 * f + 1) i = nI n ∧ nv (V 13 (12 * f + i)) = n := fun i hi => by
    obtain ⟨p1, -, ⟨n, hn, e⟩, -⟩ := gp i hi
    exact ⟨n, by omega, p1.trans e, by rw [e, nv_n (by omega)]⟩
  refine mask_lp (p := nearS V f c) (N := p) (E := Q) hp (fun R s' i hi hpi hr => ?_) (fun R s' i hi hpi hr => ?_) (fun R s' hE => ?_) hQ
  · obtain ⟨n, hn, e1, e2⟩ := key i hi
    unfold nearS at hpi
    rw [e2] at hpi
    have := of_decide_eq_true hpi
    rw [f3, if_neg (nI_ge hi (by omega)), rdI_n (by omega) (by omega), e1, if_neg (by rw [li_1, lt_sub (by omega) (by omega) (by omega)]; omega), rdI_n (by omega) (by omega), e1, nI_1, if_neg (by rw [nI_lt' (by omega) (by omega)]; omega), vK_eq, nI_1]
    exact hr
  · obtain ⟨n, hn, e1, e2⟩ := key i hi
    unfold nearS at hpi
    rw [e2] at hpi
    have hno := of_decide_eq_false hpi
    rw [f3, if_neg (nI_ge hi (by omega)), rdI_n (by omega) (by omega), e1, nI_1 i]
    refine ite_b (fun z => hr) fun z => ?_
    rw [li_1, lt_sub (by omega) (by omega) (by omega)] at z
    rw [rdI_n (by omega) (by omega), e1, nI_1, if_pos (nI_lt (by omega) (by omega))]
    exact hr
  · rw [f3, if_pos (Int32.le_refl _)]
    exact hE
theorem between_ok {x y : Int32} {pr : Nat → Bool} {Q : Int32 → Prop} (g : PFro P.1 V f) (hf : f < 5) (hlo : ∀ n k, n ≤ 24 → nv (V 14 (12 * f + k)) = n → (pr k = true ↔ ¬ nI n < x ∧ ¬ y < nI n)) (hQ : Q (nI (bm pr (nv (V 12 f))))) : k_X3_panesBetween P f x y Q := by
  obtain ⟨-, w, u, p, b, s, hw, hu, hp, -, -, ⟨-, -, e12, -, -⟩, ⟨-, -, f3, -, -⟩, gp⟩ := g
  rw [e12, nv_n (by omega)] at hQ
  unfold k_X3_panesBetween
  have key : ∀ i, i < p → ∃ n : Nat, n ≤ 24 ∧ P.1 (15 + 3 * f + 2) i = nI n ∧ nv (V 14 (12 * f + i)) = n := fun i hi => by
    obtain ⟨-, p2, -, ⟨n, hn, hn2, e⟩⟩ := gp i hi
    exact ⟨n, by omega, p2.trans e, by rw [e, nv_n (by omega)]⟩
  refine mask_lp (p := pr) (N := p) (E := Q) hp (fun R s' i hi hpi hr => ?_) (fun R s' i hi hpi hr => ?_) (fun R s' hE => ?_) hQ
  · obtain ⟨n, hn, e1, e2⟩ := key i hi
    obtain ⟨q1, q2⟩ := (hlo n i hn e2).mp hpi
    rw [f3, if_neg (nI_ge hi (by omega)), rdI_n (by omega) (by omega), e1, if_neg q1, rdI_n (by omega) (by omega), e1, if_neg q2, vK_eq, nI_1]
    exact hr
  · obtain ⟨n, hn, e1, e2⟩ := key i hi
    rw [f3, if_neg (nI_ge hi (by omega)), rdI_n (by omega) (by omega), e1, nI_1]
    refine ite_b (fun z => hr) fun z => ?_
    rw [rdI_n (by omega) (by omega), e1]
    refine ite_b (fun z2 => hr) fun z2 => ?_
    have := (hlo n i hn e2).mpr ⟨z, z2⟩
    rw [hpi] at this
    cases this
  · rw [f3, if_pos (Int32.le_refl _)]
    exact hE
/-- bounds of height by tool and reach -/
theorem tall_iff {h n k : Nat} (hh : h ≤ 40) (hn : n ≤ 24) (e : nv (V 14 (12 * f + k)) = n) : (tallS V l f t h k = true ↔ ¬ nI n < (if t < l then nI h - 5 else 1) ∧ ¬ (if t < l then nI h + 1 else nI h) < nI n) := by
  unfold tallS
  rw [e]
  by_cases hl : t < l
  · rw [if_pos hl, if_pos hl, if_pos hl, decide_eq_true_iff, li_5, lt_sub (by omega) (by omega) (by omega), nI_1, nI_lt' (by omega) (by omega)]
    omega
  · rw [if_neg hl, if_neg hl, if_neg hl, decide_eq_true_iff, li_1, nI_lt' (by omega) (by omega), nI_lt' (by omega) (by omega)]
    omega
theorem bears_ok {a2 a3 : Int32} {lad held : Bool} {Q : Int32 → Prop} (g : PFro P.1 V f) (hf : f < 5) (hc : c < nv (V 8 f)) (h2 : (a2 = 0) ↔ lad = false) (h3 : (a3 ≠ 0) ↔ held = true) : k_X3_bears P f (nI c) a2 a3 Q = Q (if (!((nv (V 10 f)).testBit c) && (!lad || held || !((nv (V 11 f)).testBit c))) = true then 1 else 0) := by
  obtain ⟨-, w, u, p, b, s, hw, hu, hp, hb, hs, ⟨e8, -, -, e10, e11⟩, ⟨f1, -, -, f4, f5⟩, -⟩ := g
  rw [e8, nv_n (by omega)] at hc
  unfold k_X3_bears
  rw [if_neg (nI_pos (by omega)), f1, if_neg (nI_ge hc (by omega)), f4, f5, bit_n (by omega) (by omega), bit_n (by omega) (by omega), e10, e11, nv_n (by omega), nv_n (by omega)]
  simp only [it10, it1n, rZ_ite]
  cases b.testBit c with
  | true => simp
  | false =>
    cases s.testBit c with
    | false => simp
    | true =>
      cases lad with
      | false => simp [h2]
      | true =>
        have n2 : ¬ a2 = 0 := fun e => Bool.noConfusion (h2.mp e)
        cases held with
        | true => simp [h3]
        | false =>
          have n3 : ¬ (a3 ≠ 0) := fun e => Bool.noConfusion (h3.mp e)
          simp [n2, n3]
end Cov
