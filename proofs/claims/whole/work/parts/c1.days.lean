/-! ===== days: both sides agree ===== -/
theorem LP2.one {A0 A1 : Type} {f : (A0 → A1 → Prop) → A0 → A1 → Prop} {a0 : A0} {a1 : A1} (h : ∀ R, f R a0 a1) : LP2 f a0 a1 := fun R hR => hR _ _ (h R)
section Days
variable {H P K I M F W : CT} {l q f m h D n : Nat} {a1 : Int32}
def knO (M : CT) (n : Nat) (i : Nat) : Int32 := psum (M.1 49) (M.1 50) (stFs (M.1 49) (M.1 50) n) (nI i) n
noncomputable def tkO (M : CT) (l q : Nat) (i : Nat) : Int32 := nI (minS (clV M) l q (nv (clV M 20 i)) (2 ^ (l + q) - 1) false)
theorem CO.env (g : CO H P K I M l q f m h D n) : ∃ a na b k, ENV P (clV M) (knO M n) f m h a na b k ∧ (clV M 0 39 = nI a ∧ clV M 0 40 = nI (a + na) ∧ clV M 0 41 = nI b ∧ clV M 0 42 = nI (b + k)) := by
  obtain ⟨-, -, gp, ⟨gb, -⟩, -⟩ := g
  obtain ⟨⟨⟨b1, b2, b3, b4, b5⟩, ⟨p1, p2, p3, p4, p5⟩, -⟩, -, -, -, gm, gh, gw, ⟨a, na, b, k, r1, r2, r3, r4, r5, r6, r7, r8, -⟩, -⟩ := gp.cl
  refine ⟨a, na, b, k, ⟨⟨b5, b4, p4, p5⟩, gm, gh, ⟨r1, r4⟩, ⟨r5, r8⟩, fun d hd => (gw d hd).1, fun i hi => ?_⟩, r2, r3, r6, r7⟩
  obtain ⟨⟨-, n60, -⟩, -, -, -, -, g6⟩ := gb
  obtain ⟨s, s1, s2⟩ := psum_nat (nh := M.1 49) (ns := M.1 50) (F := stFs (M.1 49) (M.1 50) n) (h := i) (k := n) fun y hy e => by
    have := g6 y hy
    rw [show oN false + y = y from Nat.zero_add y] at this
    exact this (fun z => by rw [e, m1_ne (by omega)] at z; exact z)
  exact ⟨s, by omega, s2⟩
theorem CO.di (g : CO H P K I M l q f m h D n) : DI K.1 [] h m D := by
  obtain ⟨-, -, -, ⟨⟨-, gb, -⟩, -⟩, -⟩ := g
  refine ⟨fun i hi => ?_, fun p hp => absurd hp List.not_mem_nil, List.nodup_nil, fun x hx => absurd hx List.not_mem_nil⟩
  obtain ⟨⟨-, e1⟩, ⟨-, -, e2⟩, -, -, ⟨-, e6⟩, -⟩ := gb i hi
  exact ⟨e1, e2, e6⟩
theorem CO.re {a na b k : Nat} (g : CO H P K I M l q f m h D n) (e : clV M 0 39 = nI a ∧ clV M 0 40 = nI (a + na) ∧ clV M 0 41 = nI b ∧ clV M 0 42 = nI (b + k)) : RE (sI M 0 0 0) (clV M) (knO M n) (tkO M l q) (M.1 49) (M.1 50) n D m h a na b k := by
  have g' := g
  obtain ⟨-, -, gp, ⟨gb, d1, d2, -⟩, -, g52⟩ := g
  have gc := gp.cl
  obtain ⟨⟨⟨b1, b2, b3, b4, b5⟩, -, ⟨v1, v2, v3, v4, v5⟩⟩, -, -, -, -, gh, -⟩ := gc
  refine ⟨⟨fun j x h1 h2 hx => (th_at (by omega)).trans (clV_r ⟨h1, h2⟩ hx).symm, fun x h1 h2 => (th_at (by omega)).trans (clV_0 ⟨h1, h2⟩).symm⟩, ⟨(th_at (by omega)).trans d1, (th_at (by omega)).trans d2, ?_, ?_⟩, fun i hi => ?_, ⟨gb.1.2.1, ?_, fun i hi => rfl⟩, v4, v5, e⟩
  · funext x
    exact th_at (by omega)
  · funext x
    exact th_at (by omega)
  · obtain ⟨-, ⟨-, y, hy, ey⟩, -⟩ := gh i hi
    refine ⟨y, by omega, ey, ?_⟩
    rw [th_at (by omega), g52 y hy]
    unfold tkO
    rw [ey, nv_n (by omega)]
  · exact gb.2.2.2.2.1.aim
theorem goOn_ok {x : Nat} {Q : CT → CT → CT → Prop} {a na b k : Nat} (g : CO H P K I M l q f m h D n) (hF : FOK F (clV M) l q f) (E : ENV P (clV M) (knO M n) f m h a na b k) (hx : D + x ≤ 200) (hQ : ∀ K0 K' F' W', KA K K0 → FOK F' (clV M) l q f → CK (clV M) (knO M n) (tkO M l q) D a na b k h m K0.1 K0 x K' → Q K' F' W') : k_X10_goOn P K F W (nI x) Q := by
  obtain ⟨vw, v36, T, gf, p1, l4, q3, f5, t7⟩ := g.fr
  have hh := g.2.2.1.1.1.2.2.2.2
  have p3 := g.2.2.1.1.2.1.2.2.2.2
  have gh := g.2.2.1.cl.2.2.2.2.2.1
  obtain ⟨⟨b1, b2, k0, k1⟩, -, -, -, nr, -⟩ := g.2.2.2.1.1
  have tp := Nat.two_pow_pos (l + q)
  unfold k_X10_goOn
  refine LP4.ind (fun v c fc w => ∃ i, i ≤ h ∧ v = nI i ∧ KA K c ∧ FOK fc (clV M) l q f ∧ ∀ y, y < i → w.1 1 y = knO M n y ∧ w.1 2 y = tkO M l q y) (fun v _ _ _ => h - v.toNatClampNeg) ?_ ⟨0, by omega, rfl, KA.refl K, hF, fun y hy => absurd hy (by omega)⟩
  rintro R v c fc w ⟨i, hi, rfl, hc, hfc, hw⟩ ih
  by_cases hin : i < h
  · obtain ⟨-, ⟨ep, y, hy, ey⟩, -⟩ := gh i hin
    rw [p3, if_neg (nI_ge hin (by omega)), hc.2 0 1 (by decide), k1]
    refine known_ok (M := M) b2 (by omega) (NRel.mvK nr hc) fun K' e1 e2 => ?_
    rw [wrI_n (by omega) (by omega), ixN_n (by omega) (by omega), allBits_eq T, ep, ey]
    refine timeFor_ok (held := false) T gf f5 hfc hy (by omega) rfl fun F' hF' => ?_
    rw [wrI_n (by omega) (by omega), nI_1]
    refine ih _ _ _ _ ⟨i + 1, by omega, rfl, hc.trans ⟨e1, e2⟩, hF', fun z hz => ?_⟩ (by rw [nI_clamp (by omega), nI_clamp (by omega)]; omega)
    by_cases e : z = i
    · subst e
      refine ⟨by rw [sI_ne (by omega), sI_same]; rfl, ?_⟩
      rw [sI_same]
      unfold tkO
      rw [ey, nv_n (by omega)]
    · rw [sI_ne (by omega), sI_ne (by omega), sI_ne (by omega), sI_ne (by omega)]
      exact hw z (by omega)
  · have e : i = h := by omega
    subst e
    rw [p3, if_pos (Int32.le_refl _)]
    exact goDays_ok (kn := knO M n) (tk := tkO M l q) (B0 := c.1) (W0 := w) E hx (fun z hz => (hw z hz).1) (fun z hz => (hw z hz).2) (fun _ _ _ => rfl) ((hc.2 0 0 (by decide)).trans k0) (fun _ _ _ _ _ => rfl) ((g.mvK hc).di) fun K' W' hK => hQ c K' fc W' hc hfc hK
theorem clV_re {M' : CT} {kn tk N49 N50 : Nat → Int32} {nn a na b k : Nat} (r : RE M' (clV M) kn tk N49 N50 nn D m h a na b k) : clV M' = clV M := by
  funext j x
  by_cases c : (j = 0 ∧ 34 ≤ x ∧ x ≤ 45) ∨ (2 ≤ j ∧ j ≤ 32 ∧ x < half j)
  · have e : clV M' j x = M'.1 j x := if_pos c
    rw [e]
    rcases c with ⟨rfl, c1, c2⟩ | ⟨c1, c2, c3⟩
    · exact r.1.2 x c1 c2
    · exact r.1.1 j x c1 c2 c3
  · unfold clV
    rw [if_neg c, if_neg c]
theorem bq_1 {V : VW} {kn tk : Nat → Int32} {a k b na : Nat} {B0 : VW} : ∀ i x, bq V kn tk D a na b k h m B0 i 1 x = B0 1 x
  | 0, _ => rfl
  | i + 1, x => (dyB_1 x).trans (bq_1 i x)
theorem g_days (g : CO H P K I M l q f m h D n) (hF : FOK F (clV M) l q f) : k_X11_days H P K F W a1 fun x K' F' _ => k_X12_days M a1 fun y M' => x = y ∧ ∃ D', CO H P K' I M' l q f m h D' n ∧ FOK F' (clV M') l q f ∧ clV M' = clV M ∧ ∀ x, x < h → K'.1 1 x = K.1 1 x := by
  obtain ⟨D200, n60, k0, k1⟩ := g.2.2.2.1.1.1
  have d1 := g.2.2.2.1.2.1
  have c0 : ∃ D', CO H P K I (sI M 0 0 0) l q f m h D' n ∧ FOK F (clV (sI M 0 0 0)) l q f ∧ clV (sI M 0 0 0) = clV M ∧ ∀ x, x < h → K.1 1 x = K.1 1 x := ⟨D, g.mv MA.th, by rw [clV.mv MA.th]; exact hF, clV.mv MA.th, fun _ _ => rfl⟩
  unfold k_X11_days
  rcases i32_cases a1 with hn | ⟨x, hx, rfl⟩
  · rw [if_pos hn]
    unfold k_X12_days
    try dsimp only
    rw [wrF_eq, if_pos hn]
    exact ⟨rfl, c0⟩
  · rw [if_neg (nI_pos hx), k0, li_200, pk_sub D200]
    by_cases hd : x ≤ 200 - D
    · rw [if_pos (nI_le hd (by omega)), li_0]
      have R : ∀ Q, LP2 (fun R39 (v37 : Int32) (c38 : CT) => (if (nI x) ≤ v37 then Q (c38.1 0 77) c38 else k_X12_passes c38 (fun c47 => R39 (v37 + 1) c47))) (0 : Int32) (sI M 0 0 0) → k_X12_days M (nI x) Q := fun Q hQ => by
        unfold k_X12_days
        try dsimp only
        rw [wrF_eq, if_neg (nI_pos hx), li_200, if_neg (by rw [nI_lt' (by omega) (by omega)]; omega), th_at (by omega), d1, nI_add, if_pos (nI_le (by omega) (by omega))]
        exact hQ
      by_cases xz : x = 0
      · subst xz
        rw [if_pos (Int32.le_refl _)]
        refine R _ (LP2.one fun R2 => ?_)
        rw [li_0, if_pos (Int32.le_refl _), ← li_0, th_at (by omega), d1]
        exact ⟨rfl, c0⟩
      · rw [if_neg (by rw [nI_le' (by omega) (by omega)]; omega)]
        obtain ⟨a, na, b, k, E, e39⟩ := g.env
        refine goOn_ok g hF E (by omega) fun K0 K' F' W' hK0 hF' hCK => ?_
        refine R _ ?_
        rw [hCK.nxt ((hK0.2 0 0 (by decide)).trans k0)]
        exact daysR_ok (Q := fun y M' => nI (D + x) = y ∧ ∃ D', CO H P K' I M' l q f m h D' n ∧ FOK F' (clV M') l q f ∧ clV M' = clV M ∧ ∀ x, x < h → K'.1 1 x = K.1 1 x) (kn := knO M n) (tk := tkO M l q) (B0 := K0.1) (K0 := K0) E (g.re e39) (by omega) (fun _ _ _ _ _ => rfl) ((g.mvK hK0).di) ⟨K', hCK⟩ ((g.mvK hK0).mv MA.th) fun M' re co => ⟨rfl, D + x, co K' hCK, by rw [clV_re re]; exact hF', clV_re re, fun y hy => (hCK.row (fun _ _ _ _ _ => rfl) y 1 hy (by omega) (by omega)).trans ((bq_1 _ y).trans (hK0.2 1 y (by decide)))⟩
    · rw [if_neg (by rw [nI_le' (by omega) (by omega)]; omega)]
      unfold k_X12_days
      try dsimp only
      rw [wrF_eq, if_neg (nI_pos hx)]
      refine ite_b (fun _ => ⟨rfl, c0⟩) fun z => ?_
      rw [li_200, nI_lt' (by omega) (by omega)] at z
      rw [th_at (by omega), d1, nI_add, li_200, if_neg (by rw [nI_le' (by omega) (by omega)]; omega)]
      exact ⟨rfl, c0⟩
end Days
