/-! ===== tanks, worth, tour: both sides agree ===== -/
section T4
variable {H P K I M F W T : CT} {V : VW} {l q f m h D n d b : Nat} {a1 a2 a3 : Int32}
theorem g_tanks (g : CO H P K I M l q f m h D n) (hF : FOK F (clV M) l q f) : k_X11_tanks H P K F W a1 a2 fun x F' => k_X12_tanks M a1 a2 fun y M' => x = y ∧ MA M M' ∧ FOK F' (clV M) l q f := by
  obtain ⟨vw, v36, TL, gf, p1, l4, q3, f5, t7⟩ := g.fr
  obtain ⟨⟨m3, h9⟩, gm, gh, pm, ph, v37, v38, pv⟩ := g.plan
  obtain ⟨D200, n60, k0, k1⟩ := g.2.2.2.1.1.1
  have d1 : (sI M 0 0 0).1 0 77 = nI D := (th_at (by omega)).trans g.2.2.2.1.2.1
  obtain ⟨t1, t2, hd, tk, hd9, tk9, e43, e44⟩ := g.2.2.1.2.2.2.2.2.2.2.2
  rw [e43] at t1
  rw [e44] at t2
  unfold k_X11_tanks
  by_cases cm : ∃ b, b < m ∧ a1 = nI b
  · obtain ⟨b, hb, rfl⟩ := cm
    rw [hasMan_y pm (by omega) hb, if_neg (by decide)]
    by_cases cd : ∃ d, d < D ∧ a2 = nI d
    · obtain ⟨d, hdD, rfl⟩ := cd
      rw [isDone_y k0 D200 hdD, if_pos (by decide)]
      obtain ⟨r, hr⟩ : ∃ r, r = hisD M d b := ⟨_, rfl⟩
      obtain ⟨hK, hl, ha⟩ := hasDay g hr hdD hb
      have ha2 : ∀ a ∈ r, a < 16 := fun a h => by have := ha a h; omega
      have pn : ∀ i, i < r.length → ∃ y, y < f ∧ clV M 20 (r.getD i 0) = nI y ∧ P.1 (33 + r.getD i 0) 1 = nI y := fun i hi => by
        obtain ⟨-, ⟨ep, y, hy, ey⟩, -⟩ := gh _ (ha _ (getD_mem hi))
        exact ⟨y, hy, ey, ep.trans ey⟩
      have R : ∀ x F', x = (if hd = 0 then 0 else (sumI (fun i => nI (polnS (clV M) l q (nv (clV M 20 (r.getD i 0))) (2 ^ (l + q) - 1) false)) r.length * nI tk + nI hd - 1) / nI hd) → FOK F' (clV M) l q f → k_X12_tanks M (nI b) (nI d) fun y M' => x = y ∧ MA M M' ∧ FOK F' (clV M) l q f := fun x F' ex hF' => by
        unfold k_X12_tanks
        rw [wrF_eq, isMan_y v37 (by omega) hb, if_neg (by decide), isDoneR_y d1 D200 hdD, if_pos (by decide)]
        refine did_ok h9 m3 (g.dayd hdD) (by omega) hb ?_
        rw [← hr]
        intro c hc
        refine sum_lp3 (g := fun i => nI (polnS (clV M) l q (nv (clV M 20 (r.getD i 0))) (2 ^ (l + q) - 1) false)) (N := r.length) (J := fun c' => MF c c') (E := fun y c' => jn (fun (t95 : Int32) => x = t95 ∧ MA M c' ∧ FOK F' (clV M) l q f) (fun J97 => (if (c'.1 0 43) ≠ (0 : Int32) then dvI (((y * (c'.1 0 44)) + (c'.1 0 43)) - (1 : Int32)) (c'.1 0 43) (fun t99 => J97 t99) else J97 (0 : Int32)))) (by omega) (fun R2 s i c' hc' hi hr2 => ?_) (fun R2 s c' hc' hE => ?_) (MF.refl c) (fun c' hc' => ?_)
        · obtain ⟨y, hy, ey, -⟩ := pn i hi
          have hx := ha _ (getD_mem hi)
          have c20 : c'.1 20 (r.getD i 0) = nI y := by
            rw [hc' 20 _ (by omega) (by omega), hc.1 20 _ (by omega) (by omega), pv 20 _ (by omega) (by omega) (show r.getD i 0 < 10 by omega)]
            exact ey
          have pw : PVw c' (clV M) l q := MF.vw (vw.mv (fun j x h1 h2 => hc.1 j x (by omega) (by omega)) (hc.1 0 34 (by omega) (by omega)) (hc.1 0 35 (by omega) (by omega))) hc'
          rw [hc' 0 101 (by omega) (by omega), hc.2.1, if_neg (nI_ge hi (by omega)), rdI_n (by omega) (by omega), hc' 54 i (by omega) (by omega), hc.2.2 i hi, rdI_n (by omega) (by omega), c20]
          refine byPolesR_ok pw TL (gf y hy) (by omega) fun c2 rf => ?_
          have := hr2 c2 (hc'.trans rf.1)
          rw [ey, nv_n (by omega)] at this
          rw [vK_eq, nI_1]
          exact this
        · rw [hc' 0 101 (by omega) (by omega), hc.2.1, if_pos (Int32.le_refl _)]
          exact hE
        · have q43 : c'.1 0 43 = nI hd := by rw [hc' 0 43 (by omega) (by omega), hc.1 0 43 (by omega) (by omega), th_at (by omega)]; exact e43
          have q44 : c'.1 0 44 = nI tk := by rw [hc' 0 44 (by omega) (by omega), hc.1 0 44 (by omega) (by omega), th_at (by omega)]; exact e44
          have ma : MA M c' := (MA.th.trans hc.ma).trans hc'.ma
          rw [jn_eq, q43, q44]
          by_cases hz : hd = 0
          · subst hz
            rw [if_neg (fun z => z rfl)]
            exact ⟨ex, ma, hF'⟩
          · have nz : nI hd ≠ 0 := fun z => hz ((nI_eq (b := 0) (by omega) (by omega)).mp z)
            rw [if_neg hz] at ex
            rw [if_pos nz, dvI_eq nz]
            exact ⟨ex, ma, hF'⟩
      rw [t1]
      by_cases hz : hd = 0
      · subst hz
        rw [if_neg (show ¬ (0 : Int32) < nI 0 from by decide)]
        exact R _ F (if_pos rfl).symm hF
      · have nz : nI hd ≠ 0 := fun z => hz ((nI_eq (b := 0) (by omega) (by omega)).mp z)
        rw [li_0, if_pos (nI_lt (by omega) (by omega))]
        unfold k_X11_worker k_X10_wayPolePanes
        refine sum_lp3 (g := fun i => nI (polnS (clV M) l q (nv (clV M 20 (r.getD i 0))) (2 ^ (l + q) - 1) false)) (N := r.length) (J := fun c => FOK c (clV M) l q f) (E := fun y F' => vK (y * (P.1 0 11)) (fun v48 => dvI ((v48 + nI hd) - (1 : Int32)) (nI hd) (fun t49 => k_X12_tanks M (nI b) (nI d) fun y M' => t49 = y ∧ MA M M' ∧ FOK F' (clV M) l q f))) (by omega) (fun R2 s i c hc hi hr2 => ?_) (fun R2 s c hc hE => ?_) hF (fun F' hF' => ?_)
        · obtain ⟨y, hy, ey, ep⟩ := pn i hi
          have hx := ha _ (getD_mem hi)
          rw [wayLength_ok (by omega) (by omega) hK hl ha2, if_neg (nI_ge hi (by omega)), wayHouse_ok (by omega) (by omega) hK hl ha2 hi, ixN_n (by omega) (by omega), ep, vK_eq]
          refine byPolesC_ok TL gf f5 hc hy fun F2 hF2 => ?_
          have := hr2 F2 hF2
          rw [ey, nv_n (by omega)] at this
          rw [vK_eq, nI_1]
          exact this
        · rw [wayLength_ok (by omega) (by omega) hK hl ha2, if_pos (Int32.le_refl _)]
          exact hE
        · rw [vK_eq, t2, dvI_eq nz]
          exact R _ F' (if_neg hz).symm hF'
    · rw [isDone_n k0 D200 cd, if_neg (fun z => z rfl)]
      unfold k_X12_tanks
      try dsimp only
      rw [wrF_eq, isMan_y v37 (by omega) hb, if_neg (by decide), isDoneR_n d1 D200 cd, if_neg (fun z => z rfl)]
      exact ⟨rfl, MA.th, hF⟩
  · rw [hasMan_n pm (by omega) cm, if_pos rfl]
    unfold k_X12_tanks
    try dsimp only
    rw [wrF_eq, isMan_n v37 (by omega) cm, if_pos rfl]
    exact ⟨rfl, MA.th, hF⟩
/-! houses by street: insertion on both sides -/
/-- a house stands behind another -/
def bhS (V : VW) (a b : Nat) : Bool := decide (nv (V 22 b) < nv (V 22 a) ∨ (nv (V 22 a) = nv (V 22 b) ∧ nv (V 23 b) < nv (V 23 a)))
theorem behindC {i j : Nat} {Q : Int32 → Prop} (gi : PHou P.1 V f m i) (gj : PHou P.1 V f m j) (hi : i < 10) (hj : j < 10) : k_X9_isBehind P T (nI i) (nI j) Q = Q (if bhS V i j = true then 1 else 0) := by
  obtain ⟨-, -, ⟨s1, a, ha, ea⟩, ⟨p1, b, hb, eb⟩, -⟩ := gi
  obtain ⟨-, -, ⟨s2, c, hc, ec⟩, ⟨p2, d, hd, ed⟩, -⟩ := gj
  unfold k_X9_isBehind bhS
  rw [ixN_n hi (by omega), ixN_n hj (by omega), jn_eq, s1, s2, p1, p2, ea, eb, ec, ed, nv_n (by omega), nv_n (by omega), nv_n (by omega), nv_n (by omega)]
  by_cases e : a = c
  · subst e
    rw [if_pos rfl]
    dsimp only
    rw [rZ_ite]
    congr 1
    by_cases x : b ≤ d
    · rw [if_neg (fun z => z (nI_le x (by omega))), if_neg (by rw [decide_eq_true_iff]; omega)]
    · rw [if_pos (fun z => by rw [nI_le' (by omega) (by omega)] at z; omega), if_pos (by rw [decide_eq_true_iff]; omega)]
  · rw [if_neg (fun z => e ((nI_eq (by omega) (by omega)).mp z))]
    dsimp only
    rw [rZ_ite]
    congr 1
    by_cases x : a ≤ c
    · rw [if_neg (fun z => z (nI_le x (by omega))), if_neg (by rw [decide_eq_true_iff]; omega)]
    · rw [if_pos (fun z => by rw [nI_le' (by omega) (by omega)] at z; omega), if_pos (by rw [decide_eq_true_iff]; omega)]
theorem behindR {i j : Nat} {Q : Int32 → Prop} (pv : PV M V) (gi : PHou P.1 V f m i) (gj : PHou P.1 V f m j) (hi : i < 10) (hj : j < 10) : k_X12_isBehind M (nI i) (nI j) Q = Q (if bhS V i j = true then 1 else 0) := by
  obtain ⟨-, -, ⟨s1, a, ha, ea⟩, ⟨p1, b, hb, eb⟩, -⟩ := gi
  obtain ⟨-, -, ⟨s2, c, hc, ec⟩, ⟨p2, d, hd, ed⟩, -⟩ := gj
  have m1 : M.1 22 i = nI a := (pv 22 i (by omega) (by omega) (show i < 10 from hi)).trans ea
  have m2 : M.1 23 i = nI b := (pv 23 i (by omega) (by omega) (show i < 10 from hi)).trans eb
  have m3 : M.1 22 j = nI c := (pv 22 j (by omega) (by omega) (show j < 10 from hj)).trans ec
  have m4 : M.1 23 j = nI d := (pv 23 j (by omega) (by omega) (show j < 10 from hj)).trans ed
  unfold k_X12_isBehind bhS
  rw [jn_eq, rdI_n (by omega) (by omega), rdI_n (by omega) (by omega), m1, m3, ea, eb, ec, ed, nv_n (by omega), nv_n (by omega), nv_n (by omega), nv_n (by omega)]
  by_cases e : c < a
  · rw [if_pos (nI_lt e (by omega))]
    dsimp only
    rw [rZ_1, if_pos (by rw [decide_eq_true_iff]; omega)]
  · rw [if_neg (nI_nlt (by omega) (by omega)), rdI_n (by omega) (by omega), rdI_n (by omega) (by omega), m1, m3]
    by_cases e2 : a = c
    · rw [if_neg (fun z => z (by rw [e2])), rdI_n (by omega) (by omega), rdI_n (by omega) (by omega), m2, m4]
      by_cases x : b ≤ d
      · rw [if_pos (nI_le x (by omega))]
        dsimp only
        rw [rZ_0, if_neg (by rw [decide_eq_true_iff]; omega)]
      · rw [if_neg (fun z => by rw [nI_le' (by omega) (by omega)] at z; omega)]
        dsimp only
        rw [rZ_1, if_pos (by rw [decide_eq_true_iff]; omega)]
    · rw [if_pos (fun z => e2 ((nI_eq (by omega) (by omega)).mp z))]
      dsimp only
      rw [rZ_0, if_neg (by rw [decide_eq_true_iff]; omega)]
end T4
