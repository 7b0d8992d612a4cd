/-! ===== top and covers: both sides agree ===== -/
theorem nlt_of {n : Nat} (h : n < 2 ^ 31) : ¬ nI n < 0 := nI_pos h
section Cov3
variable {H P K I M : CT} {V : VW} {l q f m h D n i t c d : Nat} {a1 a2 a3 a4 a5 : Int32} {held : Bool} {Q : Int32 → Prop}
theorem PRel.vw {x : Int32} (g : PRel P.1 M.1 l q f m h) : PVw (sI M 0 0 x) (clV M) l q := by
  obtain ⟨⟨-, -, b34, b35, -⟩, -⟩ := g
  exact ⟨fun j y h2 h32 hy => (th_at (by omega)).trans (clV_r ⟨h2, h32⟩ hy).symm, (th_at (by omega)).trans b34, (th_at (by omega)).trans b35⟩
theorem PRel.tls {V : VW} (g : PRel P.1 V l q f m h) : TLS P.1 V l q := ⟨⟨g.1.1.1, g.1.1.2.1, g.1.2.1.1, g.1.2.1.2.1⟩, g.2.1, g.2.2.1⟩
def ST4 (V : VW) (l q f : Nat) (a1 a2 a3 a4 : Int32) : Prop := ∃ i t c d, i < f ∧ t < l + q ∧ c < nv (V 8 i) ∧ (1 ≤ d ∧ d ≤ 9) ∧ a1 = nI i ∧ a2 = nI t ∧ a3 = nI c ∧ a4 = nI d
def ST3 (V : VW) (l q f : Nat) (a1 a2 a3 : Int32) : Prop := ∃ i t c, i < f ∧ t < l + q ∧ c < nv (V 8 i) ∧ a1 = nI i ∧ a2 = nI t ∧ a3 = nI c
theorem isSet_y (hM : PVw M V l q) (v36 : M.1 0 36 = nI f) (f5 : f ≤ 5) (T : TLS P.1 V l q) (g : PFro P.1 V i) (hi : i < f) (ht : t < l + q) (hc : c < nv (V 8 i)) (hd : 1 ≤ d) (h9 : d ≤ 9) : k_X12_isSetting M (nI i) (nI t) (nI c) (nI d) Q = Q 1 := by
  obtain ⟨⟨l4, q3, -, -⟩, -⟩ := T
  obtain ⟨-, w, u, p, b, s, hw, -, -, -, -, ⟨e8, -⟩, -⟩ := g
  rw [e8, nv_n (by omega)] at hc
  unfold k_X12_isSetting
  rw [jn_eq, isFront_y v36 (by omega) hi, if_neg (by decide), if_neg (nI_pos (by omega)), hM.2.1, hM.2.2, nI_add, if_neg (nI_ge ht (by omega)), if_neg (nI_pos (by omega)), rdI_n (by omega) (by omega), (hM.1 8 i (by omega) (by omega) (show i < 5 by omega)).trans e8, if_neg (nI_ge hc (by omega)), li_1, if_neg (by rw [nI_lt' (by omega) (by omega)]; omega), li_9, if_neg (by rw [nI_lt' (by omega) (by omega)]; omega), ← li_1]
  exact rZ_1
theorem isSet_n (hM : PVw M V l q) (v36 : M.1 0 36 = nI f) (f5 : f ≤ 5) (l4 : l ≤ 4) (q3 : q ≤ 3) (gf : ∀ i, i < f → PFro P.1 V i) (hn : ¬ ST4 V l q f a1 a2 a3 a4) (hQ : Q 0) : k_X12_isSetting M a1 a2 a3 a4 Q := by
  have h0 : rZ 0 (fun x => Q x) := by
    rw [rZ_0]
    exact hQ
  unfold k_X12_isSetting
  rw [jn_eq]
  by_cases c1 : ∃ i, i < f ∧ a1 = nI i
  · obtain ⟨i, hi, rfl⟩ := c1
    obtain ⟨-, w, u, p, b, s, hw, -, -, -, -, ⟨e8, -⟩, -⟩ := gf i hi
    rw [isFront_y v36 (by omega) hi, if_neg (by decide)]
    refine ite_b (fun _ => h0) fun z1 => ite_b (fun _ => h0) fun z2 => ite_b (fun _ => h0) fun z3 => ?_
    rw [rdI_n (by omega) (by omega), (hM.1 8 i (by omega) (by omega) (show i < 5 by omega)).trans e8]
    refine ite_b (fun _ => h0) fun z4 => ite_b (fun _ => h0) fun z5 => ite_b (fun _ => h0) fun z6 => ?_
    exfalso
    rw [hM.2.1, hM.2.2, nI_add] at z2
    rcases i32_cases a2 with x | ⟨t, ht, rfl⟩
    · exact z1 x
    rcases i32_cases a3 with x | ⟨c, hc, rfl⟩
    · exact z3 x
    rcases i32_cases a4 with x | ⟨d, hd, rfl⟩
    · exact z5 (Int32.lt_trans x (by decide))
    rw [nI_le' (by omega) (by omega)] at z2 z4
    rw [li_1, nI_lt' (by omega) (by omega)] at z5
    rw [li_9, nI_lt' (by omega) (by omega)] at z6
    exact hn ⟨i, t, c, d, hi, by omega, by rw [e8, nv_n (by omega)]; omega, by omega, rfl, rfl, rfl, rfl⟩
  · rw [isFront_n v36 (by omega) c1, if_pos rfl]
    exact h0
theorem settle_y (p1 : P.1 0 1 = nI f) (f5 : f ≤ 5) (T : TLS P.1 V l q) (g : PFro P.1 V i) (hi : i < f) (ht : t < l + q) (hc : c < nv (V 8 i)) : k_X11_maySettle H P (nI i) (nI t) (nI c) a5 Q = Q (if stdS V l i t c (decide (a5 ≠ 0)) = true then 1 else 0) := by
  unfold k_X11_maySettle
  have l4 := T.1.1
  have q3 := T.1.2.1
  rw [jn_eq, hasFront_y p1 (by omega) hi, if_neg (by decide), has_y T ht, if_neg (by decide), ixN_n (by omega) (by omega), isLadP T (by omega), bears_ok (lad := decide (t < l)) (held := decide (a5 ≠ 0)) g (by omega) hc (by by_cases hl : t < l <;> simp [hl]) (by simp)]
  unfold stdS
  split <;> simp only [rdI_n, rdL_n, wrI_n, wrL_n, ixN_n, wrF_eq, vK_eq, jn_eq, rZ_ite, rZ_ite', rZ_0, rZ_1, bo0, bo1, it10, it11, it1n, i1z, i1n, i0n, if_true, if_false, ite_true, ite_false, eq_self, ne_eq, not_true_eq_false, not_false_eq_true, it10, it11, it1n]
theorem settle_n (p1 : P.1 0 1 = nI f) (f5 : f ≤ 5) (T : TLS P.1 V l q) (gf : ∀ i, i < f → PFro P.1 V i) (hn : ¬ ST3 V l q f a1 a2 a3) (hQ : Q 0) : k_X11_maySettle H P a1 a2 a3 a5 Q := by
  unfold k_X11_maySettle
  have h0 : rZ 0 (fun x => Q x) := by
    rw [rZ_0]
    exact hQ
  have l4 := T.1.1
  have q3 := T.1.2.1
  rw [jn_eq]
  by_cases c1 : ∃ i, i < f ∧ a1 = nI i
  · obtain ⟨i, hi, rfl⟩ := c1
    obtain ⟨-, w, u, p, b, s, hw, -, -, -, -, ⟨e8, -⟩, ⟨p8, -⟩, -⟩ := gf i hi
    rw [hasFront_y p1 (by omega) hi, if_neg (by decide)]
    by_cases c2 : ∃ t, t < l + q ∧ a2 = nI t
    · obtain ⟨t, ht, rfl⟩ := c2
      rw [has_y T ht, if_neg (by decide), ixN_n (by omega) (by omega), isLadP T (by omega)]
      unfold k_X3_bears
      refine ite_b (fun _ => ?_) fun z1 => ite_b (fun _ => ?_) fun z2 => ?_
      · dsimp only
        rw [if_pos rfl]
        exact h0
      · dsimp only
        rw [if_pos rfl]
        exact h0
      · exfalso
        rcases i32_cases a3 with x | ⟨c, hc, rfl⟩
        · exact z1 x
        rw [p8, nI_le' (by omega) (by omega)] at z2
        exact hn ⟨i, t, c, hi, ht, by rw [e8, nv_n (by omega)]; omega, rfl, rfl, rfl⟩
    · rw [has_n T c2, if_pos rfl]
      exact h0
  · rw [hasFront_n p1 (by omega) c1, if_pos rfl]
    exact h0
theorem reach_n (T : TLS P.1 V l q) (ht : t < l + q) (hn : ¬ ∃ d, (1 ≤ d ∧ d ≤ 9) ∧ a4 = nI d) (hQ : Q (-1)) : k_X8_reach P (nI t) a4 Q := by
  unfold k_X8_reach
  rw [has_y T ht, if_neg (by decide)]
  refine ite_b (fun _ => hQ) fun z1 => ?_
  by_cases z2 : a4 ≤ 9
  · exfalso
    rcases i32_cases a4 with x | ⟨d, hd, rfl⟩
    · exact z1 (Int32.lt_trans x (by decide))
    rw [li_1, nI_lt' (by omega) (by omega)] at z1
    rw [li_9, nI_le' (by omega) (by omega)] at z2
    exact hn ⟨d, by omega, rfl⟩
  · rw [if_neg z2]
    exact hQ
theorem g_top (g : CO H P K I M l q f m h D n) : k_X11_top H P a1 a2 a3 a4 a5 fun x => k_X12_top M a1 a2 a3 a4 a5 fun y M' => x = y ∧ MA M M' := by
  obtain ⟨-, -, g, -⟩ := g
  have gv := g.vw (x := 0)
  have v36 : (sI M 0 0 0).1 0 36 = nI f := (th_at (by omega)).trans g.1.2.2.2.2.1
  have gc := g.cl
  have T := gc.tls
  obtain ⟨⟨⟨l4, q3, f5, -⟩, ⟨-, -, p1, -⟩, -⟩, -, -, gf, -⟩ := gc
  unfold k_X11_top
  rw [jn_eq]
  by_cases s4 : ST4 (clV M) l q f a1 a2 a3 a4
  · obtain ⟨i, t, c, d, hi, ht, hc, ⟨h1, h9⟩, rfl, rfl, rfl, rfl⟩ := s4
    rw [settle_y p1 f5 T (gf i hi) hi ht hc]
    have R : ∀ x : Int32, x = (if stdS (clV M) l i t c (decide (a5 ≠ 0)) = true then oI (rchS (clV M) l t d) else -1) → k_X12_top M (nI i) (nI t) (nI c) (nI d) a5 fun y M' => x = y ∧ MA M M' := fun x e => by
      unfold k_X12_top
      rw [wrF_eq, jn_eq, isSet_y gv v36 f5 T (gf i hi) hi ht hc h1 h9, if_neg (by decide)]
      exact topOf_ok gv T (gf i hi) (by omega) ht hc h1 h9 (held := decide (a5 ≠ 0)) (by simp) ⟨e, MA.th⟩
    by_cases hs : stdS (clV M) l i t c (decide (a5 ≠ 0)) = true
    · rw [if_pos hs, if_neg (by decide)]
      exact reach_ok T ht h1 h9 (R _ (if_pos hs).symm)
    · rw [if_neg hs, if_pos rfl]
      exact R _ (if_neg hs).symm
  · have R : k_X12_top M a1 a2 a3 a4 a5 fun y M' => (-1 : Int32) = y ∧ MA M M' := by
      unfold k_X12_top
      rw [wrF_eq, jn_eq]
      refine isSet_n gv v36 f5 l4 q3 gf s4 ?_
      rw [if_pos rfl]
      exact ⟨rfl, MA.th⟩
    by_cases s3 : ST3 (clV M) l q f a1 a2 a3
    · obtain ⟨i, t, c, hi, ht, hc, rfl, rfl, rfl⟩ := s3
      rw [settle_y p1 f5 T (gf i hi) hi ht hc]
      refine ite_b (fun _ => R) fun _ => reach_n T ht (fun ⟨d, hd, e⟩ => s4 ⟨i, t, c, d, hi, ht, hc, hd, rfl, rfl, rfl, e⟩) R
    · refine settle_n p1 f5 T gf s3 ?_
      rw [if_pos rfl]
      exact R
theorem lowest_eq (T : TLS P.1 V l q) (ht : t < 100) : k_X8_lowest P (nI t) a1 Q = Q (if t < l then a1 - 5 else 1) := by
  unfold k_X8_lowest
  rw [jn_eq, isLadP T ht]
  by_cases hl : t < l
  · rw [if_pos hl, if_pos hl, if_neg (by decide)]
  · rw [if_neg hl, if_neg hl, if_pos rfl]
theorem highest_eq (T : TLS P.1 V l q) (ht : t < 100) : k_X8_highest P (nI t) a1 Q = Q (if t < l then a1 + 1 else a1) := by
  unfold k_X8_highest
  rw [jn_eq, isLadP T ht]
  by_cases hl : t < l
  · rw [if_pos hl, if_pos hl, if_neg (by decide)]
  · rw [if_neg hl, if_neg hl, if_pos rfl]
theorem g_covers (g : CO H P K I M l q f m h D n) : k_X11_covers H P a1 a2 a3 a4 a5 fun x => k_X12_covers M a1 a2 a3 a4 a5 fun y M' => x = y ∧ MA M M' := by
  obtain ⟨-, -, g, -⟩ := g
  have gv := g.vw (x := 0)
  have v36 : (sI M 0 0 0).1 0 36 = nI f := (th_at (by omega)).trans g.1.2.2.2.2.1
  have gc := g.cl
  have T := gc.tls
  obtain ⟨⟨⟨l4, q3, f5, -⟩, ⟨-, -, p1, -⟩, -⟩, -, -, gf, -⟩ := gc
  unfold k_X11_covers
  by_cases s4 : ST4 (clV M) l q f a1 a2 a3 a4
  · obtain ⟨i, t, c, d, hi, ht, hc, ⟨h1, h9⟩, rfl, rfl, rfl, rfl⟩ := s4
    rw [settle_y p1 f5 T (gf i hi) hi ht hc]
    have R : ∀ x : Int32, x = oI (cvS (clV M) l i t c d (decide (a5 ≠ 0))) → k_X12_covers M (nI i) (nI t) (nI c) (nI d) a5 fun y M' => x = y ∧ MA M M' := fun x e => by
      unfold k_X12_covers
      rw [wrF_eq, jn_eq, isSet_y gv v36 f5 T (gf i hi) hi ht hc h1 h9, if_neg (by decide)]
      exact coversOf_ok gv T (gf i hi) (by omega) ht hc h1 h9 (held := decide (a5 ≠ 0)) (by simp) ⟨e, MA.th⟩
    unfold cvS at R
    by_cases hs : stdS (clV M) l i t c (decide (a5 ≠ 0)) = true
    · rw [if_pos hs] at R ⊢
      rw [if_pos (by decide)]
      refine reach_ok T ht h1 h9 ?_
      cases hr : rchS (clV M) l t d with
      | none =>
        rw [hr] at R
        show (if (-1 : Int32) ≠ -1 then _ else _)
        rw [if_neg (fun z => z rfl)]
        exact R _ rfl
      | some y =>
        have hb := rch_b T ht h1 h9 hr
        rw [hr] at R
        show (if nI y ≠ -1 then _ else _)
        have g := gf i hi
        obtain ⟨-, w, u, p, b, s, hw, hu, hp, -, -, ⟨e8, -, e12, -, -⟩, -, gp⟩ := gf i hi
        have hc' := hc
        rw [e8, nv_n (by omega)] at hc'
        rw [if_pos (by rw [ne_eq, m1_ne (by omega)]; exact id), ixN_n (by omega) (by omega)]
        refine near_ok g (by omega) (by omega) ?_
        rw [lowest_eq T (by omega), highest_eq T (by omega)]
        refine between_ok (pr := tallS (clV M) l i t y) g (by omega) (fun z k hz ez => tall_iff hb hz ez) ?_
        refine R _ ?_
        have b1 := bm_lt (nearS (clV M) i c) (nv (clV M 12 i))
        have b2 := bm_lt (tallS (clV M) l i t y) (nv (clV M 12 i))
        rw [e12, nv_n (by omega)] at b1 b2 ⊢
        have b3 : 2 ^ p ≤ 2 ^ 12 := Nat.pow_le_pow_right (by omega) hp
        rw [and_n (by omega) (by omega), bm_and]
        rfl
    · rw [if_neg hs] at R ⊢
      rw [if_neg (by decide)]
      exact R _ rfl
  · have R : k_X12_covers M a1 a2 a3 a4 a5 fun y M' => (-1 : Int32) = y ∧ MA M M' := by
      unfold k_X12_covers
      rw [wrF_eq, jn_eq]
      refine isSet_n gv v36 f5 l4 q3 gf s4 ?_
      rw [if_pos rfl]
      exact ⟨rfl, MA.th⟩
    by_cases s3 : ST3 (clV M) l q f a1 a2 a3
    · obtain ⟨i, t, c, hi, ht, hc, rfl, rfl, rfl⟩ := s3
      rw [settle_y p1 f5 T (gf i hi) hi ht hc]
      refine ite_b (fun _ => reach_n T ht (fun ⟨d, hd, e⟩ => s4 ⟨i, t, c, d, hi, ht, hc, hd, rfl, rfl, rfl, e⟩) ?_) fun _ => R
      rw [if_neg (fun z => z rfl)]
      exact R
    · refine settle_n p1 f5 T gf s3 ?_
      rw [if_neg (fun z => z rfl)]
      exact R
end Cov3
