/-! ===== sales: row 21 of the reference doesn't count ===== -/
section Cg
variable {V V' : VW} {l q f tools : Nat} {held : Bool}
theorem msS_cg (e : ∀ j k, j ≠ 21 → V' j k = V j k) : msS V' l f tools held = msS V l f tools held := by
  funext i
  unfold msS cvS stdS rchS lenS
  have n : ∀ c, nearS V' f c = nearS V f c := fun c => by
    funext k
    unfold nearS
    rw [e 13 _ (by decide)]
  have t : ∀ t h, tallS V' l f t h = tallS V l f t h := fun t h => by
    funext k
    unfold tallS
    rw [e 14 _ (by decide)]
  simp only [n, t, e 3 _ (by decide), e 5 _ (by decide), e 6 _ (by decide), e 8 _ (by decide), e 10 _ (by decide), e 11 _ (by decide), e 12 _ (by decide)]
theorem cntS_cg (e : ∀ j k, j ≠ 21 → V' j k = V j k) : cntS V' l q f = cntS V l q f := by
  unfold cntS
  rw [e 8 _ (by decide)]
theorem codeS_cg (e : ∀ j k, j ≠ 21 → V' j k = V j k) : codeS V' f = codeS V f := by
  funext i
  unfold codeS
  rw [e 8 _ (by decide)]
theorem ladS_cg (e : ∀ j k, j ≠ 21 → V' j k = V j k) : ladS V' l f = ladS V l f := by
  funext i
  unfold ladS
  rw [e 8 _ (by decide)]
theorem allS_cg (e : ∀ j k, j ≠ 21 → V' j k = V j k) : allS V' l q f tools held = allS V l q f tools held := by
  unfold allS
  rw [msS_cg e, cntS_cg e]
theorem rowS_cg (e : ∀ j k, j ≠ 21 → V' j k = V j k) : rowS V' l q f tools held = rowS V l q f tools held := by
  rw [rowS_eq, rowS_eq, msS_cg e, cntS_cg e]
theorem minS_cg (e : ∀ j k, j ≠ 21 → V' j k = V j k) : minS V' l q f tools held = minS V l q f tools held := by
  unfold minS
  rw [allS_cg e, rowS_cg e, ladS_cg e]
theorem FOK.cg {F : CT} {fN : Nat} (e : ∀ j k, j ≠ 21 → V' j k = V j k) (g : FOK F V l q fN) : FOK F V' l q fN := fun f hf => by
  have := g f hf
  unfold FS at *
  simp only [allS_cg e, rowS_cg e, ladS_cg e, msS_cg e, codeS_cg e]
  exact this
end Cg
section Mv2
variable {P V V' : VW} {l q f m h i : Nat}
theorem PHou.mv2 (g : PHou P V f m i) (e : ∀ j, 19 ≤ j → j ≤ 29 → j ≠ 21 → V' j i = V j i) : PHou P V' f m i := by
  unfold PHou at *
  rw [e 19 (by omega) (by omega) (by omega), e 20 (by omega) (by omega) (by omega), e 22 (by omega) (by omega) (by omega), e 23 (by omega) (by omega) (by omega), e 24 (by omega) (by omega) (by omega), e 25 (by omega) (by omega) (by omega), e 26 (by omega) (by omega) (by omega), e 27 (by omega) (by omega) (by omega), e 28 (by omega) (by omega) (by omega), e 29 (by omega) (by omega) (by omega)]
  exact g
theorem PRel.mv2 (g : PRel P V l q f m h) (e0 : ∀ k, 34 ≤ k → k ≤ 45 → V' 0 k = V 0 k) (e : ∀ j k, 2 ≤ j → j ≤ 32 → j ≠ 21 → k < half j → V' j k = V j k) : PRel P V' l q f m h := by
  have e1 : PRel P (fun j k => if j = 21 then V j k else V' j k) l q f m h := g.mv (fun k h1 h2 => by rw [if_neg (by omega)]; exact e0 k h1 h2) fun j k h1 h2 hk => by
    by_cases z : j = 21
    · rw [if_pos z]
    · rw [if_neg z]
      exact e j k h1 h2 z hk
  obtain ⟨g1, g2, g3, g4, g5, g6, g7, g8, g9⟩ := e1
  exact ⟨g1, g2, g3, g4, g5, fun i hi => (g6 i hi).mv2 fun j h1 h2 h3 => (if_neg h3).symm, g7, g8, g9⟩
end Mv2
theorem BRel.mv44 {B : VW} {K M M' : CT} {u : Bool} {m h D n : Nat} (g : BRel B K M u m h D n) (e : ∀ j k, 37 ≤ j → j ≤ 50 → j ≠ 44 → M'.1 j k = M.1 j k) (e44 : ∀ i, i < h → M'.1 44 (oT u + i) = M.1 44 (oT u + i)) : BRel B K M' u m h D n := by
  have ma : MA M (fun j k => if j = 44 then M.1 j k else if 37 ≤ j ∧ j ≤ 50 then M'.1 j k else M.1 j k, M.2) := fun j k _ => by
    dsimp only
    by_cases z : j = 44
    · rw [if_pos z]
    · rw [if_neg z]
      by_cases y : 37 ≤ j ∧ j ≤ 50
      · rw [if_pos y]
        exact e j k y.1 y.2 z
      · rw [if_neg y]
  have at_ : ∀ j k, 37 ≤ j → j ≤ 50 → j ≠ 44 → M'.1 j k = (if j = 44 then M.1 j k else if 37 ≤ j ∧ j ≤ 50 then M'.1 j k else M.1 j k) := fun j k h1 h2 h3 => by rw [if_neg h3, if_pos ⟨h1, h2⟩]
  obtain ⟨g1, g2, g3, g4, g5, g6⟩ := g
  have dl : ∀ d, dayL M' u d = dayL M u d := fun d => by
    unfold dayL
    rw [e 46 _ (by omega) (by omega) (by omega)]
    refine List.map_congr_left fun k _ => ?_
    rw [e 47 _ (by omega) (by omega) (by omega), e 48 _ (by omega) (by omega) (by omega)]
  have wl : ∀ i, wipL M' u D i = wipL M u D i := fun i => by
    unfold wipL
    refine List.filter_congr fun d _ => ?_
    rw [dl]
  refine ⟨g1, fun i hi => ?_, fun d hd => ?_, fun i hi => ?_, fun i hi => ?_, fun i hi hn => ?_⟩
  · have := g2 i hi
    unfold BHou at *
    rw [e44 i hi, e 37 _ (by omega) (by omega) (by omega), e 38 _ (by omega) (by omega) (by omega), e 39 _ (by omega) (by omega) (by omega), e 40 _ (by omega) (by omega) (by omega), e 41 _ (by omega) (by omega) (by omega), e 42 _ (by omega) (by omega) (by omega), e 43 _ (by omega) (by omega) (by omega)]
    exact this
  · have := g3 d hd
    unfold BDay at *
    rw [dl, e 46 _ (by omega) (by omega) (by omega)]
    obtain ⟨⟨n, n1, n2, n3⟩, n4⟩ := this
    refine ⟨⟨n, n1, n2, fun k hk => ?_⟩, n4⟩
    rw [e 47 _ (by omega) (by omega) (by omega), e 48 _ (by omega) (by omega) (by omega)]
    exact n3 k hk
  · rw [wl]
    refine ⟨(g4 i hi).1, fun k hk => ?_⟩
    rw [e 45 _ (by omega) (by omega) (by omega)]
    exact (g4 i hi).2 k hk
  · rw [e 49 _ (by omega) (by omega) (by omega), e 50 _ (by omega) (by omega) (by omega)]
    exact g5 i hi
  · rw [e 49 _ (by omega) (by omega) (by omega)] at hn
    rw [e 50 _ (by omega) (by omega) (by omega)]
    exact g6 i hi hn
theorem BRel.mvB {B B' : VW} {K K' M : CT} {u : Bool} {m h D n : Nat} (g : BRel B K M u m h D n) (e0 : ∀ k, k ≤ 1 → B' 0 k = B 0 k) (e : ∀ j i, 1 ≤ j → j ≤ 8 → i < h → B' j i = B j i) (k9 : ∀ d, d < D → K'.1 9 d = K.1 9 d) (k10 : ∀ d b, d < D → b < 3 → K'.2 10 (3 * d + b) = K.2 10 (3 * d + b)) (k11 : ∀ j i, 11 ≤ j → j ≤ 13 → i < n → K'.1 j i = K.1 j i) : BRel B' K' M u m h D n := by
  obtain ⟨⟨g1, g1', g1a, g1b⟩, g2, g3, g4, g5, g6⟩ := g
  refine ⟨⟨g1, g1', (e0 0 (by omega)).trans g1a, (e0 1 (by omega)).trans g1b⟩, fun i hi => (g2 i hi).mvB fun j h1 h2 => e j i h1 h2 hi, fun d hd => ?_, fun i hi => ?_, fun i hi => ?_, g6⟩
  · have := g3 d hd
    unfold BDay at *
    rw [k9 d hd]
    exact ⟨this.1, this.2.1, this.2.2.1, fun b hb => by rw [k10 d b hd hb]; exact this.2.2.2 b hb⟩
  · rw [e 3 i (by omega) (by omega) hi]
    exact g4 i hi
  · have := g5 i hi
    rw [k11 11 i (by omega) (by omega) hi, k11 12 i (by omega) (by omega) hi, k11 13 i (by omega) (by omega) hi]
    exact this
section Sell
variable {H P K I M T F : CT} {l q f m h D n : Nat} {a1 a2 : Int32}
/-- the walker's tables, but for what a sale makes stale -/
theorem sell_CO {x y : Nat} (g : CO H P K I M l q f m h D n) (hx : x < h) (hy : y < m) : CO H P (sI K 1 x (nI y)) I (sI (sI (sI M 0 0 0) 44 x (nI y)) 21 x (nI y)) l q f m h D n ∧ ∀ j k, j ≠ 21 → clV (sI (sI (sI M 0 0 0) 44 x (nI y)) 21 x (nI y)) j k = clV M j k := by
  have h9 := g.2.2.1.1.1.2.2.2.2
  have at_ : ∀ j k, j ≠ 21 → j ≠ 44 → ¬ (j = 0 ∧ k = 0) → (sI (sI (sI M 0 0 0) 44 x (nI y)) 21 x (nI y)).1 j k = M.1 j k := fun j k h1 h2 h3 => by rw [sI_ne (by omega), sI_ne (by omega), sI_ne h3]
  have at44 : ∀ k, k ≠ x → (sI (sI (sI M 0 0 0) 44 x (nI y)) 21 x (nI y)).1 44 k = M.1 44 k := fun k hk => by rw [sI_ne (by omega), sI_ne (by omega), sI_ne (by omega)]
  have cl : ∀ j k, j ≠ 21 → clV (sI (sI (sI M 0 0 0) 44 x (nI y)) 21 x (nI y)) j k = clV M j k := fun j k hj => by
    unfold clV
    split
    · rename_i r
      exact at_ j k hj (by omega) (by omega)
    · rfl
  obtain ⟨⟨t, g1, g2, g3, g4⟩, g5, g6, ⟨g7, g8, g9, g10⟩, g11, g12⟩ := g
  have b44 : BRel K.1 K (sI (sI (sI M 0 0 0) 44 x (nI y)) 21 x (nI y)) false m h D n ∨ True := Or.inr trivial
  refine ⟨⟨⟨t, g1, g2, (at_ 0 2 (by omega) (by omega) (by omega)).trans g3, ?_⟩, ⟨g5.1.trans (at_ 0 68 (by omega) (by omega) (by omega)).symm, g5.2.trans (at_ 0 69 (by omega) (by omega) (by omega)).symm⟩, g6.mv2 (fun k h1 h2 => at_ 0 k (by omega) (by omega) (by omega)) (fun j k h1 h2 h3 hk => at_ j k h3 (by omega) (by omega)), ⟨?_, (at_ 0 77 (by omega) (by omega) (by omega)).trans g8, (at_ 0 78 (by omega) (by omega) (by omega)).trans g9, fun i hi => ?_⟩, ?_, fun i hi => ?_⟩, cl⟩
  · have e1 : (sI (sI (sI M 0 0 0) 44 x (nI y)) 21 x (nI y)).1 1 = M.1 1 := by
      funext k
      exact at_ 1 k (by omega) (by omega) (by omega)
    rw [e1]
    exact g4
  · -- the book
    have old := g7
    obtain ⟨⟨p1, p1', p1a, p1b⟩, p2, p3, p4, p5, p6⟩ := g7
    have mid : BRel (fun j i => if j = 1 ∧ i = x then nI y else K.1 j i) K (fun j k => if j = 44 ∧ k = x then nI y else M.1 j k, M.2) false m h D n := by
      have dl : ∀ d, dayL (fun j k => if j = 44 ∧ k = x then nI y else M.1 j k, M.2) false d = dayL M false d := fun d => rfl
      refine ⟨⟨p1, p1', p1a, p1b⟩, fun i hi => ?_, p3, p4, p5, p6⟩
      have b := p2 i hi
      unfold BHou at *
      dsimp only
      rw [show oT false + i = i from Nat.zero_add i] at *
      by_cases e : i = x
      · subst e
        rw [if_pos ⟨rfl, rfl⟩, if_pos ⟨rfl, rfl⟩]
        exact ⟨⟨rfl, y, hy, rfl⟩, b.2⟩
      · rw [if_neg (show ¬ (1 = 1 ∧ i = x) by omega), if_neg (show ¬ (44 = 44 ∧ i = x) by omega)]
        exact b
    refine BRel.mvB (BRel.mv44 (M' := sI (sI (sI M 0 0 0) 44 x (nI y)) 21 x (nI y)) mid (fun j k h1 h2 h3 => ?_) (fun i hi => ?_)) (fun k hk => ?_) (fun j i h1 h2 h3 => ?_) (fun d hd => sI_ne (by omega)) (fun d b hd hb => rfl) (fun j i h1 h2 h3 => sI_ne (by omega))
    · rw [at_ j k (by omega) h3 (by omega)]
      dsimp only
      rw [if_neg (by omega)]
    · rw [show oT false + i = i from Nat.zero_add i]
      dsimp only
      by_cases e : i = x
      · subst e
        rw [if_pos ⟨rfl, rfl⟩, sI_ne (by omega), sI_same]
      · rw [if_neg (by omega)]
        exact at44 i e
    · rw [sI_ne (by omega), if_neg (by omega)]
    · rw [sI_at]
  · by_cases e : i = x
    · subst e
      rw [sI_same, sI_ne (by omega), sI_same]
    · rw [at44 i e, sI_ne (by omega), sI_ne (by omega), sI_ne (by omega)]
      exact g10 i hi
  · rw [at_ 0 93 (by omega) (by omega) (by omega), at_ 0 94 (by omega) (by omega) (by omega), at_ 0 95 (by omega) (by omega) (by omega)]
    rcases g11 with z | ⟨a, b, D', n', c1, c2, c3, c4⟩
    · exact Or.inl z
    · refine Or.inr ⟨a, b, D', n', c1, c2, ?_, c4⟩
      exact BRel.mvB (BRel.mv44 c3 (fun j k h1 h2 h3 => at_ j k (by omega) h3 (by omega)) (fun i hi => at44 _ (by show 10 + i ≠ x; omega))) (fun _ _ => rfl) (fun _ _ _ _ _ => rfl) (fun d hd => sI_ne (by omega)) (fun d b hd hb => rfl) (fun j i h1 h2 h3 => sI_ne (by omega))
  · rw [at_ 52 i (by omega) (by omega) (by omega), minS_cg cl]
    exact g12 i hi
theorem g_sell (g : CO H P K I M l q f m h D n) (hF : FOK F (clV M) l q f) : k_X11_sell H P K T a1 a2 fun x K' T' => k_X12_sell M a1 a2 fun y M' => x = y ∧ CO H P K' I M' l q f m h D n ∧ FOK F (clV M') l q f ∧ (∀ j k, j ≠ 21 → clV M' j k = clV M j k) ∧ ((T' = T ∧ MA M M' ∧ K' = K) ∨ T' = sI T 0 10 (-1)) := by
  obtain ⟨⟨m3, h9⟩, gm, gh, pm, ph, v37, v38, pv⟩ := g.plan
  have wh := g.whose
  have no : ∀ x : Int32, x = x ∧ CO H P K I (sI M 0 0 0) l q f m h D n ∧ FOK F (clV (sI M 0 0 0)) l q f ∧ (∀ j k, j ≠ 21 → clV (sI M 0 0 0) j k = clV M j k) ∧ ((T = T ∧ MA M (sI M 0 0 0) ∧ K = K) ∨ T = sI T 0 10 (-1)) := fun x => ⟨rfl, g.mv MA.th, by rw [clV.mv MA.th]; exact hF, fun j k _ => by rw [clV.mv MA.th], Or.inl ⟨rfl, MA.th, rfl⟩⟩
  unfold k_X11_sell
  by_cases ch : ∃ x, x < h ∧ a1 = nI x
  · obtain ⟨x, hx, rfl⟩ := ch
    rw [hasHouse_y ph (by omega) hx, if_neg (by decide)]
    by_cases cm : ∃ y, y < m ∧ a2 = nI y
    · obtain ⟨y, hy, rfl⟩ := cm
      have w44 : (sI M 0 0 0).1 44 x = K.1 1 x := by rw [th_at (by omega), (wh x hx).1.1]; exact (wh x hx).1.2
      rw [hasMan_y pm (by omega) hy, if_neg (by decide), rdI_n (by omega) (by omega)]
      refine ite_b (fun z => ?_) fun z => ?_
      · rw [wrI_n (by omega) (by omega)]
        unfold k_X11_walker k_X9_forgetSwap
        rw [wrF_eq]
        unfold k_X12_sell
        try dsimp only
        rw [wrF_eq, isHouse_y v38 (by omega) hx, if_neg (by decide), isMan_y v37 (by omega) hy, if_neg (by decide), rdI_n (by omega) (by omega), w44, if_pos z, wrI_n (by omega) (by omega), wrI_n (by omega) (by omega)]
        obtain ⟨c1, c2⟩ := sell_CO g hx hy
        exact ⟨rfl, c1, hF.cg c2, c2, Or.inr rfl⟩
      · unfold k_X12_sell
        try dsimp only
        rw [wrF_eq, isHouse_y v38 (by omega) hx, if_neg (by decide), isMan_y v37 (by omega) hy, if_neg (by decide), rdI_n (by omega) (by omega), w44, if_neg z]
        exact no 0
    · rw [hasMan_n pm (by omega) cm, if_pos rfl]
      unfold k_X12_sell
      try dsimp only
      rw [wrF_eq, isHouse_y v38 (by omega) hx, if_neg (by decide), isMan_n v37 (by omega) cm, if_pos rfl]
      exact no 0
  · rw [hasHouse_n ph (by omega) ch, if_pos rfl]
    unfold k_X12_sell
    try dsimp only
    rw [wrF_eq, isHouse_n v38 (by omega) ch, if_pos rfl]
    exact no 0
end Sell
