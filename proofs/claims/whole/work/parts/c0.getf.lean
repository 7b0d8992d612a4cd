/-! ===== missing, fewest, minutes, instead: both sides agree ===== -/
theorem hl_of {a : Int32} (h : a = 0 ∨ a = 1) : ∃ held : Bool, a = (if held = true then 1 else 0) ∧ ((a ≠ 0) ↔ held = true) := by
  rcases h with rfl | rfl
  · exact ⟨false, rfl, by simp⟩
  · exact ⟨true, rfl, by simp⟩
theorem pop_dif (s a : Nat) : ∀ n, pop n (dif s a) + pop n (s &&& a) = pop n s
  | 0 => rfl
  | n + 1 => by
    have ih := pop_dif s a n
    show pop n (dif s a) + (if (dif s a).testBit n = true then 1 else 0) + (pop n (s &&& a) + (if (s &&& a).testBit n = true then 1 else 0)) = pop n s + (if s.testBit n = true then 1 else 0)
    rw [dif_bit, Nat.testBit_and]
    cases s.testBit n <;> cases a.testBit n <;> simp <;> omega
theorem pop_ones {p : Nat} : ∀ n, n ≤ p → pop n (2 ^ p - 1) = n
  | 0, _ => rfl
  | n + 1, h => by
    show pop n (2 ^ p - 1) + (if (2 ^ p - 1).testBit n = true then 1 else 0) = n + 1
    rw [pop_ones n (by omega), Nat.testBit_two_pow_sub_one, if_pos (decide_eq_true (by omega))]
theorem pop_miss {p A : Nat} (hp : p ≤ 12) (hA : A < 2 ^ p) : pop 12 (dif (2 ^ p - 1) A) = p - pop 12 A ∧ pop 12 A ≤ p := by
  have h := pop_dif (2 ^ p - 1) A 12
  have e : (2 ^ p - 1) &&& A = A := by
    rw [Nat.and_comm, Nat.and_two_pow_sub_one_eq_mod, Nat.mod_eq_of_lt hA]
  have o : pop 12 (2 ^ p - 1) = p := by
    have := pop_up (s := 2 ^ p - 1) (n := p) (by have := Nat.two_pow_pos p; omega) (12 - p)
    rw [show p + (12 - p) = 12 by omega] at this
    rw [this]
    exact pop_ones p (Nat.le_refl p)
  rw [e, o] at h
  omega
section GetF
variable {H P K I M F : CT} {l q f m h D n : Nat} {a1 a2 a3 a4 : Int32}
/-- both sides' start of a question about fronts -/
theorem CO.fr (g : CO H P K I M l q f m h D n) : PVw (sI M 0 0 0) (clV M) l q ∧ (sI M 0 0 0).1 0 36 = nI f ∧ TLS P.1 (clV M) l q ∧ (∀ i, i < f → PFro P.1 (clV M) i) ∧ P.1 0 1 = nI f ∧ l ≤ 4 ∧ q ≤ 3 ∧ f ≤ 5 ∧ 2 ^ (l + q) ≤ 128 := by
  obtain ⟨-, -, g, -⟩ := g
  have gc := g.cl
  have l4 := g.1.1.1
  have q3 := g.1.1.2.1
  refine ⟨g.vw, (th_at (by omega)).trans g.1.2.2.2.2.1, gc.tls, gc.2.2.2.1, g.1.2.1.2.2.1, l4, q3, g.1.1.2.2.1, ?_⟩
  have : 2 ^ (l + q) ≤ 2 ^ 7 := Nat.pow_le_pow_right (by omega) (by omega)
  exact this
theorem g_missing (g : CO H P K I M l q f m h D n) (hF : FOK F (clV M) l q f) (h3 : a3 = 0 ∨ a3 = 1) : k_X11_missing H P F a1 a2 a3 fun x F' => k_X12_missing M a1 a2 a3 fun y M' => x = y ∧ MA M M' ∧ FOK F' (clV M) l q f := by
  obtain ⟨vw, v36, T, gf, p1, l4, q3, f5, t7⟩ := g.fr
  obtain ⟨held, e3, i3⟩ := hl_of h3
  unfold k_X11_missing
  by_cases c1 : ∃ i, i < f ∧ a1 = nI i
  · obtain ⟨i, hi, rfl⟩ := c1
    rw [hasFront_y p1 (by omega) hi, if_neg (by decide)]
    by_cases c2 : ∃ t, t < 2 ^ (l + q) ∧ a2 = nI t
    · obtain ⟨t, ht, rfl⟩ := c2
      rw [haveBits_y T ht, if_pos (by decide)]
      refine missed_ok T gf f5 hF hi ht e3 fun F' hF' => ?_
      unfold k_X12_missing
      obtain ⟨-, w, u, p, b, s, hw, -, hp, -, -, ⟨e8, -, e12, -⟩, -, -⟩ := gf i hi
      have pl : 2 ^ p ≤ 2 ^ 12 := Nat.pow_le_pow_right (by omega) hp
      have al := (all_lt (l := l) (q := q) (tools := t) (held := held) (gf i hi)).2
      rw [wrF_eq, jn_eq, isFront_y v36 (by omega) hi, if_neg (by decide), areTools_y vw l4 q3 ht, if_pos (by decide), rdI_n (by omega) (by omega), vw.1 12 i (by omega) (by omega) (show i < 5 by omega), e12]
      refine gathers_ok vw T (gf i hi) (by omega) (by omega) i3 fun s c gr => ?_
      have ma := gr.ma
      obtain ⟨rfl, -⟩ := gr
      rw [shl_1 (by omega), sub1_n (Nat.two_pow_pos p)]
      have al' : orN (msS (clV M) l i t held) (cntS (clV M) l q i) < 4096 := al
      rw [dif_n (by omega) (by omega), nv_n (by omega)]
      exact ⟨rfl, MA.th.trans ma, hF'⟩
    · rw [haveBits_n T c2, if_neg (fun z => z rfl)]
      unfold k_X12_missing
      try dsimp only
      rw [wrF_eq, jn_eq, isFront_y v36 (by omega) hi, if_neg (by decide), areTools_n vw l4 q3 c2, if_neg (fun z => z rfl)]
      exact ⟨rfl, MA.th, hF⟩
  · rw [hasFront_n p1 (by omega) c1, if_pos rfl]
    unfold k_X12_missing
    try dsimp only
    rw [wrF_eq, jn_eq, isFront_n v36 (by omega) c1, if_pos rfl]
    exact ⟨rfl, MA.th, hF⟩
theorem g_minutes (g : CO H P K I M l q f m h D n) (hF : FOK F (clV M) l q f) (h3 : a3 = 0 ∨ a3 = 1) : k_X11_minutes H P F a1 a2 a3 fun x F' => k_X12_minutes M a1 a2 a3 fun y M' => x = y ∧ MA M M' ∧ FOK F' (clV M) l q f := by
  obtain ⟨vw, v36, T, gf, p1, l4, q3, f5, t7⟩ := g.fr
  obtain ⟨held, e3, i3⟩ := hl_of h3
  unfold k_X11_minutes
  by_cases c1 : ∃ i, i < f ∧ a1 = nI i
  · obtain ⟨i, hi, rfl⟩ := c1
    rw [hasFront_y p1 (by omega) hi, if_neg (by decide)]
    by_cases c2 : ∃ t, t < 2 ^ (l + q) ∧ a2 = nI t
    · obtain ⟨t, ht, rfl⟩ := c2
      rw [haveBits_y T ht, if_pos (by decide)]
      refine timeFor_ok T gf f5 hF hi ht e3 fun F' hF' => ?_
      unfold k_X12_minutes
      try dsimp only
      rw [wrF_eq, jn_eq, isFront_y v36 (by omega) hi, if_neg (by decide), areTools_y vw l4 q3 ht, if_pos (by decide)]
      exact minutesOf_ok vw T (gf i hi) (by omega) (by omega) i3 fun c rf => ⟨rfl, MA.th.trans rf.ma, hF'⟩
    · rw [haveBits_n T c2, if_neg (fun z => z rfl)]
      unfold k_X12_minutes
      try dsimp only
      rw [wrF_eq, jn_eq, isFront_y v36 (by omega) hi, if_neg (by decide), areTools_n vw l4 q3 c2, if_neg (fun z => z rfl)]
      exact ⟨rfl, MA.th, hF⟩
  · rw [hasFront_n p1 (by omega) c1, if_pos rfl]
    unfold k_X12_minutes
    try dsimp only
    rw [wrF_eq, jn_eq, isFront_n v36 (by omega) c1, if_pos rfl]
    exact ⟨rfl, MA.th, hF⟩
theorem g_fewest (g : CO H P K I M l q f m h D n) (hF : FOK F (clV M) l q f) (h3 : a3 = 0 ∨ a3 = 1) : k_X11_fewest H P F a1 a2 a3 a4 fun x F' => k_X12_fewest M a1 a2 a3 a4 fun y M' => x = y ∧ MA M M' ∧ FOK F' (clV M) l q f := by
  obtain ⟨vw, v36, T, gf, p1, l4, q3, f5, t7⟩ := g.fr
  obtain ⟨held, e3, i3⟩ := hl_of h3
  unfold k_X11_fewest
  by_cases c1 : ∃ i, i < f ∧ a1 = nI i
  · obtain ⟨i, hi, rfl⟩ := c1
    rw [hasFront_y p1 (by omega) hi, if_neg (by decide)]
    by_cases c2 : ∃ t, t < 2 ^ (l + q) ∧ a2 = nI t
    · obtain ⟨t, ht, rfl⟩ := c2
      rw [haveBits_y T ht, if_neg (by decide)]
      rcases i32_cases a4 with hn | ⟨k, hk, rfl⟩
      · have n4 : ¬ (0 : Int32) ≤ a4 := Int32.not_le.mpr hn
        rw [if_neg n4]
        unfold k_X12_fewest
        try dsimp only
        rw [wrF_eq, isFront_y v36 (by omega) hi, if_neg (by decide), areTools_y vw l4 q3 ht, if_neg (by decide), if_neg n4]
        exact ⟨rfl, MA.th, hF⟩
      · have rl := rowS_le (l := l) (q := q) (tools := t) (held := held) (gf i hi)
        rw [if_pos (nI_pos' hk)]
        refine solve_ok T gf f5 hF hi ht e3 fun F' hF' fs => ?_
        have R : ∀ x : Int32, x = (if k = 0 then nI (rowS (clV M) l q i t held).length else if k ≤ (rowS (clV M) l q i t held).length then nI (codeS (clV M) i ((rowS (clV M) l q i t held).getD (k - 1) 0)) else -1) → k_X12_fewest M (nI i) (nI t) a3 (nI k) fun y M' => x = y ∧ MA M M' ∧ FOK F' (clV M) l q f := fun x ex => by
          unfold k_X12_fewest
          try dsimp only
          rw [wrF_eq, isFront_y v36 (by omega) hi, if_neg (by decide), areTools_y vw l4 q3 ht, if_neg (by decide), if_pos (nI_pos' hk)]
          refine fewestFor_ok vw T (gf i hi) (by omega) (by omega) i3 fun c rf => ?_
          have ma : MA M c := MA.th.trans rf.ma
          obtain ⟨-, r76, r36⟩ := rf
          rw [jn_eq]
          by_cases kz : k = 0
          · subst kz
            rw [if_neg (fun z => z rfl), r76]
            exact ⟨ex, ma, hF'⟩
          · rw [if_pos (show nI k ≠ 0 from fun z => kz ((nI_eq (b := 0) (by omega) (by omega)).mp z)), jn_eq, r76]
            rw [if_neg kz] at ex
            by_cases kl : k ≤ (rowS (clV M) l q i t held).length
            · rw [if_pos kl] at ex
              rw [if_neg (by rw [nI_lt' (by omega) (by omega)]; omega), li_1, pk_sub (by omega), rdI_n (by omega) (by omega), r36 _ (by omega)]
              exact ⟨ex, ma, hF'⟩
            · rw [if_neg kl] at ex
              rw [if_pos (nI_lt (by omega) (by omega))]
              exact ⟨ex, ma, hF'⟩
        by_cases kz : k = 0
        · subst kz
          rw [if_neg (fun z => z rfl), rdI_n (by omega) (by omega), fs.2.1]
          exact R _ (if_pos rfl).symm
        · rw [if_pos (show nI k ≠ 0 from fun z => kz ((nI_eq (b := 0) (by omega) (by omega)).mp z)), li_1, pk_sub (by omega)]
          unfold k_X1_settingOf
          rw [jn_eq, if_neg (nI_pos (by omega)), rdI_n (by omega) (by omega), fs.2.1]
          rw [if_neg kz] at R
          by_cases kl : k ≤ (rowS (clV M) l q i t held).length
          · rw [if_pos kl] at R
            rw [if_neg (nI_ge (by omega) (by omega)), li_12, pk_mul, nI_add, rdI_n (by omega) (by omega), Nat.mul_comm, fs.2.2.2.2 _ (by omega)]
            exact R _ rfl
          · rw [if_neg kl] at R
            rw [if_pos (nI_le (by omega) (by omega))]
            exact R _ rfl
    · rw [haveBits_n T c2, if_pos rfl]
      unfold k_X12_fewest
      try dsimp only
      rw [wrF_eq, isFront_y v36 (by omega) hi, if_neg (by decide), areTools_n vw l4 q3 c2, if_pos rfl]
      exact ⟨rfl, MA.th, hF⟩
  · rw [hasFront_n p1 (by omega) c1, if_pos rfl]
    unfold k_X12_fewest
    try dsimp only
    rw [wrF_eq, isFront_n v36 (by omega) c1, if_pos rfl]
    exact ⟨rfl, MA.th, hF⟩
/-- what the reference's front questions leave: all else -/
def MF (M c : CT) : Prop := ∀ j k, ¬ (33 ≤ j ∧ j ≤ 36) → ¬ (j = 0 ∧ (k = 73 ∨ k = 76)) → c.1 j k = M.1 j k
theorem MF.refl (M : CT) : MF M M := fun _ _ _ _ => rfl
theorem MF.trans {A B C : CT} (h : MF A B) (g : MF B C) : MF A C := fun j k x y => (g j k x y).trans (h j k x y)
theorem MF.vw {c : CT} {V : VW} (hM : PVw M V l q) (h : MF M c) : PVw c V l q := hM.mv (fun j x h1 h2 => h j x (by omega) (by omega)) (h 0 34 (by omega) (by omega)) (h 0 35 (by omega) (by omega))
theorem MF.ma {c : CT} (h : MF M c) : MA M c := fun j k r => h j k (by unfold RV at r; omega) (by unfold RV at r; omega)
theorem GR.mf {ms cd : Nat → Nat} {i : Nat} {s : Int32} {c : CT} (h : GR M ms cd i s c) : MF M c := fun j k x y => h.2.1 j k (by omega) (by omega) (by omega)
noncomputable def insS (V : VW) (l q tools : Nat) (fr : Nat → Nat) : Nat → Int32 := fun i => nI (minS V l q (fr i) tools false) + nI (50 * (nv (V 12 (fr i)) - pop 12 (allS V l q (fr i) tools false)))
theorem g_instead (g : CO H P K I M l q f m h D n) (hF : FOK F (clV M) l q f) : k_X11_instead H P F a1 fun x F' => k_X12_instead M a1 fun y M' => x = y ∧ MA M M' ∧ FOK F' (clV M) l q f := by
  obtain ⟨vw, v36, T, gf, p1, l4, q3, f5, t7⟩ := g.fr
  have hh := g.2.2.1.1.1.2.2.2.2
  have p3 := g.2.2.1.1.2.1.2.2.2.2
  have v38 : (sI M 0 0 0).1 0 38 = nI h := (th_at (by omega)).trans g.2.2.1.1.2.2.2.2.2.2
  have gh := g.2.2.1.2.2.2.2.2.1
  unfold k_X11_instead
  by_cases c2 : ∃ t, t < 2 ^ (l + q) ∧ a1 = nI t
  · obtain ⟨t, ht, rfl⟩ := c2
    rw [haveBits_y T ht, if_pos (by decide)]
    have R : ∀ x F', x = sumI (insS (clV M) l q t fun i => nv (M.1 20 i)) h → FOK F' (clV M) l q f → k_X12_instead M (nI t) fun y M' => x = y ∧ MA M M' ∧ FOK F' (clV M) l q f := fun x F' ex hF' => by
      unfold k_X12_instead
      try dsimp only
      rw [wrF_eq, areTools_y vw l4 q3 ht, if_pos (by decide)]
      refine sum_lp3 (g := insS (clV M) l q t fun i => nv (M.1 20 i)) (N := h) (J := fun c => MF (sI M 0 0 0) c) (E := fun y c => x = y ∧ MA M c ∧ FOK F' (clV M) l q f) (by omega) (fun R s i c hc hi hr => ?_) (fun R s c hc hE => ?_) (MF.refl _) (fun c hc => ⟨ex, MA.th.trans hc.ma, hF'⟩)
      · obtain ⟨-, ⟨-, y, hy, ey⟩, -⟩ := gh i hi
        have r20 : c.1 20 i = nI y := by rw [hc 20 i (by omega) (by omega), th_at (by omega)]; exact ey
        have hr' : ∀ c', MF (sI M 0 0 0) c' → R (s + (nI (minS (clV M) l q y t false) + nI (50 * (nv (clV M 12 y) - pop 12 (allS (clV M) l q y t false))))) (nI (i + 1)) c' := fun c' h' => by
          have := hr c' h'
          unfold insS at this
          dsimp only at this
          rw [ey, nv_n (by omega)] at this
          exact this
        obtain ⟨-, w, u, p, b, sf, hw, -, hp, -, -, ⟨e8, -, e12, -⟩, -, -⟩ := gf y hy
        have al := all_lt (l := l) (q := q) (tools := t) (held := false) (gf y hy)
        rw [e12, nv_n (by omega)] at al hr'
        obtain ⟨-, pa⟩ := pop_miss hp al.1
        rw [hc 0 38 (by omega) (by omega), v38, if_neg (nI_ge hi (by omega)), rdI_n (by omega) (by omega), r20]
        refine minutesOf_ok (held := false) (MF.vw vw hc) T (gf y hy) (by omega) (by omega) (by simp) fun c2 rf => ?_
        have h2 : MF (sI M 0 0 0) c2 := hc.trans rf.1
        rw [rdI_n (by omega) (by omega), (MF.vw vw h2).1 12 y (by omega) (by omega) (show y < 5 by omega), e12]
        refine gathers_ok (held := false) (MF.vw vw h2) T (gf y hy) (by omega) (by omega) (by simp) fun s2 c3 gr => ?_
        have h3 : MF (sI M 0 0 0) c3 := h2.trans gr.mf
        obtain ⟨rfl, -⟩ := gr
        rw [show orN (msS (clV M) l y t false) (cntS (clV M) l q y) = allS (clV M) l q y t false from rfl]
        refine bitsOf_ok al.2 ?_
        rw [pk_sub pa, li_50, pk_mul, vK_eq, nI_1]
        exact hr' c3 h3
      · rw [hc 0 38 (by omega) (by omega), v38, if_pos (Int32.le_refl _)]
        exact hE
    refine sum_lp3 (g := insS (clV M) l q t fun i => nv (M.1 20 i)) (N := h) (J := fun c => FOK c (clV M) l q f) (E := fun x F' => k_X12_instead M (nI t) fun y M' => x = y ∧ MA M M' ∧ FOK F' (clV M) l q f) (by omega) (fun R s i c hc hi hr => ?_) (fun R s c hc hE => ?_) hF (fun c hc => R _ c rfl hc)
    · obtain ⟨-, ⟨ep, y, hy, ey⟩, -⟩ := gh i hi
      have hr' : ∀ c', FOK c' (clV M) l q f → R (s + (nI (minS (clV M) l q y t false) + nI (50 * (nv (clV M 12 y) - pop 12 (allS (clV M) l q y t false))))) (nI (i + 1)) c' := fun c' h' => by
        have := hr c' h'
        unfold insS at this
        dsimp only at this
        rw [ey, nv_n (by omega)] at this
        exact this
      obtain ⟨-, w, u, p, b, sf, hw, -, hp, -, -, ⟨e8, -, e12, -⟩, -, -⟩ := gf y hy
      have al := all_lt (l := l) (q := q) (tools := t) (held := false) (gf y hy)
      have pl : 2 ^ p ≤ 2 ^ 12 := Nat.pow_le_pow_right (by omega) hp
      rw [e12, nv_n (by omega)] at al hr'
      obtain ⟨pm, pa⟩ := pop_miss hp al.1
      rw [p3, if_neg (nI_ge hi (by omega)), ixN_n (by omega) (by omega), ep, ey, vK_eq]
      refine timeFor_ok (held := false) T gf f5 hc hy ht rfl fun F2 hF2 => ?_
      rw [vK_eq]
      refine missed_ok (held := false) T gf f5 hF2 hy ht rfl fun F3 hF3 => ?_
      have dl : dif (2 ^ p - 1) (allS (clV M) l q y t false) < 2 ^ 12 := dif_lt (n := 12) (by omega)
      rw [e12, nv_n (by omega)]
      refine bitCount_ok dl ?_
      rw [pm, li_50, pk_mul, vK_eq, nI_1, Int32.add_assoc]
      exact hr' F3 hF3
    · rw [p3, if_pos (Int32.le_refl _)]
      exact hE
  · rw [haveBits_n T c2, if_neg (fun z => z rfl)]
    unfold k_X12_instead
    try dsimp only
    rw [wrF_eq, areTools_n vw l4 q3 c2, if_neg (fun z => z rfl)]
    exact ⟨rfl, MA.th, hF⟩
end GetF
