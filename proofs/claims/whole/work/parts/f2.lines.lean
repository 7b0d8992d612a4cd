/-! ===== reading: both plans change; ladders, poles, men, tank ===== -/
section Chg
variable {P V P' V' : VW} {l q f m h i : Nat}
theorem PLad.p (g : PLad P V i) (e : ∀ j, 2 ≤ j → j ≤ 3 → P' j i = P j i) : PLad P' V i := by
  unfold PLad at *
  rw [e 2 (by omega) (by omega), e 3 (by omega) (by omega)]
  exact g
theorem PPol.p (g : PPol P V i) (e : ∀ j, 4 ≤ j → j ≤ 6 → P' j i = P j i) : PPol P' V i := by
  unfold PPol at *
  rw [e 4 (by omega) (by omega), e 5 (by omega) (by omega), e 6 (by omega) (by omega)]
  exact g
theorem PFro.p (g : PFro P V i) (e : ∀ j k, j ≤ 2 → P' (15 + 3 * i + j) k = P (15 + 3 * i + j) k) : PFro P' V i := by
  obtain ⟨g0, w, u, p, b, s, g1, g2, g3, g4, g5, g6, g7, g8⟩ := g
  have e0 : ∀ k, P' (15 + 3 * i) k = P (15 + 3 * i) k := fun k => e 0 k (by omega)
  refine ⟨(e0 0).trans g0, w, u, p, b, s, g1, g2, g3, g4, g5, g6, ?_, fun k hk => ?_⟩
  · rw [e0, e0, e0, e0, e0]
    exact g7
  · have := g8 k hk
    unfold PPan at *
    rw [e 1 k (by omega), e 2 k (by omega)]
    exact this
theorem PMan.p (g : PMan P V i) (e : ∀ k, P' (30 + i) k = P (30 + i) k) : PMan P' V i := by
  unfold PMan at *
  rw [e, e, e, e]
  exact g
theorem PHou.p (g : PHou P V f m i) (e : ∀ k, P' (33 + i) k = P (33 + i) k) : PHou P' V f m i := by
  unfold PHou at *
  rw [e, e, e, e, e, e, e, e, e, e]
  exact g
theorem PRul.p (g : PRul P V) (e : ∀ j k, 11 ≤ j → j ≤ 14 → P' j k = P j k) : PRul P' V := by
  have e2 : P' 12 = P 12 := funext fun k => e 12 k (by omega) (by omega)
  have e4 : P' 14 = P 14 := funext fun k => e 14 k (by omega) (by omega)
  unfold PRul at *
  rw [e 11 0 (by omega) (by omega), e 13 0 (by omega) (by omega), e2, e4]
  exact g
theorem PRul.mv3 (g : PRul P V) (e0 : ∀ k, 39 ≤ k → k ≤ 45 → k ≠ 43 → k ≠ 44 → V' 0 k = V 0 k) (e : ∀ j k, 31 ≤ j → j ≤ 32 → k < 64 → V' j k = V j k) : PRul P V' := by
  obtain ⟨a, n, b, k, g1, g2, g3, g4, g5, g6, g7, g8, g9⟩ := g
  refine ⟨a, n, b, k, g1, ?_, ?_, g4.mv e, g5, ?_, ?_, g8.mv e, ?_⟩
  · rw [e0 39 (by omega) (by omega) (by omega) (by omega)]; exact g2
  · rw [e0 40 (by omega) (by omega) (by omega) (by omega)]; exact g3
  · rw [e0 41 (by omega) (by omega) (by omega) (by omega)]; exact g6
  · rw [e0 42 (by omega) (by omega) (by omega) (by omega)]; exact g7
  · rw [e0 45 (by omega) (by omega) (by omega) (by omega)]; exact g9
/-- what is left of a plan when cells of A (class) and B (view) change -/
def CHG (P V : VW) (l q f m h : Nat) (A B : Nat → Nat → Prop) : Prop := (∀ i, i < l → (∀ j, 2 ≤ j → j ≤ 3 → ¬ A j i ∧ ¬ B j i) → PLad P V i) ∧ (∀ i, i < q → (∀ j, 4 ≤ j → j ≤ 6 → ¬ A j i ∧ ¬ B j i) → PPol P V i) ∧ (∀ i, i < f → (∀ j k, j ≤ 2 → ¬ A (15 + 3 * i + j) k) → (∀ j, 7 ≤ j → j ≤ 12 → ¬ B j i) → (∀ j k, 13 ≤ j → j ≤ 14 → k < 12 → ¬ B j (12 * i + k)) → PFro P V i) ∧ (∀ i, i < m → (∀ k, ¬ A (30 + i) k) → (∀ j, 15 ≤ j → j ≤ 18 → ¬ B j i) → PMan P V i) ∧ (∀ i, i < h → (∀ k, ¬ A (33 + i) k) → (∀ j, 19 ≤ j → j ≤ 29 → ¬ B j i) → PHou P V f m i) ∧ (∀ d, d < 200 → ¬ A 10 d → ¬ B 30 d → P 10 d = V 30 d ∧ (V 30 d = 0 ∨ V 30 d = 1)) ∧ ((∀ j k, 11 ≤ j → j ≤ 14 → ¬ A j k) → (∀ k, 39 ≤ k → k ≤ 45 → k ≠ 43 → k ≠ 44 → ¬ B 0 k) → (∀ j k, 31 ≤ j → j ≤ 32 → ¬ B j k) → PRul P V) ∧ ((¬ A 0 10 ∧ ¬ A 0 11) → (¬ B 0 43 ∧ ¬ B 0 44) → PTan P V)
def VWR (j k : Nat) : Prop := (j = 0 ∧ 34 ≤ k ∧ k ≤ 45) ∨ (2 ≤ j ∧ j ≤ 32 ∧ k < half j)
theorem PRel.chg {A B : Nat → Nat → Prop} (g : PRel P V l q f m h) (eP : ∀ j k, ¬ A j k → P' j k = P j k) (eV : ∀ j k, VWR j k → ¬ B j k → V' j k = V j k) : CHG P' V' l q f m h A B := by
  obtain ⟨g1, g2, g3, g4, g5, g6, g7, g8, g9⟩ := g
  have b := g1.1
  refine ⟨fun i hi x => ((g2 i hi).p fun j h1 h2 => eP _ _ (x j h1 h2).1).mv fun j h1 h2 => eV _ _ (Or.inr ⟨by omega, by omega, ?_⟩) (x j h1 h2).2, fun i hi x => ((g3 i hi).p fun j h1 h2 => eP _ _ (x j h1 h2).1).mv fun j h1 h2 => eV _ _ (Or.inr ⟨by omega, by omega, ?_⟩) (x j h1 h2).2, fun i hi x y z => ((g4 i hi).p fun j k h1 => eP _ _ (x j k h1)).mv (fun j h1 h2 => eV _ _ (Or.inr ⟨by omega, by omega, ?_⟩) (y j h1 h2)) fun j k h1 h2 hk => eV _ _ (Or.inr ⟨by omega, by omega, ?_⟩) (z j k h1 h2 hk), fun i hi x y => ((g5 i hi).p fun k => eP _ _ (x k)).mv fun j h1 h2 => eV _ _ (Or.inr ⟨by omega, by omega, ?_⟩) (y j h1 h2), fun i hi x y => ((g6 i hi).p fun k => eP _ _ (x k)).mv fun j h1 h2 => eV _ _ (Or.inr ⟨by omega, by omega, ?_⟩) (y j h1 h2), fun d hd x y => ?_, fun x y z => (g8.p fun j k h1 h2 => eP _ _ (x j k h1 h2)).mv3 (fun k h1 h2 h3 h4 => eV _ _ (Or.inl ⟨rfl, by omega, by omega⟩) (y k h1 h2 h3 h4)) fun j k h1 h2 hk => eV _ _ (Or.inr ⟨by omega, by omega, ?_⟩) (z j k h1 h2), fun x y => ?_⟩
  · rcases (show j = 2 ∨ j = 3 by omega) with rfl | rfl <;> (show i < 4; omega)
  · rcases (show j = 4 ∨ j = 5 ∨ j = 6 by omega) with rfl | rfl | rfl <;> (show i < 3; omega)
  · rcases (show j = 7 ∨ j = 8 ∨ j = 9 ∨ j = 10 ∨ j = 11 ∨ j = 12 by omega) with rfl | rfl | rfl | rfl | rfl | rfl <;> (show i < 5; omega)
  · rcases (show j = 13 ∨ j = 14 by omega) with rfl | rfl <;> (show 12 * i + k < 60; omega)
  · rcases (show j = 15 ∨ j = 16 ∨ j = 17 ∨ j = 18 by omega) with rfl | rfl | rfl | rfl <;> (show i < 3; omega)
  · rcases (show j = 19 ∨ j = 20 ∨ j = 21 ∨ j = 22 ∨ j = 23 ∨ j = 24 ∨ j = 25 ∨ j = 26 ∨ j = 27 ∨ j = 28 ∨ j = 29 by omega) with rfl | rfl | rfl | rfl | rfl | rfl | rfl | rfl | rfl | rfl | rfl <;> (show i < 10; omega)
  · rw [eV 30 d (Or.inr ⟨by omega, by omega, show d < 200 from hd⟩) y, eP 10 d x]
    exact g7 d hd
  · rcases (show j = 31 ∨ j = 32 by omega) with rfl | rfl <;> exact hk
  · have e1 := eV 0 43 (Or.inl ⟨rfl, by omega, by omega⟩) y.1
    have e2 := eV 0 44 (Or.inl ⟨rfl, by omega, by omega⟩) y.2
    unfold PTan at *
    rw [e1, e2, eP _ _ x.1, eP _ _ x.2]
    exact g9
end Chg
/-- the class's rules, tank and count of lines stay -/
def KPc (P P' : CT) : Prop := ∀ j k, (j = 11 ∧ k = 0) ∨ (j = 13 ∧ k = 0) ∨ (j = 0 ∧ (k = 10 ∨ k = 12)) ∨ (33 ≤ j ∧ k = 2) → P'.1 j k = P.1 j k
/-- the reference's counts stay -/
def KPr (c c' : CT) : Prop := ∀ j k, (j = 0 ∧ ((57 ≤ k ∧ k ≤ 60) ∨ k = 70 ∨ k = 51 ∨ k = 53)) ∨ j = 21 → c'.1 j k = c.1 j k
theorem KPc.trans {A B C : CT} (a : KPc A B) (b : KPc B C) : KPc A C := fun j k hk => (b j k hk).trans (a j k hk)
theorem KPr.trans {A B C : CT} (a : KPr A B) (b : KPr B C) : KPr A C := fun j k hk => (b j k hk).trans (a j k hk)
theorem ff_cg {t : T4} {a b : Int32} (h : t.2.2.1 = 1 → (a = -1 ↔ b = -1)) : ff t a = ff t b := by
  unfold ff
  by_cases e : t.2.2.1 = 1
  · rw [if_pos e, if_pos e]
    have := h e
    by_cases x : a = -1
    · rw [if_pos x, if_pos (this.mp x)]
    · rw [if_neg x, if_neg fun y => x (this.mpr y)]
  · rw [if_neg e, if_neg e]
theorem ff_1 {t : T4} {a : Int32} (h : ff t a = 0) : t.2.2.1 = 1 := by
  unfold ff at h
  by_cases e : t.2.2.1 = 1
  · exact e
  · rw [if_neg e] at h
    exact absurd h (by decide)
theorem nf_n {t : T4} {a b : Nat} (ha : a < 2 ^ 31) (hb : b < 2 ^ 31) (h : nf t (nI a) (nI b) = 0) : ∃ x : Nat, a ≤ x ∧ x ≤ b ∧ t.2.2.2 = nI x := by
  have s2 := nf_2 h
  unfold nf at h
  rw [if_pos s2] at h
  by_cases z : t.2.2.2 < nI a ∨ nI b < t.2.2.2
  · rw [if_pos z] at h
    exact absurd h (by decide)
  · have z1 : ¬ t.2.2.2 < nI a := fun y => z (Or.inl y)
    have z2 : ¬ nI b < t.2.2.2 := fun y => z (Or.inr y)
    rcases i32_cases t.2.2.2 with q | ⟨x, hx, ex⟩
    · exact absurd (Int32.lt_of_lt_of_le q (nI_pos' ha)) z1
    · rw [ex] at z1 z2
      rw [nI_lt' hx ha] at z1
      rw [nI_lt' hb hx] at z2
      exact ⟨x, by omega, by omega, ex⟩
theorem cnt_u {c : CT} {k x : Nat} (h : uppV c 0 k = nI x) : c.1 0 (k + 12) = nI x := (uppV_0 (c := c) (k := k)).symm.trans h
/-- the class and the reference look a tool's name up -/
theorem ft_eq {P c : CT} {l q f m h : Nat} {x : Int32} (g : PRel P.1 (uppV c) l q f m h) : (ftS P.1 l q x = -1 ↔ ftR c l q x = -1) := by
  obtain ⟨g1, g2, g3, -⟩ := g
  have b := g1.1
  have e1 : fnd (P.1 2) 0 x l 0 = fnd (c.1 2) 4 x l 0 := fnd_cg l 0 fun i _ hi => by
    rw [Nat.zero_add]
    exact (g2 i (by omega)).1.trans (uppV_u (by omega))
  have e2 : fnd (P.1 4) 0 x q 0 = fnd (c.1 4) 3 x q 0 := fnd_cg q 0 fun i _ hi => by
    rw [Nat.zero_add]
    exact (g3 i (by omega)).1.trans (uppV_u (by omega))
  unfold ftS ftR
  rw [e1, e2]
  by_cases y : fnd (c.1 2) 4 x l 0 = -1
  · rw [if_pos y, if_pos y]
    by_cases z : fnd (c.1 4) 3 x q 0 = -1
    · rw [if_pos z]
      exact ⟨fun _ => z, fun _ => rfl⟩
    · rw [if_neg z]
      rcases fnd_nat (g := c.1 4) (fr := 3) (x := x) q 0 with w | ⟨i, -, h2, h3⟩
      · exact absurd w z
      · rw [h3, nI_add]
        constructor
        · intro w
          rw [nI_eqm (by omega)] at w
          exact w.elim
        · intro w
          rw [nI_eqm (by omega)] at w
          exact w.elim
  · rw [if_neg y, if_neg y]
section Lines
variable {P R c M : CT} {T : Nat → T4} {K n i l q f m h : Nat} {Q : Int32 → CT → CT → Prop}
/-- a line of the class ends well, or with the fault of the reference's line -/
def rLad (c : CT) (J : CT → Prop) : Prop := k2_X12_freshTool c (fun t1087 c1086 => wrI c1086 2 8 ((4 : Int32) + (c.1 0 46)) t1087 (fun c1088 => k2_X12_numeral c1088 (4 : Int32) (30 : Int32) (fun t1090 c1089 => wrI c1089 3 8 ((4 : Int32) + (c1088.1 0 46)) t1090 (fun c1091 => wrF c1091 0 46 ((c1091.1 0 46) + (1 : Int32)) (fun c1092 => J c1092)))))
theorem PRel.lad {P' V' P V : VW} (g : PRel P V l q f m h) (hl : l < 4) (eP : ∀ j k, ¬ ((j = 1 ∧ k = 0) ∨ ((j = 2 ∨ j = 3) ∧ k = l)) → P' j k = P j k) (eV : ∀ j k, VWR j k → ¬ ((j = 0 ∧ k = 34) ∨ ((j = 2 ∨ j = 3) ∧ k = l)) → V' j k = V j k) (e1 : P' 1 0 = nI (l + 1)) (e2 : V' 0 34 = nI (l + 1)) (new : PLad P' V' l) : PRel P' V' (l + 1) q f m h := by
  obtain ⟨c1, c2, c3, c4, c5, c6, c7, c8⟩ := g.chg eP eV
  obtain ⟨⟨a1, a2, a3, a4, a5⟩, ⟨b1, b2, b3, b4, b5⟩, d1, d2, d3, d4, d5⟩ := g.1
  refine ⟨⟨⟨by omega, a2, a3, a4, a5⟩, ⟨e1, (eP _ _ (by omega)).trans b2, (eP _ _ (by omega)).trans b3, (eP _ _ (by omega)).trans b4, (eP _ _ (by omega)).trans b5⟩, e2, (eV _ _ (Or.inl (by omega)) (by omega)).trans d2, (eV _ _ (Or.inl (by omega)) (by omega)).trans d3, (eV _ _ (Or.inl (by omega)) (by omega)).trans d4, (eV _ _ (Or.inl (by omega)) (by omega)).trans d5⟩, fun i hi => ?_, fun i hi => c2 i hi (by omega), fun i hi => c3 i hi (by omega) (by omega) (by omega), fun i hi => c4 i hi (by omega) (by omega), fun i hi => c5 i hi (by omega) (by omega), fun d hd => c6 d hd (by omega) (by omega), c7 (by omega) (by omega) (by omega), c8 (by omega) (by omega)⟩
  by_cases e : i = l
  · rw [e]
    exact new
  · exact c1 i (by omega) (by omega)
theorem ladder_ok (hc : RDc R T K n i) (hi : i < K) (hr : RDr M c T n (i + 1)) (hp : PRel P.1 (uppV c) l q f m h) (hl : l < 4) (hS : ∀ P' R' c' i', i < i' → RDc R' T K n i' → RDr M c' T n i' → PRel P'.1 (uppV c') (l + 1) q f m h → KPc P P' → KPr c c' → (∀ J, J c' → rLad c J) → Q 1 P' R') (hF : ∀ P' R' c' k p, k ≠ 0 → FLc R' k p → FLr M c' k p → (∀ J, J c' → rLad c J) → Q 0 P' R') : k_X7_readLadder P R Q := by
  have h46 : c.1 0 46 = nI l := cnt_u (k := 34) hp.1.2.2.1
  have h47 : c.1 0 47 = nI q := cnt_u (k := 35) hp.1.2.2.2.1
  have p1 := hp.1.2.1.1
  have p2 := hp.1.2.1.2.1
  have b := hp.1.1
  unfold k_X7_readLadder
  rw [vK_eq, p1, li_4, if_pos (by rw [nI_lt' (by omega) (by omega)]; exact hl)]
  refine adv_ok hc hi fun R1 r1 _ _ => ?_
  refine find_ok p1 p2 (by omega) (by omega) ?_
  have ef : ff (T (i + 1)) (ftS P.1 l q (R1.1 0 9)) = ff (T (i + 1)) (ftR c l q (T (i + 1)).2.2.2) := ff_cg fun e => by
    rw [r1.name e]
    exact ft_eq hp
  refine isNewName_ok r1 (fun z => ?_) fun z R2 f2 => ?_
  · have z' := ef.symm.trans z
    have s1 := ff_1 z
    rw [if_pos (by decide), wrI_n (by omega) (by omega), r1.name s1]
    refine adv_ok r1 (r1.lt (by rw [s1]; decide)) fun R2 r2 _ _ => ?_
    have hr1 : RDr M (sU (wTk c (T (i + 1 + 1))) 2 l (T (i + 1)).2.2.2) T n (i + 1 + 1) := hr.tk.u (by omega)
    have i46 : (sU (wTk c (T (i + 1 + 1))) 2 l (T (i + 1)).2.2.2).1 0 46 = nI l := by
      rw [sU_ne (by omega), wTk_ne (by omega)]
      exact h46
    refine takeNumber_ok r2 (by decide) (by decide) (fun y R3 r3 _ v => ?_) fun y R3 f3 => ?_
    · rw [if_pos (by decide), wrI_n (by omega) (by omega), wrF_eq, v, sI_ne (by omega), sI_ne (by omega), p1]
      obtain ⟨x, x1, x2, x3⟩ := nf_n (a := 4) (b := 30) (by omega) (by omega) y
      have j46 : (sU (wTk (sU (wTk c (T (i + 1 + 1))) 2 l (T (i + 1)).2.2.2) (T (i + 1 + 1 + 1))) 3 l (T (i + 1 + 1)).2.2.2).1 0 46 = nI l := by
        rw [sU_ne (by omega), wTk_ne (by omega)]
        exact i46
      refine hS _ _ (sI (sU (wTk (sU (wTk c (T (i + 1 + 1))) 2 l (T (i + 1)).2.2.2) (T (i + 1 + 1 + 1))) 3 l (T (i + 1 + 1)).2.2.2) 0 46 (nI (l + 1))) (i + 1 + 1 + 1) (by omega) r3 ((hr1.tk.u (by omega)).s (nrv_0 (by omega)) (by omega)) ?_ ?_ ?_ fun J hJ => ?_
      · refine hp.lad hl (fun j k z => ?_) (fun j k w z => ?_) ?_ ?_ ?_
        · rw [sI_ne (by omega), sI_ne (by omega), sI_ne (by omega)]
        · have w' : j = 0 → k ≤ 45 := by
            unfold VWR at w
            omega
          rw [upp_f (by omega), upp_sn (by omega) (by omega), upp_t w', upp_sn (by omega) (by omega), upp_t w']
        · rw [sI_same, inc_n]
        · exact upp_fs rfl
        · refine ⟨?_, ?_, x, x1, x2, ?_⟩
          · rw [sI_ne (by omega), sI_ne (by omega), sI_same, upp_f (by omega), upp_sn (by omega) (by omega), upp_t (by omega), upp_s (by omega)]
          · rw [sI_ne (by omega), sI_same, upp_f (by omega), upp_s (by omega)]
          · rw [upp_f (by omega), upp_s (by omega), x3]
      · exact fun j k hk => by rw [sI_ne (by omega), sI_ne (by omega), sI_ne (by omega)]
      · intro j k hk
        rw [sI_ne (by omega), sU_ne (by omega), wTk_ne (by omega), sU_ne (by omega), wTk_ne (by omega)]
      · unfold rLad
        refine freshTool_s h46 h47 (by omega) (by omega) hr z' ?_
        rw [h46]
        refine wr_u rfl (show 4 + l < 8 by omega) (by omega) ?_
        refine numeral_s hr1 y ?_
        rw [i46]
        refine wr_u rfl (show 4 + l < 8 by omega) (by omega) ?_
        rw [wrF_eq, j46, inc_n]
        exact hJ
    · rw [if_neg fun y => y rfl]
      refine hF _ _ (sI (sU (flt (sU (wTk c (T (i + 1 + 1))) 2 l (T (i + 1)).2.2.2) (nf (T (i + 1 + 1)) 4 30)) 3 l 4) 0 46 (nI (l + 1))) _ _ y f3 ((hr1.fl.u (by omega)).s (nrv_0 (by omega)) (by omega)) fun J hJ => ?_
      unfold rLad
      refine freshTool_s h46 h47 (by omega) (by omega) hr z' ?_
      rw [h46]
      refine wr_u rfl (show 4 + l < 8 by omega) (by omega) ?_
      refine numeral_f hr1 y ?_
      rw [i46]
      refine wr_u rfl (show 4 + l < 8 by omega) (by omega) ?_
      rw [wrF_eq, sU_ne (by omega), flt_ne (by omega), i46, inc_n]
      exact hJ
  · rw [if_neg fun y => y rfl]
    have z' : ff (T (i + 1)) (ftR c l q (T (i + 1)).2.2.2) ≠ 0 := fun y => z (ef.trans y)
    rw [ef] at f2
    have fl1 := (hr.fl (k := ff (T (i + 1)) (ftR c l q (T (i + 1)).2.2.2))).u (j := 2) (x := l) (v := 0) (by omega)
    refine hF _ _ (sI (sU (sU (flt c (ff (T (i + 1)) (ftR c l q (T (i + 1)).2.2.2))) 2 l 0) 3 l 4) 0 46 (nI (l + 1))) _ _ z' f2 ((fl1.u (by omega)).s (nrv_0 (by omega)) (by omega)) fun J hJ => ?_
    unfold rLad
    refine freshTool_f h46 h47 (by omega) (by omega) hr z' ?_
    rw [h46]
    refine wr_u rfl (show 4 + l < 8 by omega) (by omega) ?_
    refine numeral_x fl1 z' ?_
    rw [sU_ne (by omega), flt_ne (by omega), h46]
    refine wr_u rfl (show 4 + l < 8 by omega) (by omega) ?_
    rw [wrF_eq, sU_ne (by omega), sU_ne (by omega), flt_ne (by omega), h46, inc_n]
    exact hJ
end Lines
