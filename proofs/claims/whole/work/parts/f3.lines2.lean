/-! ===== poles and men (tools/gen11.py) ===== -/
section Lines2
variable {P R c M : CT} {T : Nat → T4} {K n i l q f m h : Nat} {Q : Int32 → CT → CT → Prop}
theorem PRel.pol {P' V' P V : VW} (g : PRel P V l q f m h) (hl : q < 3) (eP : ∀ j k, ¬ ((j = 1 ∧ k = 1) ∨ ((4 ≤ j ∧ j ≤ 6) ∧ k = q)) → P' j k = P j k) (eV : ∀ j k, VWR j k → ¬ ((j = 0 ∧ k = 35) ∨ ((4 ≤ j ∧ j ≤ 6) ∧ k = q)) → V' j k = V j k) (e1 : P' 1 1 = nI (q + 1)) (e2 : V' 0 35 = nI (q + 1)) (new : PPol P' V' q) : PRel P' V' l (q + 1) f m h := by
  obtain ⟨c1, c2, c3, c4, c5, c6, c7, c8⟩ := g.chg eP eV
  obtain ⟨⟨a1, a2, a3, a4, a5⟩, ⟨b1, b2, b3, b4, b5⟩, d1, d2, d3, d4, d5⟩ := g.1
  refine ⟨⟨⟨a1, by omega, a3, a4, a5⟩, ⟨(eP _ _ (by omega)).trans b1, e1, (eP _ _ (by omega)).trans b3, (eP _ _ (by omega)).trans b4, (eP _ _ (by omega)).trans b5⟩, (eV _ _ (Or.inl (by omega)) (by omega)).trans d1, e2, (eV _ _ (Or.inl (by omega)) (by omega)).trans d3, (eV _ _ (Or.inl (by omega)) (by omega)).trans d4, (eV _ _ (Or.inl (by omega)) (by omega)).trans d5⟩, fun i hi => c1 i hi (by omega), fun i hi => ?_, fun i hi => c3 i hi (by omega) (by omega) (by omega), fun i hi => c4 i hi (by omega) (by omega), fun i hi => c5 i hi (by omega) (by omega), fun d hd => c6 d hd (by omega) (by omega), c7 (by omega) (by omega) (by omega), c8 (by omega) (by omega)⟩
  by_cases e : i = q
  · rw [e]
    exact new
  · exact c2 i (by omega) (by omega)
theorem PHou.up {P V : VW} {f' m' : Nat} (g : PHou P V f m i) (hf : f ≤ f') : PHou P V f' m' i := by
  obtain ⟨g1, ⟨g2, x, g3, g4⟩, g5⟩ := g
  exact ⟨g1, ⟨g2, x, by omega, g4⟩, g5⟩
theorem PRel.man {P' V' P V : VW} (g : PRel P V l q f m h) (hl : m < 3) (eP : ∀ j k, ¬ ((j = 0 ∧ k = 2) ∨ j = 30 + m) → P' j k = P j k) (eV : ∀ j k, VWR j k → ¬ ((j = 0 ∧ k = 37) ∨ ((15 ≤ j ∧ j ≤ 18) ∧ k = m)) → V' j k = V j k) (e1 : P' 0 2 = nI (m + 1)) (e2 : V' 0 37 = nI (m + 1)) (new : PMan P' V' m) : PRel P' V' l q f (m + 1) h := by
  obtain ⟨c1, c2, c3, c4, c5, c6, c7, c8⟩ := g.chg eP eV
  obtain ⟨⟨a1, a2, a3, a4, a5⟩, ⟨b1, b2, b3, b4, b5⟩, d1, d2, d3, d4, d5⟩ := g.1
  refine ⟨⟨⟨a1, a2, a3, by omega, a5⟩, ⟨(eP _ _ (by omega)).trans b1, (eP _ _ (by omega)).trans b2, (eP _ _ (by omega)).trans b3, e1, (eP _ _ (by omega)).trans b5⟩, (eV _ _ (Or.inl (by omega)) (by omega)).trans d1, (eV _ _ (Or.inl (by omega)) (by omega)).trans d2, (eV _ _ (Or.inl (by omega)) (by omega)).trans d3, e2, (eV _ _ (Or.inl (by omega)) (by omega)).trans d5⟩, fun i hi => c1 i hi (by omega), fun i hi => c2 i hi (by omega), fun i hi => c3 i hi (by omega) (by omega) (by omega), fun i hi => ?_, fun i hi => (c5 i hi (by omega) (by omega)).up (Nat.le_refl _), fun d hd => c6 d hd (by omega) (by omega), c7 (by omega) (by omega) (by omega), c8 (by omega) (by omega)⟩
  by_cases e : i = m
  · rw [e]
    exact new
  · exact c4 i (by omega) (by omega) (by omega)
theorem fnm_eq {x : Int32} (g : PRel P.1 (uppV c) l q f m h) : (fnd (fun i => P.1 (30 + i) 0) 0 x m 0 = -1 ↔ fnd (c.1 15) 3 x m 0 = -1) := by
  rw [fnd_cg (g := fun i => P.1 (30 + i) 0) (g' := c.1 15) (fr := 0) (fr' := 3) m 0 fun i _ hi => by
    rw [Nat.zero_add]
    exact (g.2.2.2.2.1 i (by omega)).1.trans (uppV_u (by omega))]
def rPol (c : CT) (J : CT → Prop) : Prop := k2_X12_freshTool c (fun t1099 c1098 => wrI c1098 4 6 ((3 : Int32) + (c.1 0 47)) t1099 (fun c1100 => k2_X12_numeral c1100 (4 : Int32) (40 : Int32) (fun t1102 c1101 => wrI c1101 5 6 ((3 : Int32) + (c1100.1 0 47)) t1102 (fun c1103 => k2_X12_numeral c1103 (0 : Int32) (9 : Int32) (fun t1105 c1104 => wrI c1104 6 6 ((3 : Int32) + (c1103.1 0 47)) t1105 (fun c1106 => wrF c1106 0 47 ((c1106.1 0 47) + (1 : Int32)) (fun c1107 => J c1107)))))))
theorem pole_ok (hc : RDc R T K n i) (hi : i < K) (hr : RDr M c T n (i + 1)) (hp : PRel P.1 (uppV c) l q f m h) (hl : q < 3) (hS : ∀ P' R' c' i', i < i' → RDc R' T K n i' → RDr M c' T n i' → PRel P'.1 (uppV c') l (q + 1) f m h → KPc P P' → KPr c c' → (∀ J, J c' → rPol c J) → Q 1 P' R') (hF : ∀ P' R' c' k p, k ≠ 0 → FLc R' k p → FLr M c' k p → (∀ J, J c' → rPol c J) → Q 0 P' R') : k_X7_readPole P R Q := by
  have h46 : c.1 0 46 = nI l := cnt_u (k := 34) hp.1.2.2.1
  have h47 : c.1 0 47 = nI q := cnt_u (k := 35) hp.1.2.2.2.1
  have h49 : c.1 0 49 = nI m := cnt_u (k := 37) hp.1.2.2.2.2.2.1
  have p1 := hp.1.2.1.1
  have p2 := hp.1.2.1.2.1
  have p4 := hp.1.2.1.2.2.2.1
  have b := hp.1.1
  unfold k_X7_readPole
  rw [vK_eq, p2, li_3, if_pos (by rw [nI_lt' (by omega) (by omega)]; exact hl)]
  refine adv_ok hc hi fun R1 r1 _ _ => ?_
  refine find_ok p1 p2 (by omega) (by omega) ?_
  have ef : ff (T (i + 1)) (ftS P.1 l q (R1.1 0 9)) = ff (T (i + 1)) (ftR c l q (T (i + 1)).2.2.2) := ff_cg fun e => by
    rw [r1.name e]
    exact ft_eq hp
  refine isNewName_ok r1 (fun z => ?_) fun z R2 f2 => ?_
  · have z' := ef.symm.trans z
    have s1 := ff_1 z
    rw [if_pos (by decide), wrI_n (by omega) (by omega), r1.name s1]
    refine adv_ok r1 (r1.lt (by rw [s1]; decide)) fun R2 r2 _ _ => ?_
    have hr1 : RDr M (sU (wTk c (T (i + 1 + 1))) 4 q (T (i + 1)).2.2.2) T n (i + 1 + 1) := hr.tk.u (by omega)
    have c1 : (sU (wTk c (T (i + 1 + 1))) 4 q (T (i + 1)).2.2.2).1 0 47 = nI q := by
      rw [sU_ne (by omega), wTk_ne (by omega)]
      exact h47
    refine takeNumber_ok r2 (by decide) (by decide) (fun y1 R3 r3 _ v1 => ?_) fun y1 R3 f3 => ?_
    · rw [if_pos (by decide), wrI_n (by omega) (by omega), v1]
      obtain ⟨x1, xa1, xb1, xe1⟩ := nf_n (a := 4) (b := 40) (by omega) (by omega) y1
      have hr2 : RDr M (sU (wTk (sU (wTk c (T (i + 1 + 1))) 4 q (T (i + 1)).2.2.2) (T (i + 1 + 1 + 1))) 5 q (T (i + 1 + 1)).2.2.2) T n (i + 1 + 1 + 1) := hr1.tk.u (by omega)
      have c2 : (sU (wTk (sU (wTk c (T (i + 1 + 1))) 4 q (T (i + 1)).2.2.2) (T (i + 1 + 1 + 1))) 5 q (T (i + 1 + 1)).2.2.2).1 0 47 = nI q := by
        rw [sU_ne (by omega), wTk_ne (by omega)]
        exact c1
      refine takeNumber_ok r3 (by decide) (by decide) (fun y2 R4 r4 _ v2 => ?_) fun y2 R4 f4 => ?_
      · rw [if_pos (by decide), wrI_n (by omega) (by omega), v2]
        obtain ⟨x2, xa2, xb2, xe2⟩ := nf_n (a := 0) (b := 9) (by omega) (by omega) y2
        have hr3 : RDr M (sU (wTk (sU (wTk (sU (wTk c (T (i + 1 + 1))) 4 q (T (i + 1)).2.2.2) (T (i + 1 + 1 + 1))) 5 q (T (i + 1 + 1)).2.2.2) (T (i + 1 + 1 + 1 + 1))) 6 q (T (i + 1 + 1 + 1)).2.2.2) T n (i + 1 + 1 + 1 + 1) := hr2.tk.u (by omega)
        have c3 : (sU (wTk (sU (wTk (sU (wTk c (T (i + 1 + 1))) 4 q (T (i + 1)).2.2.2) (T (i + 1 + 1 + 1))) 5 q (T (i + 1 + 1)).2.2.2) (T (i + 1 + 1 + 1 + 1))) 6 q (T (i + 1 + 1 + 1)).2.2.2).1 0 47 = nI q := by
          rw [sU_ne (by omega), wTk_ne (by omega)]
          exact c2
        rw [wrF_eq, sI_ne (by omega), sI_ne (by omega), sI_ne (by omega), p2, inc_n]
        refine hS _ _ (sI (sU (wTk (sU (wTk (sU (wTk c (T (i + 1 + 1))) 4 q (T (i + 1)).2.2.2) (T (i + 1 + 1 + 1))) 5 q (T (i + 1 + 1)).2.2.2) (T (i + 1 + 1 + 1 + 1))) 6 q (T (i + 1 + 1 + 1)).2.2.2) 0 47 (nI (q + 1))) (i + 1 + 1 + 1 + 1) (by omega) r4 (hr3.s (nrv_0 (by omega)) (by omega)) ?_ ?_ ?_ fun J hJ => ?_
        · refine hp.pol hl (fun j k z => ?_) (fun j k w z => ?_) ?_ ?_ ?_
          · rw [sI_ne (by omega), sI_ne (by omega), sI_ne (by omega), sI_ne (by omega)]
          · have w' : j = 0 → k ≤ 45 := by
              unfold VWR at w
              omega
            rw [upp_f (by omega), upp_sn (by omega) (by omega), upp_t w', upp_sn (by omega) (by omega), upp_t w', upp_sn (by omega) (by omega), upp_t w']
          · rw [sI_same]
          · exact upp_fs rfl
          · refine ⟨?_, ?_, ?_, ⟨x1, xa1, xb1, ?_⟩, x2, xb2, ?_⟩
            · rw [sI_ne (by omega), sI_ne (by omega), sI_ne (by omega), sI_same, upp_f (by omega), upp_sn (by omega) (by omega), upp_t (by omega), upp_sn (by omega) (by omega), upp_t (by omega), upp_s (by omega)]
            · rw [sI_ne (by omega), sI_ne (by omega), sI_same, upp_f (by omega), upp_sn (by omega) (by omega), upp_t (by omega), upp_s (by omega)]
            · rw [sI_ne (by omega), sI_same, upp_f (by omega), upp_s (by omega)]
            · rw [upp_f (by omega), upp_sn (by omega) (by omega), upp_t (by omega), upp_s (by omega), xe1]
            · rw [upp_f (by omega), upp_s (by omega), xe2]
        · exact fun j k hk => by rw [sI_ne (by omega), sI_ne (by omega), sI_ne (by omega), sI_ne (by omega)]
        · intro j k hk
          rw [sI_ne (by omega), sU_ne (by omega), wTk_ne (by omega), sU_ne (by omega), wTk_ne (by omega), sU_ne (by omega), wTk_ne (by omega)]
        · unfold rPol
          skip
          refine freshTool_s h46 h47 (by omega) (by omega) hr z' ?_
          rw [h47]
          refine wr_u rfl (show 3 + q < 6 by omega) (by omega) ?_
          refine numeral_s hr1 y1 ?_
          rw [c1]
          refine wr_u rfl (show 3 + q < 6 by omega) (by omega) ?_
          refine numeral_s hr2 y2 ?_
          rw [c2]
          refine wr_u rfl (show 3 + q < 6 by omega) (by omega) ?_
          rw [wrF_eq, c3, inc_n]
          exact hJ
      · rw [if_neg fun y => y rfl]
        have g1 : FLr M (flt (sU (wTk (sU (wTk c (T (i + 1 + 1))) 4 q (T (i + 1)).2.2.2) (T (i + 1 + 1 + 1))) 5 q (T (i + 1 + 1)).2.2.2) (nf (T (i + 1 + 1 + 1)) 0 9)) (nf (T (i + 1 + 1 + 1)) 0 9) (T (i + 1 + 1 + 1)).2.1 := hr2.fl
        have g11 : FLr M (sU (flt (sU (wTk (sU (wTk c (T (i + 1 + 1))) 4 q (T (i + 1)).2.2.2) (T (i + 1 + 1 + 1))) 5 q (T (i + 1 + 1)).2.2.2) (nf (T (i + 1 + 1 + 1)) 0 9)) 6 q 0) (nf (T (i + 1 + 1 + 1)) 0 9) (T (i + 1 + 1 + 1)).2.1 := g1.u (by omega)
        refine hF _ _ (sI (sU (flt (sU (wTk (sU (wTk c (T (i + 1 + 1))) 4 q (T (i + 1)).2.2.2) (T (i + 1 + 1 + 1))) 5 q (T (i + 1 + 1)).2.2.2) (nf (T (i + 1 + 1 + 1)) 0 9)) 6 q 0) 0 47 (nI (q + 1))) _ _ y2 f4 (g11.s (nrv_0 (by omega)) (by omega)) fun J hJ => ?_
        unfold rPol
        skip
        refine freshTool_s h46 h47 (by omega) (by omega) hr z' ?_
        rw [h47]
        refine wr_u rfl (show 3 + q < 6 by omega) (by omega) ?_
        refine numeral_s hr1 y1 ?_
        rw [c1]
        refine wr_u rfl (show 3 + q < 6 by omega) (by omega) ?_
        refine numeral_f hr2 y2 ?_
        rw [c2]
        refine wr_u rfl (show 3 + q < 6 by omega) (by omega) ?_
        rw [wrF_eq, sU_ne (by omega), flt_ne (by omega), c2, inc_n]
        exact hJ
    · rw [if_neg fun y => y rfl]
      have g0 : FLr M (flt (sU (wTk c (T (i + 1 + 1))) 4 q (T (i + 1)).2.2.2) (nf (T (i + 1 + 1)) 4 40)) (nf (T (i + 1 + 1)) 4 40) (T (i + 1 + 1)).2.1 := hr1.fl
      have g00 : FLr M (sU (flt (sU (wTk c (T (i + 1 + 1))) 4 q (T (i + 1)).2.2.2) (nf (T (i + 1 + 1)) 4 40)) 5 q 4) (nf (T (i + 1 + 1)) 4 40) (T (i + 1 + 1)).2.1 := g0.u (by omega)
      have g01 : FLr M (sU (sU (flt (sU (wTk c (T (i + 1 + 1))) 4 q (T (i + 1)).2.2.2) (nf (T (i + 1 + 1)) 4 40)) 5 q 4) 6 q 0) (nf (T (i + 1 + 1)) 4 40) (T (i + 1 + 1)).2.1 := g00.u (by omega)
      refine hF _ _ (sI (sU (sU (flt (sU (wTk c (T (i + 1 + 1))) 4 q (T (i + 1)).2.2.2) (nf (T (i + 1 + 1)) 4 40)) 5 q 4) 6 q 0) 0 47 (nI (q + 1))) _ _ y1 f3 (g01.s (nrv_0 (by omega)) (by omega)) fun J hJ => ?_
      unfold rPol
      skip
      refine freshTool_s h46 h47 (by omega) (by omega) hr z' ?_
      rw [h47]
      refine wr_u rfl (show 3 + q < 6 by omega) (by omega) ?_
      refine numeral_f hr1 y1 ?_
      rw [c1]
      refine wr_u rfl (show 3 + q < 6 by omega) (by omega) ?_
      refine numeral_x g00 y1 ?_
      rw [sU_ne (by omega), flt_ne (by omega), c1]
      refine wr_u rfl (show 3 + q < 6 by omega) (by omega) ?_
      rw [wrF_eq, sU_ne (by omega), sU_ne (by omega), flt_ne (by omega), c1, inc_n]
      exact hJ
  · rw [if_neg fun y => y rfl]
    have z' : ff (T (i + 1)) (ftR c l q (T (i + 1)).2.2.2) ≠ 0 := fun y => z (ef.trans y)
    rw [ef] at f2
    have e : FLr M (flt c (ff (T (i + 1)) (ftR c l q (T (i + 1)).2.2.2))) (ff (T (i + 1)) (ftR c l q (T (i + 1)).2.2.2)) (T (i + 1)).2.1 := hr.fl
    have e0 : FLr M (sU (flt c (ff (T (i + 1)) (ftR c l q (T (i + 1)).2.2.2))) 4 q 0) (ff (T (i + 1)) (ftR c l q (T (i + 1)).2.2.2)) (T (i + 1)).2.1 := e.u (by omega)
    have e1 : FLr M (sU (sU (flt c (ff (T (i + 1)) (ftR c l q (T (i + 1)).2.2.2))) 4 q 0) 5 q 4) (ff (T (i + 1)) (ftR c l q (T (i + 1)).2.2.2)) (T (i + 1)).2.1 := e0.u (by omega)
    have e2 : FLr M (sU (sU (sU (flt c (ff (T (i + 1)) (ftR c l q (T (i + 1)).2.2.2))) 4 q 0) 5 q 4) 6 q 0) (ff (T (i + 1)) (ftR c l q (T (i + 1)).2.2.2)) (T (i + 1)).2.1 := e1.u (by omega)
    refine hF _ _ (sI (sU (sU (sU (flt c (ff (T (i + 1)) (ftR c l q (T (i + 1)).2.2.2))) 4 q 0) 5 q 4) 6 q 0) 0 47 (nI (q + 1))) _ _ z' f2 (e2.s (nrv_0 (by omega)) (by omega)) fun J hJ => ?_
    unfold rPol
    refine freshTool_f h46 h47 (by omega) (by omega) hr z' ?_
    rw [h47]
    refine wr_u rfl (show 3 + q < 6 by omega) (by omega) ?_
    refine numeral_x e0 z' ?_
    rw [sU_ne (by omega), flt_ne (by omega), h47]
    refine wr_u rfl (show 3 + q < 6 by omega) (by omega) ?_
    refine numeral_x e1 z' ?_
    rw [sU_ne (by omega), sU_ne (by omega), flt_ne (by omega), h47]
    refine wr_u rfl (show 3 + q < 6 by omega) (by omega) ?_
    rw [wrF_eq, sU_ne (by omega), sU_ne (by omega), sU_ne (by omega), flt_ne (by omega), h47, inc_n]
    exact hJ
def rMan (c : CT) (J : CT → Prop) : Prop := k2_X12_fresh c 15 6 (3 : Int32) (c.1 0 49) (fun t1118 c1117 => wrI c1117 15 6 ((3 : Int32) + (c.1 0 49)) t1118 (fun c1119 => k2_X12_numeral c1119 (0 : Int32) (9 : Int32) (fun t1121 c1120 => wrI c1120 16 6 ((3 : Int32) + (c1119.1 0 49)) t1121 (fun c1122 => k2_X12_numeral c1122 (0 : Int32) (99 : Int32) (fun t1124 c1123 => wrI c1123 17 6 ((3 : Int32) + (c1122.1 0 49)) t1124 (fun c1125 => k2_X12_numeral c1125 (10 : Int32) (600 : Int32) (fun t1127 c1126 => wrI c1126 18 6 ((3 : Int32) + (c1125.1 0 49)) t1127 (fun c1128 => wrF c1128 0 49 ((c1128.1 0 49) + (1 : Int32)) (fun c1129 => J c1129)))))))))
theorem man_ok (hc : RDc R T K n i) (hi : i < K) (hr : RDr M c T n (i + 1)) (hp : PRel P.1 (uppV c) l q f m h) (hl : m < 3) (hS : ∀ P' R' c' i', i < i' → RDc R' T K n i' → RDr M c' T n i' → PRel P'.1 (uppV c') l q f (m + 1) h → KPc P P' → KPr c c' → (∀ J, J c' → rMan c J) → Q 1 P' R') (hF : ∀ P' R' c' k p, k ≠ 0 → FLc R' k p → FLr M c' k p → (∀ J, J c' → rMan c J) → Q 0 P' R') : k_X7_readMan P R Q := by
  have h46 : c.1 0 46 = nI l := cnt_u (k := 34) hp.1.2.2.1
  have h47 : c.1 0 47 = nI q := cnt_u (k := 35) hp.1.2.2.2.1
  have h49 : c.1 0 49 = nI m := cnt_u (k := 37) hp.1.2.2.2.2.2.1
  have p1 := hp.1.2.1.1
  have p2 := hp.1.2.1.2.1
  have p4 := hp.1.2.1.2.2.2.1
  have b := hp.1.1
  unfold k_X7_readMan
  rw [p4, li_3, if_pos (by rw [nI_lt' (by omega) (by omega)]; exact hl)]
  refine adv_ok hc hi fun R1 r1 _ _ => ?_
  refine findMan_ok p4 (by omega) ?_
  have ef : ff (T (i + 1)) (fnd (fun i => P.1 (30 + i) 0) 0 (R1.1 0 9) m 0) = ff (T (i + 1)) (fnd (c.1 15) 3 (T (i + 1)).2.2.2 m 0) := ff_cg fun e => by
    rw [r1.name e, fnm_eq hp]
  refine isNewName_ok r1 (fun z => ?_) fun z R2 f2 => ?_
  · have z' := ef.symm.trans z
    have s1 := ff_1 z
    rw [if_pos (by decide), ixN_n (by omega) (by omega), wrF_eq, r1.name s1]
    refine adv_ok r1 (r1.lt (by rw [s1]; decide)) fun R2 r2 _ _ => ?_
    have hr1 : RDr M (sU (wTk c (T (i + 1 + 1))) 15 m (T (i + 1)).2.2.2) T n (i + 1 + 1) := hr.tk.u (by omega)
    have c1 : (sU (wTk c (T (i + 1 + 1))) 15 m (T (i + 1)).2.2.2).1 0 49 = nI m := by
      rw [sU_ne (by omega), wTk_ne (by omega)]
      exact h49
    refine takeNumber_ok r2 (by decide) (by decide) (fun y1 R3 r3 _ v1 => ?_) fun y1 R3 f3 => ?_
    · rw [if_pos (by decide), wrF_eq, v1]
      obtain ⟨x1, xa1, xb1, xe1⟩ := nf_n (a := 0) (b := 9) (by omega) (by omega) y1
      have hr2 : RDr M (sU (wTk (sU (wTk c (T (i + 1 + 1))) 15 m (T (i + 1)).2.2.2) (T (i + 1 + 1 + 1))) 16 m (T (i + 1 + 1)).2.2.2) T n (i + 1 + 1 + 1) := hr1.tk.u (by omega)
      have c2 : (sU (wTk (sU (wTk c (T (i + 1 + 1))) 15 m (T (i + 1)).2.2.2) (T (i + 1 + 1 + 1))) 16 m (T (i + 1 + 1)).2.2.2).1 0 49 = nI m := by
        rw [sU_ne (by omega), wTk_ne (by omega)]
        exact c1
      refine takeNumber_ok r3 (by decide) (by decide) (fun y2 R4 r4 _ v2 => ?_) fun y2 R4 f4 => ?_
      · rw [if_pos (by decide), wrF_eq, v2]
        obtain ⟨x2, xa2, xb2, xe2⟩ := nf_n (a := 0) (b := 99) (by omega) (by omega) y2
        have hr3 : RDr M (sU (wTk (sU (wTk (sU (wTk c (T (i + 1 + 1))) 15 m (T (i + 1)).2.2.2) (T (i + 1 + 1 + 1))) 16 m (T (i + 1 + 1)).2.2.2) (T (i + 1 + 1 + 1 + 1))) 17 m (T (i + 1 + 1 + 1)).2.2.2) T n (i + 1 + 1 + 1 + 1) := hr2.tk.u (by omega)
        have c3 : (sU (wTk (sU (wTk (sU (wTk c (T (i + 1 + 1))) 15 m (T (i + 1)).2.2.2) (T (i + 1 + 1 + 1))) 16 m (T (i + 1 + 1)).2.2.2) (T (i + 1 + 1 + 1 + 1))) 17 m (T (i + 1 + 1 + 1)).2.2.2).1 0 49 = nI m := by
          rw [sU_ne (by omega), wTk_ne (by omega)]
          exact c2
        refine takeNumber_ok r4 (by decide) (by decide) (fun y3 R5 r5 _ v3 => ?_) fun y3 R5 f5 => ?_
        · rw [if_pos (by decide), wrF_eq, v3]
          obtain ⟨x3, xa3, xb3, xe3⟩ := nf_n (a := 10) (b := 600) (by omega) (by omega) y3
          have hr4 : RDr M (sU (wTk (sU (wTk (sU (wTk (sU (wTk c (T (i + 1 + 1))) 15 m (T (i + 1)).2.2.2) (T (i + 1 + 1 + 1))) 16 m (T (i + 1 + 1)).2.2.2) (T (i + 1 + 1 + 1 + 1))) 17 m (T (i + 1 + 1 + 1)).2.2.2) (T (i + 1 + 1 + 1 + 1 + 1))) 18 m (T (i + 1 + 1 + 1 + 1)).2.2.2) T n (i + 1 + 1 + 1 + 1 + 1) := hr3.tk.u (by omega)
          have c4 : (sU (wTk (sU (wTk (sU (wTk (sU (wTk c (T (i + 1 + 1))) 15 m (T (i + 1)).2.2.2) (T (i + 1 + 1 + 1))) 16 m (T (i + 1 + 1)).2.2.2) (T (i + 1 + 1 + 1 + 1))) 17 m (T (i + 1 + 1 + 1)).2.2.2) (T (i + 1 + 1 + 1 + 1 + 1))) 18 m (T (i + 1 + 1 + 1 + 1)).2.2.2).1 0 49 = nI m := by
            rw [sU_ne (by omega), wTk_ne (by omega)]
            exact c3
          rw [wrF_eq, sI_ne (by omega), sI_ne (by omega), sI_ne (by omega), sI_ne (by omega), p4, inc_n]
          refine hS _ _ (sI (sU (wTk (sU (wTk (sU (wTk (sU (wTk c (T (i + 1 + 1))) 15 m (T (i + 1)).2.2.2) (T (i + 1 + 1 + 1))) 16 m (T (i + 1 + 1)).2.2.2) (T (i + 1 + 1 + 1 + 1))) 17 m (T (i + 1 + 1 + 1)).2.2.2) (T (i + 1 + 1 + 1 + 1 + 1))) 18 m (T (i + 1 + 1 + 1 + 1)).2.2.2) 0 49 (nI (m + 1))) (i + 1 + 1 + 1 + 1 + 1) (by omega) r5 (hr4.s (nrv_0 (by omega)) (by omega)) ?_ ?_ ?_ fun J hJ => ?_
          · refine hp.man hl (fun j k z => ?_) (fun j k w z => ?_) ?_ ?_ ?_
            · rw [sI_ne (by omega), sI_ne (by omega), sI_ne (by omega), sI_ne (by omega), sI_ne (by omega)]
            · have w' : j = 0 → k ≤ 45 := by
                unfold VWR at w
                omega
              rw [upp_f (by omega), upp_sn (by omega) (by omega), upp_t w', upp_sn (by omega) (by omega), upp_t w', upp_sn (by omega) (by omega), upp_t w', upp_sn (by omega) (by omega), upp_t w']
            · rw [sI_same]
            · exact upp_fs rfl
            · refine ⟨?_, ?_, ?_, ?_, ⟨x1, xb1, ?_⟩, ⟨x2, xb2, ?_⟩, x3, xa3, xb3, ?_⟩
              · rw [sI_ne (by omega), sI_ne (by omega), sI_ne (by omega), sI_ne (by omega), sI_same, upp_f (by omega), upp_sn (by omega) (by omega), upp_t (by omega), upp_sn (by omega) (by omega), upp_t (by omega), upp_sn (by omega) (by omega), upp_t (by omega), upp_s (by omega)]
              · rw [sI_ne (by omega), sI_ne (by omega), sI_ne (by omega), sI_same, upp_f (by omega), upp_sn (by omega) (by omega), upp_t (by omega), upp_sn (by omega) (by omega), upp_t (by omega), upp_s (by omega)]
              · rw [sI_ne (by omega), sI_ne (by omega), sI_same, upp_f (by omega), upp_sn (by omega) (by omega), upp_t (by omega), upp_s (by omega)]
              · rw [sI_ne (by omega), sI_same, upp_f (by omega), upp_s (by omega)]
              · rw [upp_f (by omega), upp_sn (by omega) (by omega), upp_t (by omega), upp_sn (by omega) (by omega), upp_t (by omega), upp_s (by omega), xe1]
              · rw [upp_f (by omega), upp_sn (by omega) (by omega), upp_t (by omega), upp_s (by omega), xe2]
              · rw [upp_f (by omega), upp_s (by omega), xe3]
          · exact fun j k hk => by rw [sI_ne (by omega), sI_ne (by omega), sI_ne (by omega), sI_ne (by omega), sI_ne (by omega)]
          · intro j k hk
            rw [sI_ne (by omega), sU_ne (by omega), wTk_ne (by omega), sU_ne (by omega), wTk_ne (by omega), sU_ne (by omega), wTk_ne (by omega), sU_ne (by omega), wTk_ne (by omega)]
          · unfold rMan
            rw [h49]
            refine fresh_s (fr := 3) (by omega) (by omega) hr z' ?_
            refine wr_u rfl (show 3 + m < 6 by omega) (by omega) ?_
            refine numeral_s hr1 y1 ?_
            rw [c1]
            refine wr_u rfl (show 3 + m < 6 by omega) (by omega) ?_
            refine numeral_s hr2 y2 ?_
            rw [c2]
            refine wr_u rfl (show 3 + m < 6 by omega) (by omega) ?_
            refine numeral_s hr3 y3 ?_
            rw [c3]
            refine wr_u rfl (show 3 + m < 6 by omega) (by omega) ?_
            rw [wrF_eq, c4, inc_n]
            exact hJ
        · rw [if_neg fun y => y rfl]
          have g2 : FLr M (flt (sU (wTk (sU (wTk (sU (wTk c (T (i + 1 + 1))) 15 m (T (i + 1)).2.2.2) (T (i + 1 + 1 + 1))) 16 m (T (i + 1 + 1)).2.2.2) (T (i + 1 + 1 + 1 + 1))) 17 m (T (i + 1 + 1 + 1)).2.2.2) (nf (T (i + 1 + 1 + 1 + 1)) 10 600)) (nf (T (i + 1 + 1 + 1 + 1)) 10 600) (T (i + 1 + 1 + 1 + 1)).2.1 := hr3.fl
          have g22 : FLr M (sU (flt (sU (wTk (sU (wTk (sU (wTk c (T (i + 1 + 1))) 15 m (T (i + 1)).2.2.2) (T (i + 1 + 1 + 1))) 16 m (T (i + 1 + 1)).2.2.2) (T (i + 1 + 1 + 1 + 1))) 17 m (T (i + 1 + 1 + 1)).2.2.2) (nf (T (i + 1 + 1 + 1 + 1)) 10 600)) 18 m 10) (nf (T (i + 1 + 1 + 1 + 1)) 10 600) (T (i + 1 + 1 + 1 + 1)).2.1 := g2.u (by omega)
          refine hF _ _ (sI (sU (flt (sU (wTk (sU (wTk (sU (wTk c (T (i + 1 + 1))) 15 m (T (i + 1)).2.2.2) (T (i + 1 + 1 + 1))) 16 m (T (i + 1 + 1)).2.2.2) (T (i + 1 + 1 + 1 + 1))) 17 m (T (i + 1 + 1 + 1)).2.2.2) (nf (T (i + 1 + 1 + 1 + 1)) 10 600)) 18 m 10) 0 49 (nI (m + 1))) _ _ y3 f5 (g22.s (nrv_0 (by omega)) (by omega)) fun J hJ => ?_
          unfold rMan
          rw [h49]
          refine fresh_s (fr := 3) (by omega) (by omega) hr z' ?_
          refine wr_u rfl (show 3 + m < 6 by omega) (by omega) ?_
          refine numeral_s hr1 y1 ?_
          rw [c1]
          refine wr_u rfl (show 3 + m < 6 by omega) (by omega) ?_
          refine numeral_s hr2 y2 ?_
          rw [c2]
          refine wr_u rfl (show 3 + m < 6 by omega) (by omega) ?_
          refine numeral_f hr3 y3 ?_
          rw [c3]
          refine wr_u rfl (show 3 + m < 6 by omega) (by omega) ?_
          rw [wrF_eq, sU_ne (by omega), flt_ne (by omega), c3, inc_n]
          exact hJ
      · rw [if_neg fun y => y rfl]
        have g1 : FLr M (flt (sU (wTk (sU (wTk c (T (i + 1 + 1))) 15 m (T (i + 1)).2.2.2) (T (i + 1 + 1 + 1))) 16 m (T (i + 1 + 1)).2.2.2) (nf (T (i + 1 + 1 + 1)) 0 99)) (nf (T (i + 1 + 1 + 1)) 0 99) (T (i + 1 + 1 + 1)).2.1 := hr2.fl
        have g11 : FLr M (sU (flt (sU (wTk (sU (wTk c (T (i + 1 + 1))) 15 m (T (i + 1)).2.2.2) (T (i + 1 + 1 + 1))) 16 m (T (i + 1 + 1)).2.2.2) (nf (T (i + 1 + 1 + 1)) 0 99)) 17 m 0) (nf (T (i + 1 + 1 + 1)) 0 99) (T (i + 1 + 1 + 1)).2.1 := g1.u (by omega)
        have g12 : FLr M (sU (sU (flt (sU (wTk (sU (wTk c (T (i + 1 + 1))) 15 m (T (i + 1)).2.2.2) (T (i + 1 + 1 + 1))) 16 m (T (i + 1 + 1)).2.2.2) (nf (T (i + 1 + 1 + 1)) 0 99)) 17 m 0) 18 m 10) (nf (T (i + 1 + 1 + 1)) 0 99) (T (i + 1 + 1 + 1)).2.1 := g11.u (by omega)
        refine hF _ _ (sI (sU (sU (flt (sU (wTk (sU (wTk c (T (i + 1 + 1))) 15 m (T (i + 1)).2.2.2) (T (i + 1 + 1 + 1))) 16 m (T (i + 1 + 1)).2.2.2) (nf (T (i + 1 + 1 + 1)) 0 99)) 17 m 0) 18 m 10) 0 49 (nI (m + 1))) _ _ y2 f4 (g12.s (nrv_0 (by omega)) (by omega)) fun J hJ => ?_
        unfold rMan
        rw [h49]
        refine fresh_s (fr := 3) (by omega) (by omega) hr z' ?_
        refine wr_u rfl (show 3 + m < 6 by omega) (by omega) ?_
        refine numeral_s hr1 y1 ?_
        rw [c1]
        refine wr_u rfl (show 3 + m < 6 by omega) (by omega) ?_
        refine numeral_f hr2 y2 ?_
        rw [c2]
        refine wr_u rfl (show 3 + m < 6 by omega) (by omega) ?_
        refine numeral_x g11 y2 ?_
        rw [sU_ne (by omega), flt_ne (by omega), c2]
        refine wr_u rfl (show 3 + m < 6 by omega) (by omega) ?_
        rw [wrF_eq, sU_ne (by omega), sU_ne (by omega), flt_ne (by omega), c2, inc_n]
        exact hJ
    · rw [if_neg fun y => y rfl]
      have g0 : FLr M (flt (sU (wTk c (T (i + 1 + 1))) 15 m (T (i + 1)).2.2.2) (nf (T (i + 1 + 1)) 0 9)) (nf (T (i + 1 + 1)) 0 9) (T (i + 1 + 1)).2.1 := hr1.fl
      have g00 : FLr M (sU (flt (sU (wTk c (T (i + 1 + 1))) 15 m (T (i + 1)).2.2.2) (nf (T (i + 1 + 1)) 0 9)) 16 m 0) (nf (T (i + 1 + 1)) 0 9) (T (i + 1 + 1)).2.1 := g0.u (by omega)
      have g01 : FLr M (sU (sU (flt (sU (wTk c (T (i + 1 + 1))) 15 m (T (i + 1)).2.2.2) (nf (T (i + 1 + 1)) 0 9)) 16 m 0) 17 m 0) (nf (T (i + 1 + 1)) 0 9) (T (i + 1 + 1)).2.1 := g00.u (by omega)
      have g02 : FLr M (sU (sU (sU (flt (sU (wTk c (T (i + 1 + 1))) 15 m (T (i + 1)).2.2.2) (nf (T (i + 1 + 1)) 0 9)) 16 m 0) 17 m 0) 18 m 10) (nf (T (i + 1 + 1)) 0 9) (T (i + 1 + 1)).2.1 := g01.u (by omega)
      refine hF _ _ (sI (sU (sU (sU (flt (sU (wTk c (T (i + 1 + 1))) 15 m (T (i + 1)).2.2.2) (nf (T (i + 1 + 1)) 0 9)) 16 m 0) 17 m 0) 18 m 10) 0 49 (nI (m + 1))) _ _ y1 f3 (g02.s (nrv_0 (by omega)) (by omega)) fun J hJ => ?_
      unfold rMan
      rw [h49]
      refine fresh_s (fr := 3) (by omega) (by omega) hr z' ?_
      refine wr_u rfl (show 3 + m < 6 by omega) (by omega) ?_
      refine numeral_f hr1 y1 ?_
      rw [c1]
      refine wr_u rfl (show 3 + m < 6 by omega) (by omega) ?_
      refine numeral_x g00 y1 ?_
      rw [sU_ne (by omega), flt_ne (by omega), c1]
      refine wr_u rfl (show 3 + m < 6 by omega) (by omega) ?_
      refine numeral_x g01 y1 ?_
      rw [sU_ne (by omega), sU_ne (by omega), flt_ne (by omega), c1]
      refine wr_u rfl (show 3 + m < 6 by omega) (by omega) ?_
      rw [wrF_eq, sU_ne (by omega), sU_ne (by omega), sU_ne (by omega), flt_ne (by omega), c1, inc_n]
      exact hJ
  · rw [if_neg fun y => y rfl]
    have z' : ff (T (i + 1)) (fnd (c.1 15) 3 (T (i + 1)).2.2.2 m 0) ≠ 0 := fun y => z (ef.trans y)
    rw [ef] at f2
    have e : FLr M (flt c (ff (T (i + 1)) (fnd (c.1 15) 3 (T (i + 1)).2.2.2 m 0))) (ff (T (i + 1)) (fnd (c.1 15) 3 (T (i + 1)).2.2.2 m 0)) (T (i + 1)).2.1 := hr.fl
    have e0 : FLr M (sU (flt c (ff (T (i + 1)) (fnd (c.1 15) 3 (T (i + 1)).2.2.2 m 0))) 15 m 0) (ff (T (i + 1)) (fnd (c.1 15) 3 (T (i + 1)).2.2.2 m 0)) (T (i + 1)).2.1 := e.u (by omega)
    have e1 : FLr M (sU (sU (flt c (ff (T (i + 1)) (fnd (c.1 15) 3 (T (i + 1)).2.2.2 m 0))) 15 m 0) 16 m 0) (ff (T (i + 1)) (fnd (c.1 15) 3 (T (i + 1)).2.2.2 m 0)) (T (i + 1)).2.1 := e0.u (by omega)
    have e2 : FLr M (sU (sU (sU (flt c (ff (T (i + 1)) (fnd (c.1 15) 3 (T (i + 1)).2.2.2 m 0))) 15 m 0) 16 m 0) 17 m 0) (ff (T (i + 1)) (fnd (c.1 15) 3 (T (i + 1)).2.2.2 m 0)) (T (i + 1)).2.1 := e1.u (by omega)
    have e3 : FLr M (sU (sU (sU (sU (flt c (ff (T (i + 1)) (fnd (c.1 15) 3 (T (i + 1)).2.2.2 m 0))) 15 m 0) 16 m 0) 17 m 0) 18 m 10) (ff (T (i + 1)) (fnd (c.1 15) 3 (T (i + 1)).2.2.2 m 0)) (T (i + 1)).2.1 := e2.u (by omega)
    refine hF _ _ (sI (sU (sU (sU (sU (flt c (ff (T (i + 1)) (fnd (c.1 15) 3 (T (i + 1)).2.2.2 m 0))) 15 m 0) 16 m 0) 17 m 0) 18 m 10) 0 49 (nI (m + 1))) _ _ z' f2 (e3.s (nrv_0 (by omega)) (by omega)) fun J hJ => ?_
    unfold rMan
    rw [h49]
    refine fresh_f (fr := 3) (by omega) (by omega) hr z' ?_
    refine wr_u rfl (show 3 + m < 6 by omega) (by omega) ?_
    refine numeral_x e0 z' ?_
    rw [sU_ne (by omega), flt_ne (by omega), h49]
    refine wr_u rfl (show 3 + m < 6 by omega) (by omega) ?_
    refine numeral_x e1 z' ?_
    rw [sU_ne (by omega), sU_ne (by omega), flt_ne (by omega), h49]
    refine wr_u rfl (show 3 + m < 6 by omega) (by omega) ?_
    refine numeral_x e2 z' ?_
    rw [sU_ne (by omega), sU_ne (by omega), sU_ne (by omega), flt_ne (by omega), h49]
    refine wr_u rfl (show 3 + m < 6 by omega) (by omega) ?_
    rw [wrF_eq, sU_ne (by omega), sU_ne (by omega), sU_ne (by omega), sU_ne (by omega), flt_ne (by omega), h49, inc_n]
    exact hJ
end Lines2
