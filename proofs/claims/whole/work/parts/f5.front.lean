/-! ===== reading: fronts ===== -/
section Front
variable {P R c M : CT} {T : Nat → T4} {K n i l q f m h : Nat} {Q : Int32 → CT → CT → Prop}
theorem PRel.frx {P' V' P V : VW} (g : PRel P V l q f m h) (hf : f < 5) (eP : ∀ j k, ¬ (15 + 3 * f ≤ j ∧ j ≤ 17 + 3 * f) → P' j k = P j k) (eV : ∀ j k, VWR j k → ¬ ((7 ≤ j ∧ j ≤ 12 ∧ k = f) ∨ (13 ≤ j ∧ j ≤ 14 ∧ 12 * f ≤ k ∧ k < 12 * f + 12)) → V' j k = V j k) : PRel P' V' l q f m h := by
  obtain ⟨c1, c2, c3, c4, c5, c6, c7, c8⟩ := g.chg eP eV
  obtain ⟨⟨a1, a2, a3, a4, a5⟩, ⟨b1, b2, b3, b4, b5⟩, d1, d2, d3, d4, d5⟩ := g.1
  exact ⟨⟨⟨a1, a2, a3, a4, a5⟩, ⟨(eP _ _ (by omega)).trans b1, (eP _ _ (by omega)).trans b2, (eP _ _ (by omega)).trans b3, (eP _ _ (by omega)).trans b4, (eP _ _ (by omega)).trans b5⟩, (eV _ _ (Or.inl (by omega)) (by omega)).trans d1, (eV _ _ (Or.inl (by omega)) (by omega)).trans d2, (eV _ _ (Or.inl (by omega)) (by omega)).trans d3, (eV _ _ (Or.inl (by omega)) (by omega)).trans d4, (eV _ _ (Or.inl (by omega)) (by omega)).trans d5⟩, fun i hi => c1 i hi (by omega), fun i hi => c2 i hi (by omega), fun i hi => c3 i hi (by omega) (by omega) (by omega), fun i hi => c4 i hi (by omega) (by omega), fun i hi => c5 i hi (by omega) (by omega), fun d hd => c6 d hd (by omega) (by omega), c7 (by omega) (by omega) (by omega), c8 (by omega) (by omega)⟩
theorem PRel.fro {P' V' P V : VW} (g : PRel P V l q f m h) (hf : f < 5) (eP : ∀ j k, ¬ (j = 0 ∧ k = 1) → P' j k = P j k) (eV : ∀ j k, VWR j k → ¬ (j = 0 ∧ k = 36) → V' j k = V j k) (e1 : P' 0 1 = nI (f + 1)) (e2 : V' 0 36 = nI (f + 1)) (new : PFro P' V' f) : PRel P' V' l q (f + 1) m h := by
  obtain ⟨c1, c2, c3, c4, c5, c6, c7, c8⟩ := g.chg eP eV
  obtain ⟨⟨a1, a2, a3, a4, a5⟩, ⟨b1, b2, b3, b4, b5⟩, d1, d2, d3, d4, d5⟩ := g.1
  refine ⟨⟨⟨a1, a2, by omega, a4, a5⟩, ⟨(eP _ _ (by omega)).trans b1, (eP _ _ (by omega)).trans b2, e1, (eP _ _ (by omega)).trans b4, (eP _ _ (by omega)).trans b5⟩, (eV _ _ (Or.inl (by omega)) (by omega)).trans d1, (eV _ _ (Or.inl (by omega)) (by omega)).trans d2, e2, (eV _ _ (Or.inl (by omega)) (by omega)).trans d4, (eV _ _ (Or.inl (by omega)) (by omega)).trans d5⟩, fun i hi => c1 i hi (by omega), fun i hi => c2 i hi (by omega), fun i hi => ?_, fun i hi => c4 i hi (by omega) (by omega), fun i hi => (c5 i hi (by omega) (by omega)).up (by omega), fun d hd => c6 d hd (by omega) (by omega), c7 (by omega) (by omega) (by omega), c8 (by omega) (by omega)⟩
  by_cases e : i = f
  · rw [e]
    exact new
  · exact c3 i (by omega) (by omega) (by omega) (by omega)
/-- the reference's rounds over a front's panes and grounds -/
def fBd (a1 : Int32) (J : CT → Prop) (R23 : CT → Prop) (c22 : CT) : Prop := jn (vK (c22.1 0 65) (fun v32 => jn (fun (c34 : CT) => k2_X12_goOn c34 (fun c35 => (if v32 ≠ (10 : Int32) then (if v32 ≠ (11 : Int32) then k2_X12_paneLine c35 a1 (fun c62 => R23 c62) else rdI c35 11 10 a1 (fun t64 => rdI c35 8 10 a1 (fun t66 => k2_X12_bit c35 t64 (t66 - (1 : Int32)) (fun t69 c68 => wrI c68 11 10 a1 t69 (fun c70 => R23 c70))))) else rdI c35 10 10 a1 (fun t76 => rdI c35 8 10 a1 (fun t78 => k2_X12_bit c35 t76 (t78 - (1 : Int32)) (fun t81 c80 => wrI c80 10 10 a1 t81 (fun c82 => R23 c82))))))) (fun J90 => (if v32 ≠ (9 : Int32) then J90 c22 else rdI c22 12 10 a1 (fun t92 => (if t92 ≠ (12 : Int32) then J90 c22 else k_X12_wrong c22 (2 : Int32) (fun c94 => J90 c94))))))) (fun (J104 : Prop) => k_X12_isWord c22 (9 : Int32) (fun t106 => (if t106 ≠ (0 : Int32) then J104 else k_X12_isWord c22 (10 : Int32) (fun t107 => (if t107 ≠ (0 : Int32) then J104 else k_X12_isWord c22 (11 : Int32) (fun t108 => (if t108 = (0 : Int32) then wrF c22 0 48 ((c22.1 0 48) + (1 : Int32)) (fun c109 => J c109) else J104)))))))
def rFlp (a1 : Int32) (J : CT → Prop) (c : CT) : Prop := LP1 (fBd a1 J) c
theorem frontL_eq {a1 : Int32} {J : CT → Prop} : k2_X12_frontLine c a1 J = k2_X12_fresh c 7 10 (5 : Int32) (c.1 0 48) (fun t2 c1 => wrI c1 7 10 a1 t2 (fun c3 => k2_X12_numeral c3 (1 : Int32) (12 : Int32) (fun t5 c4 => wrI c4 8 10 a1 t5 (fun c6 => k2_X12_numeral c6 (1 : Int32) (24 : Int32) (fun t8 c7 => wrI c7 9 10 a1 t8 (fun c9 => wrI c9 10 10 a1 (0 : Int32) (fun c10 => wrI c10 11 10 a1 (0 : Int32) (fun c11 => wrI c11 12 10 a1 (0 : Int32) (fun c12 => rFlp a1 J c12))))))))) := rfl
theorem rFlp_go {a1 : Int32} {J : CT → Prop} {c' : CT} (hb : ∀ S : CT → Prop, S c' → fBd a1 J S c) (w : rFlp a1 J c') : rFlp a1 J c := fun S hS => hS c (hb S (w S hS))
theorem rFlp_x {J : CT → Prop} {a1 k p : Int32} (g : FLr M c k p) (hk : k ≠ 0) (h48 : c.1 0 48 = nI f) (hJ : J (sI c 0 48 (nI (f + 1)))) : rFlp a1 J c := fun S hS => hS c (by
  unfold fBd
  rw [jn_eq]
  refine isWord_x g hk ?_
  rw [if_neg fun y => y rfl]
  refine isWord_x g hk ?_
  rw [if_neg fun y => y rfl]
  refine isWord_x g hk ?_
  rw [if_pos rfl, wrF_eq, h48, inc_n]
  exact hJ)
theorem rFlp_e {J : CT → Prop} {a1 : Int32} (g : RDr M c T n i) (h48 : c.1 0 48 = nI f) (n9 : ¬ ((T i).2.2.1 = 0 ∧ (T i).2.2.2 = 9)) (n10 : ¬ ((T i).2.2.1 = 0 ∧ (T i).2.2.2 = 10)) (n11 : ¬ ((T i).2.2.1 = 0 ∧ (T i).2.2.2 = 11)) (hJ : J (sI c 0 48 (nI (f + 1)))) : rFlp a1 J c := fun S hS => hS c (by
  unfold fBd
  rw [jn_eq]
  refine isWord_s g (fun y => absurd y n9) fun _ => ?_
  rw [if_neg fun y => y rfl]
  refine isWord_s g (fun y => absurd y n10) fun _ => ?_
  rw [if_neg fun y => y rfl]
  refine isWord_s g (fun y => absurd y n11) fun _ => ?_
  rw [if_pos rfl, wrF_eq, h48, inc_n]
  exact hJ)
/-- at one of the three words -/
theorem fBd_w {J S : CT → Prop} {a1 : Int32} (g : RDr M c T n i) (hw : (T i).2.2.1 = 0 ∧ ((T i).2.2.2 = 9 ∨ (T i).2.2.2 = 10 ∨ (T i).2.2.2 = 11)) (w : jn (fun (c34 : CT) => k2_X12_goOn c34 (fun c35 => (if (T i).2.2.2 ≠ (10 : Int32) then (if (T i).2.2.2 ≠ (11 : Int32) then k2_X12_paneLine c35 a1 (fun c62 => S c62) else rdI c35 11 10 a1 (fun t64 => rdI c35 8 10 a1 (fun t66 => k2_X12_bit c35 t64 (t66 - (1 : Int32)) (fun t69 c68 => wrI c68 11 10 a1 t69 (fun c70 => S c70))))) else rdI c35 10 10 a1 (fun t76 => rdI c35 8 10 a1 (fun t78 => k2_X12_bit c35 t76 (t78 - (1 : Int32)) (fun t81 c80 => wrI c80 10 10 a1 t81 (fun c82 => S c82))))))) (fun J90 => (if (T i).2.2.2 ≠ (9 : Int32) then J90 c else rdI c 12 10 a1 (fun t92 => (if t92 ≠ (12 : Int32) then J90 c else k_X12_wrong c (2 : Int32) (fun c94 => J90 c94)))))) : fBd a1 J S c := by
  unfold fBd
  rw [jn_eq]
  rw [vK_eq, g.2.2.2.1.2.2.2]
  refine isWord_s g (fun _ => ?_) fun x => ?_
  · rw [if_pos (by decide)]
    exact w
  · rw [if_neg fun y => y rfl]
    refine isWord_s g (fun _ => ?_) fun y => ?_
    · rw [if_pos (by decide)]
      exact w
    · rw [if_neg fun y => y rfl]
      refine isWord_s g (fun _ => ?_) fun z => ?_
      · rw [if_neg (by decide)]
        exact w
      · exact absurd hw fun u => u.2.elim (fun v => x ⟨u.1, v⟩) fun v => v.elim (fun v => y ⟨u.1, v⟩) fun v => z ⟨u.1, v⟩
theorem ground10_ok (hc : RDc R T K n i) (hr : RDr M c T n i) (hw : (T i).2.2.1 = 0 ∧ (T i).2.2.2 = 10) (hp : PRel P.1 (uppV c) l q f m h) (hf : f < 5) (hn : PFro P.1 (uppV c) f) (hS : ∀ P' R' c' i', i < i' → RDc R' T K n i' → RDr M c' T n i' → PRel P'.1 (uppV c') l q f m h → PFro P'.1 (uppV c') f → KPc P P' → KPr c c' → (∀ J, rFlp (nI (5 + f)) J c' → rFlp (nI (5 + f)) J c) → Q 1 P' R') (hF : ∀ P' R' c' k p, k ≠ 0 → FLc R' k p → FLr M c' k p → (∀ J, J c' → rFlp (nI (5 + f)) J c) → Q 0 P' R') : k_X7_readGround P R f Q := by
  have h48 : c.1 0 48 = nI f := cnt_u (k := 36) hp.1.2.2.2.2.1
  have shp := hc.1.2.2.2.2.2.2.2 i
  have lt := hc.lt (by rw [hw.1]; decide)
  obtain ⟨n0, w, g, p, b, s, n1, n2, n3, n4, n5, ⟨v8, v9, v12, v10, v11⟩, ⟨q1, q2, q3, q4, q5⟩, n8⟩ := hn
  unfold k_X7_readGround
  have k10 : (R.1 0 8 = 10) = ((T i).2.2.1 = 0 ∧ (T i).2.2.2 = 10) := by rw [hc.2.2.2.1, KT_w10 shp]
  rw [if_pos (fun z => z (k10.symm ▸ hw)), vK_eq]
  refine adv_ok hc lt fun R1 r1 _ _ => ?_
  rw [if_pos (by decide), q4, q1, sub1_n (by omega)]
  have up9 : nI (w - 1) ≤ 9999 := by
    rw [li_9999, nI_le' (by omega) (by omega)]
    omega
  have d10 : (wTk c (T (i + 1))).1 10 (5 + f) = nI b := by
    rw [wTk_ne (by omega)]
    exact (uppV_u (j := 10) (by omega)).symm.trans v10
  have d8 : (wTk c (T (i + 1))).1 8 (5 + f) = nI w := by
    rw [wTk_ne (by omega)]
    exact (uppV_u (j := 8) (by omega)).symm.trans v8
  have d48 : (wTk c (T (i + 1))).1 0 48 = nI f := by
    rw [wTk_ne (by omega)]
    exact h48
  have re : ∀ J S, k2_X12_bit (wTk c (T (i + 1))) (nI b) (nI (w - 1)) (fun t81 c80 => wrI c80 10 10 (nI (5 + f)) t81 (fun c82 => S c82)) → fBd (nI (5 + f)) J S c := fun J S z => by
    refine fBd_w hr ⟨hw.1, by rw [hw.2]; decide⟩ ?_
    rw [jn_eq, hw.2, if_pos (by decide)]
    refine goOn_s hr ?_
    rw [if_neg (by decide), rdI_n (by omega) (by omega), rdI_n (by omega) (by omega), d10, d8, sub1_n (by omega)]
    exact z
  refine isFreshBit_ok r1 up9 (fun z e9 => ?_) fun z R2 f2 => ?_
  · rw [if_pos (by decide), if_neg (by decide), wrF_eq, e9]
    have e0 : nf (T (i + 1)) 0 (nI (w - 1)) = 0 := by
      unfold fb at z
      by_cases e : nf (T (i + 1)) 0 (nI (w - 1)) = 0
      · exact e
      · rw [if_neg e] at z
        exact z
    obtain ⟨x, -, xb, xe⟩ := nf_n (a := 0) (b := w - 1) (by omega) (by omega) e0
    have s2 := nf_2 e0
    refine adv_ok r1 (r1.lt (by rw [s2]; decide)) fun R2 r2 _ _ => ?_
    have ev : nI b ||| (1 : Int32) <<< ((T (i + 1)).2.2.2 &&& 31) = nI (b ||| 2 ^ x) := by
      rw [xe, shl_1 (by omega), or_n]
    have lt2 : b ||| 2 ^ x < 4096 := Nat.or_lt_two_pow (n := 12) (by omega) (Nat.pow_lt_pow_right (by decide) (by omega))
    rw [ev]
    refine hS _ _ (sU (wTk (wTk c (T (i + 1))) (T (i + 1 + 1))) 10 f (nI (b ||| 2 ^ x))) (i + 1 + 1) (by omega) r2 (hr.tk.tk.u (by omega)) ?_ ?_ ?_ ?_ fun J => rFlp_go fun S hs => ?_
    · refine hp.frx hf (fun j k z => ?_) fun j k w z => ?_
      · rw [sI_ne (by omega)]
      · have w' : j = 0 → k ≤ 45 := by
          unfold VWR at w
          omega
        rw [upp_sn (by omega) (by omega), upp_t w', upp_t w']
    · refine ⟨?_, w, g, p, b ||| 2 ^ x, s, n1, n2, n3, lt2, n5, ⟨?_, ?_, ?_, ?_, ?_⟩, ⟨?_, ?_, ?_, ?_, ?_⟩, fun k hk => ?_⟩
      · rw [sI_ne (by omega), upp_sn (by omega) (by omega), upp_t (by omega), upp_t (by omega)]
        exact n0
      · rw [upp_sn (by omega) (by omega), upp_t (by omega), upp_t (by omega)]
        exact v8
      · rw [upp_sn (by omega) (by omega), upp_t (by omega), upp_t (by omega)]
        exact v9
      · rw [upp_sn (by omega) (by omega), upp_t (by omega), upp_t (by omega)]
        exact v12
      · exact upp_s (by omega)
      · rw [upp_sn (by omega) (by omega), upp_t (by omega), upp_t (by omega)]
        exact v11
      · rw [sI_ne (by omega)]
        exact q1
      · rw [sI_ne (by omega)]
        exact q2
      · rw [sI_ne (by omega)]
        exact q3
      · exact sI_same
      · rw [sI_ne (by omega)]
        exact q5
      · obtain ⟨o1, o2, o3, o4⟩ := n8 k hk
        unfold PPan
        rw [sI_ne (by omega), sI_ne (by omega), upp_sn (by omega) (by omega), upp_t (by omega), upp_t (by omega), upp_sn (by omega) (by omega), upp_t (by omega), upp_t (by omega)]
        exact ⟨o1, o2, o3, o4⟩
    · exact fun j k hk => sI_ne (by omega)
    · intro j k hk
      rw [sU_ne (by omega), wTk_ne (by omega), wTk_ne (by omega)]
    · refine re J S (bit_s hr.tk z ?_)
      rw [ev]
      exact wr_u' (j := 10) (show 5 + f < 10 by omega) (by omega) hs
  · rw [if_neg fun y => y rfl]
    have fl1 : FLr M (sU (flt (wTk c (T (i + 1))) (fb (T (i + 1)) (nI b) (nI (w - 1)))) 10 f (nI b)) (fb (T (i + 1)) (nI b) (nI (w - 1))) (T (i + 1)).2.1 := hr.tk.fl.u (by omega)
    refine hF _ _ (sI (sU (flt (wTk c (T (i + 1))) (fb (T (i + 1)) (nI b) (nI (w - 1)))) 10 f (nI b)) 0 48 (nI (f + 1))) _ _ z f2 (fl1.s (nrv_0 (by omega)) (by omega)) fun J hJ => ?_
    refine rFlp_go (c' := sU (flt (wTk c (T (i + 1))) (fb (T (i + 1)) (nI b) (nI (w - 1)))) 10 f (nI b)) (fun S hs => ?_) (rFlp_x fl1 z (by rw [sU_ne (by omega), flt_ne (by omega)]; exact d48) hJ)
    refine re J S (bit_f hr.tk z ?_)
    exact wr_u' (j := 10) (show 5 + f < 10 by omega) (by omega) hs
theorem ground11_ok (hc : RDc R T K n i) (hr : RDr M c T n i) (hw : (T i).2.2.1 = 0 ∧ (T i).2.2.2 = 11) (hp : PRel P.1 (uppV c) l q f m h) (hf : f < 5) (hn : PFro P.1 (uppV c) f) (hS : ∀ P' R' c' i', i < i' → RDc R' T K n i' → RDr M c' T n i' → PRel P'.1 (uppV c') l q f m h → PFro P'.1 (uppV c') f → KPc P P' → KPr c c' → (∀ J, rFlp (nI (5 + f)) J c' → rFlp (nI (5 + f)) J c) → Q 1 P' R') (hF : ∀ P' R' c' k p, k ≠ 0 → FLc R' k p → FLr M c' k p → (∀ J, J c' → rFlp (nI (5 + f)) J c) → Q 0 P' R') : k_X7_readGround P R f Q := by
  have h48 : c.1 0 48 = nI f := cnt_u (k := 36) hp.1.2.2.2.2.1
  have shp := hc.1.2.2.2.2.2.2.2 i
  have lt := hc.lt (by rw [hw.1]; decide)
  obtain ⟨n0, w, g, p, b, s, n1, n2, n3, n4, n5, ⟨v8, v9, v12, v10, v11⟩, ⟨q1, q2, q3, q4, q5⟩, n8⟩ := hn
  unfold k_X7_readGround
  have k10 : (R.1 0 8 = 10) = ((T i).2.2.1 = 0 ∧ (T i).2.2.2 = 10) := by rw [hc.2.2.2.1, KT_w10 shp]
  rw [if_neg (fun z => absurd (((k10 ▸ Classical.not_not.mp z).2).symm.trans hw.2) (by decide)), vK_eq]
  refine adv_ok hc lt fun R1 r1 _ _ => ?_
  rw [if_neg (by decide), q5, q1, sub1_n (by omega)]
  have up9 : nI (w - 1) ≤ 9999 := by
    rw [li_9999, nI_le' (by omega) (by omega)]
    omega
  have d10 : (wTk c (T (i + 1))).1 11 (5 + f) = nI s := by
    rw [wTk_ne (by omega)]
    exact (uppV_u (j := 11) (by omega)).symm.trans v11
  have d8 : (wTk c (T (i + 1))).1 8 (5 + f) = nI w := by
    rw [wTk_ne (by omega)]
    exact (uppV_u (j := 8) (by omega)).symm.trans v8
  have d48 : (wTk c (T (i + 1))).1 0 48 = nI f := by
    rw [wTk_ne (by omega)]
    exact h48
  have re : ∀ J S, k2_X12_bit (wTk c (T (i + 1))) (nI s) (nI (w - 1)) (fun t81 c80 => wrI c80 11 10 (nI (5 + f)) t81 (fun c82 => S c82)) → fBd (nI (5 + f)) J S c := fun J S z => by
    refine fBd_w hr ⟨hw.1, by rw [hw.2]; decide⟩ ?_
    rw [jn_eq, hw.2, if_pos (by decide)]
    refine goOn_s hr ?_
    rw [if_pos (by decide), if_neg (by decide), rdI_n (by omega) (by omega), rdI_n (by omega) (by omega), d10, d8, sub1_n (by omega)]
    exact z
  refine isFreshBit_ok r1 up9 (fun z e9 => ?_) fun z R2 f2 => ?_
  · rw [if_pos (by decide), if_pos rfl, wrF_eq, e9]
    have e0 : nf (T (i + 1)) 0 (nI (w - 1)) = 0 := by
      unfold fb at z
      by_cases e : nf (T (i + 1)) 0 (nI (w - 1)) = 0
      · exact e
      · rw [if_neg e] at z
        exact z
    obtain ⟨x, -, xb, xe⟩ := nf_n (a := 0) (b := w - 1) (by omega) (by omega) e0
    have s2 := nf_2 e0
    refine adv_ok r1 (r1.lt (by rw [s2]; decide)) fun R2 r2 _ _ => ?_
    have ev : nI s ||| (1 : Int32) <<< ((T (i + 1)).2.2.2 &&& 31) = nI (s ||| 2 ^ x) := by
      rw [xe, shl_1 (by omega), or_n]
    have lt2 : s ||| 2 ^ x < 4096 := Nat.or_lt_two_pow (n := 12) (by omega) (Nat.pow_lt_pow_right (by decide) (by omega))
    rw [ev]
    refine hS _ _ (sU (wTk (wTk c (T (i + 1))) (T (i + 1 + 1))) 11 f (nI (s ||| 2 ^ x))) (i + 1 + 1) (by omega) r2 (hr.tk.tk.u (by omega)) ?_ ?_ ?_ ?_ fun J => rFlp_go fun S hs => ?_
    · refine hp.frx hf (fun j k z => ?_) fun j k w z => ?_
      · rw [sI_ne (by omega)]
      · have w' : j = 0 → k ≤ 45 := by
          unfold VWR at w
          omega
        rw [upp_sn (by omega) (by omega), upp_t w', upp_t w']
    · refine ⟨?_, w, g, p, b, s ||| 2 ^ x, n1, n2, n3, n4, lt2, ⟨?_, ?_, ?_, ?_, ?_⟩, ⟨?_, ?_, ?_, ?_, ?_⟩, fun k hk => ?_⟩
      · rw [sI_ne (by omega), upp_sn (by omega) (by omega), upp_t (by omega), upp_t (by omega)]
        exact n0
      · rw [upp_sn (by omega) (by omega), upp_t (by omega), upp_t (by omega)]
        exact v8
      · rw [upp_sn (by omega) (by omega), upp_t (by omega), upp_t (by omega)]
        exact v9
      · rw [upp_sn (by omega) (by omega), upp_t (by omega), upp_t (by omega)]
        exact v12
      · rw [upp_sn (by omega) (by omega), upp_t (by omega), upp_t (by omega)]
        exact v10
      · exact upp_s (by omega)
      · rw [sI_ne (by omega)]
        exact q1
      · rw [sI_ne (by omega)]
        exact q2
      · rw [sI_ne (by omega)]
        exact q3
      · rw [sI_ne (by omega)]
        exact q4
      · exact sI_same
      · obtain ⟨o1, o2, o3, o4⟩ := n8 k hk
        unfold PPan
        rw [sI_ne (by omega), sI_ne (by omega), upp_sn (by omega) (by omega), upp_t (by omega), upp_t (by omega), upp_sn (by omega) (by omega), upp_t (by omega), upp_t (by omega)]
        exact ⟨o1, o2, o3, o4⟩
    · exact fun j k hk => sI_ne (by omega)
    · intro j k hk
      rw [sU_ne (by omega), wTk_ne (by omega), wTk_ne (by omega)]
    · refine re J S (bit_s hr.tk z ?_)
      rw [ev]
      exact wr_u' (j := 11) (show 5 + f < 10 by omega) (by omega) hs
  · rw [if_neg fun y => y rfl]
    have fl1 : FLr M (sU (flt (wTk c (T (i + 1))) (fb (T (i + 1)) (nI s) (nI (w - 1)))) 11 f (nI s)) (fb (T (i + 1)) (nI s) (nI (w - 1))) (T (i + 1)).2.1 := hr.tk.fl.u (by omega)
    refine hF _ _ (sI (sU (flt (wTk c (T (i + 1))) (fb (T (i + 1)) (nI s) (nI (w - 1)))) 11 f (nI s)) 0 48 (nI (f + 1))) _ _ z f2 (fl1.s (nrv_0 (by omega)) (by omega)) fun J hJ => ?_
    refine rFlp_go (c' := sU (flt (wTk c (T (i + 1))) (fb (T (i + 1)) (nI s) (nI (w - 1)))) 11 f (nI s)) (fun S hs => ?_) (rFlp_x fl1 z (by rw [sU_ne (by omega), flt_ne (by omega)]; exact d48) hJ)
    refine re J S (bit_f hr.tk z ?_)
    exact wr_u' (j := 11) (show 5 + f < 10 by omega) (by omega) hs
end Front
