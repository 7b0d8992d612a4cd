/-! ===== reading: the whole line of a front ===== -/
section Front2
variable {P R c M : CT} {T : Nat → T4} {K n i l q f m h : Nat} {Q : Int32 → CT → CT → Prop}
theorem frontLoop_ok {E : CT → CT → Prop} {a : Nat} (hc : RDc R T K n i) (hr : RDr M c T n i) (hp : PRel P.1 (uppV c) l q f m h) (hf : f < 5) (hn : PFro P.1 (uppV c) f) (ha : a ≤ i) (hS : ∀ P' R' c' i', i ≤ i' → RDc R' T K n i' → RDr M c' T n i' → PRel P'.1 (uppV c') l q f m h → PFro P'.1 (uppV c') f → KPc P P' → KPr c c' → (∀ J, J (sI c' 0 48 (nI (f + 1))) → rFlp (nI (5 + f)) J c) → E P' R') (hF : ∀ P' R' c' k p, k ≠ 0 → FLc R' k p → FLr M c' k p → (∀ J, J c' → rFlp (nI (5 + f)) J c) → Q 0 P' R') : LP3 (fun R1423 (v1420 : Int32) (c1421 : CT) (c1422 : CT) => (if (c1422.1 0 2) < v1420 then E c1421 c1422 else jn ((if (c1422.1 0 8) ≠ (9 : Int32) then k_X7_readGround c1421 c1422 f (fun t1460 c1458 c1459 => (if t1460 ≠ (0 : Int32) then R1423 (v1420 + 1) c1458 c1459 else Q (0 : Int32) c1458 c1459)) else k_X7_readPane c1421 c1422 f (fun t1467 c1465 c1466 => (if t1467 = (0 : Int32) then Q (0 : Int32) c1465 c1466 else R1423 (v1420 + 1) c1465 c1466)))) (fun (J1476 : Prop) => (if (c1422.1 0 8) = (9 : Int32) then J1476 else (if (c1422.1 0 8) = (10 : Int32) then J1476 else (if (c1422.1 0 8) = (11 : Int32) then J1476 else E c1421 c1422)))))) (nI a) P R := by
  refine LP3.ind (fun v P' R' => ∃ (b i' : Nat) (c' : CT), v = nI b ∧ b ≤ i' ∧ i ≤ i' ∧ RDc R' T K n i' ∧ RDr M c' T n i' ∧ PRel P'.1 (uppV c') l q f m h ∧ PFro P'.1 (uppV c') f ∧ KPc P P' ∧ KPr c c' ∧ ∀ J, rFlp (nI (5 + f)) J c' → rFlp (nI (5 + f)) J c) (fun _ _ R' => K + 1 - (R'.1 0 7).toNatClampNeg) ?_ ⟨a, i, c, rfl, ha, Nat.le_refl _, hc, hr, hp, hn, fun _ _ _ => rfl, fun _ _ _ => rfl, fun _ w => w⟩
  rintro S v P1 R1 ⟨b, i1, c1, rfl, hb, hi1, rc, rr, rp, rn, kc, kr, re⟩ ih
  have shp := rc.1.2.2.2.2.2.2.2 i1
  have k8 := rc.2.2.2.1
  have iK := rc.2.1
  have Kn := rc.1.2.2.1
  have n9 := rc.1.2.2.2.1
  have h48 : c1.1 0 48 = nI f := cnt_u (k := 36) rp.1.2.2.2.2.1
  rw [rc.1.2.1, if_neg (by rw [nI_lt' (by omega) (by omega)]; omega), jn_eq, k8, inc_n]
  have next : ∀ P' R' c' i', i1 < i' → RDc R' T K n i' → RDr M c' T n i' → PRel P'.1 (uppV c') l q f m h → PFro P'.1 (uppV c') f → KPc P1 P' → KPr c1 c' → (∀ J, rFlp (nI (5 + f)) J c' → rFlp (nI (5 + f)) J c1) → S (nI (b + 1)) P' R' := fun P' R' c' i' hlt rc' rr' rp' rn' kc' kr' re' => by
    have := rc'.2.1
    refine ih _ _ _ ⟨b + 1, i', c', rfl, by omega, by omega, rc', rr', rp', rn', kc.trans kc', kr.trans kr', fun J w => re J (re' J w)⟩ ?_
    rw [rc'.2.2.1, rc.2.2.1, nI_clamp (by omega), nI_clamp (by omega)]
    omega
  have bad : ∀ P' R' c' k p, k ≠ 0 → FLc R' k p → FLr M c' k p → (∀ J, J c' → rFlp (nI (5 + f)) J c1) → Q 0 P' R' := fun P' R' c' k p a1 a2 a3 a4 => hF P' R' c' k p a1 a2 a3 fun J hJ => re J (a4 J hJ)
  refine ite_b (fun z => ?_) fun z9 => ite_b (fun z => ?_) fun z10 => ite_b (fun z => ?_) fun z11 => ?_
  · rw [if_neg fun y => y z]
    rw [KT_w9 shp] at z
    refine pane_ok rc rr z rp hf rn (fun P' R' c' i' a1 a2 a3 a4 a5 a6 a7 a8 => ?_) fun P' R' c' k p a1 a2 a3 a4 => ?_
    · rw [if_neg (by decide)]
      exact next P' R' c' i' a1 a2 a3 a4 a5 a6 a7 a8
    · rw [if_pos rfl]
      exact bad P' R' c' k p a1 a2 a3 a4
  · rw [if_pos z9]
    rw [KT_w10 shp] at z
    refine ground10_ok rc rr z rp hf rn (fun P' R' c' i' a1 a2 a3 a4 a5 a6 a7 a8 => ?_) fun P' R' c' k p a1 a2 a3 a4 => ?_
    · rw [if_pos (by decide)]
      exact next P' R' c' i' a1 a2 a3 a4 a5 a6 a7 a8
    · rw [if_neg fun y => y rfl]
      exact bad P' R' c' k p a1 a2 a3 a4
  · rw [if_pos z9]
    rw [KT_w11 shp] at z
    refine ground11_ok rc rr z rp hf rn (fun P' R' c' i' a1 a2 a3 a4 a5 a6 a7 a8 => ?_) fun P' R' c' k p a1 a2 a3 a4 => ?_
    · rw [if_pos (by decide)]
      exact next P' R' c' i' a1 a2 a3 a4 a5 a6 a7 a8
    · rw [if_neg fun y => y rfl]
      exact bad P' R' c' k p a1 a2 a3 a4
  · rw [KT_w9 shp] at z9
    rw [KT_w10 shp] at z10
    rw [KT_w11 shp] at z11
    exact hS P1 R1 c1 i1 hi1 rc rr rp rn kc kr fun J hJ => re J (rFlp_e rr h48 z9 z10 z11 hJ)
theorem fnf_eq {x : Int32} (g : PRel P.1 (uppV c) l q f m h) : fnd (fun i => P.1 (15 + 3 * i) 0) 0 x f 0 = fnd (c.1 7) 5 x f 0 := fnd_cg f 0 fun i _ hi => by
  rw [Nat.zero_add]
  exact (g.2.2.2.1 i (by omega)).1.trans (uppV_u (by omega))
/-- six rows of a front, written one after the other -/
def fr6 (c : CT) (f : Nat) (x9 : Int32) : CT := sU (sU (sU (sU c 9 f x9) 10 f 0) 11 f 0) 12 f 0
theorem fr6_ne {x9 : Int32} {j k : Nat} (h : ¬ (9 ≤ j ∧ j ≤ 12)) : (fr6 c f x9).1 j k = c.1 j k := by
  unfold fr6
  rw [sU_ne (by omega), sU_ne (by omega), sU_ne (by omega), sU_ne (by omega)]
theorem fr6_wr {x9 : Int32} {S : CT → Prop} (hf : f < 5) (hs : S (fr6 c f x9)) : wrI c 9 10 (nI (5 + f)) x9 (fun c9 => wrI c9 10 10 (nI (5 + f)) (0 : Int32) (fun c10 => wrI c10 11 10 (nI (5 + f)) (0 : Int32) (fun c11 => wrI c11 12 10 (nI (5 + f)) (0 : Int32) (fun c12 => S c12)))) := by
  refine wr_u' (j := 9) (show 5 + f < 10 by omega) (by omega) ?_
  refine wr_u' (j := 10) (show 5 + f < 10 by omega) (by omega) ?_
  refine wr_u' (j := 11) (show 5 + f < 10 by omega) (by omega) ?_
  refine wr_u' (j := 12) (show 5 + f < 10 by omega) (by omega) ?_
  exact hs
theorem fr6_fl {x9 k p : Int32} (g : FLr M c k p) : FLr M (fr6 c f x9) k p := (((g.u (by omega)).u (by omega)).u (by omega)).u (by omega)
theorem fr6_rd {x9 : Int32} (g : RDr M c T n i) : RDr M (fr6 c f x9) T n i := (((g.u (by omega)).u (by omega)).u (by omega)).u (by omega)
theorem fr6_up {x9 : Int32} {j k : Nat} (h : ¬ (9 ≤ j ∧ j ≤ 12 ∧ k = f)) : uppV (fr6 c f x9) j k = uppV c j k := by
  unfold fr6
  rw [upp_sn (by omega) (by omega), upp_sn (by omega) (by omega), upp_sn (by omega) (by omega), upp_sn (by omega) (by omega)]
theorem front_ok (hc : RDc R T K n i) (hi : i < K) (hr : RDr M c T n (i + 1)) (hp : PRel P.1 (uppV c) l q f m h) (hf : f < 5) (hS : ∀ P' R' c' i', i < i' → RDc R' T K n i' → RDr M c' T n i' → PRel P'.1 (uppV c') l q (f + 1) m h → KPc P P' → KPr c c' → (∀ J, J c' → k2_X12_frontLine c (nI (5 + f)) J) → Q 1 P' R') (hF : ∀ P' R' c' k p, k ≠ 0 → FLc R' k p → FLr M c' k p → (∀ J, J c' → k2_X12_frontLine c (nI (5 + f)) J) → Q 0 P' R') : k_X7_readFront P R Q := by
  have h48 : c.1 0 48 = nI f := cnt_u (k := 36) hp.1.2.2.2.2.1
  have p3 := hp.1.2.1.2.2.1
  unfold k_X7_readFront
  rw [p3, if_pos (by rw [li_5, nI_lt' (by omega) (by omega)]; exact hf)]
  refine adv_ok hc hi fun R1 r1 _ _ => ?_
  refine findFront_ok p3 (by omega) ?_
  have ef : ff (T (i + 1)) (fnd (fun i => P.1 (15 + 3 * i) 0) 0 (R1.1 0 9) f 0) = ff (T (i + 1)) (fnd (c.1 7) 5 (T (i + 1)).2.2.2 f 0) := ff_cg fun e => by rw [r1.name e, fnf_eq hp]
  refine isNewName_ok r1 (fun z => ?_) fun z R2 f2 => ?_
  · have z' := ef.symm.trans z
    have s1 := ff_1 z
    rw [if_pos (by decide), ixN_n (by omega) (by omega), r1.name s1]
    unfold k_X3_begin
    simp only [wrF_eq]
    refine adv_ok r1 (r1.lt (by rw [s1]; decide)) fun R2 r2 _ _ => ?_
    have hr1 : RDr M (sU (wTk c (T (i + 1 + 1))) 7 f (T (i + 1)).2.2.2) T n (i + 1 + 1) := hr.tk.u (by omega)
    have re1 : ∀ J, k2_X12_numeral (sU (wTk c (T (i + 1 + 1))) 7 f (T (i + 1)).2.2.2) (1 : Int32) (12 : Int32) (fun t5 c4 => wrI c4 8 10 (nI (5 + f)) t5 (fun c6 => k2_X12_numeral c6 (1 : Int32) (24 : Int32) (fun t8 c7 => wrI c7 9 10 (nI (5 + f)) t8 (fun c9 => wrI c9 10 10 (nI (5 + f)) (0 : Int32) (fun c10 => wrI c10 11 10 (nI (5 + f)) (0 : Int32) (fun c11 => wrI c11 12 10 (nI (5 + f)) (0 : Int32) (fun c12 => rFlp (nI (5 + f)) J c12))))))) → k2_X12_frontLine c (nI (5 + f)) J := fun J w => by
      rw [frontL_eq, h48]
      refine fresh_s (fr := 5) (by omega) (by omega) hr z' ?_
      exact wr_u' (j := 7) (show 5 + f < 10 by omega) (by omega) w
    refine takeNumber_ok r2 (by decide) (by decide) (fun y1 R3 r3 _ v1 => ?_) fun y1 R3 f3 => ?_
    · rw [if_pos (by decide), v1]
      obtain ⟨x1, xa1, xb1, xe1⟩ := nf_n (a := 1) (b := 12) (by omega) (by omega) y1
      have hr2 : RDr M (sU (wTk (sU (wTk c (T (i + 1 + 1))) 7 f (T (i + 1)).2.2.2) (T (i + 1 + 1 + 1))) 8 f (T (i + 1 + 1)).2.2.2) T n (i + 1 + 1 + 1) := hr1.tk.u (by omega)
      have re2 : ∀ J, k2_X12_numeral (sU (wTk (sU (wTk c (T (i + 1 + 1))) 7 f (T (i + 1)).2.2.2) (T (i + 1 + 1 + 1))) 8 f (T (i + 1 + 1)).2.2.2) (1 : Int32) (24 : Int32) (fun t8 c7 => wrI c7 9 10 (nI (5 + f)) t8 (fun c9 => wrI c9 10 10 (nI (5 + f)) (0 : Int32) (fun c10 => wrI c10 11 10 (nI (5 + f)) (0 : Int32) (fun c11 => wrI c11 12 10 (nI (5 + f)) (0 : Int32) (fun c12 => rFlp (nI (5 + f)) J c12))))) → k2_X12_frontLine c (nI (5 + f)) J := fun J w => re1 J (by
        refine numeral_s hr1 y1 ?_
        exact wr_u' (j := 8) (show 5 + f < 10 by omega) (by omega) w)
      refine takeNumber_ok r3 (by decide) (by decide) (fun y2 R4 r4 _ v2 => ?_) fun y2 R4 f4 => ?_
      · rw [if_pos (by decide), v2, jn_eq]
        obtain ⟨x2, xa2, xb2, xe2⟩ := nf_n (a := 1) (b := 24) (by omega) (by omega) y2
        have hr3 : RDr M (fr6 (wTk (sU (wTk (sU (wTk c (T (i + 1 + 1))) 7 f (T (i + 1)).2.2.2) (T (i + 1 + 1 + 1))) 8 f (T (i + 1 + 1)).2.2.2) (T (i + 1 + 1 + 1 + 1))) f (T (i + 1 + 1 + 1)).2.2.2) T n (i + 1 + 1 + 1 + 1) := fr6_rd hr2.tk
        refine frontLoop_ok (l := l) (q := q) (m := m) (h := h) (a := 0) r4 hr3 ?_ hf ?_ (by omega) (fun P' R' c' i' a1 a2 a3 a4 a5 a6 a7 a8 => ?_) fun P' R' c' k p a1 a2 a3 a4 => ?_
        · refine hp.frx hf (fun j k z => ?_) fun j k w z => ?_
          · rw [sI_ne (by omega), sI_ne (by omega), sI_ne (by omega), sI_ne (by omega), sI_ne (by omega), sI_ne (by omega), sI_ne (by omega), sI_ne (by omega)]
          · have w' : j = 0 → k ≤ 45 := by
              unfold VWR at w
              omega
            rw [fr6_up (by omega), upp_t w', upp_sn (by omega) (by omega), upp_t w', upp_sn (by omega) (by omega), upp_t w']
        · refine ⟨?_, x1, x2, 0, 0, 0, ⟨xa1, xb1⟩, ⟨xa2, xb2⟩, by omega, by omega, by omega, ⟨?_, ?_, ?_, ?_, ?_⟩, ⟨?_, ?_, ?_, ?_, ?_⟩, fun k hk => absurd hk (by omega)⟩
          · rw [sI_ne (by omega), sI_ne (by omega), sI_ne (by omega), sI_ne (by omega), sI_ne (by omega), sI_ne (by omega), sI_ne (by omega), sI_same, fr6_up (by omega), upp_t (by omega), upp_sn (by omega) (by omega), upp_t (by omega), upp_s (by omega)]
          · rw [fr6_up (by omega), upp_t (by omega), upp_s (by omega)]
            exact xe1
          · unfold fr6
            rw [upp_sn (by omega) (by omega), upp_sn (by omega) (by omega), upp_sn (by omega) (by omega), upp_s (by omega)]
            exact xe2
          · unfold fr6
            rw [upp_s (by omega)]
            rfl
          · unfold fr6
            rw [upp_sn (by omega) (by omega), upp_sn (by omega) (by omega), upp_s (by omega)]
            rfl
          · unfold fr6
            rw [upp_sn (by omega) (by omega), upp_s (by omega)]
            rfl
          · rw [sI_ne (by omega), sI_same]
            exact xe1
          · rw [sI_same]
            exact xe2
          · rw [sI_ne (by omega), sI_ne (by omega), sI_ne (by omega), sI_ne (by omega), sI_same]
            rfl
          · rw [sI_ne (by omega), sI_ne (by omega), sI_ne (by omega), sI_same]
            rfl
          · rw [sI_ne (by omega), sI_ne (by omega), sI_same]
            rfl
        · have p3' := a4.1.2.1.2.2.1
          rw [p3', inc_n]
          refine hS _ _ (sI c' 0 48 (nI (f + 1))) i' (by omega) a2 (a3.s (nrv_0 (by omega)) (by omega)) ?_ ?_ ?_ fun J hJ => re2 J ?_
          · refine a4.fro hf (fun j k z => sI_ne (by omega)) (fun j k w z => upp_f (by omega)) sI_same (upp_fs rfl) ?_
            refine (a5.p fun j k hj => sI_ne (by omega)).mv (fun j h1 h2 => upp_f (by omega)) fun j k h1 h2 hk => upp_f (by omega)
          · refine KPc.trans (fun j k hk => ?_) (a6.trans fun j k hk => sI_ne (by omega))
            rw [sI_ne (by omega), sI_ne (by omega), sI_ne (by omega), sI_ne (by omega), sI_ne (by omega), sI_ne (by omega), sI_ne (by omega), sI_ne (by omega)]
          · refine KPr.trans (fun j k hk => ?_) (a7.trans fun j k hk => sI_ne (by omega))
            rw [fr6_ne (by omega), wTk_ne (by omega), sU_ne (by omega), wTk_ne (by omega), sU_ne (by omega), wTk_ne (by omega)]
          · refine numeral_s hr2 y2 ?_
            exact fr6_wr hf (a8 J hJ)
        · refine hF P' R' c' k p a1 a2 a3 fun J hJ => re2 J ?_
          refine numeral_s hr2 y2 ?_
          exact fr6_wr hf (a4 J hJ)
      · rw [if_neg fun y => y rfl]
        have fx := hr2.fl (k := nf (T (i + 1 + 1 + 1)) 1 24)
        refine hF _ _ (sI (fr6 (flt (sU (wTk (sU (wTk c (T (i + 1 + 1))) 7 f (T (i + 1)).2.2.2) (T (i + 1 + 1 + 1))) 8 f (T (i + 1 + 1)).2.2.2) (nf (T (i + 1 + 1 + 1)) 1 24)) f 1) 0 48 (nI (f + 1))) _ _ y2 f4 ((fr6_fl fx).s (nrv_0 (by omega)) (by omega)) fun J hJ => re2 J ?_
        refine numeral_f hr2 y2 ?_
        refine fr6_wr hf (rFlp_x (fr6_fl fx) y2 ?_ hJ)
        rw [fr6_ne (by omega), flt_ne (by omega), sU_ne (by omega), wTk_ne (by omega), sU_ne (by omega), wTk_ne (by omega)]
        exact h48
    · rw [if_neg fun y => y rfl]
      have fx : FLr M (sU (flt (sU (wTk c (T (i + 1 + 1))) 7 f (T (i + 1)).2.2.2) (nf (T (i + 1 + 1)) 1 12)) 8 f 1) (nf (T (i + 1 + 1)) 1 12) (T (i + 1 + 1)).2.1 := hr1.fl.u (by omega)
      refine hF _ _ (sI (fr6 (sU (flt (sU (wTk c (T (i + 1 + 1))) 7 f (T (i + 1)).2.2.2) (nf (T (i + 1 + 1)) 1 12)) 8 f 1) f 1) 0 48 (nI (f + 1))) _ _ y1 f3 ((fr6_fl fx).s (nrv_0 (by omega)) (by omega)) fun J hJ => re1 J ?_
      refine numeral_f hr1 y1 ?_
      refine wr_u' (j := 8) (show 5 + f < 10 by omega) (by omega) ?_
      refine numeral_x fx y1 ?_
      refine fr6_wr hf (rFlp_x (fr6_fl fx) y1 ?_ hJ)
      rw [fr6_ne (by omega), sU_ne (by omega), flt_ne (by omega), sU_ne (by omega), wTk_ne (by omega)]
      exact h48
  · rw [if_neg fun y => y rfl]
    have z' : ff (T (i + 1)) (fnd (c.1 7) 5 (T (i + 1)).2.2.2 f 0) ≠ 0 := fun y => z (ef.trans y)
    rw [ef] at f2
    have e1 : FLr M (sU (flt c (ff (T (i + 1)) (fnd (c.1 7) 5 (T (i + 1)).2.2.2 f 0))) 7 f 0) (ff (T (i + 1)) (fnd (c.1 7) 5 (T (i + 1)).2.2.2 f 0)) (T (i + 1)).2.1 := hr.fl.u (by omega)
    have e2 : FLr M (sU (sU (flt c (ff (T (i + 1)) (fnd (c.1 7) 5 (T (i + 1)).2.2.2 f 0))) 7 f 0) 8 f 1) (ff (T (i + 1)) (fnd (c.1 7) 5 (T (i + 1)).2.2.2 f 0)) (T (i + 1)).2.1 := e1.u (by omega)
    refine hF _ _ (sI (fr6 (sU (sU (flt c (ff (T (i + 1)) (fnd (c.1 7) 5 (T (i + 1)).2.2.2 f 0))) 7 f 0) 8 f 1) f 1) 0 48 (nI (f + 1))) _ _ z' f2 ((fr6_fl e2).s (nrv_0 (by omega)) (by omega)) fun J hJ => ?_
    rw [frontL_eq, h48]
    refine fresh_f (fr := 5) (by omega) (by omega) hr z' ?_
    refine wr_u' (j := 7) (show 5 + f < 10 by omega) (by omega) ?_
    refine numeral_x e1 z' ?_
    refine wr_u' (j := 8) (show 5 + f < 10 by omega) (by omega) ?_
    refine numeral_x e2 z' ?_
    refine fr6_wr hf (rFlp_x (fr6_fl e2) z' ?_ hJ)
    rw [fr6_ne (by omega), sU_ne (by omega), sU_ne (by omega), flt_ne (by omega)]
    exact h48
end Front2
