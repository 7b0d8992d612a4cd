/-! ===== reading: the whole line of a house (tools/gen15.py) ===== -/
section House3
variable {P R c M : CT} {T : Nat → T4} {K n i l q f m h t : Nat} {Q : Int32 → CT → CT → Prop}
def bgH (P : CT) (h : Nat) (a : Int32) : CT := sI (sI (sI (sI (sI (sI P (33 + h) 0 a) (33 + h) 6 0) (33 + h) 7 10) (33 + h) 8 0) (33 + h) 9 0) (33 + h) 10 0
theorem beginH_eq {a : Int32} {S : CT → Prop} : k_X4_begin P h a S = S (bgH P h a) := rfl
theorem bgH_hx {a : Int32} : HX P (bgH P h a) h := (((((HX.s (fun _ _ _ => rfl)).s).s).s).s).s
theorem bgH_at {a : Int32} : (bgH P h a).1 (33 + h) 0 = a ∧ (bgH P h a).1 (33 + h) 6 = 0 ∧ (bgH P h a).1 (33 + h) 7 = 10 ∧ (bgH P h a).1 (33 + h) 8 = 0 ∧ (bgH P h a).1 (33 + h) 9 = 0 ∧ (bgH P h a).1 (33 + h) 10 = 0 := by
  unfold bgH
  refine ⟨?_, ?_, ?_, ?_, ?_, sI_same⟩
  · rw [sI_ne (by omega), sI_ne (by omega), sI_ne (by omega), sI_ne (by omega), sI_ne (by omega), sI_same]
  · rw [sI_ne (by omega), sI_ne (by omega), sI_ne (by omega), sI_ne (by omega), sI_same]
  · rw [sI_ne (by omega), sI_ne (by omega), sI_ne (by omega), sI_same]
  · rw [sI_ne (by omega), sI_ne (by omega), sI_same]
  · rw [sI_ne (by omega), sI_same]
def KPh (P P' : CT) (h : Nat) : Prop := ∀ j k, (j = 11 ∧ k = 0) ∨ (j = 13 ∧ k = 0) ∨ (j = 0 ∧ (k = 10 ∨ k = 12)) ∨ (33 ≤ j ∧ j ≠ 33 + h ∧ k = 2) → P'.1 j k = P.1 j k
def KPq (c c' : CT) (h : Nat) : Prop := ∀ j k, (j = 0 ∧ ((57 ≤ k ∧ k ≤ 60) ∨ k = 70 ∨ k = 51 ∨ k = 53)) ∨ (j = 21 ∧ k ≠ 10 + h) → c'.1 j k = c.1 j k
theorem house_ok (hc : RDc R T K n i) (hi : i < K) (hr : RDr M c T n (i + 1)) (hp : PRel P.1 (uppV c) l q f m h) (hh : h < 10) (hS : ∀ P' R' c' i', i < i' → RDc R' T K n i' → RDr M c' T n i' → PRel P'.1 (uppV c') l q f m (h + 1) → (∃ x, x < m ∧ P'.1 (33 + h) 2 = nI x ∧ uppV c' 21 h = nI x) → KPh P P' h → KPq c c' h → (∀ J, J c' → k2_X12_houseLine c (nI (10 + h)) J) → Q 1 P' R') (hF : ∀ P' R' c' k p, k ≠ 0 → FLc R' k p → FLr M c' k p → (∀ J, J c' → k2_X12_houseLine c (nI (10 + h)) J) → Q 0 P' R') : k_X7_readHouse P R Q := by
  have h50 : c.1 0 50 = nI h := cnt_u (k := 38) hp.1.2.2.2.2.2.2
  have h48 : c.1 0 48 = nI f := cnt_u (k := 36) hp.1.2.2.2.2.1
  have h49 : c.1 0 49 = nI m := cnt_u (k := 37) hp.1.2.2.2.2.2.1
  have p3 := hp.1.2.1.2.2.1
  have p4 := hp.1.2.1.2.2.2.1
  have p5 := hp.1.2.1.2.2.2.2
  have b := hp.1.1
  unfold k_X7_readHouse
  rw [p5, if_pos (by rw [li_10, nI_lt' (by omega) (by omega)]; exact hh)]
  refine adv_ok hc hi fun R1 r1 _ _ => ?_
  refine findHouse_ok p5 (by omega) ?_
  have ef : ff (T (i + 1)) (fnd (fun i => P.1 (33 + i) 0) 0 (R1.1 0 9) h 0) = ff (T (i + 1)) (fnd (c.1 19) 10 (T (i + 1)).2.2.2 h 0) := ff_cg fun e => by rw [r1.name e, fnh_eq hp]
  refine isNewName_ok r1 (fun z => ?_) fun z R2 f2 => ?_
  · have z' := ef.symm.trans z
    have s1 := ff_1 z
    rw [if_pos (by decide), ixN_n (by omega) (by omega), r1.name s1, beginH_eq]
    refine adv_ok r1 (r1.lt (by rw [s1]; decide)) fun R2 r2 _ _ => ?_
    have hr1 : RDr M (sU (wTk c (T (i + 1 + 1))) 19 h (T (i + 1)).2.2.2) T n (i + 1 + 1) := hr.tk.u (by omega)
    have hx1 : HX P (bgH P h (T (i + 1)).2.2.2) h := bgH_hx
    have vx1 : VX c (sU (wTk c (T (i + 1 + 1))) 19 h (T (i + 1)).2.2.2) h := VX.st (fun _ _ _ _ => rfl) (by omega)
    have hp1 := hp.hv hx1 vx1
    have x50 : (sU (wTk c (T (i + 1 + 1))) 19 h (T (i + 1)).2.2.2).1 0 50 = nI h := cnt_u (k := 38) hp1.1.2.2.2.2.2.2
    have x48 : (sU (wTk c (T (i + 1 + 1))) 19 h (T (i + 1)).2.2.2).1 0 48 = nI f := cnt_u (k := 36) hp1.1.2.2.2.2.1
    have re1 : ∀ J, tl2 (nI (10 + h)) (sU (wTk c (T (i + 1 + 1))) 19 h (T (i + 1)).2.2.2) J → k2_X12_houseLine c (nI (10 + h)) J := fun J w => by
      rw [houseL_tl, h50]
      refine fresh_s (fr := 10) (by omega) (by omega) hr z' ?_
      exact wr_u' (j := 19) (show 10 + h < 20 by omega) (by omega) w
    have q3 := hp1.1.2.1.2.2.1
    refine findFront_ok q3 (by omega) ?_
    have ea : fa (T (i + 1 + 1)) (fnd (fun x0 => (bgH P h (T (i + 1)).2.2.2).1 (15 + 3 * x0) 0) 0 (R2.1 0 9) f 0) = fa (T (i + 1 + 1)) (fnd ((sU (wTk c (T (i + 1 + 1))) 19 h (T (i + 1)).2.2.2).1 7) 5 (T (i + 1 + 1)).2.2.2 f 0) := fa_cg fun e => by rw [r2.name e, fnf_eq hp1]
    refine isToldName_ok r2 (fun y => ?_) fun y R3 f3 => ?_
    · have y' := ea.symm.trans y
      have s2 := (fa_1 y).1
      obtain ⟨xf, xf1, xf2⟩ := fa_n y'
      rw [if_pos (by decide)]
      refine findFront_ok q3 (by omega) ?_
      rw [wrF_eq, r2.name s2, fnf_eq hp1]
      refine adv_ok r2 (r2.lt (by rw [s2]; decide)) fun R3 r3 _ _ => ?_
      have hr2 : RDr M (sU (wTk (sU (wTk c (T (i + 1 + 1))) 19 h (T (i + 1)).2.2.2) (T (i + 1 + 1 + 1))) 20 h (fnd ((sU (wTk c (T (i + 1 + 1))) 19 h (T (i + 1)).2.2.2).1 7) 5 (T (i + 1 + 1)).2.2.2 f 0)) T n (i + 1 + 1 + 1) := hr1.tk.u (by omega)
      have hx2 : HX P (sI (bgH P h (T (i + 1)).2.2.2) (33 + h) 1 (fnd ((sU (wTk c (T (i + 1 + 1))) 19 h (T (i + 1)).2.2.2).1 7) 5 (T (i + 1 + 1)).2.2.2 f 0)) h := hx1.s
      have vx2 : VX c (sU (wTk (sU (wTk c (T (i + 1 + 1))) 19 h (T (i + 1)).2.2.2) (T (i + 1 + 1 + 1))) 20 h (fnd ((sU (wTk c (T (i + 1 + 1))) 19 h (T (i + 1)).2.2.2).1 7) 5 (T (i + 1 + 1)).2.2.2 f 0)) h := vx1.st (by omega)
      have hp2 := hp.hv hx2 vx2
      have y50 : (sU (wTk (sU (wTk c (T (i + 1 + 1))) 19 h (T (i + 1)).2.2.2) (T (i + 1 + 1 + 1))) 20 h (fnd ((sU (wTk c (T (i + 1 + 1))) 19 h (T (i + 1)).2.2.2).1 7) 5 (T (i + 1 + 1)).2.2.2 f 0)).1 0 50 = nI h := cnt_u (k := 38) hp2.1.2.2.2.2.2.2
      have y49 : (sU (wTk (sU (wTk c (T (i + 1 + 1))) 19 h (T (i + 1)).2.2.2) (T (i + 1 + 1 + 1))) 20 h (fnd ((sU (wTk c (T (i + 1 + 1))) 19 h (T (i + 1)).2.2.2).1 7) 5 (T (i + 1 + 1)).2.2.2 f 0)).1 0 49 = nI m := cnt_u (k := 37) hp2.1.2.2.2.2.2.1
      have re2 : ∀ J, tl3 (nI (10 + h)) (sU (wTk (sU (wTk c (T (i + 1 + 1))) 19 h (T (i + 1)).2.2.2) (T (i + 1 + 1 + 1))) 20 h (fnd ((sU (wTk c (T (i + 1 + 1))) 19 h (T (i + 1)).2.2.2).1 7) 5 (T (i + 1 + 1)).2.2.2 f 0)) J → k2_X12_houseLine c (nI (10 + h)) J := fun J w => re1 J (by
        unfold tl2
        rw [x48]
        refine ahead_s (fr := 5) (by omega) (by omega) hr1 y' ?_
        exact wr_u' (j := 20) (show 10 + h < 20 by omega) (by omega) w)
      have q4 := hp2.1.2.1.2.2.2.1
      refine findMan_ok q4 (by omega) ?_
      have eb : fa (T (i + 1 + 1 + 1)) (fnd (fun x0 => (sI (bgH P h (T (i + 1)).2.2.2) (33 + h) 1 (fnd ((sU (wTk c (T (i + 1 + 1))) 19 h (T (i + 1)).2.2.2).1 7) 5 (T (i + 1 + 1)).2.2.2 f 0)).1 (30 + x0) 0) 0 (R3.1 0 9) m 0) = fa (T (i + 1 + 1 + 1)) (fnd ((sU (wTk (sU (wTk c (T (i + 1 + 1))) 19 h (T (i + 1)).2.2.2) (T (i + 1 + 1 + 1))) 20 h (fnd ((sU (wTk c (T (i + 1 + 1))) 19 h (T (i + 1)).2.2.2).1 7) 5 (T (i + 1 + 1)).2.2.2 f 0)).1 15) 3 (T (i + 1 + 1 + 1)).2.2.2 m 0) := fa_cg fun e => by rw [r3.name e, fnm_e2 hp2]
      refine isToldName_ok r3 (fun x => ?_) fun x R4 f4 => ?_
      · have x' := eb.symm.trans x
        have s3 := (fa_1 x).1
        obtain ⟨xm, xm1, xm2⟩ := fa_n x'
        rw [if_pos (by decide)]
        refine findMan_ok q4 (by omega) ?_
        rw [wrF_eq, r3.name s3, fnm_e2 hp2]
        refine adv_ok r3 (r3.lt (by rw [s3]; decide)) fun R4 r4 _ _ => ?_
        have hr3 : RDr M (sU (wTk (sU (wTk (sU (wTk c (T (i + 1 + 1))) 19 h (T (i + 1)).2.2.2) (T (i + 1 + 1 + 1))) 20 h (fnd ((sU (wTk c (T (i + 1 + 1))) 19 h (T (i + 1)).2.2.2).1 7) 5 (T (i + 1 + 1)).2.2.2 f 0)) (T (i + 1 + 1 + 1 + 1))) 21 h (fnd ((sU (wTk (sU (wTk c (T (i + 1 + 1))) 19 h (T (i + 1)).2.2.2) (T (i + 1 + 1 + 1))) 20 h (fnd ((sU (wTk c (T (i + 1 + 1))) 19 h (T (i + 1)).2.2.2).1 7) 5 (T (i + 1 + 1)).2.2.2 f 0)).1 15) 3 (T (i + 1 + 1 + 1)).2.2.2 m 0)) T n (i + 1 + 1 + 1 + 1) := hr2.tk.u (by omega)
        have hx3 : HX P (sI (sI (bgH P h (T (i + 1)).2.2.2) (33 + h) 1 (fnd ((sU (wTk c (T (i + 1 + 1))) 19 h (T (i + 1)).2.2.2).1 7) 5 (T (i + 1 + 1)).2.2.2 f 0)) (33 + h) 2 (fnd ((sU (wTk (sU (wTk c (T (i + 1 + 1))) 19 h (T (i + 1)).2.2.2) (T (i + 1 + 1 + 1))) 20 h (fnd ((sU (wTk c (T (i + 1 + 1))) 19 h (T (i + 1)).2.2.2).1 7) 5 (T (i + 1 + 1)).2.2.2 f 0)).1 15) 3 (T (i + 1 + 1 + 1)).2.2.2 m 0)) h := hx2.s
        have vx3 : VX c (sU (wTk (sU (wTk (sU (wTk c (T (i + 1 + 1))) 19 h (T (i + 1)).2.2.2) (T (i + 1 + 1 + 1))) 20 h (fnd ((sU (wTk c (T (i + 1 + 1))) 19 h (T (i + 1)).2.2.2).1 7) 5 (T (i + 1 + 1)).2.2.2 f 0)) (T (i + 1 + 1 + 1 + 1))) 21 h (fnd ((sU (wTk (sU (wTk c (T (i + 1 + 1))) 19 h (T (i + 1)).2.2.2) (T (i + 1 + 1 + 1))) 20 h (fnd ((sU (wTk c (T (i + 1 + 1))) 19 h (T (i + 1)).2.2.2).1 7) 5 (T (i + 1 + 1)).2.2.2 f 0)).1 15) 3 (T (i + 1 + 1 + 1)).2.2.2 m 0)) h := vx2.st (by omega)
        have z50 : (sU (wTk (sU (wTk (sU (wTk c (T (i + 1 + 1))) 19 h (T (i + 1)).2.2.2) (T (i + 1 + 1 + 1))) 20 h (fnd ((sU (wTk c (T (i + 1 + 1))) 19 h (T (i + 1)).2.2.2).1 7) 5 (T (i + 1 + 1)).2.2.2 f 0)) (T (i + 1 + 1 + 1 + 1))) 21 h (fnd ((sU (wTk (sU (wTk c (T (i + 1 + 1))) 19 h (T (i + 1)).2.2.2) (T (i + 1 + 1 + 1))) 20 h (fnd ((sU (wTk c (T (i + 1 + 1))) 19 h (T (i + 1)).2.2.2).1 7) 5 (T (i + 1 + 1)).2.2.2 f 0)).1 15) 3 (T (i + 1 + 1 + 1)).2.2.2 m 0)).1 0 50 = nI h := cnt_u (k := 38) (hp.hv hx3 vx3).1.2.2.2.2.2.2
        have re3 : ∀ J, tl4 (nI (10 + h)) (sU (wTk (sU (wTk (sU (wTk c (T (i + 1 + 1))) 19 h (T (i + 1)).2.2.2) (T (i + 1 + 1 + 1))) 20 h (fnd ((sU (wTk c (T (i + 1 + 1))) 19 h (T (i + 1)).2.2.2).1 7) 5 (T (i + 1 + 1)).2.2.2 f 0)) (T (i + 1 + 1 + 1 + 1))) 21 h (fnd ((sU (wTk (sU (wTk c (T (i + 1 + 1))) 19 h (T (i + 1)).2.2.2) (T (i + 1 + 1 + 1))) 20 h (fnd ((sU (wTk c (T (i + 1 + 1))) 19 h (T (i + 1)).2.2.2).1 7) 5 (T (i + 1 + 1)).2.2.2 f 0)).1 15) 3 (T (i + 1 + 1 + 1)).2.2.2 m 0)) J → k2_X12_houseLine c (nI (10 + h)) J := fun J w => re2 J (by
          unfold tl3
          rw [y49]
          refine ahead_s (fr := 3) (by omega) (by omega) hr2 x' ?_
          exact wr_u' (j := 21) (show 10 + h < 20 by omega) (by omega) w)
        unfold k_X7_readWhere
        refine takeNumber_ok r4 (by decide) (by decide) (fun n0 R5 r5 _ v0 => ?_) fun n0 R5 f5 => ?_
        · rw [if_pos (by decide), wrF_eq, v0]
          obtain ⟨k0, ka0, kb0, ke0⟩ := nf_n (a := 0) (b := 9) (by omega) (by omega) n0
          have hr4 : RDr M (sU (wTk (sU (wTk (sU (wTk (sU (wTk c (T (i + 1 + 1))) 19 h (T (i + 1)).2.2.2) (T (i + 1 + 1 + 1))) 20 h (fnd ((sU (wTk c (T (i + 1 + 1))) 19 h (T (i + 1)).2.2.2).1 7) 5 (T (i + 1 + 1)).2.2.2 f 0)) (T (i + 1 + 1 + 1 + 1))) 21 h (fnd ((sU (wTk (sU (wTk c (T (i + 1 + 1))) 19 h (T (i + 1)).2.2.2) (T (i + 1 + 1 + 1))) 20 h (fnd ((sU (wTk c (T (i + 1 + 1))) 19 h (T (i + 1)).2.2.2).1 7) 5 (T (i + 1 + 1)).2.2.2 f 0)).1 15) 3 (T (i + 1 + 1 + 1)).2.2.2 m 0)) (T (i + 1 + 1 + 1 + 1 + 1))) 22 h (T (i + 1 + 1 + 1 + 1)).2.2.2) T n (i + 1 + 1 + 1 + 1 + 1) := hr3.tk.u (by omega)
          have hx4 : HX P (sI (sI (sI (bgH P h (T (i + 1)).2.2.2) (33 + h) 1 (fnd ((sU (wTk c (T (i + 1 + 1))) 19 h (T (i + 1)).2.2.2).1 7) 5 (T (i + 1 + 1)).2.2.2 f 0)) (33 + h) 2 (fnd ((sU (wTk (sU (wTk c (T (i + 1 + 1))) 19 h (T (i + 1)).2.2.2) (T (i + 1 + 1 + 1))) 20 h (fnd ((sU (wTk c (T (i + 1 + 1))) 19 h (T (i + 1)).2.2.2).1 7) 5 (T (i + 1 + 1)).2.2.2 f 0)).1 15) 3 (T (i + 1 + 1 + 1)).2.2.2 m 0)) (33 + h) 3 (T (i + 1 + 1 + 1 + 1)).2.2.2) h := hx3.s
          have vx4 : VX c (sU (wTk (sU (wTk (sU (wTk (sU (wTk c (T (i + 1 + 1))) 19 h (T (i + 1)).2.2.2) (T (i + 1 + 1 + 1))) 20 h (fnd ((sU (wTk c (T (i + 1 + 1))) 19 h (T (i + 1)).2.2.2).1 7) 5 (T (i + 1 + 1)).2.2.2 f 0)) (T (i + 1 + 1 + 1 + 1))) 21 h (fnd ((sU (wTk (sU (wTk c (T (i + 1 + 1))) 19 h (T (i + 1)).2.2.2) (T (i + 1 + 1 + 1))) 20 h (fnd ((sU (wTk c (T (i + 1 + 1))) 19 h (T (i + 1)).2.2.2).1 7) 5 (T (i + 1 + 1)).2.2.2 f 0)).1 15) 3 (T (i + 1 + 1 + 1)).2.2.2 m 0)) (T (i + 1 + 1 + 1 + 1 + 1))) 22 h (T (i + 1 + 1 + 1 + 1)).2.2.2) h := vx3.st (by omega)
          have zz4 : (sU (wTk (sU (wTk (sU (wTk (sU (wTk c (T (i + 1 + 1))) 19 h (T (i + 1)).2.2.2) (T (i + 1 + 1 + 1))) 20 h (fnd ((sU (wTk c (T (i + 1 + 1))) 19 h (T (i + 1)).2.2.2).1 7) 5 (T (i + 1 + 1)).2.2.2 f 0)) (T (i + 1 + 1 + 1 + 1))) 21 h (fnd ((sU (wTk (sU (wTk c (T (i + 1 + 1))) 19 h (T (i + 1)).2.2.2) (T (i + 1 + 1 + 1))) 20 h (fnd ((sU (wTk c (T (i + 1 + 1))) 19 h (T (i + 1)).2.2.2).1 7) 5 (T (i + 1 + 1)).2.2.2 f 0)).1 15) 3 (T (i + 1 + 1 + 1)).2.2.2 m 0)) (T (i + 1 + 1 + 1 + 1 + 1))) 22 h (T (i + 1 + 1 + 1 + 1)).2.2.2).1 0 50 = nI h := cnt_u (k := 38) (hp.hv hx4 vx4).1.2.2.2.2.2.2
          have re4 : ∀ J, tl5 (nI (10 + h)) (sU (wTk (sU (wTk (sU (wTk (sU (wTk c (T (i + 1 + 1))) 19 h (T (i + 1)).2.2.2) (T (i + 1 + 1 + 1))) 20 h (fnd ((sU (wTk c (T (i + 1 + 1))) 19 h (T (i + 1)).2.2.2).1 7) 5 (T (i + 1 + 1)).2.2.2 f 0)) (T (i + 1 + 1 + 1 + 1))) 21 h (fnd ((sU (wTk (sU (wTk c (T (i + 1 + 1))) 19 h (T (i + 1)).2.2.2) (T (i + 1 + 1 + 1))) 20 h (fnd ((sU (wTk c (T (i + 1 + 1))) 19 h (T (i + 1)).2.2.2).1 7) 5 (T (i + 1 + 1)).2.2.2 f 0)).1 15) 3 (T (i + 1 + 1 + 1)).2.2.2 m 0)) (T (i + 1 + 1 + 1 + 1 + 1))) 22 h (T (i + 1 + 1 + 1 + 1)).2.2.2) J → k2_X12_houseLine c (nI (10 + h)) J := fun J w => re3 J (numeral_s hr3 n0 (wr_u' (j := 22) (show 10 + h < 20 by omega) (by omega) w))
          refine takeNumber_ok r5 (by decide) (by decide) (fun n1 R6 r6 _ v1 => ?_) fun n1 R6 f6 => ?_
          · rw [if_pos (by decide), wrF_eq, v1]
            obtain ⟨k1, ka1, kb1, ke1⟩ := nf_n (a := 0) (b := 99) (by omega) (by omega) n1
            have hr5 : RDr M (sU (wTk (sU (wTk (sU (wTk (sU (wTk (sU (wTk c (T (i + 1 + 1))) 19 h (T (i + 1)).2.2.2) (T (i + 1 + 1 + 1))) 20 h (fnd ((sU (wTk c (T (i + 1 + 1))) 19 h (T (i + 1)).2.2.2).1 7) 5 (T (i + 1 + 1)).2.2.2 f 0)) (T (i + 1 + 1 + 1 + 1))) 21 h (fnd ((sU (wTk (sU (wTk c (T (i + 1 + 1))) 19 h (T (i + 1)).2.2.2) (T (i + 1 + 1 + 1))) 20 h (fnd ((sU (wTk c (T (i + 1 + 1))) 19 h (T (i + 1)).2.2.2).1 7) 5 (T (i + 1 + 1)).2.2.2 f 0)).1 15) 3 (T (i + 1 + 1 + 1)).2.2.2 m 0)) (T (i + 1 + 1 + 1 + 1 + 1))) 22 h (T (i + 1 + 1 + 1 + 1)).2.2.2) (T (i + 1 + 1 + 1 + 1 + 1 + 1))) 23 h (T (i + 1 + 1 + 1 + 1 + 1)).2.2.2) T n (i + 1 + 1 + 1 + 1 + 1 + 1) := hr4.tk.u (by omega)
            have hx5 : HX P (sI (sI (sI (sI (bgH P h (T (i + 1)).2.2.2) (33 + h) 1 (fnd ((sU (wTk c (T (i + 1 + 1))) 19 h (T (i + 1)).2.2.2).1 7) 5 (T (i + 1 + 1)).2.2.2 f 0)) (33 + h) 2 (fnd ((sU (wTk (sU (wTk c (T (i + 1 + 1))) 19 h (T (i + 1)).2.2.2) (T (i + 1 + 1 + 1))) 20 h (fnd ((sU (wTk c (T (i + 1 + 1))) 19 h (T (i + 1)).2.2.2).1 7) 5 (T (i + 1 + 1)).2.2.2 f 0)).1 15) 3 (T (i + 1 + 1 + 1)).2.2.2 m 0)) (33 + h) 3 (T (i + 1 + 1 + 1 + 1)).2.2.2) (33 + h) 4 (T (i + 1 + 1 + 1 + 1 + 1)).2.2.2) h := hx4.s
            have vx5 : VX c (sU (wTk (sU (wTk (sU (wTk (sU (wTk (sU (wTk c (T (i + 1 + 1))) 19 h (T (i + 1)).2.2.2) (T (i + 1 + 1 + 1))) 20 h (fnd ((sU (wTk c (T (i + 1 + 1))) 19 h (T (i + 1)).2.2.2).1 7) 5 (T (i + 1 + 1)).2.2.2 f 0)) (T (i + 1 + 1 + 1 + 1))) 21 h (fnd ((sU (wTk (sU (wTk c (T (i + 1 + 1))) 19 h (T (i + 1)).2.2.2) (T (i + 1 + 1 + 1))) 20 h (fnd ((sU (wTk c (T (i + 1 + 1))) 19 h (T (i + 1)).2.2.2).1 7) 5 (T (i + 1 + 1)).2.2.2 f 0)).1 15) 3 (T (i + 1 + 1 + 1)).2.2.2 m 0)) (T (i + 1 + 1 + 1 + 1 + 1))) 22 h (T (i + 1 + 1 + 1 + 1)).2.2.2) (T (i + 1 + 1 + 1 + 1 + 1 + 1))) 23 h (T (i + 1 + 1 + 1 + 1 + 1)).2.2.2) h := vx4.st (by omega)
            have zz5 : (sU (wTk (sU (wTk (sU (wTk (sU (wTk (sU (wTk c (T (i + 1 + 1))) 19 h (T (i + 1)).2.2.2) (T (i + 1 + 1 + 1))) 20 h (fnd ((sU (wTk c (T (i + 1 + 1))) 19 h (T (i + 1)).2.2.2).1 7) 5 (T (i + 1 + 1)).2.2.2 f 0)) (T (i + 1 + 1 + 1 + 1))) 21 h (fnd ((sU (wTk (sU (wTk c (T (i + 1 + 1))) 19 h (T (i + 1)).2.2.2) (T (i + 1 + 1 + 1))) 20 h (fnd ((sU (wTk c (T (i + 1 + 1))) 19 h (T (i + 1)).2.2.2).1 7) 5 (T (i + 1 + 1)).2.2.2 f 0)).1 15) 3 (T (i + 1 + 1 + 1)).2.2.2 m 0)) (T (i + 1 + 1 + 1 + 1 + 1))) 22 h (T (i + 1 + 1 + 1 + 1)).2.2.2) (T (i + 1 + 1 + 1 + 1 + 1 + 1))) 23 h (T (i + 1 + 1 + 1 + 1 + 1)).2.2.2).1 0 50 = nI h := cnt_u (k := 38) (hp.hv hx5 vx5).1.2.2.2.2.2.2
            have re5 : ∀ J, tl6 (nI (10 + h)) (sU (wTk (sU (wTk (sU (wTk (sU (wTk (sU (wTk c (T (i + 1 + 1))) 19 h (T (i + 1)).2.2.2) (T (i + 1 + 1 + 1))) 20 h (fnd ((sU (wTk c (T (i + 1 + 1))) 19 h (T (i + 1)).2.2.2).1 7) 5 (T (i + 1 + 1)).2.2.2 f 0)) (T (i + 1 + 1 + 1 + 1))) 21 h (fnd ((sU (wTk (sU (wTk c (T (i + 1 + 1))) 19 h (T (i + 1)).2.2.2) (T (i + 1 + 1 + 1))) 20 h (fnd ((sU (wTk c (T (i + 1 + 1))) 19 h (T (i + 1)).2.2.2).1 7) 5 (T (i + 1 + 1)).2.2.2 f 0)).1 15) 3 (T (i + 1 + 1 + 1)).2.2.2 m 0)) (T (i + 1 + 1 + 1 + 1 + 1))) 22 h (T (i + 1 + 1 + 1 + 1)).2.2.2) (T (i + 1 + 1 + 1 + 1 + 1 + 1))) 23 h (T (i + 1 + 1 + 1 + 1 + 1)).2.2.2) J → k2_X12_houseLine c (nI (10 + h)) J := fun J w => re4 J (numeral_s hr4 n1 (wr_u' (j := 23) (show 10 + h < 20 by omega) (by omega) w))
            refine takeNumber_ok r6 (by decide) (by decide) (fun n2 R7 r7 _ v2 => ?_) fun n2 R7 f7 => ?_
            · rw [if_pos (by decide), wrF_eq, v2]
              obtain ⟨k2, ka2, kb2, ke2⟩ := nf_n (a := 1) (b := 9) (by omega) (by omega) n2
              have hr6 : RDr M (sU (wTk (sU (wTk (sU (wTk (sU (wTk (sU (wTk (sU (wTk c (T (i + 1 + 1))) 19 h (T (i + 1)).2.2.2) (T (i + 1 + 1 + 1))) 20 h (fnd ((sU (wTk c (T (i + 1 + 1))) 19 h (T (i + 1)).2.2.2).1 7) 5 (T (i + 1 + 1)).2.2.2 f 0)) (T (i + 1 + 1 + 1 + 1))) 21 h (fnd ((sU (wTk (sU (wTk c (T (i + 1 + 1))) 19 h (T (i + 1)).2.2.2) (T (i + 1 + 1 + 1))) 20 h (fnd ((sU (wTk c (T (i + 1 + 1))) 19 h (T (i + 1)).2.2.2).1 7) 5 (T (i + 1 + 1)).2.2.2 f 0)).1 15) 3 (T (i + 1 + 1 + 1)).2.2.2 m 0)) (T (i + 1 + 1 + 1 + 1 + 1))) 22 h (T (i + 1 + 1 + 1 + 1)).2.2.2) (T (i + 1 + 1 + 1 + 1 + 1 + 1))) 23 h (T (i + 1 + 1 + 1 + 1 + 1)).2.2.2) (T (i + 1 + 1 + 1 + 1 + 1 + 1 + 1))) 24 h (T (i + 1 + 1 + 1 + 1 + 1 + 1)).2.2.2) T n (i + 1 + 1 + 1 + 1 + 1 + 1 + 1) := hr5.tk.u (by omega)
              have hx6 : HX P (sI (sI (sI (sI (sI (bgH P h (T (i + 1)).2.2.2) (33 + h) 1 (fnd ((sU (wTk c (T (i + 1 + 1))) 19 h (T (i + 1)).2.2.2).1 7) 5 (T (i + 1 + 1)).2.2.2 f 0)) (33 + h) 2 (fnd ((sU (wTk (sU (wTk c (T (i + 1 + 1))) 19 h (T (i + 1)).2.2.2) (T (i + 1 + 1 + 1))) 20 h (fnd ((sU (wTk c (T (i + 1 + 1))) 19 h (T (i + 1)).2.2.2).1 7) 5 (T (i + 1 + 1)).2.2.2 f 0)).1 15) 3 (T (i + 1 + 1 + 1)).2.2.2 m 0)) (33 + h) 3 (T (i + 1 + 1 + 1 + 1)).2.2.2) (33 + h) 4 (T (i + 1 + 1 + 1 + 1 + 1)).2.2.2) (33 + h) 5 (T (i + 1 + 1 + 1 + 1 + 1 + 1)).2.2.2) h := hx5.s
              have vx6 : VX c (sU (wTk (sU (wTk (sU (wTk (sU (wTk (sU (wTk (sU (wTk c (T (i + 1 + 1))) 19 h (T (i + 1)).2.2.2) (T (i + 1 + 1 + 1))) 20 h (fnd ((sU (wTk c (T (i + 1 + 1))) 19 h (T (i + 1)).2.2.2).1 7) 5 (T (i + 1 + 1)).2.2.2 f 0)) (T (i + 1 + 1 + 1 + 1))) 21 h (fnd ((sU (wTk (sU (wTk c (T (i + 1 + 1))) 19 h (T (i + 1)).2.2.2) (T (i + 1 + 1 + 1))) 20 h (fnd ((sU (wTk c (T (i + 1 + 1))) 19 h (T (i + 1)).2.2.2).1 7) 5 (T (i + 1 + 1)).2.2.2 f 0)).1 15) 3 (T (i + 1 + 1 + 1)).2.2.2 m 0)) (T (i + 1 + 1 + 1 + 1 + 1))) 22 h (T (i + 1 + 1 + 1 + 1)).2.2.2) (T (i + 1 + 1 + 1 + 1 + 1 + 1))) 23 h (T (i + 1 + 1 + 1 + 1 + 1)).2.2.2) (T (i + 1 + 1 + 1 + 1 + 1 + 1 + 1))) 24 h (T (i + 1 + 1 + 1 + 1 + 1 + 1)).2.2.2) h := vx5.st (by omega)
              have zz6 : (sU (wTk (sU (wTk (sU (wTk (sU (wTk (sU (wTk (sU (wTk c (T (i + 1 + 1))) 19 h (T (i + 1)).2.2.2) (T (i + 1 + 1 + 1))) 20 h (fnd ((sU (wTk c (T (i + 1 + 1))) 19 h (T (i + 1)).2.2.2).1 7) 5 (T (i + 1 + 1)).2.2.2 f 0)) (T (i + 1 + 1 + 1 + 1))) 21 h (fnd ((sU (wTk (sU (wTk c (T (i + 1 + 1))) 19 h (T (i + 1)).2.2.2) (T (i + 1 + 1 + 1))) 20 h (fnd ((sU (wTk c (T (i + 1 + 1))) 19 h (T (i + 1)).2.2.2).1 7) 5 (T (i + 1 + 1)).2.2.2 f 0)).1 15) 3 (T (i + 1 + 1 + 1)).2.2.2 m 0)) (T (i + 1 + 1 + 1 + 1 + 1))) 22 h (T (i + 1 + 1 + 1 + 1)).2.2.2) (T (i + 1 + 1 + 1 + 1 + 1 + 1))) 23 h (T (i + 1 + 1 + 1 + 1 + 1)).2.2.2) (T (i + 1 + 1 + 1 + 1 + 1 + 1 + 1))) 24 h (T (i + 1 + 1 + 1 + 1 + 1 + 1)).2.2.2).1 0 50 = nI h := cnt_u (k := 38) (hp.hv hx6 vx6).1.2.2.2.2.2.2
              have re6 : ∀ J, tl7 (nI (10 + h)) (sU (wTk (sU (wTk (sU (wTk (sU (wTk (sU (wTk (sU (wTk c (T (i + 1 + 1))) 19 h (T (i + 1)).2.2.2) (T (i + 1 + 1 + 1))) 20 h (fnd ((sU (wTk c (T (i + 1 + 1))) 19 h (T (i + 1)).2.2.2).1 7) 5 (T (i + 1 + 1)).2.2.2 f 0)) (T (i + 1 + 1 + 1 + 1))) 21 h (fnd ((sU (wTk (sU (wTk c (T (i + 1 + 1))) 19 h (T (i + 1)).2.2.2) (T (i + 1 + 1 + 1))) 20 h (fnd ((sU (wTk c (T (i + 1 + 1))) 19 h (T (i + 1)).2.2.2).1 7) 5 (T (i + 1 + 1)).2.2.2 f 0)).1 15) 3 (T (i + 1 + 1 + 1)).2.2.2 m 0)) (T (i + 1 + 1 + 1 + 1 + 1))) 22 h (T (i + 1 + 1 + 1 + 1)).2.2.2) (T (i + 1 + 1 + 1 + 1 + 1 + 1))) 23 h (T (i + 1 + 1 + 1 + 1 + 1)).2.2.2) (T (i + 1 + 1 + 1 + 1 + 1 + 1 + 1))) 24 h (T (i + 1 + 1 + 1 + 1 + 1 + 1)).2.2.2) J → k2_X12_houseLine c (nI (10 + h)) J := fun J w => re5 J (numeral_s hr5 n2 (wr_u' (j := 24) (show 10 + h < 20 by omega) (by omega) w))
              rw [if_neg (by decide)]
              have vx7 : VX c (ho5 (sU (wTk (sU (wTk (sU (wTk (sU (wTk (sU (wTk (sU (wTk c (T (i + 1 + 1))) 19 h (T (i + 1)).2.2.2) (T (i + 1 + 1 + 1))) 20 h (fnd ((sU (wTk c (T (i + 1 + 1))) 19 h (T (i + 1)).2.2.2).1 7) 5 (T (i + 1 + 1)).2.2.2 f 0)) (T (i + 1 + 1 + 1 + 1))) 21 h (fnd ((sU (wTk (sU (wTk c (T (i + 1 + 1))) 19 h (T (i + 1)).2.2.2) (T (i + 1 + 1 + 1))) 20 h (fnd ((sU (wTk c (T (i + 1 + 1))) 19 h (T (i + 1)).2.2.2).1 7) 5 (T (i + 1 + 1)).2.2.2 f 0)).1 15) 3 (T (i + 1 + 1 + 1)).2.2.2 m 0)) (T (i + 1 + 1 + 1 + 1 + 1))) 22 h (T (i + 1 + 1 + 1 + 1)).2.2.2) (T (i + 1 + 1 + 1 + 1 + 1 + 1))) 23 h (T (i + 1 + 1 + 1 + 1 + 1)).2.2.2) (T (i + 1 + 1 + 1 + 1 + 1 + 1 + 1))) 24 h (T (i + 1 + 1 + 1 + 1 + 1 + 1)).2.2.2) h) h := fun j k w z => by
                rw [ho5_up (by omega)]
                exact vx6 j k w z
              obtain ⟨u0, u6, u7, u8, u9, u10⟩ := bgH_at (P := P) (h := h) (a := (T (i + 1)).2.2.2)
              have hn : PHou (sI (sI (sI (sI (sI (bgH P h (T (i + 1)).2.2.2) (33 + h) 1 (fnd ((sU (wTk c (T (i + 1 + 1))) 19 h (T (i + 1)).2.2.2).1 7) 5 (T (i + 1 + 1)).2.2.2 f 0)) (33 + h) 2 (fnd ((sU (wTk (sU (wTk c (T (i + 1 + 1))) 19 h (T (i + 1)).2.2.2) (T (i + 1 + 1 + 1))) 20 h (fnd ((sU (wTk c (T (i + 1 + 1))) 19 h (T (i + 1)).2.2.2).1 7) 5 (T (i + 1 + 1)).2.2.2 f 0)).1 15) 3 (T (i + 1 + 1 + 1)).2.2.2 m 0)) (33 + h) 3 (T (i + 1 + 1 + 1 + 1)).2.2.2) (33 + h) 4 (T (i + 1 + 1 + 1 + 1 + 1)).2.2.2) (33 + h) 5 (T (i + 1 + 1 + 1 + 1 + 1 + 1)).2.2.2).1 (uppV (ho5 (sU (wTk (sU (wTk (sU (wTk (sU (wTk (sU (wTk (sU (wTk c (T (i + 1 + 1))) 19 h (T (i + 1)).2.2.2) (T (i + 1 + 1 + 1))) 20 h (fnd ((sU (wTk c (T (i + 1 + 1))) 19 h (T (i + 1)).2.2.2).1 7) 5 (T (i + 1 + 1)).2.2.2 f 0)) (T (i + 1 + 1 + 1 + 1))) 21 h (fnd ((sU (wTk (sU (wTk c (T (i + 1 + 1))) 19 h (T (i + 1)).2.2.2) (T (i + 1 + 1 + 1))) 20 h (fnd ((sU (wTk c (T (i + 1 + 1))) 19 h (T (i + 1)).2.2.2).1 7) 5 (T (i + 1 + 1)).2.2.2 f 0)).1 15) 3 (T (i + 1 + 1 + 1)).2.2.2 m 0)) (T (i + 1 + 1 + 1 + 1 + 1))) 22 h (T (i + 1 + 1 + 1 + 1)).2.2.2) (T (i + 1 + 1 + 1 + 1 + 1 + 1))) 23 h (T (i + 1 + 1 + 1 + 1 + 1)).2.2.2) (T (i + 1 + 1 + 1 + 1 + 1 + 1 + 1))) 24 h (T (i + 1 + 1 + 1 + 1 + 1 + 1)).2.2.2) h)) f m h := by
                refine ⟨?_, ⟨?_, xf, xf1, ?_⟩, ⟨?_, k0, kb0, ?_⟩, ⟨?_, k1, kb1, ?_⟩, ⟨?_, k2, ka2, kb2, ?_⟩, ⟨?_, 0, by omega, ?_⟩, ⟨?_, 10, by omega, ?_⟩, ⟨?_, Or.inl ?_⟩, ⟨?_, 0, by omega, ?_⟩, ⟨?_, 0, by omega, ?_⟩⟩
                · rw [sI_ne (by omega), sI_ne (by omega), sI_ne (by omega), sI_ne (by omega), sI_ne (by omega), u0, ho5_up (by omega), upp_sn (by omega) (by omega), upp_t (by omega), upp_sn (by omega) (by omega), upp_t (by omega), upp_sn (by omega) (by omega), upp_t (by omega), upp_sn (by omega) (by omega), upp_t (by omega), upp_sn (by omega) (by omega), upp_t (by omega), upp_s (by omega)]
                · rw [sI_ne (by omega), sI_ne (by omega), sI_ne (by omega), sI_ne (by omega), sI_same, ho5_up (by omega), upp_sn (by omega) (by omega), upp_t (by omega), upp_sn (by omega) (by omega), upp_t (by omega), upp_sn (by omega) (by omega), upp_t (by omega), upp_sn (by omega) (by omega), upp_t (by omega), upp_s (by omega)]
                · rw [ho5_up (by omega), upp_sn (by omega) (by omega), upp_t (by omega), upp_sn (by omega) (by omega), upp_t (by omega), upp_sn (by omega) (by omega), upp_t (by omega), upp_sn (by omega) (by omega), upp_t (by omega), upp_s (by omega)]
                  exact xf2
                · rw [sI_ne (by omega), sI_ne (by omega), sI_same, ho5_up (by omega), upp_sn (by omega) (by omega), upp_t (by omega), upp_sn (by omega) (by omega), upp_t (by omega), upp_s (by omega)]
                · rw [ho5_up (by omega), upp_sn (by omega) (by omega), upp_t (by omega), upp_sn (by omega) (by omega), upp_t (by omega), upp_s (by omega)]
                  exact ke0
                · rw [sI_ne (by omega), sI_same, ho5_up (by omega), upp_sn (by omega) (by omega), upp_t (by omega), upp_s (by omega)]
                · rw [ho5_up (by omega), upp_sn (by omega) (by omega), upp_t (by omega), upp_s (by omega)]
                  exact ke1
                · rw [sI_same, ho5_up (by omega), upp_s (by omega)]
                · rw [ho5_up (by omega), upp_s (by omega)]
                  exact ke2
                · unfold ho5
                  rw [sI_ne (by omega), sI_ne (by omega), sI_ne (by omega), sI_ne (by omega), sI_ne (by omega), u6, upp_sn (by omega) (by omega), upp_sn (by omega) (by omega), upp_sn (by omega) (by omega), upp_sn (by omega) (by omega), upp_s (by omega)]
                · unfold ho5
                  rw [upp_sn (by omega) (by omega), upp_sn (by omega) (by omega), upp_sn (by omega) (by omega), upp_sn (by omega) (by omega), upp_s (by omega)]
                  rfl
                · unfold ho5
                  rw [sI_ne (by omega), sI_ne (by omega), sI_ne (by omega), sI_ne (by omega), sI_ne (by omega), u7, upp_sn (by omega) (by omega), upp_sn (by omega) (by omega), upp_sn (by omega) (by omega), upp_s (by omega)]
                · unfold ho5
                  rw [upp_sn (by omega) (by omega), upp_sn (by omega) (by omega), upp_sn (by omega) (by omega), upp_s (by omega)]
                  rfl
                · unfold ho5
                  rw [sI_ne (by omega), sI_ne (by omega), sI_ne (by omega), sI_ne (by omega), sI_ne (by omega), u8, upp_sn (by omega) (by omega), upp_sn (by omega) (by omega), upp_s (by omega)]
                · unfold ho5
                  rw [upp_sn (by omega) (by omega), upp_sn (by omega) (by omega), upp_s (by omega)]
                · unfold ho5
                  rw [sI_ne (by omega), sI_ne (by omega), sI_ne (by omega), sI_ne (by omega), sI_ne (by omega), u9, upp_sn (by omega) (by omega), upp_s (by omega)]
                · unfold ho5
                  rw [upp_sn (by omega) (by omega), upp_s (by omega)]
                  rfl
                · unfold ho5
                  rw [sI_ne (by omega), sI_ne (by omega), sI_ne (by omega), sI_ne (by omega), sI_ne (by omega), u10, upp_s (by omega)]
                · unfold ho5
                  rw [upp_s (by omega)]
                  rfl
              refine parts_ok (l := l) (q := q) (f := f) (m := m) r7 (ho5_rd hr6) hh (hp.hv hx6 vx7) hn (by rw [sI_ne (by omega), sI_ne (by omega), sI_ne (by omega), sI_ne (by omega), sI_ne (by omega), u8]) (fun P' R' c' i' a1 a2 a3 a4 a5 a6 a7 a8 => ?_) fun P' R' c' k p a1 a2 a3 a4 => ?_
              · rw [if_pos (by decide), a4.1.2.1.2.2.2.2, inc_n]
                refine hS _ _ (sI c' 0 50 (nI (h + 1))) i' (by omega) a2 (a3.s (nrv_0 (by omega)) (by omega)) ?_ ⟨xm, xm1, ?_, ?_⟩ ?_ ?_ fun J hJ => re6 J (tl7_w hh (a8 J hJ))
                · refine a4.hou hh (fun j k z => sI_ne (by omega)) (fun j k w z => upp_f (by omega)) sI_same (upp_fs rfl) ?_
                  exact (a5.p fun k => sI_ne (by omega)).mv fun j h1 h2 => upp_f (by omega)
                · rw [sI_ne (by omega), a6 (33 + h) 2 (by omega), sI_ne (by omega), sI_ne (by omega), sI_ne (by omega), sI_same]
                  exact xm2
                · rw [upp_f (by omega), uppV_u (by omega), a7 21 _ (by omega), ← uppV_u (by omega), ho5_up (by omega), upp_sn (by omega) (by omega), upp_t (by omega), upp_sn (by omega) (by omega), upp_t (by omega), upp_sn (by omega) (by omega), upp_t (by omega), upp_s (by omega)]
                  exact xm2
                · intro j k hk
                  rw [sI_ne (by omega), a6 j k (by omega), hx6 j k (by omega)]
                · intro j k hk
                  rw [sI_ne (by omega), a7 j k (by omega), ho5_ne (by omega)]
                  rcases hk with ⟨rfl, hk⟩ | ⟨rfl, hk⟩
                  · rw [sU_ne (by omega), wTk_ne (by omega), sU_ne (by omega), wTk_ne (by omega), sU_ne (by omega), wTk_ne (by omega), sU_ne (by omega), wTk_ne (by omega), sU_ne (by omega), wTk_ne (by omega), sU_ne (by omega), wTk_ne (by omega)]
                  · rw [sU_ne (by omega), wTk_ne (by omega), sU_ne (by omega), wTk_ne (by omega), sU_ne (by omega), wTk_ne (by omega)]
                    refine (sI_ne (fun y => hk y.2)).trans ?_
                    rw [wTk_ne (by omega), sU_ne (by omega), wTk_ne (by omega), sU_ne (by omega), wTk_ne (by omega)]
              · rw [if_neg fun y => y rfl]
                exact hF P' R' c' k p a1 a2 a3 fun J hJ => re6 J (tl7_w hh (a4 J hJ))
            · rw [if_neg fun y => y rfl]
              dsimp only
              rw [if_pos rfl]
              obtain ⟨c', a, b'⟩ := tl7_x (c := sU (flt (sU (wTk (sU (wTk (sU (wTk (sU (wTk (sU (wTk c (T (i + 1 + 1))) 19 h (T (i + 1)).2.2.2) (T (i + 1 + 1 + 1))) 20 h (fnd ((sU (wTk c (T (i + 1 + 1))) 19 h (T (i + 1)).2.2.2).1 7) 5 (T (i + 1 + 1)).2.2.2 f 0)) (T (i + 1 + 1 + 1 + 1))) 21 h (fnd ((sU (wTk (sU (wTk c (T (i + 1 + 1))) 19 h (T (i + 1)).2.2.2) (T (i + 1 + 1 + 1))) 20 h (fnd ((sU (wTk c (T (i + 1 + 1))) 19 h (T (i + 1)).2.2.2).1 7) 5 (T (i + 1 + 1)).2.2.2 f 0)).1 15) 3 (T (i + 1 + 1 + 1)).2.2.2 m 0)) (T (i + 1 + 1 + 1 + 1 + 1))) 22 h (T (i + 1 + 1 + 1 + 1)).2.2.2) (T (i + 1 + 1 + 1 + 1 + 1 + 1))) 23 h (T (i + 1 + 1 + 1 + 1 + 1)).2.2.2) (nf (T (i + 1 + 1 + 1 + 1 + 1 + 1)) 1 9)) 24 h 1) hh (hr5.fl.u (by omega)) n2 (by rw [sU_ne (by omega), flt_ne (by omega)]; exact zz5)
              exact hF _ _ c' _ _ n2 f7 a fun J hJ => re5 J (numeral_f hr5 n2 (wr_u' (j := 24) (show 10 + h < 20 by omega) (by omega) (b' J hJ)))
          · rw [if_neg fun y => y rfl]
            dsimp only
            rw [if_pos rfl]
            obtain ⟨c', a, b'⟩ := tl6_x (c := sU (flt (sU (wTk (sU (wTk (sU (wTk (sU (wTk c (T (i + 1 + 1))) 19 h (T (i + 1)).2.2.2) (T (i + 1 + 1 + 1))) 20 h (fnd ((sU (wTk c (T (i + 1 + 1))) 19 h (T (i + 1)).2.2.2).1 7) 5 (T (i + 1 + 1)).2.2.2 f 0)) (T (i + 1 + 1 + 1 + 1))) 21 h (fnd ((sU (wTk (sU (wTk c (T (i + 1 + 1))) 19 h (T (i + 1)).2.2.2) (T (i + 1 + 1 + 1))) 20 h (fnd ((sU (wTk c (T (i + 1 + 1))) 19 h (T (i + 1)).2.2.2).1 7) 5 (T (i + 1 + 1)).2.2.2 f 0)).1 15) 3 (T (i + 1 + 1 + 1)).2.2.2 m 0)) (T (i + 1 + 1 + 1 + 1 + 1))) 22 h (T (i + 1 + 1 + 1 + 1)).2.2.2) (nf (T (i + 1 + 1 + 1 + 1 + 1)) 0 99)) 23 h 0) hh (hr4.fl.u (by omega)) n1 (by rw [sU_ne (by omega), flt_ne (by omega)]; exact zz4)
            exact hF _ _ c' _ _ n1 f6 a fun J hJ => re4 J (numeral_f hr4 n1 (wr_u' (j := 23) (show 10 + h < 20 by omega) (by omega) (b' J hJ)))
        · rw [if_neg fun y => y rfl]
          dsimp only
          rw [if_pos rfl]
          obtain ⟨c', a, b'⟩ := tl5_x (c := sU (flt (sU (wTk (sU (wTk (sU (wTk c (T (i + 1 + 1))) 19 h (T (i + 1)).2.2.2) (T (i + 1 + 1 + 1))) 20 h (fnd ((sU (wTk c (T (i + 1 + 1))) 19 h (T (i + 1)).2.2.2).1 7) 5 (T (i + 1 + 1)).2.2.2 f 0)) (T (i + 1 + 1 + 1 + 1))) 21 h (fnd ((sU (wTk (sU (wTk c (T (i + 1 + 1))) 19 h (T (i + 1)).2.2.2) (T (i + 1 + 1 + 1))) 20 h (fnd ((sU (wTk c (T (i + 1 + 1))) 19 h (T (i + 1)).2.2.2).1 7) 5 (T (i + 1 + 1)).2.2.2 f 0)).1 15) 3 (T (i + 1 + 1 + 1)).2.2.2 m 0)) (nf (T (i + 1 + 1 + 1 + 1)) 0 9)) 22 h 0) hh (hr3.fl.u (by omega)) n0 (by rw [sU_ne (by omega), flt_ne (by omega)]; exact z50)
          exact hF _ _ c' _ _ n0 f5 a fun J hJ => re3 J (numeral_f hr3 n0 (wr_u' (j := 22) (show 10 + h < 20 by omega) (by omega) (b' J hJ)))
      · rw [if_neg fun y => y rfl]
        have x' : fa (T (i + 1 + 1 + 1)) (fnd ((sU (wTk (sU (wTk c (T (i + 1 + 1))) 19 h (T (i + 1)).2.2.2) (T (i + 1 + 1 + 1))) 20 h (fnd ((sU (wTk c (T (i + 1 + 1))) 19 h (T (i + 1)).2.2.2).1 7) 5 (T (i + 1 + 1)).2.2.2 f 0)).1 15) 3 (T (i + 1 + 1 + 1)).2.2.2 m 0) ≠ 0 := fun u => x (eb.trans u)
        rw [eb] at f4
        obtain ⟨c', a, b'⟩ := tl4_x (c := sU (flt (sU (wTk (sU (wTk c (T (i + 1 + 1))) 19 h (T (i + 1)).2.2.2) (T (i + 1 + 1 + 1))) 20 h (fnd ((sU (wTk c (T (i + 1 + 1))) 19 h (T (i + 1)).2.2.2).1 7) 5 (T (i + 1 + 1)).2.2.2 f 0)) (fa (T (i + 1 + 1 + 1)) (fnd ((sU (wTk (sU (wTk c (T (i + 1 + 1))) 19 h (T (i + 1)).2.2.2) (T (i + 1 + 1 + 1))) 20 h (fnd ((sU (wTk c (T (i + 1 + 1))) 19 h (T (i + 1)).2.2.2).1 7) 5 (T (i + 1 + 1)).2.2.2 f 0)).1 15) 3 (T (i + 1 + 1 + 1)).2.2.2 m 0))) 21 h 0) hh (hr2.fl.u (by omega)) x' (by rw [sU_ne (by omega), flt_ne (by omega)]; exact y50)
        refine hF _ _ c' _ _ x' f4 a fun J hJ => re2 J ?_
        unfold tl3
        rw [y49]
        refine ahead_f (fr := 3) (by omega) (by omega) hr2 x' ?_
        exact wr_u' (j := 21) (show 10 + h < 20 by omega) (by omega) (b' J hJ)
    · rw [if_neg fun y => y rfl]
      have y' : fa (T (i + 1 + 1)) (fnd ((sU (wTk c (T (i + 1 + 1))) 19 h (T (i + 1)).2.2.2).1 7) 5 (T (i + 1 + 1)).2.2.2 f 0) ≠ 0 := fun u => y (ea.trans u)
      rw [ea] at f3
      obtain ⟨c', a, b'⟩ := tl3_x (c := sU (flt (sU (wTk c (T (i + 1 + 1))) 19 h (T (i + 1)).2.2.2) (fa (T (i + 1 + 1)) (fnd ((sU (wTk c (T (i + 1 + 1))) 19 h (T (i + 1)).2.2.2).1 7) 5 (T (i + 1 + 1)).2.2.2 f 0))) 20 h 0) hh (hr1.fl.u (by omega)) y' (by rw [sU_ne (by omega), flt_ne (by omega)]; exact x50)
      refine hF _ _ c' _ _ y' f3 a fun J hJ => re1 J ?_
      unfold tl2
      rw [x48]
      refine ahead_f (fr := 5) (by omega) (by omega) hr1 y' ?_
      exact wr_u' (j := 20) (show 10 + h < 20 by omega) (by omega) (b' J hJ)
  · rw [if_neg fun y => y rfl]
    have z' : ff (T (i + 1)) (fnd (c.1 19) 10 (T (i + 1)).2.2.2 h 0) ≠ 0 := fun u => z (ef.trans u)
    rw [ef] at f2
    obtain ⟨c', a, b'⟩ := tl2_x (c := sU (flt c (ff (T (i + 1)) (fnd (c.1 19) 10 (T (i + 1)).2.2.2 h 0))) 19 h 0) hh (hr.fl.u (by omega)) z' (by rw [sU_ne (by omega), flt_ne (by omega)]; exact h50)
    refine hF _ _ c' _ _ z' f2 a fun J hJ => ?_
    rw [houseL_tl, h50]
    refine fresh_f (fr := 10) (by omega) (by omega) hr z' ?_
    exact wr_u' (j := 19) (show 10 + h < 20 by omega) (by omega) (b' J hJ)
end House3
