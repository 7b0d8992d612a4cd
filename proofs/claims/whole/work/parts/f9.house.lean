/-! ===== reading: the whole line of a house (tools/gen14.py) ===== -/
section House
variable {P R c M : CT} {T : Nat → T4} {K n i l q f m h t : Nat} {Q : Int32 → CT → CT → Prop}
def tb (t x : Nat) : Int32 := if t.testBit x = true then 1 else 0
theorem tb_s {v : Nat} : tb (t ||| 2 ^ v) v = 1 := by
  unfold tb
  rw [Nat.testBit_or, Nat.testBit_two_pow_self, Bool.or_true, if_pos rfl]
theorem tb_n {v x : Nat} (e : v ≠ x) : tb (t ||| 2 ^ v) x = tb t x := by
  unfold tb
  rw [Nat.testBit_or, Nat.testBit_two_pow_of_ne e, Bool.or_false]
theorem tb_1 {x : Nat} (e : t.testBit x = true) : tb t x = 1 := if_pos e
theorem tb_0 {x : Nat} (e : t.testBit x = false) : tb t x = 0 := by
  unfold tb
  rw [e]
  exact if_neg (by decide)
theorem tb_z {x : Nat} : tb 0 x = 0 := tb_0 (Nat.zero_testBit x)
theorem t17 {v : Nat} (ht : t < 2 ^ 17) (hv : v < 17) : t ||| 2 ^ v < 2 ^ 17 := Nat.or_lt_two_pow ht (Nat.pow_lt_pow_right (by decide) hv)
theorem parts_ok (hc : RDc R T K n i) (hr : RDr M c T n i) (hh : h < 10) (hp : PRel P.1 (uppV c) l q f m h) (hn : PHou P.1 (uppV c) f m h) (p8 : P.1 (33 + h) 8 = 0) (hS : ∀ P' R' c' i', i ≤ i' → RDc R' T K n i' → RDr M c' T n i' → PRel P'.1 (uppV c') l q f m h → PHou P'.1 (uppV c') f m h → KPc P P' → KPr c c' → (∀ J, J (sI c' 0 50 (nI (h + 1))) → rHlp (nI (10 + h)) J (0 : Int32) c) → Q 1 P' R') (hF : ∀ P' R' c' k p, k ≠ 0 → FLc R' k p → FLr M c' k p → (∀ J, J c' → rHlp (nI (10 + h)) J (0 : Int32) c) → Q 0 P' R') : k_X7_readHouseParts P R h Q := by
  unfold k_X7_readHouseParts
  refine LP5.ind (fun v11 v12 v13 P' R' => ∃ (b i' : Nat) (c' : CT) (t : Nat), v13 = nI b ∧ b ≤ i' ∧ i ≤ i' ∧ t < 2 ^ 17 ∧ v11 = tb t 13 ∧ v12 = tb t 15 ∧ P'.1 (33 + h) 8 = tb t 14 ∧ RDc R' T K n i' ∧ RDr M c' T n i' ∧ PRel P'.1 (uppV c') l q f m h ∧ PHou P'.1 (uppV c') f m h ∧ KPc P P' ∧ KPr c c' ∧ ∀ J, rHlp (nI (10 + h)) J (nI t) c' → rHlp (nI (10 + h)) J (0 : Int32) c) (fun _ _ _ _ R' => K + 1 - (R'.1 0 7).toNatClampNeg) ?_ ⟨0, i, c, 0, rfl, by omega, Nat.le_refl _, by omega, tb_z.symm, tb_z.symm, p8.trans tb_z.symm, hc, hr, hp, hn, fun _ _ _ => rfl, fun _ _ _ => rfl, fun _ w => w⟩
  rintro S v11 v12 v13 P1 R1 ⟨b, i1, c1, t, rfl, hb, hi1, ht, rfl, rfl, h8, rc, rr, rp, rn, kc, kr, re⟩ ih
  have shp := rc.1.2.2.2.2.2.2.2 i1
  have k8 := rc.2.2.2.1
  have iK := rc.2.1
  have Kn := rc.1.2.2.1
  have n9 := rc.1.2.2.2.1
  have h50 : c1.1 0 50 = nI h := cnt_u (k := 38) rp.1.2.2.2.2.2.2
  rw [rc.1.2.1, if_neg (by rw [nI_lt' (by omega) (by omega)]; omega)]
  simp only [jn_eq]
  rw [k8, inc_n]
  have next : ∀ (v a11 a12 : Int32) (tt : Nat) P' R' c' i', i1 < i' → tt < 2 ^ 17 → a11 = tb tt 13 → a12 = tb tt 15 → P'.1 (33 + h) 8 = tb tt 14 → RDc R' T K n i' → RDr M c' T n i' → PRel P'.1 (uppV c') l q f m h → PHou P'.1 (uppV c') f m h → KPc P1 P' → KPr c1 c' → (∀ J, rHlp (nI (10 + h)) J (nI tt) c' → rHlp (nI (10 + h)) J (nI t) c1) → S a11 a12 (nI (b + 1)) P' R' := fun v a11 a12 tt P' R' c' i' hlt q1 q2 q3 q4 rc' rr' rp' rn' kc' kr' re' => by
    have := rc'.2.1
    refine ih _ _ _ _ _ ⟨b + 1, i', c', tt, rfl, by omega, by omega, q1, q2, q3, q4, rc', rr', rp', rn', kc.trans kc', kr.trans kr', fun J w => re J (re' J w)⟩ ?_
    rw [rc'.2.2.1, rc.2.2.1, nI_clamp (by omega), nI_clamp (by omega)]
    omega
  have bad : ∀ P' R' c' k p, k ≠ 0 → FLc R' k p → FLr M c' k p → (∀ J, J c' → rHlp (nI (10 + h)) J (nI t) c1) → Q 0 P' R' := fun P' R' c' k p a1 a2 a3 a4 => hF P' R' c' k p a1 a2 a3 fun J hJ => re J (a4 J hJ)
  by_cases e22 : KT (T i1) = 22
  · have hw := e22
    rw [KT_w22 shp] at hw
    have lt := rc.lt (by rw [hw.1]; decide)
    rw [e22]
    rw [if_neg (fun y => y rfl)]
    by_cases told : t.testBit 13 = true
    · rw [if_pos (by rw [tb_1 told]; decide)]
      refine fail_ok rc fun R2 f2 => ?_
      rw [rZ_0]
      have fx : FLr M (sU (flt c1 3) 26 h 0) 3 (T i1).2.1 := rr.fl.u (by omega)
      refine bad _ _ (sI (sU (flt c1 3) 26 h 0) 0 50 (nI (h + 1))) _ _ (by decide) f2 (fx.s (nrv_0 (by omega)) (by omega)) fun J hJ => ?_
      exact rHlp_go (v' := nI (t ||| 2 ^ 13)) (c' := sU (flt c1 3) 26 h 0) (fun S hs => hDup13 hh rr hw ht told hs) (rHlp_x fx (by decide) (by rw [sU_ne (by omega), flt_ne (by omega)]; exact h50) hJ)
    · have told := Bool.eq_false_iff.mpr told
      rw [if_neg (by rw [tb_0 told]; exact fun y => y rfl)]
      rw [if_pos (by decide), if_pos (by decide), if_neg (by decide), if_neg (by decide), if_neg (by decide), if_neg (by decide), if_pos rfl]
      refine adv_ok rc lt fun R2 r2 _ _ => ?_
      have d50 : (wTk c1 (T (i1 + 1))).1 0 50 = nI h := by
        rw [wTk_ne (by omega)]
        exact h50
      refine takeNumber_ok r2 (by decide) (by decide) (fun y R3 r3 _ v1 => ?_) fun y R3 f3 => ?_
      · rw [wrF_eq, v1, if_pos (by decide)]
        obtain ⟨x, -, xb, xe⟩ := nf_n (a := 0) (b := 999) (by omega) (by omega) y
        refine next 0 _ _ (t ||| 2 ^ 13) _ _ (sU (wTk (wTk c1 (T (i1 + 1))) (T (i1 + 1 + 1))) 26 h (T (i1 + 1)).2.2.2) (i1 + 1 + 1) (by omega) (t17 ht (by omega)) tb_s.symm (tb_n (by omega)).symm ?_ r3 (rr.tk.tk.u (by omega)) ?_ ?_ ?_ ?_ fun J => rHlp_go fun S hs => ?_
        · rw [sI_ne (by omega), tb_n (by omega)]
          exact h8
        · refine rp.hox (fun j k z => sI_ne (by omega)) fun j k w z => ?_
          have w' : j = 0 → k ≤ 45 := by
            unfold VWR at w
            omega
          rw [upp_sn (by omega) (by omega), upp_t w', upp_t w']
        · refine rn.s26 (fun k hk => sI_ne (by omega)) (fun j h1 h2 h3 => ?_) ⟨?_, x, by omega, ?_⟩
          · rw [upp_sn (by omega) (by omega), upp_t (by omega), upp_t (by omega)]
          · rw [sI_same, upp_s (by omega)]
          · rw [upp_s (by omega)]
            exact xe
        · exact fun j k hk => sI_ne (by omega)
        · intro j k hk
          rw [sU_ne (by omega), wTk_ne (by omega), wTk_ne (by omega)]
        · refine hGo13 rr hw ht told (numeral_s rr.tk y ?_)
          exact wr_u' (j := 26) (show 10 + h < 20 by omega) (by omega) hs
      · rw [wrF_eq, if_neg fun y => y rfl]
        have fx : FLr M (sU (flt (wTk c1 (T (i1 + 1))) (nf (T (i1 + 1)) 0 999)) 26 h 0) (nf (T (i1 + 1)) 0 999) (T (i1 + 1)).2.1 := rr.tk.fl.u (by omega)
        refine bad _ _ (sI (sU (flt (wTk c1 (T (i1 + 1))) (nf (T (i1 + 1)) 0 999)) 26 h 0) 0 50 (nI (h + 1))) _ _ y f3 (fx.s (nrv_0 (by omega)) (by omega)) fun J hJ => ?_
        refine rHlp_go (v' := nI (t ||| 2 ^ 13)) (c' := sU (flt (wTk c1 (T (i1 + 1))) (nf (T (i1 + 1)) 0 999)) 26 h 0) (fun S hs => ?_) (rHlp_x fx y (by rw [sU_ne (by omega), flt_ne (by omega)]; exact d50) hJ)
        refine hGo13 rr hw ht told (numeral_f rr.tk y ?_)
        exact wr_u' (j := 26) (show 10 + h < 20 by omega) (by omega) hs
  by_cases e13 : KT (T i1) = 13
  · have hw := e13
    rw [KT_w13 shp] at hw
    have lt := rc.lt (by rw [hw.1]; decide)
    rw [e13]
    rw [if_pos (by decide), if_neg (fun y => y rfl)]
    by_cases told : t.testBit 15 = true
    · rw [if_pos (by rw [tb_1 told]; decide)]
      refine fail_ok rc fun R2 f2 => ?_
      rw [rZ_0]
      have fx : FLr M (sU (flt c1 3) 28 h 0) 3 (T i1).2.1 := rr.fl.u (by omega)
      refine bad _ _ (sI (sU (flt c1 3) 28 h 0) 0 50 (nI (h + 1))) _ _ (by decide) f2 (fx.s (nrv_0 (by omega)) (by omega)) fun J hJ => ?_
      exact rHlp_go (v' := nI (t ||| 2 ^ 15)) (c' := sU (flt c1 3) 28 h 0) (fun S hs => hDup15 hh rr hw ht told hs) (rHlp_x fx (by decide) (by rw [sU_ne (by omega), flt_ne (by omega)]; exact h50) hJ)
    · have told := Bool.eq_false_iff.mpr told
      rw [if_neg (by rw [tb_0 told]; exact fun y => y rfl)]
      rw [if_pos (by decide), if_neg (by decide), if_pos rfl]
      refine adv_ok rc lt fun R2 r2 _ _ => ?_
      have d50 : (wTk c1 (T (i1 + 1))).1 0 50 = nI h := by
        rw [wTk_ne (by omega)]
        exact h50
      refine takeNumber_ok r2 (by decide) (by decide) (fun y R3 r3 _ v1 => ?_) fun y R3 f3 => ?_
      · rw [wrF_eq, v1, if_pos (by decide)]
        obtain ⟨x, -, xb, xe⟩ := nf_n (a := 0) (b := 199) (by omega) (by omega) y
        refine next 0 _ _ (t ||| 2 ^ 15) _ _ (sU (wTk (wTk c1 (T (i1 + 1))) (T (i1 + 1 + 1))) 28 h (T (i1 + 1)).2.2.2) (i1 + 1 + 1) (by omega) (t17 ht (by omega)) (tb_n (by omega)).symm tb_s.symm ?_ r3 (rr.tk.tk.u (by omega)) ?_ ?_ ?_ ?_ fun J => rHlp_go fun S hs => ?_
        · rw [sI_ne (by omega), tb_n (by omega)]
          exact h8
        · refine rp.hox (fun j k z => sI_ne (by omega)) fun j k w z => ?_
          have w' : j = 0 → k ≤ 45 := by
            unfold VWR at w
            omega
          rw [upp_sn (by omega) (by omega), upp_t w', upp_t w']
        · refine rn.s28 (fun k hk => sI_ne (by omega)) (fun j h1 h2 h3 => ?_) ⟨?_, x, by omega, ?_⟩
          · rw [upp_sn (by omega) (by omega), upp_t (by omega), upp_t (by omega)]
          · rw [sI_same, upp_s (by omega)]
          · rw [upp_s (by omega)]
            exact xe
        · exact fun j k hk => sI_ne (by omega)
        · intro j k hk
          rw [sU_ne (by omega), wTk_ne (by omega), wTk_ne (by omega)]
        · refine hGo15 rr hw ht told (numeral_s rr.tk y ?_)
          exact wr_u' (j := 28) (show 10 + h < 20 by omega) (by omega) hs
      · rw [wrF_eq, if_neg fun y => y rfl]
        have fx : FLr M (sU (flt (wTk c1 (T (i1 + 1))) (nf (T (i1 + 1)) 0 199)) 28 h 0) (nf (T (i1 + 1)) 0 199) (T (i1 + 1)).2.1 := rr.tk.fl.u (by omega)
        refine bad _ _ (sI (sU (flt (wTk c1 (T (i1 + 1))) (nf (T (i1 + 1)) 0 199)) 28 h 0) 0 50 (nI (h + 1))) _ _ y f3 (fx.s (nrv_0 (by omega)) (by omega)) fun J hJ => ?_
        refine rHlp_go (v' := nI (t ||| 2 ^ 15)) (c' := sU (flt (wTk c1 (T (i1 + 1))) (nf (T (i1 + 1)) 0 199)) 28 h 0) (fun S hs => ?_) (rHlp_x fx y (by rw [sU_ne (by omega), flt_ne (by omega)]; exact d50) hJ)
        refine hGo15 rr hw ht told (numeral_f rr.tk y ?_)
        exact wr_u' (j := 28) (show 10 + h < 20 by omega) (by omega) hs
  by_cases e12 : KT (T i1) = 12
  · have hw := e12
    rw [KT_w12 shp] at hw
    have lt := rc.lt (by rw [hw.1]; decide)
    rw [e12, if_pos (by decide), if_pos (by decide), if_neg (fun y => y rfl), h8]
    by_cases told : t.testBit 14 = true
    · rw [if_neg (by rw [tb_1 told]; decide)]
      refine fail_ok rc fun R2 f2 => ?_
      rw [rZ_0]
      have fx : FLr M (sU (flt c1 3) 27 h 1) 3 (T i1).2.1 := rr.fl.u (by omega)
      refine bad _ _ (sI (sU (flt c1 3) 27 h 1) 0 50 (nI (h + 1))) _ _ (by decide) f2 (fx.s (nrv_0 (by omega)) (by omega)) fun J hJ => ?_
      exact rHlp_go (v' := nI (t ||| 2 ^ 14)) (c' := sU (flt c1 3) 27 h 1) (fun S hs => hDup14 hh rr hw ht told hs) (rHlp_x fx (by decide) (by rw [sU_ne (by omega), flt_ne (by omega)]; exact h50) hJ)
    · have told := Bool.eq_false_iff.mpr told
      rw [if_pos (tb_0 told), if_pos rfl]
      refine adv_ok rc lt fun R2 r2 _ _ => ?_
      rw [wrF_eq, if_pos (by decide)]
      refine next 0 _ _ (t ||| 2 ^ 14) _ _ (sU (wTk c1 (T (i1 + 1))) 27 h 1) (i1 + 1) (by omega) (t17 ht (by omega)) (tb_n (by omega)).symm (tb_n (by omega)).symm ?_ r2 (rr.tk.u (by omega)) ?_ ?_ ?_ ?_ fun J => rHlp_go fun S hs => ?_
      · rw [sI_same, tb_s]
      · refine rp.hox (fun j k z => sI_ne (by omega)) fun j k w z => ?_
        have w' : j = 0 → k ≤ 45 := by
          unfold VWR at w
          omega
        rw [upp_sn (by omega) (by omega), upp_t w']
      · refine rn.s27 (fun k hk => sI_ne (by omega)) (fun j h1 h2 h3 => ?_) ⟨?_, Or.inr ?_⟩
        · rw [upp_sn (by omega) (by omega), upp_t (by omega)]
        · rw [sI_same, upp_s (by omega)]
        · exact upp_s (by omega)
      · exact fun j k hk => sI_ne (by omega)
      · intro j k hk
        rw [sU_ne (by omega), wTk_ne (by omega)]
      · refine hGo14 rr hw ht told ?_
        exact wr_u' (j := 27) (show 10 + h < 20 by omega) (by omega) hs
  by_cases e14 : KT (T i1) = 14
  · have hw := e14
    rw [KT_w14 shp] at hw
    rw [e14, if_pos (by decide), if_pos (by decide), if_pos (by decide), if_neg (by decide), if_neg (by decide), if_pos rfl]
    refine week16_ok rc rr hw ht hh rp rn (fun P' R' c' i' a1 a2 a3 a4 a5 a6 a7 a8 a9 => ?_) fun P' R' c' k p a1 a2 a3 a4 => ?_
    · rw [if_pos (by decide)]
      exact next 0 _ _ (t ||| 2 ^ 16) P' R' c' i' a1 (t17 ht (by omega)) (tb_n (by omega)).symm (tb_n (by omega)).symm (by rw [a6, h8, tb_n (by omega)]) a2 a3 a4 a5 a7 a8 a9
    · rw [if_neg fun y => y rfl]
      exact bad P' R' c' k p a1 a2 a3 a4
  by_cases e16 : KT (T i1) = 16
  · have hw := e16
    rw [KT_w16 shp] at hw
    rw [e16, if_pos (by decide), if_pos (by decide), if_pos (by decide), if_neg (by decide), if_neg (by decide), if_neg (by decide), if_pos rfl]
    refine week12_ok rc rr hw ht hh rp rn (fun P' R' c' i' a1 a2 a3 a4 a5 a6 a7 a8 a9 => ?_) fun P' R' c' k p a1 a2 a3 a4 => ?_
    · rw [if_pos (by decide)]
      exact next 0 _ _ (t ||| 2 ^ 12) P' R' c' i' a1 (t17 ht (by omega)) (tb_n (by omega)).symm (tb_n (by omega)).symm (by rw [a6, h8, tb_n (by omega)]) a2 a3 a4 a5 a7 a8 a9
    · rw [if_neg fun y => y rfl]
      exact bad P' R' c' k p a1 a2 a3 a4
  rw [if_pos e22, if_pos e13, if_pos e12, if_neg e12, if_neg e13, if_neg e14, if_neg e16, if_neg e22]
  refine hS P1 R1 c1 i1 hi1 rc rr rp rn kc kr fun J hJ => re J (rHlp_e rr h50 (fun w hw => ?_) hJ)
  rw [KT_w22 shp] at e22
  rw [KT_w13 shp] at e13
  rw [KT_w12 shp] at e12
  rw [KT_w14 shp] at e14
  rw [KT_w16 shp] at e16
  rcases hw with rfl | rfl | rfl | rfl | rfl
  · exact e16
  · exact e22
  · exact e12
  · exact e13
  · exact e14
end House
