/-! ===== reading: panes, and the whole line of a front ===== -/
section Pane
variable {P R c M : CT} {T : Nat → T4} {K n i l q f m h : Nat} {Q : Int32 → CT → CT → Prop}
theorem ix_pan {f v : Nat} : (12 : Int32) * nI (5 + f) + nI v = nI (60 + (12 * f + v)) := by
  rw [li_12, pk_mul, nI_add, show 12 * (5 + f) + v = 60 + (12 * f + v) by omega]
/-- a pane stands there already -/
def dupP (V : VW) (f p : Nat) (x y : Int32) : Prop := ∃ k, k < p ∧ V 13 (12 * f + k) = x ∧ V 14 (12 * f + k) = y
theorem hasPane_ok {V : VW} {p w g : Nat} {x y : Int32} {Q : Int32 → Prop} (hp : p ≤ 12) (q3 : P.1 (15 + 3 * f) 3 = nI p) (hv : ∀ k, k < p → PPan P.1 V f w g k) (h1 : dupP V f p x y → Q 1) (h0 : ¬ dupP V f p x y → Q 0) : k_X3_hasPaneAt P f x y Q := by
  unfold k_X3_hasPaneAt
  refine LP1.ind (fun v => ∃ j, j ≤ p ∧ v = nI j ∧ ∀ k, k < j → ¬ (V 13 (12 * f + k) = x ∧ V 14 (12 * f + k) = y)) (fun v => p - v.toNatClampNeg) ?_ ⟨0, by omega, rfl, fun k hk => absurd hk (by omega)⟩
  rintro S v ⟨j, hj, rfl, hk⟩ ih
  rw [q3]
  by_cases e : j = p
  · rw [if_pos (by rw [nI_le' (by omega) (by omega)]; omega)]
    exact h0 fun ⟨k, a, b⟩ => hk k (by omega) b
  · have next : ¬ (V 13 (12 * f + j) = x ∧ V 14 (12 * f + j) = y) → S (nI j + 1) := fun z => by
      rw [inc_n]
      refine ih _ ⟨j + 1, by omega, rfl, fun k hk' => ?_⟩ (by rw [nI_clamp (by omega), nI_clamp (by omega)]; omega)
      by_cases y : k = j
      · rw [y]
        exact z
      · exact hk k (by omega)
    obtain ⟨a, b, -⟩ := hv j (by omega)
    rw [if_neg (by rw [nI_le' (by omega) (by omega)]; omega), rdI_n (by omega) (by omega), rdI_n (by omega) (by omega), a, b]
    refine ite_b (fun z => next fun t => z t.1) fun z => ?_
    refine ite_b (fun y => next fun t => y t.2) fun y => ?_
    exact h1 ⟨j, by omega, Classical.not_not.mp z, Classical.not_not.mp y⟩
/-- the reference's search for the same pane -/
def pLp (a1 t4 : Int32) (J : CT → Prop) : Int32 → CT → Prop := LP2 (fun R165 (v163 : Int32) (c164 : CT) => rdI c164 12 10 a1 (fun t173 => (if t173 ≤ v163 then (if (c164.1 0 66) = (0 : Int32) then rdI c164 12 10 a1 (fun t193 => wrI c164 13 120 (((12 : Int32) * a1) + t193) t4 (fun c195 => rdI c195 12 10 a1 (fun t196 => wrI c195 14 120 (((12 : Int32) * a1) + t196) (c195.1 0 65) (fun c198 => rdI c198 12 10 a1 (fun t199 => wrI c198 12 10 a1 (t199 + (1 : Int32)) (fun c201 => k2_X12_token c201 (fun c202 => J c202))))))) else J c164) else rdI c164 13 120 (((12 : Int32) * a1) + v163) (fun t215 => (if t215 ≠ t4 then R165 (v163 + 1) c164 else rdI c164 14 120 (((12 : Int32) * a1) + v163) (fun t217 => (if t217 ≠ (c164.1 0 65) then R165 (v163 + 1) c164 else k_X12_wrong c164 (3 : Int32) (fun c219 => R165 (v163 + 1) c219))))))))
theorem paneL_eq {a1 : Int32} {J : CT → Prop} : k2_X12_paneLine c a1 J = rdI c 8 10 a1 (fun t1 => k2_X12_numeral c (0 : Int32) (t1 - (1 : Int32)) (fun t4 c3 => rdI c3 9 10 a1 (fun t118 => k_X12_isNumeral c3 (1 : Int32) t118 (fun t121 c120 => (if t121 ≠ (0 : Int32) then pLp a1 t4 J (0 : Int32) c120 else J c120))))) := rfl
theorem pLp_y {J : CT → Prop} {p : Nat} {x : Int32} (hf : f < 5) (hp : p ≤ 12) (g : RDr M c T n i) (v12 : uppV c 12 f = nI p) (hd : dupP (uppV c) f p x (T i).2.2.2) (hJ : J (flt c 3)) : pLp (nI (5 + f)) x J 0 c := by
  unfold pLp
  have e12 : c.1 12 (5 + f) = nI p := (uppV_u (j := 12) (by omega)).symm.trans v12
  have e65 := g.2.2.2.1.2.2.2
  have e13 : ∀ k, c.1 13 (60 + (12 * f + k)) = uppV c 13 (12 * f + k) := fun k => (uppV_u (j := 13) (by omega)).symm
  have e14 : ∀ k, c.1 14 (60 + (12 * f + k)) = uppV c 14 (12 * f + k) := fun k => (uppV_u (j := 14) (by omega)).symm
  refine upl2 (N := p) (a := 0) (by omega) (fun j d => (d = c ∧ ∀ k, k < j → ¬ (uppV c 13 (12 * f + k) = x ∧ uppV c 14 (12 * f + k) = (T i).2.2.2)) ∨ d = flt c 3) (fun S j d h1 h2 hd' k => ?_) (fun S d hd' => ?_) (by omega) (Or.inl ⟨rfl, fun k hk => absurd hk (by omega)⟩)
  · rcases hd' with ⟨rfl, hn⟩ | rfl
    · rw [rdI_n (by omega) (by omega), e12, if_neg (by rw [nI_le' (by omega) (by omega)]; omega), ix_pan, rdI_n (by omega) (by omega), rdI_n (by omega) (by omega), e13, e14, e65, inc_n]
      have next : ¬ (uppV d 13 (12 * f + j) = x ∧ uppV d 14 (12 * f + j) = (T i).2.2.2) → S (nI (j + 1)) d := fun z => by
        refine k _ (Or.inl ⟨rfl, fun k' hk' => ?_⟩)
        by_cases y : k' = j
        · rw [y]
          exact z
        · exact hn k' (by omega)
      refine ite_b (fun z => next fun t => z t.1) fun z => ?_
      refine ite_b (fun y => next fun t => y t.2) fun y => ?_
      exact wrong_s g (k _ (Or.inr rfl))
    · have fx := g.fl (k := 3)
      rw [rdI_n (by omega) (by omega), flt_ne (by omega), e12, if_neg (by rw [nI_le' (by omega) (by omega)]; omega), ix_pan, rdI_n (by omega) (by omega), rdI_n (by omega) (by omega), inc_n]
      refine ite_b (fun _ => k _ (Or.inr rfl)) fun _ => ite_b (fun _ => k _ (Or.inr rfl)) fun _ => ?_
      exact wrong_x fx (by decide) (k _ (Or.inr rfl))
  · rcases hd' with ⟨rfl, hn⟩ | rfl
    · obtain ⟨k, a, b⟩ := hd
      exact absurd b (hn k a)
    · rw [rdI_n (by omega) (by omega), flt_ne (by omega), e12, if_pos (Int32.le_refl _), flt_66, if_neg (by decide)]
      exact hJ
theorem pLp_n {J : CT → Prop} {p : Nat} {x : Int32} (hf : f < 5) (hp : p < 12) (g : RDr M c T n i) (v12 : uppV c 12 f = nI p) (hd : ¬ dupP (uppV c) f p x (T i).2.2.2) (hJ : J (wTk (sU (sU (sU c 13 (12 * f + p) x) 14 (12 * f + p) (T i).2.2.2) 12 f (nI (p + 1))) (T (i + 1)))) : pLp (nI (5 + f)) x J 0 c := by
  unfold pLp
  have e12 : c.1 12 (5 + f) = nI p := (uppV_u (j := 12) (by omega)).symm.trans v12
  have e65 := g.2.2.2.1.2.2.2
  have e13 : ∀ k, c.1 13 (60 + (12 * f + k)) = uppV c 13 (12 * f + k) := fun k => (uppV_u (j := 13) (by omega)).symm
  have e14 : ∀ k, c.1 14 (60 + (12 * f + k)) = uppV c 14 (12 * f + k) := fun k => (uppV_u (j := 14) (by omega)).symm
  refine upl2 (N := p) (a := 0) (by omega) (fun j d => d = c) (fun S j d h1 h2 hd' k => ?_) (fun S d hd' => ?_) (by omega) rfl
  · subst hd'
    rw [rdI_n (by omega) (by omega), e12, if_neg (by rw [nI_le' (by omega) (by omega)]; omega), ix_pan, rdI_n (by omega) (by omega), rdI_n (by omega) (by omega), e13, e14, e65, inc_n]
    refine ite_b (fun z => k _ rfl) fun z => ite_b (fun y => k _ rfl) fun y => ?_
    exact absurd ⟨j, by omega, Classical.not_not.mp z, Classical.not_not.mp y⟩ hd
  · subst hd'
    rw [rdI_n (by omega) (by omega), e12, if_pos (Int32.le_refl _), if_pos g.2.2.2.2.1, rdI_n (by omega) (by omega), e12, ix_pan]
    refine wr_u' (j := 13) (show 60 + (12 * f + p) < 120 by omega) (by omega) ?_
    rw [rdI_n (by omega) (by omega), sU_ne (by omega), e12, ix_pan, sU_ne (by omega), e65]
    refine wr_u' (j := 14) (show 60 + (12 * f + p) < 120 by omega) (by omega) ?_
    rw [rdI_n (by omega) (by omega), sU_ne (by omega), sU_ne (by omega), e12, inc_n]
    refine wr_u' (j := 12) (show 5 + f < 10 by omega) (by omega) ?_
    exact token_s (((g.u (by omega)).u (by omega)).u (by omega)) hJ
theorem pane_ok (hc : RDc R T K n i) (hr : RDr M c T n i) (hw : (T i).2.2.1 = 0 ∧ (T i).2.2.2 = 9) (hp : PRel P.1 (uppV c) l q f m h) (hf : f < 5) (hn : PFro P.1 (uppV c) f) (hS : ∀ P' R' c' i', i < i' → RDc R' T K n i' → RDr M c' T n i' → PRel P'.1 (uppV c') l q f m h → PFro P'.1 (uppV c') f → KPc P P' → KPr c c' → (∀ J, rFlp (nI (5 + f)) J c' → rFlp (nI (5 + f)) J c) → Q 1 P' R') (hF : ∀ P' R' c' k p, k ≠ 0 → FLc R' k p → FLr M c' k p → (∀ J, J c' → rFlp (nI (5 + f)) J c) → Q 0 P' R') : k_X7_readPane P R f Q := by
  have h48 : c.1 0 48 = nI f := cnt_u (k := 36) hp.1.2.2.2.2.1
  have lt := hc.lt (by rw [hw.1]; decide)
  obtain ⟨n0, w, g, p, b, s, n1, n2, n3, n4, n5, ⟨v8, v9, v12, v10, v11⟩, ⟨q1, q2, q3, q4, q5⟩, n8⟩ := hn
  have e12 : c.1 12 (5 + f) = nI p := (uppV_u (j := 12) (by omega)).symm.trans v12
  have e8 : c.1 8 (5 + f) = nI w := (uppV_u (j := 8) (by omega)).symm.trans v8
  have e9 : c.1 9 (5 + f) = nI g := (uppV_u (j := 9) (by omega)).symm.trans v9
  unfold k_X7_readPane
  rw [vK_eq, q3]
  have paneX : ∀ {d : CT} {k x : Int32} {S : CT → Prop}, FLr M d k x → k ≠ 0 → S d → k2_X12_paneLine d (nI (5 + f)) S := fun fx hk hs => by
    rw [paneL_eq, rdI_n (by omega) (by omega)]
    refine numeral_x fx hk ?_
    rw [rdI_n (by omega) (by omega)]
    refine isNumeral_x fx hk ?_
    rw [if_neg fun y => y rfl]
    exact hs
  by_cases full : p < 12
  · rw [if_pos (by rw [li_12, nI_lt' (by omega) (by omega)]; exact full)]
    refine adv_ok hc lt fun R1 r1 _ _ => ?_
    rw [q1, sub1_n (by omega)]
    have up9 : nI (w - 1) ≤ 9999 := by
      rw [li_9999, nI_le' (by omega) (by omega)]
      omega
    have g9 : nI g ≤ 9999 := by
      rw [li_9999, nI_le' (by omega) (by omega)]
      omega
    have re : ∀ J S, k2_X12_numeral (wTk c (T (i + 1))) (0 : Int32) (nI (w - 1)) (fun t4 c3 => rdI c3 9 10 (nI (5 + f)) (fun t118 => k_X12_isNumeral c3 (1 : Int32) t118 (fun t121 c120 => (if t121 ≠ (0 : Int32) then pLp (nI (5 + f)) t4 S (0 : Int32) c120 else S c120)))) → fBd (nI (5 + f)) J S c := fun J S z => by
      refine fBd_w hr ⟨hw.1, Or.inl hw.2⟩ ?_
      rw [jn_eq, hw.2, if_neg (fun y => y rfl), rdI_n (by omega) (by omega), e12, if_pos (by rw [li_12, Ne, nI_eq' (by omega) (by omega)]; omega)]
      refine goOn_s hr ?_
      rw [if_pos (by decide), if_pos (by decide), paneL_eq, rdI_n (by omega) (by omega), wTk_ne (by omega), e8, sub1_n (by omega)]
      exact z
    refine takeNumber_ok r1 (by decide) up9 (fun y1 R2 r2 _ v1 => ?_) fun y1 R2 f2 => ?_
    · rw [if_pos (by decide), wrI_n (by omega) (by omega), v1, sI_ne (by omega), q2]
      obtain ⟨x1, -, xb1, xe1⟩ := nf_n (a := 0) (b := w - 1) (by omega) (by omega) y1
      have re2 : ∀ J S, k_X12_isNumeral (wTk (wTk c (T (i + 1))) (T (i + 1 + 1))) (1 : Int32) (nI g) (fun t121 c120 => (if t121 ≠ (0 : Int32) then pLp (nI (5 + f)) (T (i + 1)).2.2.2 S (0 : Int32) c120 else S c120)) → fBd (nI (5 + f)) J S c := fun J S z => re J S (by
        refine numeral_s hr.tk y1 ?_
        rw [rdI_n (by omega) (by omega), wTk_ne (by omega), wTk_ne (by omega), e9]
        exact z)
      have dv : uppV (wTk (wTk c (T (i + 1))) (T (i + 1 + 1))) 12 f = nI p := by
        rw [upp_t (by omega), upp_t (by omega)]
        exact v12
      have dup : ∀ x y, dupP (uppV (wTk (wTk c (T (i + 1))) (T (i + 1 + 1)))) f p x y ↔ dupP (uppV c) f p x y := fun x y => by
        have e : ∀ j k, (j = 13 ∨ j = 14) → uppV (wTk (wTk c (T (i + 1))) (T (i + 1 + 1))) j k = uppV c j k := fun j k hj => by rw [upp_t (by omega), upp_t (by omega)]
        constructor
        · rintro ⟨k, a, b, d⟩
          rw [e _ _ (by omega)] at b d
          exact ⟨k, a, b, d⟩
        · rintro ⟨k, a, b, d⟩
          refine ⟨k, a, ?_, ?_⟩
          · rw [e _ _ (by omega)]
            exact b
          · rw [e _ _ (by omega)]
            exact d
      refine isNumber_ok r2 (by decide) g9 (fun y2 => ?_) fun y2 R3 f3 => ?_
      · rw [if_pos (by decide), rdI_n (by omega) (by omega), sI_same, r2.val g9 y2]
        obtain ⟨x2, xa2, xb2, xe2⟩ := nf_n (a := 1) (b := g) (by omega) (by omega) y2
        have s2 := nf_2 y2
        refine hasPane_ok (V := uppV c) (p := p) (w := w) (g := g) n3 (by rw [sI_ne (by omega)]; exact q3) (fun k hk => ?_) (fun z => ?_) fun z => ?_
        · obtain ⟨o1, o2, o3, o4⟩ := n8 k hk
          unfold PPan
          rw [sI_ne (by omega), sI_ne (by omega)]
          exact ⟨o1, o2, o3, o4⟩
        · rw [if_neg (by decide)]
          refine fail_ok r2 fun R3 f3 => ?_
          rw [rZ_0]
          have fx : FLr M (flt (wTk (wTk c (T (i + 1))) (T (i + 1 + 1))) 3) 3 (T (i + 1 + 1)).2.1 := hr.tk.tk.fl
          refine hF _ _ (sI (flt (wTk (wTk c (T (i + 1))) (T (i + 1 + 1))) 3) 0 48 (nI (f + 1))) _ _ (by decide) f3 (fx.s (nrv_0 (by omega)) (by omega)) fun J hJ => ?_
          refine rFlp_go (c' := flt (wTk (wTk c (T (i + 1))) (T (i + 1 + 1))) 3) (fun S hs => re2 J S ?_) (rFlp_x fx (by decide) (by rw [flt_ne (by omega), wTk_ne (by omega), wTk_ne (by omega)]; exact h48) hJ)
          refine isNumeral_s hr.tk.tk y2 ?_
          rw [if_pos (by decide)]
          exact pLp_y hf n3 hr.tk.tk dv ((dup _ _).mpr z) hs
        · rw [if_pos rfl, wrI_n (by omega) (by omega), wrF_eq, sI_ne (by omega), sI_ne (by omega), q3, inc_n]
          refine adv_ok r2 (r2.lt (by rw [s2]; decide)) fun R3 r3 _ _ => ?_
          refine hS _ _ (wTk (sU (sU (sU (wTk (wTk c (T (i + 1))) (T (i + 1 + 1))) 13 (12 * f + p) (T (i + 1)).2.2.2) 14 (12 * f + p) (T (i + 1 + 1)).2.2.2) 12 f (nI (p + 1))) (T (i + 1 + 1 + 1))) (i + 1 + 1 + 1) (by omega) r3 ((((hr.tk.tk.u (by omega)).u (by omega)).u (by omega)).tk) ?_ ?_ ?_ ?_ fun J => rFlp_go fun S hs => re2 J S ?_
          · refine hp.frx hf (fun j k z => ?_) fun j k w z => ?_
            · rw [sI_ne (by omega), sI_ne (by omega), sI_ne (by omega)]
            · have w' : j = 0 → k ≤ 45 := by
                unfold VWR at w
                omega
              rw [upp_t w', upp_sn (by omega) (by omega), upp_sn (by omega) (by omega), upp_sn (by omega) (by omega), upp_t w', upp_t w']
          · refine ⟨?_, w, g, p + 1, b, s, n1, n2, by omega, n4, n5, ⟨?_, ?_, ?_, ?_, ?_⟩, ⟨?_, ?_, ?_, ?_, ?_⟩, fun k hk => ?_⟩
            · rw [sI_ne (by omega), sI_ne (by omega), sI_ne (by omega), upp_t (by omega), upp_sn (by omega) (by omega), upp_sn (by omega) (by omega), upp_sn (by omega) (by omega), upp_t (by omega), upp_t (by omega)]
              exact n0
            · rw [upp_t (by omega), upp_sn (by omega) (by omega), upp_sn (by omega) (by omega), upp_sn (by omega) (by omega), upp_t (by omega), upp_t (by omega)]
              exact v8
            · rw [upp_t (by omega), upp_sn (by omega) (by omega), upp_sn (by omega) (by omega), upp_sn (by omega) (by omega), upp_t (by omega), upp_t (by omega)]
              exact v9
            · rw [upp_t (by omega), upp_s (by omega)]
            · rw [upp_t (by omega), upp_sn (by omega) (by omega), upp_sn (by omega) (by omega), upp_sn (by omega) (by omega), upp_t (by omega), upp_t (by omega)]
              exact v10
            · rw [upp_t (by omega), upp_sn (by omega) (by omega), upp_sn (by omega) (by omega), upp_sn (by omega) (by omega), upp_t (by omega), upp_t (by omega)]
              exact v11
            · rw [sI_ne (by omega), sI_ne (by omega), sI_ne (by omega)]
              exact q1
            · rw [sI_ne (by omega), sI_ne (by omega), sI_ne (by omega)]
              exact q2
            · exact sI_same
            · rw [sI_ne (by omega), sI_ne (by omega), sI_ne (by omega)]
              exact q4
            · rw [sI_ne (by omega), sI_ne (by omega), sI_ne (by omega)]
              exact q5
            · by_cases e : k = p
              · subst e
                refine ⟨?_, ?_, ⟨x1, by omega, ?_⟩, x2, xa2, xb2, ?_⟩
                · rw [sI_ne (by omega), sI_ne (by omega), sI_same, upp_t (by omega), upp_sn (by omega) (by omega), upp_sn (by omega) (by omega), upp_s (by omega)]
                · rw [sI_ne (by omega), sI_same, upp_t (by omega), upp_sn (by omega) (by omega), upp_s (by omega)]
                · rw [upp_t (by omega), upp_sn (by omega) (by omega), upp_sn (by omega) (by omega), upp_s (by omega)]
                  exact xe1
                · rw [upp_t (by omega), upp_sn (by omega) (by omega), upp_s (by omega)]
                  exact xe2
              · obtain ⟨o1, o2, o3, o4⟩ := n8 k (by omega)
                unfold PPan
                rw [sI_ne (by omega), sI_ne (by omega), sI_ne (by omega), sI_ne (by omega), sI_ne (by omega), sI_ne (by omega), upp_t (by omega), upp_sn (by omega) (by omega), upp_sn (by omega) (by omega), upp_sn (by omega) (by omega), upp_t (by omega), upp_t (by omega), upp_t (by omega), upp_sn (by omega) (by omega), upp_sn (by omega) (by omega), upp_sn (by omega) (by omega), upp_t (by omega), upp_t (by omega)]
                exact ⟨o1, o2, o3, o4⟩
          · exact fun j k hk => by rw [sI_ne (by omega), sI_ne (by omega), sI_ne (by omega)]
          · intro j k hk
            rw [wTk_ne (by omega), sU_ne (by omega), sU_ne (by omega), sU_ne (by omega), wTk_ne (by omega), wTk_ne (by omega)]
          · refine isNumeral_s hr.tk.tk y2 ?_
            rw [if_pos (by decide)]
            exact pLp_n hf full hr.tk.tk dv (fun y => z ((dup _ _).mp y)) hs
      · rw [if_neg fun y => y rfl]
        have fx : FLr M (flt (wTk (wTk c (T (i + 1))) (T (i + 1 + 1))) (nf (T (i + 1 + 1)) 1 (nI g))) (nf (T (i + 1 + 1)) 1 (nI g)) (T (i + 1 + 1)).2.1 := hr.tk.tk.fl
        refine hF _ _ (sI (flt (wTk (wTk c (T (i + 1))) (T (i + 1 + 1))) (nf (T (i + 1 + 1)) 1 (nI g))) 0 48 (nI (f + 1))) _ _ y2 f3 (fx.s (nrv_0 (by omega)) (by omega)) fun J hJ => ?_
        refine rFlp_go (c' := flt (wTk (wTk c (T (i + 1))) (T (i + 1 + 1))) (nf (T (i + 1 + 1)) 1 (nI g))) (fun S hs => re2 J S ?_) (rFlp_x fx y2 (by rw [flt_ne (by omega), wTk_ne (by omega), wTk_ne (by omega)]; exact h48) hJ)
        refine isNumeral_f hr.tk.tk y2 ?_
        rw [if_neg fun y => y rfl]
        exact hs
    · rw [if_neg fun y => y rfl]
      have fx : FLr M (flt (wTk c (T (i + 1))) (nf (T (i + 1)) 0 (nI (w - 1)))) (nf (T (i + 1)) 0 (nI (w - 1))) (T (i + 1)).2.1 := hr.tk.fl
      refine hF _ _ (sI (flt (wTk c (T (i + 1))) (nf (T (i + 1)) 0 (nI (w - 1)))) 0 48 (nI (f + 1))) _ _ y1 f2 (fx.s (nrv_0 (by omega)) (by omega)) fun J hJ => ?_
      refine rFlp_go (c' := flt (wTk c (T (i + 1))) (nf (T (i + 1)) 0 (nI (w - 1)))) (fun S hs => re J S ?_) (rFlp_x fx y1 (by rw [flt_ne (by omega), wTk_ne (by omega)]; exact h48) hJ)
      refine numeral_f hr.tk y1 ?_
      rw [rdI_n (by omega) (by omega)]
      refine isNumeral_x fx y1 ?_
      rw [if_neg fun y => y rfl]
      exact hs
  · rw [if_neg (by rw [li_12, nI_lt' (by omega) (by omega)]; exact full)]
    have p12 : p = 12 := by omega
    refine fail_ok hc fun R1 f1 => ?_
    rw [rZ_0]
    have fx : FLr M (flt c 2) 2 (T i).2.1 := hr.fl
    refine hF _ _ (sI (flt c 2) 0 48 (nI (f + 1))) _ _ (by decide) f1 (fx.s (nrv_0 (by omega)) (by omega)) fun J hJ => ?_
    refine rFlp_go (c' := flt c 2) (fun S hs => fBd_w hr ⟨hw.1, Or.inl hw.2⟩ ?_) (rFlp_x fx (by decide) (by rw [flt_ne (by omega)]; exact h48) hJ)
    rw [jn_eq, hw.2, if_neg (fun y => y rfl), rdI_n (by omega) (by omega), e12, p12, if_neg (fun y => y rfl)]
    refine wrong_s hr ?_
    refine goOn_x fx (by decide) ?_
    rw [if_pos (by decide), if_pos (by decide)]
    exact paneX fx (by decide) hs
end Pane
