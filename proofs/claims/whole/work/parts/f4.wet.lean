/-! ===== reading: the tank; wet days ===== -/
section Lines3
variable {P R c M : CT} {T : Nat → T4} {K n i l q f m h : Nat} {Q : Int32 → CT → CT → Prop}
def rTan (c : CT) (J : CT → Prop) : Prop := k2_X12_numeral c (1 : Int32) (999 : Int32) (fun t1156 c1155 => wrF c1155 0 55 t1156 (fun c1157 => k2_X12_numeral c1157 (1 : Int32) (99 : Int32) (fun t1159 c1158 => wrF c1158 0 56 t1159 (fun c1160 => J c1160))))
theorem PRel.tan {P' V' P V : VW} (g : PRel P V l q f m h) (eP : ∀ j k, ¬ (j = 0 ∧ (k = 10 ∨ k = 11)) → P' j k = P j k) (eV : ∀ j k, VWR j k → ¬ (j = 0 ∧ (k = 43 ∨ k = 44)) → V' j k = V j k) (new : PTan P' V') : PRel P' V' l q f m h := by
  obtain ⟨c1, c2, c3, c4, c5, c6, c7, c8⟩ := g.chg eP eV
  obtain ⟨a, ⟨b1, b2, b3, b4, b5⟩, d1, d2, d3, d4, d5⟩ := g.1
  exact ⟨⟨a, ⟨(eP _ _ (by omega)).trans b1, (eP _ _ (by omega)).trans b2, (eP _ _ (by omega)).trans b3, (eP _ _ (by omega)).trans b4, (eP _ _ (by omega)).trans b5⟩, (eV _ _ (Or.inl (by omega)) (by omega)).trans d1, (eV _ _ (Or.inl (by omega)) (by omega)).trans d2, (eV _ _ (Or.inl (by omega)) (by omega)).trans d3, (eV _ _ (Or.inl (by omega)) (by omega)).trans d4, (eV _ _ (Or.inl (by omega)) (by omega)).trans d5⟩, fun i hi => c1 i hi (by omega), fun i hi => c2 i hi (by omega), fun i hi => c3 i hi (by omega) (by omega) (by omega), fun i hi => c4 i hi (by omega) (by omega), fun i hi => c5 i hi (by omega) (by omega), fun d hd => c6 d hd (by omega) (by omega), c7 (by omega) (by omega) (by omega), new⟩
theorem tank_ok (hc : RDc R T K n i) (hi : i < K) (hr : RDr M c T n (i + 1)) (hp : PRel P.1 (uppV c) l q f m h) (h0 : P.1 0 10 ≤ 0) (hS : ∀ P' R' c' i', i < i' → RDc R' T K n i' → RDr M c' T n i' → PRel P'.1 (uppV c') l q f m h → (∀ j k, (j = 11 ∧ k = 0) ∨ (j = 13 ∧ k = 0) ∨ (j = 0 ∧ k = 12) ∨ (33 ≤ j ∧ k = 2) → P'.1 j k = P.1 j k) → (∃ x : Nat, 1 ≤ x ∧ x ≤ 999 ∧ P'.1 0 10 = nI x) → KPr c c' → (∀ J, J c' → rTan c J) → Q 1 P' R') (hF : ∀ P' R' c' k p, k ≠ 0 → FLc R' k p → FLr M c' k p → (∀ J, J c' → rTan c J) → Q 0 P' R') : k_X7_readTank P R Q := by
  unfold k_X7_readTank
  rw [if_pos h0]
  refine adv_ok hc hi fun R1 r1 _ _ => ?_
  have hr1 : RDr M (sI (wTk c (T (i + 1 + 1))) 0 55 (T (i + 1)).2.2.2) T n (i + 1 + 1) := hr.tk.s (nrv_0 (by omega)) (by omega)
  refine takeNumber_ok r1 (by decide) (by decide) (fun y1 R2 r2 _ v1 => ?_) fun y1 R2 f2 => ?_
  · rw [if_pos (by decide), wrF_eq, v1]
    refine takeNumber_ok r2 (by decide) (by decide) (fun y2 R3 r3 _ v2 => ?_) fun y2 R3 f3 => ?_
    · rw [if_pos (by decide), wrF_eq, v2]
      obtain ⟨x1, xa1, xb1, xe1⟩ := nf_n (a := 1) (b := 999) (by omega) (by omega) y1
      obtain ⟨x2, xa2, xb2, xe2⟩ := nf_n (a := 1) (b := 99) (by omega) (by omega) y2
      refine hS _ _ (sI (wTk (sI (wTk c (T (i + 1 + 1))) 0 55 (T (i + 1)).2.2.2) (T (i + 1 + 1 + 1))) 0 56 (T (i + 1 + 1)).2.2.2) (i + 1 + 1 + 1) (by omega) r3 (hr1.tk.s (nrv_0 (by omega)) (by omega)) ?_ ?_ ?_ ?_ fun J hJ => ?_
      · refine hp.tan (fun j k z => ?_) (fun j k w z => ?_) ?_
        · rw [sI_ne (by omega), sI_ne (by omega)]
        · have w' : j = 0 → k ≤ 45 := by
            unfold VWR at w
            omega
          rw [upp_f (by omega), upp_t w', upp_f (by omega), upp_t w']
        · refine ⟨?_, ?_, x1, x2, xb1, xb2, ?_, ?_⟩
          · rw [sI_ne (by omega), sI_same, upp_f (by omega), upp_t (by omega), upp_fs rfl]
          · rw [sI_same, upp_fs rfl]
          · rw [upp_f (by omega), upp_t (by omega), upp_fs rfl, xe1]
          · rw [upp_fs rfl, xe2]
      · exact fun j k hk => by rw [sI_ne (by omega), sI_ne (by omega)]
      · exact ⟨x1, xa1, xb1, by rw [sI_ne (by omega), sI_same, xe1]⟩
      · intro j k hk
        rw [sI_ne (by omega), wTk_ne (by omega), sI_ne (by omega), wTk_ne (by omega)]
      · unfold rTan
        refine numeral_s hr y1 ?_
        rw [wrF_eq]
        refine numeral_s hr1 y2 ?_
        rw [wrF_eq]
        exact hJ
    · rw [if_neg fun y => y rfl]
      refine hF _ _ (sI (flt (sI (wTk c (T (i + 1 + 1))) 0 55 (T (i + 1)).2.2.2) (nf (T (i + 1 + 1)) 1 99)) 0 56 1) _ _ y2 f3 (hr1.fl.s (nrv_0 (by omega)) (by omega)) fun J hJ => ?_
      unfold rTan
      refine numeral_s hr y1 ?_
      rw [wrF_eq]
      refine numeral_f hr1 y2 ?_
      rw [wrF_eq]
      exact hJ
  · rw [if_neg fun y => y rfl]
    have g : FLr M (sI (flt c (nf (T (i + 1)) 1 999)) 0 55 1) (nf (T (i + 1)) 1 999) (T (i + 1)).2.1 := hr.fl.s (nrv_0 (by omega)) (by omega)
    refine hF _ _ (sI (sI (flt c (nf (T (i + 1)) 1 999)) 0 55 1) 0 56 1) _ _ y1 f2 (g.s (nrv_0 (by omega)) (by omega)) fun J hJ => ?_
    unfold rTan
    refine numeral_f hr y1 ?_
    rw [wrF_eq]
    refine numeral_x g y1 ?_
    rw [wrF_eq]
    exact hJ
/-! days a to b (without) are wet, in row j from o on -/
def wetF (c : CT) (j o a b : Nat) : CT := (fun x k => if x = j ∧ o + a ≤ k ∧ k < o + b then 1 else c.1 x k, c.2)
theorem wetF_at {j o a b k : Nat} (h : o + a ≤ k ∧ k < o + b) : (wetF c j o a b).1 j k = 1 := if_pos ⟨rfl, h.1, h.2⟩
theorem wetF_ne {j o a b x k : Nat} (h : ¬ (x = j ∧ o + a ≤ k ∧ k < o + b)) : (wetF c j o a b).1 x k = c.1 x k := if_neg h
theorem wetF_0 {j o a : Nat} : wetF c j o a a = c := by
  refine Prod.ext ?_ rfl
  funext x k
  exact wetF_ne (by omega)
theorem wetF_s {j o a b : Nat} (h : a ≤ b) : sI (wetF c j o a b) j (o + b) 1 = wetF c j o a (b + 1) := by
  refine Prod.ext ?_ rfl
  funext x k
  by_cases e : x = j ∧ k = o + b
  · obtain ⟨rfl, rfl⟩ := e
    rw [sI_same, wetF_at (by omega)]
  · rw [sI_ne e]
    by_cases g : x = j ∧ o + a ≤ k ∧ k < o + b
    · obtain ⟨rfl, g⟩ := g
      rw [wetF_at g, wetF_at (by omega)]
    · rw [wetF_ne g, wetF_ne (by omega)]
theorem RDr.cg {c' : CT} (h : RDr M c T n i) (e1 : ∀ j k, RV j k → c'.1 j k = c.1 j k) (e2 : ∀ k, 61 ≤ k → k ≤ 67 → c'.1 0 k = c.1 0 k) : RDr M c' T n i := by
  obtain ⟨h1, h2, h3, ⟨h4, h5, h6, h7⟩, h8, h9⟩ := h
  exact ⟨h1, fun j k r => (e1 j k r).trans (h2 j k r), (e2 _ (by omega) (by omega)).trans h3, ⟨(e2 _ (by omega) (by omega)).trans h4, (e2 _ (by omega) (by omega)).trans h5, (e2 _ (by omega) (by omega)).trans h6, (e2 _ (by omega) (by omega)).trans h7⟩, (e2 _ (by omega) (by omega)).trans h8, (e2 _ (by omega) (by omega)).trans h9⟩
theorem rv30 {k : Nat} (h : RV 30 k) : k < 200 := by
  have e : half 30 = 200 := rfl
  unfold RV at h
  rw [e] at h
  omega
theorem RDr.wet {a b : Nat} (h : RDr M c T n i) : RDr M (wetF c 30 200 a b) T n i := h.cg (fun j k r => wetF_ne (by
  rintro ⟨rfl, z⟩
  have := rv30 r
  omega)) fun k h1 h2 => wetF_ne (by omega)
/-- the reference's loop over wet days -/
def wLp (b : Int32) (J : CT → Prop) : Int32 → CT → Prop := LP2 (fun R14 (v12 : Int32) (c13 : CT) => (if b < v12 then J c13 else (if (c13.1 0 66) ≠ (0 : Int32) then J c13 else wrI c13 30 400 ((200 : Int32) + v12) (vp_nar .boolean (1 : Int32)) (fun c22 => R14 (v12 + 1) c22))))
theorem wLp_s {J : CT → Prop} {a b : Nat} (hab : a ≤ b) (hb : b < 200) (h : RDr M c T n i) (hJ : J (wetF c 30 200 a (b + 1))) : wLp (nI b) J (nI a) c := by
  unfold wLp
  refine upl2 (N := b + 1) (a := a) (by omega) (fun j d => d = wetF c 30 200 a j) (fun R j d h1 h2 hd k => ?_) (fun R d hd => ?_) (by omega) wetF_0.symm
  · rw [hd]
    rw [if_neg (by rw [nI_lt' (by omega) (by omega)]; omega), if_neg (by rw [wetF_ne (by omega), h.2.2.2.2.1]; exact fun z => z rfl), li_200, nI_add, wrI_n (by omega) (by omega), bo1, wetF_s h1, inc_n]
    exact k _ rfl
  · rw [hd]
    rw [if_pos (by rw [nI_lt' (by omega) (by omega)]; omega)]
    exact hJ
theorem wLp_x {J : CT → Prop} {k p a : Int32} (h : FLr M c k p) (hk : k ≠ 0) (hJ : J c) : wLp a J a c := by
  unfold wLp
  intro R hR
  refine hR _ _ ?_
  dsimp only
  rw [if_neg Int32.lt_irrefl, if_pos (by rw [h.2.1]; exact hk)]
  exact hJ
theorem wetL_eq {J : CT → Prop} : k2_X12_wetLine c J = k2_X12_numeral c (0 : Int32) (199 : Int32) (fun t2 c1 => k_X12_isWord c1 (17 : Int32) (fun t33 => (if t33 = (0 : Int32) then wLp t2 J t2 c1 else k2_X12_token c1 (fun c34 => k2_X12_numeral c34 t2 (199 : Int32) (fun t36 c35 => wLp t36 J t2 c35))))) := by
  unfold k2_X12_wetLine
  simp only [jn_eq]
  rfl
theorem PRel.wet {P' V' P V : VW} (g : PRel P V l q f m h) (eP : ∀ j k, ¬ (j = 10) → P' j k = P j k) (eV : ∀ j k, VWR j k → ¬ (j = 30) → V' j k = V j k) (new : ∀ d, d < 200 → (P' 10 d = P 10 d ∧ V' 30 d = V 30 d) ∨ (P' 10 d = 1 ∧ V' 30 d = 1)) : PRel P' V' l q f m h := by
  obtain ⟨c1, c2, c3, c4, c5, c6, c7, c8⟩ := g.chg (A := fun j _ => j = 10) (B := fun j _ => j = 30) eP eV
  obtain ⟨⟨a, ⟨b1, b2, b3, b4, b5⟩, d1, d2, d3, d4, d5⟩, -, -, -, -, -, g7, -⟩ := g
  refine ⟨⟨a, ⟨(eP _ _ (by omega)).trans b1, (eP _ _ (by omega)).trans b2, (eP _ _ (by omega)).trans b3, (eP _ _ (by omega)).trans b4, (eP _ _ (by omega)).trans b5⟩, (eV _ _ (Or.inl (by omega)) (by omega)).trans d1, (eV _ _ (Or.inl (by omega)) (by omega)).trans d2, (eV _ _ (Or.inl (by omega)) (by omega)).trans d3, (eV _ _ (Or.inl (by omega)) (by omega)).trans d4, (eV _ _ (Or.inl (by omega)) (by omega)).trans d5⟩, fun i hi => c1 i hi (by omega), fun i hi => c2 i hi (by omega), fun i hi => c3 i hi (by omega) (by omega) (by omega), fun i hi => c4 i hi (by omega) (by omega), fun i hi => c5 i hi (by omega) (by omega), fun d hd => ?_, c7 (by omega) (by omega) (by omega), c8 (by omega) (by omega)⟩
  rcases new d hd with ⟨x, y⟩ | ⟨x, y⟩
  · rw [x, y]
    exact g7 d hd
  · rw [x, y]
    exact ⟨rfl, Or.inr rfl⟩
theorem upp_w {a b j k : Nat} (h : ¬ (j = 30 ∧ a ≤ k ∧ k < b)) : uppV (wetF c 30 200 a b) j k = uppV c j k := by
  by_cases e : j = 0
  · subst e
    rw [uppV_0, uppV_0, wetF_ne (by omega)]
  · rw [uppV_u e, uppV_u e]
    refine wetF_ne ?_
    rintro ⟨rfl, z⟩
    have : half 30 = 200 := rfl
    omega
theorem wet_ok (hc : RDc R T K n i) (hi : i < K) (hr : RDr M c T n (i + 1)) (hp : PRel P.1 (uppV c) l q f m h) (hS : ∀ P' R' c' i', i < i' → RDc R' T K n i' → RDr M c' T n i' → PRel P'.1 (uppV c') l q f m h → KPc P P' → KPr c c' → (∀ J, J c' → k2_X12_wetLine c J) → Q 1 P' R') (hF : ∀ P' R' c' k p, k ≠ 0 → FLc R' k p → FLr M c' k p → (∀ J, J c' → k2_X12_wetLine c J) → Q 0 P' R') : k_X7_readWet P R Q := by
  unfold k_X7_readWet
  refine adv_ok hc hi fun R1 r1 _ _ => ?_
  refine takeNumber_ok r1 (by decide) (by decide) (fun y1 R2 r2 _ v1 => ?_) fun y1 R2 f2 => ?_
  · rw [if_pos (by decide), vK_eq, jn_eq, v1]
    obtain ⟨x1, -, xb1, xe1⟩ := nf_n (a := 0) (b := 199) (by omega) (by omega) y1
    have fin : ∀ (R' : CT) (d : CT) (i' b : Nat), i < i' → RDc R' T K n i' → RDr M d T n i' → R'.1 0 10 = nI b → x1 ≤ b → b < 200 → (∀ j k, (j = 0 → k ≤ 45) → uppV d j k = uppV c j k) → KPr c d → (∀ J, wLp (nI b) J (nI x1) d → k2_X12_wetLine c J) → LP2 (fun R62 (v60 : Int32) (c61 : CT) => (if (R'.1 0 10) < v60 then Q (1 : Int32) c61 R' else (if (200 : Int32) ≤ v60 then Q (1 : Int32) c61 R' else wrI c61 10 200 v60 (vp_nar .boolean (1 : Int32)) (fun c70 => R62 (v60 + 1) c70)))) (nI x1) P := by
      intro R' d i' b hi' rc rr g hxb hb up kp re
      refine upl2 (N := b + 1) (a := x1) (by omega) (fun j e => e = wetF P 10 0 x1 j) (fun R j e h1 h2 hd k => ?_) (fun R e hd => ?_) (by omega) wetF_0.symm
      · have ws := wetF_s (c := P) (j := 10) (o := 0) (a := x1) (b := j) h1
        rw [Nat.zero_add] at ws
        rw [hd, g, if_neg (by rw [nI_lt' (by omega) (by omega)]; omega), if_neg (by rw [li_200, nI_le' (by omega) (by omega)]; omega), wrI_n (by omega) (by omega), bo1, ws, inc_n]
        exact k _ rfl
      · rw [hd, g, if_pos (by rw [nI_lt' (by omega) (by omega)]; omega)]
        refine hS _ _ (wetF d 30 200 x1 (b + 1)) i' hi' rc rr.wet ?_ ?_ ?_ fun J hJ => re J (wLp_s hxb hb rr hJ)
        · refine hp.wet (fun j k z => wetF_ne (by omega)) (fun j k w z => ?_) fun x hx => ?_
          · rw [upp_w (by omega)]
            refine up j k ?_
            unfold VWR at w
            omega
          · by_cases z : x1 ≤ x ∧ x < b + 1
            · refine Or.inr ⟨wetF_at (by omega), ?_⟩
              rw [uppV_u (by omega)]
              exact wetF_at (show 200 + x1 ≤ 200 + x ∧ 200 + x < 200 + (b + 1) by omega)
            · refine Or.inl ⟨wetF_ne (by omega), ?_⟩
              rw [upp_w (by omega)]
              exact up 30 x (by omega)
        · exact fun j k hk => wetF_ne (by omega)
        · intro j k hk
          rw [wetF_ne (by omega)]
          exact kp j k hk
    have re1 : ∀ J, k_X12_isWord (wTk c (T (i + 1 + 1))) (17 : Int32) (fun t33 => (if t33 = (0 : Int32) then wLp (nI x1) J (nI x1) (wTk c (T (i + 1 + 1))) else k2_X12_token (wTk c (T (i + 1 + 1))) (fun c34 => k2_X12_numeral c34 (nI x1) (199 : Int32) (fun t36 c35 => wLp t36 J (nI x1) c35)))) → k2_X12_wetLine c J := fun J w => by
      rw [wetL_eq]
      refine numeral_s hr y1 ?_
      rw [xe1]
      exact w
    have shp := r2.1.2.2.2.2.2.2.2 (i + 1 + 1)
    rw [r2.2.2.2.1]
    refine ite_b (fun z => ?_) fun z => ?_
    · have nw : ¬ ((T (i + 1 + 1)).2.2.1 = 0 ∧ (T (i + 1 + 1)).2.2.2 = 17) := by
        rw [← KT_w15 shp]
        exact z
      dsimp only
      rw [xe1]
      refine fin R2 (wTk c (T (i + 1 + 1))) (i + 1 + 1) x1 (by omega) r2 hr.tk (v1.trans xe1) (Nat.le_refl _) (by omega) (fun j k w => upp_t w) (fun j k hk => wTk_ne (by omega)) fun J w => re1 J ?_
      refine isWord_s hr.tk (fun y => absurd y nw) fun _ => ?_
      rw [if_pos rfl]
      exact w
    · have z' := Classical.not_not.mp z
      rw [KT_w15 shp] at z'
      refine adv_ok r2 (r2.lt (by rw [z'.1]; decide)) fun R3 r3 _ _ => ?_
      rw [xe1]
      have lo : nI x1 ≤ 9999 := by
        rw [li_9999, nI_le' (by omega) (by omega)]
        omega
      have re2 : ∀ J, k2_X12_numeral (wTk (wTk c (T (i + 1 + 1))) (T (i + 1 + 1 + 1))) (nI x1) (199 : Int32) (fun t36 c35 => wLp t36 J (nI x1) c35) → k2_X12_wetLine c J := fun J w => re1 J (isWord_s hr.tk (fun _ => by
        rw [if_neg (by decide)]
        exact token_s hr.tk w) fun y => absurd z' y)
      refine takeNumber_ok r3 lo (by decide) (fun y2 R4 r4 _ v2 => ?_) fun y2 R4 f4 => ?_
      · rw [if_pos (by decide)]
        dsimp only
        obtain ⟨x2, xa2, xb2, xe2⟩ := nf_n (a := x1) (b := 199) (by omega) (by omega) y2
        refine fin R4 (wTk (wTk (wTk c (T (i + 1 + 1))) (T (i + 1 + 1 + 1))) (T (i + 1 + 1 + 1 + 1))) (i + 1 + 1 + 1 + 1) x2 (by omega) r4 hr.tk.tk.tk (v2.trans xe2) xa2 (by omega) (fun j k w => by rw [upp_t w, upp_t w, upp_t w]) (fun j k hk => by rw [wTk_ne (by omega), wTk_ne (by omega), wTk_ne (by omega)]) fun J w => re2 J ?_
        refine numeral_s hr.tk.tk y2 ?_
        rw [xe2]
        exact w
      · rw [if_neg fun y => y rfl]
        refine hF _ _ (flt (wTk (wTk c (T (i + 1 + 1))) (T (i + 1 + 1 + 1))) (nf (T (i + 1 + 1 + 1)) (nI x1) 199)) _ _ y2 f4 hr.tk.tk.fl fun J hJ => re2 J ?_
        refine numeral_f hr.tk.tk y2 ?_
        exact wLp_x hr.tk.tk.fl y2 hJ
  · rw [if_neg fun y => y rfl]
    refine hF _ _ (flt c (nf (T (i + 1)) 0 199)) _ _ y1 f2 hr.fl fun J hJ => ?_
    rw [wetL_eq]
    refine numeral_f hr y1 ?_
    refine isWord_x hr.fl y1 ?_
    rw [if_pos rfl]
    exact wLp_x hr.fl y1 hJ
end Lines3
