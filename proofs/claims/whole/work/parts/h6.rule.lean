/-! ===== reading: the rules' lines, values; a rule's line on both sides ===== -/
def rPri (n : Nat) (cM : CT) (Q : CT → Prop) : Prop := (if (cM.1 0 66) = (0 : Int32) then jn (fun (c209 : CT) => (if (c209.1 0 66) = (0 : Int32) then wrF c209 0 70 ((c209.1 0 70) - (1 : Int32)) (fun c210 => k2_X12_token c210 (fun c211 => Q c211)) else Q c209)) (fun J218 => jn (fun (c242 : CT) => (if (c242.1 0 66) = (0 : Int32) then wrF c242 0 70 ((c242.1 0 70) + (1 : Int32)) (fun c243 => k2_X12_token c243 (fun c244 => kg2_X12_expression n 0 c244 (fun c245 => (if (c245.1 0 66) ≠ (0 : Int32) then J218 c245 else k_X12_isSign c245 (41 : Int32) (fun t246 => (if t246 ≠ (0 : Int32) then J218 c245 else k_X12_wrong c245 (1 : Int32) (fun c247 => J218 c247))))))) else Q c242)) (fun J263 => k_X12_isSign cM (40 : Int32) (fun t265 => (if t265 = (0 : Int32) then vK (if ¬ ((cM.1 0 64) ≠ (2 : Int32)) then (1 : Int32) else (0 : Int32)) (fun v266 => vK (if (¬ ((cM.1 0 64) ≠ (0 : Int32)) ∧ ((cM.1 0 65) = (13 : Int32) ∨ ¬ ((cM.1 0 65) < (20 : Int32)))) then (1 : Int32) else (0 : Int32)) (fun v267 => jn (fun (c269 : CT) => k_X12_knot c269 (fun c270 => k_X12_puts c270 (if ¬ (v266 = (0 : Int32)) then (0 : Int32) else (1 : Int32)) (c270.1 0 65) (fun c271 => k2_X12_goOn c271 (fun c272 => Q c272)))) (fun J277 => jn (fun (c280 : CT) => (if v266 ≠ (0 : Int32) then J277 c280 else (if v267 ≠ (0 : Int32) then J277 c280 else k_X12_wrong c280 (1 : Int32) (fun c281 => J277 c281)))) (fun J290 => (if v266 = (0 : Int32) then J290 cM else (if (cM.1 0 65) ≤ (9999 : Int32) then J290 cM else k_X12_wrong cM (2 : Int32) (fun c292 => J277 c292))))))) else (if (cM.1 0 70) ≠ (8 : Int32) then J263 cM else k_X12_wrong cM (2 : Int32) (fun c302 => J263 c302)))))) else Q cM)
theorem rk_1 {s : Nat} (h : 1 ≤ rkN s) : s = 16 ∨ s = 17 ∨ s = 18 ∨ (30 ≤ s ∧ s ≤ 39) := by
  unfold rkN at h
  by_cases e1 : s = 16
  · omega
  try dsimp only
  rw [if_neg e1] at h
  by_cases e2 : s = 17
  · omega
  try dsimp only
  rw [if_neg e2] at h
  by_cases e3 : s = 18
  · omega
  try dsimp only
  rw [if_neg e3] at h
  by_cases e4 : 30 ≤ s ∧ s ≤ 35
  · omega
  try dsimp only
  rw [if_neg e4] at h
  by_cases e5 : s = 36 ∨ s = 37
  · omega
  try dsimp only
  rw [if_neg e5] at h
  by_cases e6 : s = 38 ∨ s = 39
  · omega
  try dsimp only
  rw [if_neg e6] at h
  omega
theorem nx_0 {s : Nat} {p : List Nat} (h : NX 0 s p) (r : 1 ≤ rkN s) : s = 16 ∨ (rkN s = 4 ∧ CmpT p) := by
  obtain ⟨n1, n2, n3, n4, n5⟩ := h
  have n1 := n1 (by omega)
  have n2 := n2 (by omega)
  have n4 := n4 (by omega)
  have n5 := n5 rfl
  by_cases e : s = 16
  · exact Or.inl e
  · have z : 30 ≤ s ∧ s ≤ 35 := by
      have := rk_1 r
      omega
    refine Or.inr ⟨?_, n3 (by omega) z.1 z.2⟩
    unfold rkN
    try dsimp only
    rw [if_neg (by omega), if_neg (by omega), if_neg (by omega), if_pos z]
section PriS
variable {P0 c0 M P R c : CT} {T : Nat → T4} {K n u a i0 d ne k o i f lv : Nat} {W p : List Nat} {Q : Int32 → CT → CT → Prop} {J : CT → Prop}
theorem pri_num (h : RDr M c T n i) (e2 : (T i).2.2.1 = 2) (v9 : (T i).2.2.2 ≤ 9999) (w : k_X12_knot c (fun c270 => k_X12_puts c270 (0 : Int32) (c270.1 0 65) (fun c271 => k2_X12_goOn c271 (fun c272 => J c272)))) : rPri f c J := by
  unfold rPri
  try dsimp only
  rw [if_pos h.2.2.2.2.1, jn_eq, jn_eq]
  refine isSign_s h (fun y => absurd (e2.symm.trans y.1) (by decide)) fun _ => ?_
  try dsimp only
  rw [if_pos rfl, vK_eq, vK_eq, jn_eq, jn_eq, h.2.2.2.1.2.2.1, h.2.2.2.1.2.2.2]
  have e1 : (if ¬ ((T i).2.2.1 ≠ (2 : Int32)) then (1 : Int32) else (0 : Int32)) = 1 := if_pos fun y => y e2
  rw [e1, if_neg (by decide), if_pos v9, if_pos (by decide)]
  exact w
theorem pri_big (h : RDr M c T n i) (e2 : (T i).2.2.1 = 2) (v9 : ¬ (T i).2.2.2 ≤ 9999) (w : J (flt c 2)) : rPri f c J := by
  unfold rPri
  try dsimp only
  rw [if_pos h.2.2.2.2.1, jn_eq, jn_eq]
  refine isSign_s h (fun y => absurd (e2.symm.trans y.1) (by decide)) fun _ => ?_
  try dsimp only
  rw [if_pos rfl, vK_eq, vK_eq, jn_eq, jn_eq, h.2.2.2.1.2.2.1, h.2.2.2.1.2.2.2]
  have e1 : (if ¬ ((T i).2.2.1 ≠ (2 : Int32)) then (1 : Int32) else (0 : Int32)) = 1 := if_pos fun y => y e2
  rw [e1, if_neg (by decide), if_neg v9]
  refine wrong_s h ?_
  exact knot_x h.fl (by decide) (puts_x h.fl (by decide) (goOn_x h.fl (by decide) w))
theorem pri_name (h : RDr M c T n i) (e2 : (T i).2.2.1 = 0 ∧ ((T i).2.2.2 = 13 ∨ ¬ (T i).2.2.2 < 20)) (w : k_X12_knot c (fun c270 => k_X12_puts c270 (1 : Int32) (c270.1 0 65) (fun c271 => k2_X12_goOn c271 (fun c272 => J c272)))) : rPri f c J := by
  unfold rPri
  try dsimp only
  rw [if_pos h.2.2.2.2.1, jn_eq, jn_eq]
  refine isSign_s h (fun y => absurd (e2.1.symm.trans y.1) (by decide)) fun _ => ?_
  try dsimp only
  rw [if_pos rfl, vK_eq, vK_eq, jn_eq, jn_eq, h.2.2.2.1.2.2.1, h.2.2.2.1.2.2.2]
  have e1 : (if ¬ ((T i).2.2.1 ≠ (2 : Int32)) then (1 : Int32) else (0 : Int32)) = 0 := if_neg fun y => y fun x => absurd (e2.1.symm.trans x) (by decide)
  have e3 : (if (¬ ((T i).2.2.1 ≠ (0 : Int32)) ∧ ((T i).2.2.2 = (13 : Int32) ∨ ¬ ((T i).2.2.2 < (20 : Int32)))) then (1 : Int32) else (0 : Int32)) = 1 := if_pos ⟨fun y => y e2.1, e2.2⟩
  rw [e1, e3, if_pos rfl]
  dsimp only
  rw [if_neg (fun y => y rfl), if_pos (by decide)]
  exact w
theorem pri_no (h : RDr M c T n i) (e0 : ¬ ((T i).2.2.1 = 3 ∧ (T i).2.2.2 = 40)) (e1 : (T i).2.2.1 ≠ 2) (e2 : ¬ ((T i).2.2.1 = 0 ∧ ((T i).2.2.2 = 13 ∨ ¬ (T i).2.2.2 < 20))) (w : J (flt c 1)) : rPri f c J := by
  unfold rPri
  try dsimp only
  rw [if_pos h.2.2.2.2.1, jn_eq, jn_eq]
  refine isSign_s h (fun y => absurd y e0) fun _ => ?_
  try dsimp only
  rw [if_pos rfl, vK_eq, vK_eq, jn_eq, jn_eq, h.2.2.2.1.2.2.1, h.2.2.2.1.2.2.2]
  have z1 : (if ¬ ((T i).2.2.1 ≠ (2 : Int32)) then (1 : Int32) else (0 : Int32)) = 0 := if_neg fun y => y e1
  have z3 : (if (¬ ((T i).2.2.1 ≠ (0 : Int32)) ∧ ((T i).2.2.2 = (13 : Int32) ∨ ¬ ((T i).2.2.2 < (20 : Int32)))) then (1 : Int32) else (0 : Int32)) = 0 := if_neg fun y => e2 ⟨Classical.not_not.mp y.1, y.2⟩
  rw [z1, z3, if_pos rfl]
  dsimp only
  rw [if_neg (fun y => y rfl), if_neg (fun y => y rfl)]
  refine wrong_s h ?_
  exact knot_x h.fl (by decide) (puts_x h.fl (by decide) (goOn_x h.fl (by decide) w))
theorem pri_full (h : RDr M c T n i) (e0 : (T i).2.2.1 = 3 ∧ (T i).2.2.2 = 40) (e7 : c.1 0 70 = 8) (w : J (flt c 2)) : rPri f c J := by
  unfold rPri
  try dsimp only
  rw [if_pos h.2.2.2.2.1, jn_eq, jn_eq]
  refine isSign_s h (fun _ => ?_) fun y => absurd e0 y
  try dsimp only
  rw [if_neg (by decide), e7, if_neg (fun y => y rfl)]
  refine wrong_s h ?_
  rw [flt_66, if_neg (by decide)]
  exact w
theorem pri_open (h : RDr M c T n i) (e0 : (T i).2.2.1 = 3 ∧ (T i).2.2.2 = 40) (e7 : c.1 0 70 = nI o) (o8 : o < 8) (w : kg2_X12_expression f 0 (wTk (sI c 0 70 (nI (o + 1))) (T (i + 1))) (fun c245 => (if (c245.1 0 66) ≠ (0 : Int32) then (if (c245.1 0 66) = (0 : Int32) then wrF c245 0 70 ((c245.1 0 70) - (1 : Int32)) (fun c210 => k2_X12_token c210 (fun c211 => J c211)) else J c245) else k_X12_isSign c245 (41 : Int32) (fun t246 => (if t246 ≠ (0 : Int32) then (if (c245.1 0 66) = (0 : Int32) then wrF c245 0 70 ((c245.1 0 70) - (1 : Int32)) (fun c210 => k2_X12_token c210 (fun c211 => J c211)) else J c245) else k_X12_wrong c245 (1 : Int32) (fun c247 => (if (c247.1 0 66) = (0 : Int32) then wrF c247 0 70 ((c247.1 0 70) - (1 : Int32)) (fun c210 => k2_X12_token c210 (fun c211 => J c211)) else J c247))))))) : rPri f c J := by
  unfold rPri
  try dsimp only
  rw [if_pos h.2.2.2.2.1, jn_eq, jn_eq]
  refine isSign_s h (fun _ => ?_) fun y => absurd e0 y
  try dsimp only
  rw [if_neg (by decide), e7, if_pos (by rw [li_8, Ne, nI_eq' (by omega) (by omega)]; omega), if_pos h.2.2.2.2.1, wrF_eq, inc_n]
  exact token_s (h.s (nrv_0 (by omega)) (by omega)) w
theorem lev_5 (hu : u ≤ 1) (I0 : LEV P0 c0 M T K n u a i0 Q f 0) : LEV P0 c0 M T K n u a i0 Q (f + 1) 5 := by
  intro d ne k o i W P R c h fu lw n16 hS hF
  have n16 := n16 (by omega)
  have hh := h
  obtain ⟨⟨h1, h2, h3, h4⟩, ⟨p1, p2, p3⟩, ⟨c1, c2, c3, c4⟩, ⟨a1, a2, a3, a4⟩, -⟩ := h
  obtain ⟨shp, kd, k4⟩ := h1.kd
  have l0 : ([] : List Nat).length = 0 := rfl
  rw [l0] at a1 c1
  have eq : ∀ J : CT → Prop, rPri f c J → kg2_X12_expression (f + 1) 5 c J := fun J w => w
  have nil : ∀ x ∈ ([] : List Nat), lrk 5 ≤ rkN x := fun x hx => by simp at hx
  have nx5 : ∀ s p, NX 5 s p := fun s p => ⟨fun y => absurd y (by omega), fun y => absurd y (by omega), fun y => absurd y (by omega), fun y => absurd y (by omega), fun y => absurd y (by omega)⟩
  have val : ∀ (sv x : Int32) (R' : CT), k < 64 → RDc R' T K n (i + 1) → SMW R R' → KnR x sv (T i).2.2.2 → sv ≠ 2 → (∀ J : CT → Prop, k_X12_knot c (fun c270 => k_X12_puts c270 sv (c270.1 0 65) (fun c271 => k2_X12_goOn c271 (fun c272 => J c272))) → rPri f c J) → LP4 (clB u Q) 0 (nI (i + 1 - i0)) (ad1 P u ne x) R' := fun sv x R' k6 r1 r2 kn n2 w => by
    have rs1 := hh.val hu k6 r1 r2 kn n2
    refine hS _ _ _ _ _ _ _ (by omega) (by omega) rs1 nil (nx5 _ _) fun J j => eq J (w J (knot_s h2 c2 k6 ?_))
    have rr : RDr M (sI c 0 58 (nI (k + 1))) T n i := h2.s (nrv_0 (by omega)) (by omega)
    rw [rr.2.2.2.1.2.2.2]
    refine puts_s rr ((sI_ne (by omega)).trans c1) (by omega) ?_
    exact goOn_s (putK_rd rr) j
  have full : ∀ (sv : Int32) (R' : CT), k = 64 → FLc R' 2 (T i).2.1 → (∀ J : CT → Prop, k_X12_knot c (fun c270 => k_X12_puts c270 sv (c270.1 0 65) (fun c271 => k2_X12_goOn c271 (fun c272 => J c272))) → rPri f c J) → Q 0 P R' := fun sv R' k6 f' w => by
    refine hF P R' (flt c 2) _ _ (by decide) f' h2.fl fun J j => eq J (w J (knot_f h2 (by rw [c2, k6]) ?_))
    exact puts_x h2.fl (by decide) (goOn_x h2.fl (by decide) j)
  by_cases e28 : knd (T i) = 28
  · have w := e28
    rw [knd_28 shp] at w
    refine go_open hh e28 (fun o8 R1 r1 r2 r3 => ?_) fun o8 R' f' => ?_
    · have rs1 := hh.opn o8 r1 r2 r3
      refine I0 _ _ _ _ _ _ _ _ _ rs1 (by omega) (by rw [lk_snoc]; decide) (fun y => absurd y (by omega)) (fun ne' p' k' i' P' R' c' b1 b2 b3 b4 b5 b6 => ?_) fun P' R' c' kk pp b1 b2 b3 b4 => ?_
      · have bb := b3
        obtain ⟨⟨g1, g2, g3, g4⟩, -, ⟨e1, e2, e3, e4⟩, ⟨f1, f2, f3, f4⟩, -⟩ := b3
        obtain ⟨shp1, kd1, k41⟩ := g1.kd
        by_cases e29 : knd (T i') = 29
        · have w1 := e29
          rw [knd_29 shp1] at w1
          refine go_shut hu bb e29 (fun x hx => b4 x hx) fun R2 q1 q2 q3 => ?_
          refine hS _ _ _ _ _ _ _ (by omega) (by omega) (bb.sht hu q1 q2 q3) nil (nx5 _ _) fun J j => eq J (pri_open h2 w c3 o8 (b6 _ ?_))
          try dsimp only
          rw [if_neg (fun y => y g2.2.2.2.2.1)]
          refine isSign_s g2 (fun _ => ?_) fun y => absurd w1 y
          try dsimp only
          rw [if_pos (by decide), if_pos g2.2.2.2.2.1, wrF_eq, e3, sub1_n (by omega), Nat.add_sub_cancel]
          exact token_s (g2.s (nrv_0 (by omega)) (by omega)) j
        · refine go_none hu bb rfl (fun y => absurd y e29) (nx_0 b5) (fun y => absurd y (by omega)) fun P2 R2 f2' => ?_
          refine hF P2 R2 (flt c' 1) _ _ (by decide) f2' g2.fl fun J j => eq J (pri_open h2 w c3 o8 (b6 _ ?_))
          try dsimp only
          rw [if_neg (fun y => y g2.2.2.2.2.1)]
          refine isSign_s g2 (fun y => absurd (by rw [knd_29 shp1]; exact y) e29) fun _ => ?_
          try dsimp only
          rw [if_neg (fun y => y rfl)]
          refine wrong_s g2 ?_
          rw [flt_66, if_neg (by decide)]
          exact j
      · refine hF P' R' c' kk pp b1 b2 b3 fun J j => eq J (pri_open h2 w c3 o8 (b4 _ ?_))
        try dsimp only
        rw [if_pos (by rw [b3.2.1]; exact b1), if_neg (by rw [b3.2.1]; exact b1)]
        exact j
    · exact hF P R' (flt c 2) _ _ (by decide) f' h2.fl fun J j => eq J (pri_full h2 w (by rw [c3, o8]; rfl) j)
  · by_cases e26 : knd (T i) = 26
    · have w := e26
      rw [knd_26 shp] at w
      have vr := (h1.1.2.2.2.2.1 i h1.2.1).2.2.2 w
      have nn := NR_nn vr
      refine go_num hu hh e26 (fun z k6 R' r1 r2 => ?_) (fun z R' f' => ?_) fun z k6 R' f' => ?_
      · obtain ⟨x, -, x2, x3⟩ := nf_n (a := 0) (b := 9999) (by omega) (by omega) z
        refine val 0 _ R' k6 r1 r2 (Or.inl ⟨rfl, x, x2, x3, x3⟩) (by decide) fun J j => pri_num h2 w ?_ j
        rw [x3, li_9999, nI_le' (by omega) (by omega)]
        exact x2
      · have bad : ¬ (T i).2.2.2 ≤ 9999 := fun y => by
          unfold nf at z
          try dsimp only
          rw [if_pos w, if_neg] at z
          · exact z rfl
          · rintro (q | q)
            · exact absurd nn (Int32.not_le.mpr q)
            · exact absurd y (Int32.not_le.mpr q)
        have e2 : nf (T i) 0 9999 = 2 := by
          unfold nf
          try dsimp only
          rw [if_pos w, if_pos (Or.inr (Int32.not_le.mp bad))]
        rw [e2] at f'
        exact hF P R' (flt c 2) _ _ (by decide) f' h2.fl fun J j => eq J (pri_big h2 w bad j)
      · obtain ⟨x, -, x2, x3⟩ := nf_n (a := 0) (b := 9999) (by omega) (by omega) z
        refine full 0 R' k6 f' fun J j => pri_num h2 w ?_ j
        rw [x3, li_9999, nI_le' (by omega) (by omega)]
        exact x2
    · by_cases enm : 19 ≤ knd (T i) ∧ knd (T i) ≤ 24
      · have w := (knd_nm shp).mp enm
        obtain ⟨q, q1, q2, q3⟩ := knd_nv shp enm
        refine go_name hu hh enm (fun k6 R' r1 r2 => ?_) fun k6 R' f' => ?_
        · exact val 1 _ R' k6 r1 r2 (Or.inr (Or.inl ⟨rfl, q, q1, by rw [q2], q3⟩)) (by decide) fun J j => pri_name h2 w j
        · exact full 1 R' k6 f' fun J j => pri_name h2 w j
      · refine go_bad hh e28 e26 n16 enm fun R' f' => ?_
        refine hF P R' (flt c 1) _ _ (by decide) f' h2.fl fun J j => eq J (pri_no h2 ?_ ?_ ?_ j)
        · rw [← knd_28 shp]
          exact e28
        · rw [Ne, ← knd_26 shp]
          exact e26
        · rw [← knd_nm shp]
          exact enm
theorem lev_all (hu : u ≤ 1) : ∀ f lv, lv ≤ 5 → LEV P0 c0 M T K n u a i0 Q f lv
  | 0, lv, h => fun _ _ _ _ _ _ _ _ _ _ fu => absurd fu (by omega)
  | f + 1, 0, h => lev_0 hu (lev_all hu f 1 (by omega))
  | f + 1, 1, h => lev_1 hu (lev_all hu f 2 (by omega))
  | f + 1, 2, h => lev_2 hu (lev_all hu f 2 (by omega)) (lev_all hu f 3 (by omega))
  | f + 1, 3, h => lev_3 hu (lev_all hu f 4 (by omega))
  | f + 1, 4, h => lev_4 hu (lev_all hu f 5 (by omega))
  | f + 1, 5, h => lev_5 hu (lev_all hu f 0 (by omega))
  | f + 1, lv + 6, h => absurd h (by omega)
end PriS
/-! a rule's line -/
theorem PRel.rul {P' V' P V : VW} {l q f m h u : Nat} (hu : u ≤ 1) (g : PRel P V l q f m h) (eP : ∀ j k, ¬ (j = 11 + 2 * u ∨ j = 12 + 2 * u) → P' j k = P j k) (eV : ∀ j k, VWR j k → ¬ ((j = 0 ∧ (k = 39 + 2 * u ∨ k = 40 + 2 * u ∨ k = 45)) ∨ j = 31 ∨ j = 32) → V' j k = V j k) (new : PRul P' V') : PRel P' V' l q f m h := by
  obtain ⟨c1, c2, c3, c4, c5, c6, c7, c8⟩ := g.chg (A := fun j _ => j = 11 + 2 * u ∨ j = 12 + 2 * u) (B := fun j k => (j = 0 ∧ (k = 39 + 2 * u ∨ k = 40 + 2 * u ∨ k = 45)) ∨ j = 31 ∨ j = 32) eP eV
  obtain ⟨a, ⟨b1, b2, b3, b4, b5⟩, d1, d2, d3, d4, d5⟩ := g.1
  exact ⟨⟨a, ⟨(eP _ _ (by omega)).trans b1, (eP _ _ (by omega)).trans b2, (eP _ _ (by omega)).trans b3, (eP _ _ (by omega)).trans b4, (eP _ _ (by omega)).trans b5⟩, (eV _ _ (Or.inl (by omega)) (by omega)).trans d1, (eV _ _ (Or.inl (by omega)) (by omega)).trans d2, (eV _ _ (Or.inl (by omega)) (by omega)).trans d3, (eV _ _ (Or.inl (by omega)) (by omega)).trans d4, (eV _ _ (Or.inl (by omega)) (by omega)).trans d5⟩, fun i hi => c1 i hi (by omega), fun i hi => c2 i hi (by omega), fun i hi => c3 i hi (by omega) (by omega) (by omega), fun i hi => c4 i hi (by omega) (by omega), fun i hi => c5 i hi (by omega) (by omega), fun d hd => c6 d hd (by omega) (by omega), new, c8 (by omega) (by omega)⟩
/-- the other rule, and the knots so far -/
theorem rul_pre {P : VW} {V : VW} {u : Nat} (hu : u ≤ 1) (g : PRul P V) (h0 : P (11 + 2 * u) 0 ≤ 0) (hV : V 0 (41 - 2 * u) = 0) : ∃ a, a ≤ 64 ∧ P (11 + 2 * u) 0 = nI 0 ∧ P (13 - 2 * u) 0 = nI a ∧ V 0 45 = nI a ∧ V 0 (42 - 2 * u) = nI a ∧ RulR (P (14 - 2 * u)) V 0 a := by
  obtain ⟨a, n, b, k, g1, g2, g3, g4, g5, g6, g7, g8, g9, g10⟩ := g
  have a6 := g4.2.1
  have b6 := g8.2.1
  rcases (show u = 0 ∨ u = 1 by omega) with z | z
  · subst z
    have h0 : P 11 0 ≤ 0 := h0
    have hV : V 0 41 = 0 := hV
    rw [g1, li_0, nI_le' (by omega) (by omega)] at h0
    rw [g6, li_0, nI_eq' (by omega) (by omega)] at hV
    have n0 : n = 0 := by omega
    subst n0
    subst hV
    rw [Nat.zero_add] at g7 g9 g10
    exact ⟨k, g10, g1, g5, g9, g7, g8⟩
  · subst z
    have h0 : P 13 0 ≤ 0 := h0
    have hV : V 0 39 = 0 := hV
    rw [g5, li_0, nI_le' (by omega) (by omega)] at h0
    rw [g2, li_0, nI_eq' (by omega) (by omega)] at hV
    have n0 : k = 0 := by omega
    subst n0
    subst hV
    rw [Nat.zero_add] at g3
    rw [Nat.add_zero] at g9 g10
    exact ⟨n, g10, g5, g1, g9, g3, g4⟩
theorem rul_new {P V : VW} {u a N : Nat} (hu : u ≤ 1) (p1 : P (11 + 2 * u) 0 = nI N) (p2 : P (13 - 2 * u) 0 = nI a) (v1 : V 0 (39 + 2 * u) = nI a) (v2 : V 0 (40 + 2 * u) = nI (a + N)) (v3 : V 0 (41 - 2 * u) = 0) (v4 : V 0 (42 - 2 * u) = nI a) (v5 : V 0 45 = nI (a + N)) (aN : a + N ≤ 64) (r1 : RulR (P (12 + 2 * u)) V a N) (r2 : RulR (P (14 - 2 * u)) V 0 a) : PRul P V := by
  rcases (show u = 0 ∨ u = 1 by omega) with z | z
  · subst z
    exact ⟨a, N, 0, a, p1, v1, v2, r1, p2, v3, by rw [Nat.zero_add]; exact v4, r2, by rw [Nat.add_comm]; exact v5, by omega⟩
  · subst z
    exact ⟨0, a, a, N, p2, v3, by rw [Nat.zero_add]; exact v4, r2, p1, v1, v2, r1, v5, by omega⟩
theorem rule_ok {u : Nat} (hu : u ≤ 1) : RuleOk u := by
  intro P R c M T K n i l q f m h Q hc hi hr hp h0 h58 h70 h53 hS hF hX
  have e53 : 41 - 2 * u + 12 = 53 - 2 * u := by omega
  obtain ⟨a, a6, z1, z2, z3, z4, z5⟩ := rul_pre hu hp.2.2.2.2.2.2.2.1 h0 (by rw [uppV_0, e53]; exact h53)
  have c57 : c.1 0 57 = nI a := by
    rw [uppV_0] at z3
    exact z3
  have c58 : c.1 0 58 = nI a := h58.trans c57
  rw [rule_eq h0]
  refine adv_ok hc hi fun R1 r1 r2 _ => ?_
  rw [wrF_eq, wrF_eq]
  have rs0 : RS P (sI c 0 (51 + 2 * u) (nI a)) M T K n u a (i + 1) 0 0 a 0 (i + 1) [] [] P (sI (sI R1 0 13 0) 0 14 0) (sI c 0 (51 + 2 * u) (nI a)) := by
    refine ⟨⟨r1.w fun j x z => by rw [sI_ne (by omega), sI_ne (by omega)], hr.s (nrv_0 (by omega)) (by omega), Nat.le_refl _, ⟨?_, Nat.zero_le _, fun x hx => ?_, fun j x hx => ?_⟩⟩, ⟨z1, z2, fun _ _ _ _ => rfl⟩, ⟨?_, ?_, ?_, sI_same⟩, ⟨by rfl, a6, by omega, by omega⟩, ⟨fun j hj => absurd hj (Nat.not_lt_zero _), fun j x hx => ?_⟩, ⟨fun j hj => absurd hj (Nat.not_lt_zero _), rfl⟩, fun _ _ _ _ => rfl⟩
    · rw [sI_ne (by omega), sI_same]
      rfl
    · simp at hx
    · simp at hx
    · rw [sI_ne (by omega)]
      exact c57
    · rw [sI_ne (by omega)]
      exact c58
    · rw [sI_ne (by omega)]
      exact h70
    · simp at hx
  have lev := lev_all (P0 := P) (c0 := sI c 0 (51 + 2 * u) (nI a)) (M := M) (T := T) (K := K) (n := n) (a := a) (i0 := i + 1) (Q := Q) hu 200 0 (by omega)
  have go : ∀ (c' : CT) (J : CT → Prop), (∀ J : CT → Prop, J c' → kg2_X12_expression 200 0 (sI c 0 (51 + 2 * u) (nI a)) J) → J (sI c' 0 (52 + 2 * u) (c'.1 0 57)) → rRul u c J := fun c' J w j => by
    unfold rRul
    rw [wrF_eq, c57]
    exact w _ j
  have main : LP4 (clB u Q) 1 (nI (i + 1 - (i + 1))) P (sI (sI R1 0 13 0) 0 14 0) := by
    refine lev 0 0 a 0 (i + 1) [] P _ _ rs0 (by omega) (by decide) (fun y => absurd y (by omega)) (fun ne' p' k' i' P' R' c' b1 b2 b3 b4 b5 b6 => ?_) fun P' R' c' kk pp b1 b2 b3 b4 => ?_
    · have bb := b3
      have ad := b3.adl hu
      obtain ⟨⟨g1, g2, g3, g4⟩, ⟨p1, p2, p3⟩, ⟨e1, e2, e3, e4⟩, ⟨f1, f2, f3, f4⟩, ⟨k1, k2⟩, ⟨d1, d2⟩, fr⟩ := b3
      have rr : RDr M (sI c' 0 (52 + 2 * u) (c'.1 0 57)) T n i' := g2.s (nrv_0 (by omega)) (by omega)
      have ln : ([] : List Nat).length = 0 := rfl
      rw [ln] at f1
      by_cases r0 : rkN (knd (T i')) = 0
      · refine go_fin bb r0 (fun x hx => b4 x hx) fun R2 rc => ?_
        have N1 : 1 ≤ ne' + p'.length := by
          have := dpK_le (s := kS c' a) (v := kV c' a) (ne' + p'.length)
          omega
        have cell : ∀ j x, ¬ (j = 0 ∧ (x = 52 + 2 * u ∨ x = 51 + 2 * u ∨ x = 57 ∨ x = 58 ∨ (62 ≤ x ∧ x ≤ 67) ∨ x = 70)) → ¬ ((j = 31 ∨ j = 32) ∧ 64 + a ≤ x) → (sI c' 0 (52 + 2 * u) (c'.1 0 57)).1 j x = c.1 j x := fun j x y1 y2 => by
          rw [sI_ne (by omega), fr j x (by omega) y2, sI_ne (by omega)]
        have h31 : half 31 = 64 := rfl
        have h32 : half 32 = 64 := rfl
        have up : ∀ j x, VWR j x → ¬ ((j = 0 ∧ (x = 39 + 2 * u ∨ x = 40 + 2 * u ∨ x = 45)) ∨ ((j = 31 ∨ j = 32) ∧ a ≤ x)) → uppV (sI c' 0 (52 + 2 * u) (c'.1 0 57)) j x = uppV c j x := fun j x w y => by
          unfold VWR at w
          by_cases e : j = 0
          · subst e
            rw [uppV_0, uppV_0]
            exact cell 0 _ (by omega) (by omega)
          · rw [uppV_u e, uppV_u e]
            refine cell j _ (by omega) ?_
            rintro ⟨y1, y2⟩
            refine y (Or.inr ⟨y1, ?_⟩)
            rcases y1 with rfl | rfl
            · rw [h31] at y2
              omega
            · rw [h32] at y2
              omega
        have eS : kS (sI c' 0 (52 + 2 * u) (c'.1 0 57)) a = kS c' a := kS_f
        have eV : kV (sI c' 0 (52 + 2 * u) (c'.1 0 57)) a = kV c' a := kV_f
        refine hS _ R2 _ i' (by omega) rc rr (hp.rul hu (fun j x y => ad.1.2.2 j x (by omega) (by omega)) (fun j x w y => up j x w (by omega)) ?_) ?_ (fun j x y1 y2 => ad.1.2.2 j x y1 y2) ?_ (fun j x y => ?_) (fun y => ?_) fun J j => go c' J b6 j
        · refine rul_new (a := a) (N := ne' + p'.length) hu ad.1.1 ad.1.2.1 ?_ ?_ ?_ ?_ ?_ (by omega) ⟨by omega, by omega, fun j hj => ?_, fun j hj y => ?_, fun _ => ?_⟩ ?_
          · rw [uppV_0, show 39 + 2 * u + 12 = 51 + 2 * u by omega, sI_ne (by omega), fr 0 _ (by omega) (by omega), sI_same]
          · rw [uppV_0, show 40 + 2 * u + 12 = 52 + 2 * u by omega, sI_same, e1, Nat.add_assoc]
          · rw [uppV_0, e53, cell 0 _ (by omega) (by omega)]
            exact h53
          · rw [up 0 _ (Or.inl ⟨rfl, by omega, by omega⟩) (by omega)]
            exact z4
          · rw [uppV_0, sI_ne (by omega), e1, Nat.add_assoc]
          · have q := ad.2 j hj
            rw [← eS, ← eV] at q
            exact q
          · have q := d1 j hj
            rw [← eS, ← eV] at q
            exact q y
          · rw [← eS, ← eV] at d2
            exact d2
          · obtain ⟨y1, y2, y3, y4, y5⟩ := z5
            have us : ∀ j, j < a → uppV (sI c' 0 (52 + 2 * u) (c'.1 0 57)) 31 (0 + j) = uppV c 31 (0 + j) ∧ uppV (sI c' 0 (52 + 2 * u) (c'.1 0 57)) 32 (0 + j) = uppV c 32 (0 + j) := fun j hj => ⟨up 31 _ (Or.inr ⟨by omega, by omega, by rw [h31]; omega⟩) (by omega), up 32 _ (Or.inr ⟨by omega, by omega, by rw [h32]; omega⟩) (by omega)⟩
            refine ⟨y1, y2, fun j hj => ?_, fun j hj y => ?_, fun y => ?_⟩
            · rw [(us j hj).1, (us j hj).2, ad.1.2.2 _ _ (by omega) (by omega)]
              exact y3 j hj
            · rw [(us j hj).2, dpK.mv fun x hx => us x (by omega)]
              exact y4 j hj ((us j hj).1 ▸ y)
            · rw [dpK.mv fun x hx => us x hx]
              exact y5 y
        · rw [ad.1.1, li_0, nI_le' (by omega) (by omega)]
          omega
        · rw [sI_ne (by omega), sI_ne (by omega), e1, e2]
          congr 1
          omega
        · by_cases e70 : j = 0 ∧ x = 70
          · obtain ⟨rfl, rfl⟩ := e70
            rw [sI_ne (by omega), e3, h70]
            rfl
          · exact cell j x (by omega) (by omega)
        · rw [z2, li_0, nI_le' (by omega) (by omega)] at y
          rw [sI_ne (by omega), fr 0 _ (by omega) (by omega), sI_same, show a = 0 by omega]
          rfl
      · refine go_none hu bb rfl (fun _ => rfl) (nx_0 b5) (fun _ => by omega) fun P2 R2 f2' => ?_
        refine hX P2 R2 _ i' f2' rr (fun y => ?_) fun J j => go c' J b6 j
        rw [← knd_27 g1.kd.1] at y
        rw [y] at r0
        exact r0 rfl
    · exact hF P' R' _ kk pp b1 b2 (b3.s (nrv_0 (by omega)) (by omega)) fun J j => go c' J b4 j
  rw [Nat.sub_self] at main
  exact main
