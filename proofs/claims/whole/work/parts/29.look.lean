theorem lkw_125 : Cond.fieldLink RX11 125 "PaneRounds$House" "street" "I" ∈ lwG := inG_t1 191 rfl rfl
theorem lkw_128 : Cond.fieldLink RX11 128 "PaneRounds$House" "place" "I" ∈ lwG := inG_t1 196 rfl rfl
theorem lkw_131 : Cond.fieldLink RX11 131 "PaneRounds$House" "every" "I" ∈ lwG := inG_t1 201 rfl rfl
theorem lkw_134 : Cond.fieldLink RX11 134 "PaneRounds$House" "wont" "I" ∈ lwG := inG_t1 205 rfl rfl
theorem lkw_137 : Cond.fieldLink RX11 137 "PaneRounds$House" "price" "I" ∈ lwG := inG_t1 208 rfl rfl
theorem lkw_140 : Cond.fieldLink RX11 140 "PaneRounds$House" "dog" "Z" ∈ lwG := inG_t1 213 rfl rfl
theorem lkw_143 : Cond.fieldLink RX11 143 "PaneRounds$House" "opens" "I" ∈ lwG := inG_t1 219 rfl rfl
theorem lkw_c109 : Cond.classLink RX11 109 "java/lang/IndexOutOfBoundsException" ∈ lwG := inG_t6 233 rfl rfl
theorem lkw_c146 : Cond.classLink RX11 146 "java/util/NoSuchElementException" ∈ lwG := inG_t7 55 rfl rfl
theorem lkw_c13 : Cond.classLink RL 13 "java/lang/IndexOutOfBoundsException" ∈ lwG := inG_t6 227 rfl rfl
theorem lkw_c15 : Cond.classLink RL 15 "java/util/NoSuchElementException" ∈ lwG := inG_t6 228 rfl rfl
theorem lkw_i1 : Cond.initialized "java/lang/IndexOutOfBoundsException" ∈ lwG := inG_t1 19 rfl rfl
theorem lkw_i2 : Cond.initialized "java/util/NoSuchElementException" ∈ lwG := inG_t1 20 rfl rfl
theorem lkw_i11 : Cond.initialized "PaneRounds" ∈ lwG := inG_t1 1 rfl rfl
theorem lkw_iL : Cond.initialized "PaneRoundsLaw" ∈ lwG := inG_t1 0 rfl rfl
theorem ce_X11_look : CeeV yX11_look RX11 cX11_look 4 (some .int) 2 := ⟨inG_t6 230 rfl rfl, inG_t6 231 rfl rfl, lkw_i11, inG_t6 232 rfl rfl, ⟨rfl, by decide, by decide, by decide +kernel⟩, by decide⟩
theorem lkw_m7 : Cond.methodLink RL 7 yX11_look ∈ lwG := inG_t6 229 rfl rfl
theorem lkw_m39 : Cond.methodLink RL 39 yL_look ∈ lwG := inG_t6 224 rfl rfl
theorem lkw_sL : Cond.static yL_look ∈ lwG := inG_t6 225 rfl rfl
theorem lkw_cw : Cond.codeWith yL_look cL_look 5 (some .int) [(0, 10, 13, 13), (0, 10, 17, 15)] ∈ lwG := inG_t6 226 rfl rfl
def sStk : XS := fun _ _ => none
theorem is_stk {M : MX} {d pc : Nat} {ex : List Nat} : IS M d pc sStk ex := by
  intro X L L' σ σ' o he
  cases he
noncomputable def b_X11_look : XS := (sSeq (sBlk (sSeq (sBrIf (c1 z_ne (eC (fV 6 m_X6_hasHouse) [(eU (gF 11 2) (eA 0)), (eI 1)])) 1) sStk)) (sSeq (sStA 3 (eB (arR RX4) (eU (gF 6 6) (eU (gF 11 2) (eA 0))) (eI 1))) (sSeq (sBlk (sSeq (sBlk (sSeq (sBlk (sSeq (sBlk (sSeq (sBlk (sSeq (sBlk (sSeq (sBlk (sSeq (sBlk (sSeq (sBlk (sSeq (sBlk (sSw (eI 2) (swF 0 [1, 2, 3, 4, 5, 6, 7, 8, 9] 10))) (sRI (eU (gF 4 1) (eA 3))))) (sRI (eB (arI .int) (eU (gF 0 2) (eU (gF 11 5) (eA 0))) (eI 1))))) (sRI (eU (gF 4 3) (eA 3))))) (sRI (eU (gF 4 4) (eA 3))))) (sRI (eU (gF 4 5) (eA 3))))) (sRI (eU (gF 4 6) (eA 3))))) (sRI (eU (gF 4 7) (eA 3))))) (sRI (eT (cIf (c1 z_eq (eU (gF 4 8) (eA 3))) cF cT) (eK (.int 1)) (eK (.int 0)))))) (sRI (eU (gF 4 10) (eA 3))))) sStk)))
noncomputable def m_X11_look : XF := mth 4 b_X11_look
set_option maxRecDepth 20000 in
theorem i_X11_look : Impl yX11_look cX11_look 4 (some .int) 6 m_X11_look := impl_of (own := RX11) (ini := false) rfl (by decide) (by decide) (ex := [0]) (is_seq (is_blk (is_seq (is_brIf (ic_1 (ie_C (ia_1 (ie_U (ie_aload_n dX11_look_0 rfl) (r_getf dX11_look_1 ck_11 (k := 2) (by decide) rfl w_fieldLink_P_22_P_plan_LP_Plan_)) (ia_1 (ie_iload_n dX11_look_4 rfl) ia_0)) rfl (call_V i_X6_hasHouse ce_X6_hasHouse (ci := 6) rfl dX11_look_5 w_methodLink_P_105_P_Plan_hasHouse__I_Z (by omega) (by decide))) (j_if_ne dX11_look_8 (by decide))) rfl) (is_stk (pc := 11)))) (is_seq (is_stA (ie_B (ie_U (ie_U (ie_aload_n dX11_look_19 rfl) (r_getf dX11_look_20 ck_11 (k := 2) (by decide) rfl w_fieldLink_P_22_P_plan_LP_Plan_)) (r_getf dX11_look_23 ck_6 (k := 6) (by decide) rfl w_fieldLink_P_112_P_Plan_house__LP_House_)) (ie_iload_n dX11_look_26 rfl) (r_aaload (C := RX4) dX11_look_27)) (Or.inr ⟨_, dX11_look_28, rfl, rfl⟩) (by decide)) (is_seq (is_blk (is_seq (is_blk (is_seq (is_blk (is_seq (is_blk (is_seq (is_blk (is_seq (is_blk (is_seq (is_blk (is_seq (is_blk (is_seq (is_blk (is_seq (is_blk (is_tsw (ie_iload_n dX11_look_29 rfl) dX11_look_30 (by decide) ⟨_, rfl, by decide⟩ (tsw_ck (by decide +kernel)))) (is_RI (ie_U (ie_aload_n dX11_look_80 rfl) (r_getf dX11_look_81 ck_4 (k := 1) (by decide) rfl w_fieldLink_P_116_P_House_front_I)) dX11_look_84 rfl))) (is_RI (ie_B (ie_U (ie_U (ie_aload_n dX11_look_85 rfl) (r_getf dX11_look_86 ck_11 (k := 5) (by decide) rfl w_fieldLink_P_41_P_book_LP_Book_)) (r_getf dX11_look_89 ck_0 (k := 2) (by decide) rfl w_fieldLink_P_121_P_Book_man__I)) (ie_iload_n dX11_look_92 rfl) (r_iaload dX11_look_93)) dX11_look_94 rfl))) (is_RI (ie_U (ie_aload_n dX11_look_95 rfl) (r_getf dX11_look_96 ck_4 (k := 3) (by decide) rfl lkw_125)) dX11_look_99 rfl))) (is_RI (ie_U (ie_aload_n dX11_look_100 rfl) (r_getf dX11_look_101 ck_4 (k := 4) (by decide) rfl lkw_128)) dX11_look_104 rfl))) (is_RI (ie_U (ie_aload_n dX11_look_105 rfl) (r_getf dX11_look_106 ck_4 (k := 5) (by decide) rfl lkw_131)) dX11_look_109 rfl))) (is_RI (ie_U (ie_aload_n dX11_look_110 rfl) (r_getf dX11_look_111 ck_4 (k := 6) (by decide) rfl lkw_134)) dX11_look_114 rfl))) (is_RI (ie_U (ie_aload_n dX11_look_115 rfl) (r_getf dX11_look_116 ck_4 (k := 7) (by decide) rfl lkw_137)) dX11_look_119 rfl))) (is_RI (ie_T (ic_If (ic_1 (ie_U (ie_aload_n dX11_look_120 rfl) (r_getf dX11_look_121 ck_4 (k := 8) (by decide) rfl lkw_140)) (j_if_eq dX11_look_124 (by decide))) ic_F ic_T) (ie_iconst dX11_look_127 rfl) (jp_go dX11_look_128 (by decide)) (ie_iconst dX11_look_131 rfl) jp_0) dX11_look_132 rfl))) (is_RI (ie_U (ie_aload_n dX11_look_133 rfl) (r_getf dX11_look_134 ck_4 (k := 10) (by decide) rfl lkw_143)) dX11_look_137 rfl))) (is_stk (pc := 138)))))
abbrev lkM : MX := (RX11, cX11_look, 4, some .int, false)
noncomputable def lkC : XC := (c1 z_ne (eC (fV 6 m_X6_hasHouse) [(eU (gF 11 2) (eA 0)), (eI 1)]))
noncomputable def lkH : XS := (sStA 3 (eB (arR RX4) (eU (gF 6 6) (eU (gF 11 2) (eA 0))) (eI 1)))
set_option maxRecDepth 20000 in
theorem lk_ic : IC lkM 6 0 0 (c1 z_ne (eC (fV 6 m_X6_hasHouse) [(eU (gF 11 2) (eA 0)), (eI 1)])) 19 11 := (ic_1 (ie_C (ia_1 (ie_U (ie_aload_n dX11_look_0 rfl) (r_getf dX11_look_1 ck_11 (k := 2) (by decide) rfl w_fieldLink_P_22_P_plan_LP_Plan_)) (ia_1 (ie_iload_n dX11_look_4 rfl) ia_0)) rfl (call_V i_X6_hasHouse ce_X6_hasHouse (ci := 6) rfl dX11_look_5 w_methodLink_P_105_P_Plan_hasHouse__I_Z (by omega) (by decide))) (j_if_ne dX11_look_8 (by decide)))
set_option maxRecDepth 20000 in
theorem lk_st : IS lkM 6 19 (sStA 3 (eB (arR RX4) (eU (gF 6 6) (eU (gF 11 2) (eA 0))) (eI 1))) [19 + 1 + 3 + 3 + 1 + 1 + 1] := (is_stA (ie_B (ie_U (ie_U (ie_aload_n dX11_look_19 rfl) (r_getf dX11_look_20 ck_11 (k := 2) (by decide) rfl w_fieldLink_P_22_P_plan_LP_Plan_)) (r_getf dX11_look_23 ck_6 (k := 6) (by decide) rfl w_fieldLink_P_112_P_Plan_house__LP_House_)) (ie_iload_n dX11_look_26 rfl) (r_aaload (C := RX4) dX11_look_27)) (Or.inr ⟨_, dX11_look_28, rfl, rfl⟩) (by decide))
theorem lk_sw : IS lkM 6 29 (sSw (eI 2) (swF 0 [1, 2, 3, 4, 5, 6, 7, 8, 9] 10)) [0, 80, 85, 95, 100, 105, 110, 115, 120, 133, 138] := is_tsw (ie_iload_n dX11_look_29 rfl) dX11_look_30 (by decide) ⟨_, rfl, by decide⟩ (tsw_ck (by decide +kernel))
theorem Rep.grow {Y : YX} {h : HP} {H H1 : Heap} (hR : Rep Y h H) (hq : ∀ q, q < H.size → H1[q]? = H[q]?) : Rep Y h H1 := fun a c hc => ⟨(hR a c hc).1, (hR a c hc).2.kept (hq a (hR a c hc).2.lt)⟩
abbrev xNm : List String := ["java/lang/RuntimeException", "java/lang/Exception"]
theorem lk_wa : ∀ w ∈ (vx_at0 RX11 111 "java/lang/IndexOutOfBoundsException" xNm).filter goodWord, w ∈ lw_tbl := by decide +kernel
theorem lk_wb : ∀ w ∈ (vx_at0 RX11 148 "java/util/NoSuchElementException" xNm).filter goodWord, w ∈ lw_tbl := by decide +kernel
theorem lk_wc : ∀ w ∈ (vx_at0 RX11 111 "java/lang/IndexOutOfBoundsException" xNm).filter (fun w => !goodWord w), w ∈ lw_tbl ∧ isNest w = true ∧ w.onTables = true := by decide +kernel
theorem lk_wd : ∀ w ∈ (vx_at0 RX11 148 "java/util/NoSuchElementException" xNm).filter (fun w => !goodWord w), w ∈ lw_tbl ∧ isNest w = true ∧ w.onTables = true := by decide +kernel
/-- words of a throw, out of the tables -/
def atW (ic : Nat) (E : String) : Prop := ∀ w ∈ vx_at0 RX11 ic E xNm, w ∈ lwG ∨ (w ∈ lwN ∧ w.onTables = true)
theorem atW_of {ic : Nat} {E : String} (h1 : ∀ w ∈ (vx_at0 RX11 ic E xNm).filter goodWord, w ∈ lw_tbl) (h2 : ∀ w ∈ (vx_at0 RX11 ic E xNm).filter (fun w => !goodWord w), w ∈ lw_tbl ∧ isNest w = true ∧ w.onTables = true) : atW ic E := by
  intro w hw
  by_cases g : goodWord w = true
  · exact Or.inl (List.mem_filter.mpr ⟨h1 w (List.mem_filter.mpr ⟨hw, g⟩), g⟩)
  · obtain ⟨q1, q2, q3⟩ := h2 w (List.mem_filter.mpr ⟨hw, by simp [g]⟩)
    exact Or.inr ⟨List.mem_filter.mpr ⟨q1, q2⟩, q3⟩
/-- throw new E(): the method ends so -/
theorem lk_thr {X : RX} {L : List Value} {σ : ST} {pc ik ic k : Nat} (hk : X.2.2.1 = .inr k) (hσ : X.2.2.2 = (σ.1, σ.2.1 + 1, σ.2.2 + 6)) (hf : Bundle.fit (exN k) = true) (hcl : Cond.classLink RX11 ik (exN k) ∈ lwG) (hini : Cond.initialized (exN k) ∈ lwG) (hat : atW ic (exN k)) (hgood : ∀ w ∈ Cond.classLink RX11 ik (exN k) :: Cond.initialized (exN k) :: vx_at0 RX11 ic (exN k) xNm, vx_ot w = true)
    (d0 : decode cX11_look pc = .ok (.new ik, 3)) (d3 : decode cX11_look (pc + 3) = .ok (.dup, 1)) (d4 : decode cX11_look (pc + 4) = .ok (.invokespecial ic, 3)) (d7 : decode cX11_look (pc + 7) = .ok (.athrow, 1)) : G lkM 6 X pc L [] σ := by
  intro z1 z2
  have e1 : X.2.2.2.2.1 = σ.2.1 + 1 := by rw [hσ]
  have e2 : X.2.2.2.2.2 = σ.2.2 + 6 := by rw [hσ]
  refine ⟨⟨by omega, by omega⟩, fun p l e s m args below meth c C H locs ls hl hR hz hS => ?_⟩
  obtain ⟨hx, hb, -, hml, hown, hts, hlk, hK, hB, -, htr, hxt⟩ := C
  have hE := hK.2.2.2.2.2.2.2.1
  have hout : ∀ x ∈ c.exceptionTable.toList, False := by
    exact hxt.1 (by decide +kernel)
  unfold gZ
  rw [hk]
  refine vx_throwE (A := gA X.1) (own := RX11) (names := xNm) hx hb htr hown hf (by decide) (hts _ hcl) (hts _ hini) (fun w hw => ?_) hgood hE.1 hE.2.1 hS (hl.1.trans hml.symm) d0 d3 d4 d7 (fun x hx => (hout x hx).elim) (Nat.le_of_ble_eq_true rfl) (Nat.le_of_ble_eq_true rfl) ?_ ?_ hlk (fun t ha h1 h2 h3 => ⟨rfl, ?_, ?_, ?_⟩) hS.2.2 ?_ ?_
  · rcases hat w hw with h | ⟨h, ho⟩
    · exact hts _ h
    · exact va_Nw.use ho (hK.2.1 _ h)
  · show σ.2.1 - X.2.1.1 + 1 ≤ X.2.2.2.2.1 - X.2.1.1
    omega
  · show σ.2.2 - X.2.1.2 + 6 ≤ X.2.2.2.2.2 - X.2.1.2
    omega
  · rw [hσ]
    exact hR.grow h2
  · rw [hσ, h3, hz]
  · refine ⟨Nat.le_trans hS.1 h1, fun q q1 q2 => ?_⟩
    rw [h2 q (Nat.lt_of_lt_of_le q1 hS.1)]
    exact hS.2.1 q q1 q2
  · omega
  · omega
theorem lk_thr1 {X : RX} {L : List Value} {σ : ST} (hk : X.2.2.1 = .inr 1) (hσ : X.2.2.2 = (σ.1, σ.2.1 + 1, σ.2.2 + 6)) : G lkM 6 X 11 L [] σ := lk_thr hk hσ (by decide) lkw_c109 lkw_i1 (atW_of lk_wa lk_wc) (by decide +kernel) dX11_look_11 dX11_look_14 dX11_look_15 dX11_look_18
theorem lk_thr2 {X : RX} {L : List Value} {σ : ST} (hk : X.2.2.1 = .inr 2) (hσ : X.2.2.2 = (σ.1, σ.2.1 + 1, σ.2.2 + 6)) : G lkM 6 X 138 L [] σ := lk_thr hk hσ (by decide) lkw_c146 lkw_i2 (atW_of lk_wb lk_wd) (by decide +kernel) dX11_look_138 dX11_look_141 dX11_look_142 dX11_look_145
/-- the throw of look: no such house; a part that isn't -/
def thS (σ : ST) : ST := (σ.1, σ.2.1 + 1, σ.2.2 + 6)
def LKT (x : Nat) (a b : Int32) (k : Nat) (σ σ1 : ST) : Prop := σ1.2 = σ.2 ∧ ∀ Y : YX, G lkM 6 (Y, (σ.2.1, σ.2.2), .inr k, thS σ1) 0 (L0 4 [.ref x, .int a, .int b]) [] σ
theorem lkt_1 {x : Nat} {a b : Int32} {σ σ1 : ST} (h : lkC (L0 4 [.ref x, .int a, .int b]) σ = some (false, σ1)) (e : σ1.2 = σ.2) : LKT x a b 1 σ σ1 := ⟨e, fun Y => lk_ic _ _ [] σ σ1 false (Nat.le_refl 0) h (lk_thr1 rfl rfl)⟩
theorem lkt_2 {x hr : Nat} {a b : Int32} {σ σ1 σ2 : ST} (h : lkC (L0 4 [.ref x, .int a, .int b]) σ = some (true, σ1)) (h2 : lkH (L0 4 [.ref x, .int a, .int b]) σ1 = some (.inl 0, [.ref x, .int a, .int b, .ref hr], σ2)) (e : σ2.2 = σ.2) (hb : b.toInt < 0 ∨ 8 < b.toInt) : LKT x a b 2 σ σ2 := ⟨e, fun Y => by
  refine lk_ic _ _ [] σ σ1 true (Nat.le_refl 0) h ?_
  refine lk_st _ _ _ σ1 σ2 (.inl 0) h2 ⟨29, rfl, ?_⟩
  refine lk_sw _ _ [.ref x, .int a, .int b, .ref hr] σ2 σ2 (.inl 10) ?_ ⟨138, rfl, lk_thr2 rfl rfl⟩
  show some (Sum.inl (swF 0 [1, 2, 3, 4, 5, 6, 7, 8, 9] 10 b), _, σ2) = _
  unfold swF
  rw [if_pos (by show b.toInt < 0 ∨ (0 : Int) + 9 ≤ b.toInt; omega)]⟩
theorem lk_met {Y : YX} {x k : Nat} {a b : Int32} {σ σ1 : ST} (l : Launch) (htr : l.stackTraces = false) (hg : LKT x a b k σ σ1) : vx_Met l yX11_look (.code yX11_look cX11_look 4 (some .int) :: lwG) (rmD 6 1 6) (gP Y [.ref x, .int a, .int b] σ) (fun _ _ _ _ => False) (gT Y k (thS σ1)) 1 6 (gA Y) := by
  refine vx_ofW (cc := cX11_look) (maxL := 4) (ret := some .int) (by decide) rfl ?_
  intro p e s m args below meth c s₁ B hml hxt hv
  obtain ⟨rfl, hR, hsz, hK, hB⟩ := hv
  have hts := atoms_spec (ws := Cond.code yX11_look cX11_look 4 (some .int) :: lwG) B.pre
  have hown : s.vm.findClass RX11 = some m.cls := findClass_of_methodNamed B.named
  have hl := lv_entry [.ref x, .int a, .int b] (n := 4) (Nat.le_of_ble_eq_true rfl)
  rw [lg_entry_eq]
  have := (hg.2 Y (Nat.le_refl _) (Nat.le_refl _)).2 p l e s m [.ref x, .int a, .int b].toArray below meth c ⟨B.exec, B.bytes, B.returns, hml, hown, fun w hw => hts w (List.mem_cons_of_mem _ hw), B.notSynchronized, hK, by rw [hsz]; exact hB, fun q => absurd q (by decide), htr, fun _ => hxt, fun h => absurd h (by decide +kernel)⟩ s.heap [] _ (LV.sub hl fun q hq => ?_) hR hsz va_S.rf
  · have e0 := hg.1
    have e1 : (thS σ1).2.1 - σ.2.1 = 1 := by show σ1.2.1 + 1 - σ.2.1 = 1; rw [e0]; omega
    have e2 : (thS σ1).2.2 - σ.2.2 = 6 := by show σ1.2.2 + 6 - σ.2.2 = 6; rw [e0]; omega
    dsimp only at this
    rw [Nat.sub_self, Nat.sub_self, e1, e2] at this
    exact this
  · obtain ⟨g1, g2⟩ := lvA_mem.mp hq
    have := L0_in [.ref x, .int a, .int b] 0 q.1 q.2 g1 g2
    rw [Nat.zero_add] at this
    exact this
/-! the law's look -/
theorem lk_n1 : Cond.castable "java/lang/IndexOutOfBoundsException" "java/lang/IndexOutOfBoundsException" ∈ lwN := inN_t 1435 (by decide +kernel) rfl
theorem lk_n2 : Cond.castable "java/util/NoSuchElementException" "java/util/NoSuchElementException" ∈ lwN := inN_t 1497 (by decide +kernel) rfl
abbrev lwM : MX := (RL, cL_look, 5, some .int, false)
/-- the call that throws, caught at h -/
theorem lL_thr {X : RX} {L stk : List Value} {σ σ1 : ST} {k x : Nat} {V : Nat → Value} {a b : Int32} (hk : k = 1 ∨ k = 2) (hobj : σ.1 x = some (.inr (11, V))) (hg : LKT x a b k σ σ1) (hw : wt stk ≤ 8) (kk : ∀ q, G lwM 8 X (if k = 1 then 13 else 17) L [.ref q] (thS σ1)) : G lwM 8 X 5 L (.int b :: .int a :: .ref x :: stk) σ := by
  intro z1 z2
  have s1 : σ1.2.1 = σ.2.1 := congrArg Prod.fst hg.1
  have s2 : σ1.2.2 = σ.2.2 := congrArg Prod.snd hg.1
  have z3 : X.2.1.1 ≤ (thS σ1).2.1 := by show _ ≤ σ1.2.1 + 1; omega
  have z4 : X.2.1.2 ≤ (thS σ1).2.2 := by show _ ≤ σ1.2.2 + 6; omega
  have k1 := (kk 0 z3 z4).1
  have k1a : σ1.2.1 + 1 ≤ X.2.2.2.2.1 := k1.1
  have k1b : σ1.2.2 + 6 ≤ X.2.2.2.2.2 := k1.2
  refine ⟨⟨by omega, by omega⟩, fun p l e s m args below meth c C H locs ls hl hR hsz hS => ?_⟩
  have C0 := C
  obtain ⟨hx, hb, -, hml, hown, hts, hlk, hK, hB, -, htr, hxt⟩ := C
  have htab : c.exceptionTable.toList = tableOf [(0, 10, 13, 13), (0, 10, 17, 15)] := by
    exact hxt.2 rfl rfl
  obtain ⟨K1, K2, K3, K4, K5, K6⟩ := ce_X11_look
  have hG : GoodIn lwG (Cond.code yX11_look cX11_look 4 (some .int) :: lwG) := lwG_good (fun _ h => h) fun w hw => by
    rcases List.mem_cons.mp hw with rfl | h
    · exact K4
    · exact h
  have hrec : ∃ cell : Cell, H[x]? = some cell ∧ cell.vm.isStatics = false ∧ s.vm.findClass RX11 = some cell.cls := by
    obtain ⟨-, rr, h1, cell, q1, q2, q3, -⟩ := hR x _ hobj
    have hr : rr = (RX11, TX11, 13) := Option.some.inj (h1.symm.trans ck_11.1)
    exact ⟨cell, q1, by rw [q3]; rfl, by rw [q2]; exact (hK.1.1 11 _ ck_11.1).2.1⟩
  have hrun := vx_runV (p := p) (e := e) (R := rmD 8 (X.2.2.2.2.1 - X.2.1.1) (X.2.2.2.2.2 - X.2.1.2)) (below := below) (meth := meth) (locs := locs) (cells := σ.2.1 - X.2.1.1) (slots := σ.2.2 - X.2.1.2) (rest := stk) (Ts := lwG) (g := F0 m 5 ls (.int b :: .int a :: .ref x :: stk)) (As := [.int a, .int b]) (n := 2) (cc := cL_look) (nL := 5) ⟨hx, hb, hml, hown, hts⟩ (lk_met (Y := X.1) l htr hg) ⟨callB_of 2 hts hG rfl rfl rfl (hts _ K3) (hts _ lkw_m7) K5.2 ⟨Nat.le_of_ble_eq_true rfl, Nat.le_of_ble_eq_true rfl⟩, hts _ K1, hts _ K2⟩ ⟨gP_blind _ _ _, hrec, fun U hU hW => ⟨rfl, by rw [hU]; exact hR, by rw [hU]; exact hsz, hK.warm hW (by rw [hU]; exact hS), by rw [← hsz]; exact Nat.le_trans hB hS.1⟩⟩ rfl rfl hl.1 rfl (wt_room hw (Nat.le_refl _)) dL_look_5 ⟨by show _ ≤ X.2.2.2.2.1 - X.2.1.1; omega, by show _ ≤ X.2.2.2.2.2 - X.2.1.2; omega⟩
  intro T hT X'
  rcases hrun T hT X' with ⟨v, st₀, t, T', L', h0, X'', hL, e1, e2, hq, st⟩ | ⟨q, st₀, t, T', L', E, ce, h0, X'', hL, e1, e2, hXC, hce, hcv, hcl, st⟩
  · exact hq.elim
  · obtain ⟨rfl, hR1, hz1, hF⟩ := hXC
    have hF2 : va_S (gA X.1) s.heap T'.heap (locs ++ L') := by
      refine ⟨Nat.le_trans hS.1 (by rw [e1, ← h0]; exact hF.1), fun q h1 h2 => ?_, fun q hq => ?_⟩
      · rw [e1, hF.2 q (by rw [h0]; exact Nat.lt_of_lt_of_le h1 hS.1) h2, h0]
        exact hS.2.1 q h1 h2
      · rcases List.mem_append.mp hq with h | h
        · exact hS.2.2 q h
        · exact hL q h
    have kw := (kk q z3 z4).2 p l e s m args below meth c C0 T'.heap (locs ++ L') ls hl (by rw [e1]; exact hR1) (by rw [e1]; exact hz1) hF2
    rw [show (thS σ1).2.1 - X.2.1.1 = (σ.2.1 - X.2.1.1) + 1 by show σ1.2.1 + 1 - X.2.1.1 = _; omega, show (thS σ1).2.2 - X.2.1.2 = (σ.2.2 - X.2.1.2) + 6 by show σ1.2.2 + 6 - X.2.1.2 = _; omega] at kw
    have hE := hK.2.2.2.2.2.2.2.1
    rcases hk with rfl | rfl
    · obtain ⟨t2, a1, b1⟩ := vx_catch (own := RL) (name := "java/lang/IndexOutOfBoundsException") (E := exN 1) (pc := 5) (rest := stk) hown [] ⟨0, 10, 13, 13⟩ [⟨0, 10, 17, 15⟩] htab (fun z hz => nomatch hz) (by decide) (by decide) (hts _ lkw_c13) (va_Nw.use rfl (hK.2.1 _ lk_n1)) (by rw [e1]; exact hce) hcv hcl kw T' rfl X''
      exact ⟨t2, st.trans a1, b1⟩
    · obtain ⟨t2, a1, b1⟩ := vx_catch (own := RL) (name := "java/util/NoSuchElementException") (E := exN 2) (pc := 5) (rest := stk) hown [⟨0, 10, 13, 13⟩] ⟨0, 10, 17, 15⟩ [] htab (fun z hz => Or.inr (by
        rw [List.mem_singleton.mp hz]
        exact ⟨by decide, "java/lang/IndexOutOfBoundsException", hts _ lkw_c13, hE.2.2.1⟩)) (by decide) (by decide) (hts _ lkw_c15) (va_Nw.use rfl (hK.2.1 _ lk_n2)) (by rw [e1]; exact hce) hcv hcl kw T' rfl X''
      exact ⟨t2, st.trans a1, b1⟩
/-- what the law's look answers: 1 and 2 where look throws, else 0 and what it wrote -/
theorem lL_met {as : List Value} {σ σ' : ST} {v : Option Value} (hlen : (expA as).length ≤ 5) (l : Launch) (htr : l.stackTraces = false) (Y : YX) (hG : G lwM 8 (Y, (σ.2.1, σ.2.2), .inl v, σ') 0 (L0 5 as) [] σ) : Met l yL_look (.codeWith yL_look cL_look 5 (some .int) [(0, 10, 13, 13), (0, 10, 17, 15)] :: lwG) (rmD 8 (σ'.2.1 - σ.2.1) (σ'.2.2 - σ.2.2)) (gP Y as σ) (gQ Y v σ') (σ'.2.1 - σ.2.1) (σ'.2.2 - σ.2.2) (gA Y) := by
  refine va_MetW (cc := cL_look) (maxL := 5) (ret := some .int) (hh := [(0, 10, 13, 13), (0, 10, 17, 15)]) (by decide) rfl ?_
  intro p e s m args below meth c s₁ B hml hv
  obtain ⟨rfl, hR, hsz, hK, hB⟩ := hv
  have hts := atoms_spec (ws := Cond.codeWith yL_look cL_look 5 (some .int) [(0, 10, 13, 13), (0, 10, 17, 15)] :: lwG) B.pre
  have hown : s.vm.findClass RL = some m.cls := findClass_of_methodNamed B.named
  have hl := lv_entry as (n := 5) (by rw [expA_sl]; exact hlen)
  rw [lg_entry_eq]
  have := (hG (Nat.le_refl _) (Nat.le_refl _)).2 p l e s m as.toArray below meth c ⟨B.exec, B.bytes, B.returns, hml, hown, fun w hw => hts w (List.mem_cons_of_mem _ hw), B.notSynchronized, hK, by rw [hsz]; exact hB, fun q => absurd q (by decide), htr, fun h => absurd rfl h, fun _ _ => vx_table (x := yL_look) B (hts _ List.mem_cons_self)⟩ s.heap [] _ (LV.sub hl fun q hq => ?_) hR hsz va_S.rf
  · dsimp only at this
    rw [Nat.sub_self, Nat.sub_self] at this
    exact this
  · obtain ⟨g1, g2⟩ := lvA_mem.mp hq
    have := L0_in as 0 q.1 q.2 g1 g2
    rw [Nat.zero_add] at this
    exact this
theorem g_ast {M : MX} {d pc i q : Nat} {X : RX} {L : List Value} {σ : ST} (hd : decode M.2.1 pc = .ok (.astore i, 2)) (hi : i < M.2.2.1) (k : G M d X (pc + 2) (sto1 L i (.ref q)) [] σ) : G M d X pc L [.ref q] σ := by
  intro z1 z2
  obtain ⟨k1, k2⟩ := k z1 z2
  refine ⟨k1, fun p l e s m args below meth c C H locs ls hl hR hz hS => ?_⟩
  obtain ⟨ls', e1, hl'⟩ := hl.st1 (v := .ref q) hi rfl
  have kk := k2 p l e s m args below meth c C H locs ls' hl' hR hz hS
  intro T hT X'
  obtain ⟨t, a1, b1⟩ := kk T hT X'
  refine ⟨t, ?_, b1⟩
  jvm_step X'.here [X'.here.top, C.1, C.2.1, hd, e1]
  exact ⟨rfl, a1⟩
theorem lL_1 {X : RX} {L : List Value} {σ : ST} {q : Nat} (h : X.2.2.1 = .inl (some (.int 1))) (hσ : X.2.2.2 = σ) : G lwM 8 X 13 L [.ref q] σ := g_ast dL_look_13 (by decide) ((is_RI (ie_iconst dL_look_15 rfl) dL_look_16 rfl : IS lwM 8 15 (sRI (eK (.int 1))) []) X _ _ σ σ (.inr (some (.int 1))) rfl ⟨h.symm, hσ.symm⟩)
theorem lL_2 {X : RX} {L : List Value} {σ : ST} {q : Nat} (h : X.2.2.1 = .inl (some (.int 2))) (hσ : X.2.2.2 = σ) : G lwM 8 X 17 L [.ref q] σ := g_ast dL_look_17 (by decide) ((is_RI (ie_iconst dL_look_19 rfl) dL_look_20 rfl : IS lwM 8 19 (sRI (eK (.int 2))) []) X _ _ σ σ (.inr (some (.int 2))) rfl ⟨h.symm, hσ.symm⟩)
/-- the law's look as it ends: with k, and this heap -/
def LLK (x o : Nat) (a b : Int32) (k : Int32) (σ σ' : ST) : Prop := (σ.2.1 ≤ σ'.2.1 ∧ σ.2.2 ≤ σ'.2.2) ∧ ∀ Y : YX, G lwM 8 (Y, (σ.2.1, σ.2.2), .inl (some (.int k)), σ') 0 (L0 5 [.ref x, .int a, .int b, .ref o]) [] σ
theorem llk_t {x o k : Nat} {a b : Int32} {σ σ1 : ST} {V : Nat → Value} (hk : k = 1 ∨ k = 2) (hobj : σ.1 x = some (.inr (11, V))) (hg : LKT x a b k σ σ1) : LLK x o a b (Int32.ofNat k) σ (thS σ1) := by
  have s1 : σ1.2.1 = σ.2.1 := congrArg Prod.fst hg.1
  have s2 : σ1.2.2 = σ.2.2 := congrArg Prod.snd hg.1
  refine ⟨⟨by show _ ≤ σ1.2.1 + 1; omega, by show _ ≤ σ1.2.2 + 6; omega⟩, fun Y => ?_⟩
  have e3 : IE lwM 8 0 0 (eA 3) 1 := ie_aload_n dL_look_0 rfl
  have e4 : IE lwM 8 2 1 (eK (.int 0)) 2 := ie_iconst dL_look_1 rfl
  have e5 : IE lwM 8 4 2 (eA 0) 3 := ie_aload_n dL_look_2 rfl
  have e6 : IE lwM 8 6 3 (eI 1) 4 := ie_iload_n dL_look_3 rfl
  have e7 : IE lwM 8 8 4 (eI 2) 5 := ie_iload_n dL_look_4 rfl
  refine e3 _ _ [] σ σ (.ref o) (Nat.le_of_ble_eq_true rfl) rfl ?_
  refine e4 _ _ _ σ σ (.int 0) (Nat.le_of_ble_eq_true rfl) rfl ?_
  refine e5 _ _ _ σ σ (.ref x) (Nat.le_of_ble_eq_true rfl) rfl ?_
  refine e6 _ _ _ σ σ (.int a) (Nat.le_of_ble_eq_true rfl) rfl ?_
  refine e7 _ _ _ σ σ (.int b) (Nat.le_of_ble_eq_true rfl) rfl ?_
  refine lL_thr hk hobj hg (Nat.le_of_ble_eq_true rfl) fun q => ?_
  rcases hk with rfl | rfl
  · exact lL_1 rfl rfl
  · exact lL_2 rfl rfl
theorem lL_p3 : IS lwM 8 0 (sP3 asL (eA 3) (eK (.int 0)) (eU o_i2l (eC (fV 11 m_X11_look) [(eA 0), (eI 1), (eI 2)]))) [10] := is_P3 (ie_aload_n dL_look_0 rfl) (ie_iconst dL_look_1 rfl) (ie_U (ie_C (ia_1 (ie_aload_n dL_look_2 rfl) (ia_1 (ie_iload_n dL_look_3 rfl) (ia_1 (ie_iload_n dL_look_4 rfl) ia_0))) rfl (call_V i_X11_look ce_X11_look (ci := 11) rfl dL_look_5 lkw_m7 (by omega) (by decide))) (r_i2l dL_look_8)) (p_lastore dL_look_9)
theorem llk_0 {x o : Nat} {a b : Int32} {σ σ' : ST} (h : sP3 asL (eA 3) (eK (.int 0)) (eU o_i2l (eC (fV 11 m_X11_look) [(eA 0), (eI 1), (eI 2)])) [.ref x, .int a, .int b, .ref o, UV] σ = some (.inl 0, [.ref x, .int a, .int b, .ref o, UV], σ')) (e : σ'.2 = σ.2) : LLK x o a b 0 σ σ' := ⟨⟨by rw [e]; exact Nat.le_refl _, by rw [e]; exact Nat.le_refl _⟩, fun Y => lL_p3 _ _ _ σ σ' (.inl 0) h ⟨10, rfl, (jp_go dL_look_10 (tgt := 21) (by decide)) _ _ _ _ ((is_RI (ie_iconst dL_look_21 rfl) dL_look_22 rfl : IS lwM 8 21 (sRI (eK (.int 0))) []) _ _ _ σ' σ' (.inr (some (.int 0))) rfl ⟨rfl, rfl⟩)⟩⟩
/-- its call -/
theorem llk_call {M : MX} {d pc : Nat} {X : RX} {L stk : List Value} {σ σ' : ST} {x o : Nat} {a b k : Int32} (hM : M.1 = RL) (hlk : LLK x o a b k σ σ') (hd : decode M.2.1 pc = .ok (.invokestatic 39, 3)) (h9 : 9 ≤ d) (hw : wt stk ≤ 8) (kk : G M d X (pc + 3) L (.int k :: stk) σ') : G M d X pc L (.ref o :: .int b :: .int a :: .ref x :: stk) σ := by
  obtain ⟨⟨hz, hs⟩, hG⟩ := hlk
  refine g_run (a := [.ref x, .int a, .int b, .ref o].toArray) (σ' := σ') (v := some (.int k)) (rest := stk) hz hs kk fun p l e R s m args below meth c H locs cells slots ls CC hls hR hsz hS hfr hlo hroom => ?_
  obtain ⟨hx, hb, -, hml, hown, hts, -, hK, hB, -, htr, -⟩ := CC
  have hgd : GoodIn lwG (Cond.codeWith yL_look cL_look 5 (some .int) [(0, 10, 13, 13), (0, 10, 17, 15)] :: lwG) := lwG_good (fun _ h => h) fun w hw => by
    rcases List.mem_cons.mp hw with rfl | h
    · exact lkw_cw
    · exact h
  refine vx_runSW (As := [.ref x, .int a, .int b, .ref o]) (n := 4) (nL := M.2.2.1) (Ts := lwG) (own := M.1) ⟨hx, hb, hml, hown, hts⟩ (lL_met (Nat.le_of_ble_eq_true rfl) l htr X.1 (hG X.1)) ⟨⟨rfl, rfl, by rw [hfr]; exact h9, by rw [hlo]; show 8 + (5 + 11) + 60 * 8 ≤ 60 * d; omega, pay_in hts hgd, List.mem_cons_self⟩, hts _ lkw_cw, hts _ lkw_iL, ⟨by decide +kernel, by decide +kernel⟩, fun sig h => ?_, by rw [hM]; exact hts _ lkw_m39, hts _ lkw_sL⟩ ⟨gP_blind _ _ _, fun U hU hW => ⟨rfl, by rw [hU]; exact hR, by rw [hU]; exact hsz, hK.warm hW (by rw [hU]; exact hS), by rw [← hsz]; exact Nat.le_trans hB hS.1⟩⟩ rfl rfl hls rfl (wt_room hw (Nat.le_refl _)) hd hroom
  have h2 : (parseMethodDescriptor yL_look.desc).map (fun d => d.parameters.length) = some 4 := by decide +kernel
  rw [h] at h2
  exact (Option.some.inj h2).symm

