/-! ===== reading: a line (tools/gen16.py); the rules' lines are a claim still (RuleOk) ===== -/
/-- what is to be shown of a rule's line -/
def RuleOk (u : Nat) : Prop := ∀ (P R c M : CT) (T : Nat → T4) (K n i l q f m h : Nat) (Q : Int32 → CT → CT → Prop), RDc R T K n i → i < K → RDr M c T n (i + 1) → PRel P.1 (uppV c) l q f m h → P.1 (11 + 2 * u) 0 ≤ 0 → c.1 0 58 = c.1 0 57 → c.1 0 70 = 0 → c.1 0 (53 - 2 * u) = 0 → (∀ P' R' c' i', i < i' → RDc R' T K n i' → RDr M c' T n i' → PRel P'.1 (uppV c') l q f m h → ¬ P'.1 (11 + 2 * u) 0 ≤ 0 → (∀ j k, j ≠ 11 + 2 * u → j ≠ 12 + 2 * u → P'.1 j k = P.1 j k) → c'.1 0 58 = c'.1 0 57 → (∀ j k, (j = 0 ∧ (k = 59 ∨ k = 60 ∨ k = 70)) ∨ j = 21 → c'.1 j k = c.1 j k) → (P.1 (13 - 2 * u) 0 ≤ 0 → c'.1 0 (51 + 2 * u) = 0) → (∀ J, J c' → rRul u c J) → Q 1 P' R') → (∀ P' R' c' k p, k ≠ 0 → FLc R' k p → FLr M c' k p → (∀ J, J c' → rRul u c J) → Q 0 P' R') → (∀ P' R' c' i', FLc R' 1 (T i').2.1 → RDr M c' T n i' → ¬ ((T i').2.2.1 = 3 ∧ (T i').2.2.2 = 59) → (∀ J, J c' → rRul u c J) → Q 0 P' R') → k_X7_readRule P R u Q
section Line2
variable {P R c M : CT} {T : Nat → T4} {K n i l q f m h t : Nat} {Q : Int32 → CT → CT → Prop} {J : CT → Prop}
/-- between lines: which lines were told, counts, the houses' men -/
def EXR (P c : CT) (m h : Nat) : Prop := (∃ t : Nat, t < 512 ∧ c.1 0 59 = nI t ∧ (t.testBit 6 = true ↔ ¬ P.1 11 0 ≤ 0) ∧ (t.testBit 7 = true ↔ ¬ P.1 13 0 ≤ 0) ∧ (t.testBit 8 = true ↔ ¬ P.1 0 10 ≤ 0)) ∧ c.1 0 58 = c.1 0 57 ∧ c.1 0 60 = P.1 0 12 ∧ (c.1 0 70 = 0 ∧ (P.1 11 0 ≤ 0 → c.1 0 53 = 0) ∧ (P.1 13 0 ≤ 0 → c.1 0 51 = 0)) ∧ ∀ i, i < h → ∃ x, x < m ∧ P.1 (33 + i) 2 = nI x ∧ c.1 21 (10 + i) = nI x
/-- the reference behind a line's first word -/
def lc2 (c : CT) (k : Nat) (u : T4) : CT := wTk (sI c 0 59 (c.1 0 59 ||| ((1 : Int32) <<< (nI k &&& 31)))) u
theorem lc2_ne {k j x : Nat} {u : T4} (e : ¬ (j = 0 ∧ (x = 59 ∨ (62 ≤ x ∧ x ≤ 65)))) : (lc2 c k u).1 j x = c.1 j x := by
  unfold lc2
  rw [wTk_ne (by omega), sI_ne (by omega)]
theorem lc2_59 {k : Nat} {u : T4} (ht : c.1 0 59 = nI t) (hk : k < 32) : (lc2 c k u).1 0 59 = nI (t ||| 2 ^ k) := by
  unfold lc2
  rw [wTk_ne (by omega), sI_same, ht, shl_1 hk, or_n]
theorem lc2_rd {k : Nat} (hr : RDr M c T n i) : RDr M (lc2 c k (T (i + 1))) T n (i + 1) := (hr.s (nrv_0 (by omega)) (by omega)).tk
theorem lc2_up {k j x : Nat} {u : T4} (w : j = 0 → x ≤ 45) : uppV (lc2 c k u) j x = uppV c j x := by
  unfold lc2
  rw [upp_t w, upp_f (by omega)]
theorem lc2_pr {k : Nat} {u : T4} (hp : PRel P.1 (uppV c) l q f m h) : PRel P.1 (uppV (lc2 c k u)) l q f m h := hp.mv (fun x h1 h2 => lc2_up (by omega)) fun j x h1 h2 _ => lc2_up (by omega)
def lFull (k l q f m h : Nat) : Prop := (k = 0 ∧ l = 4) ∨ (k = 1 ∧ q = 3) ∨ (k = 2 ∧ f = 5) ∨ (k = 3 ∧ m = 3) ∨ (k = 4 ∧ h = 10)
theorem line_go {k : Nat} (hk : k ≤ 8) (hr : RDr M c T n i) (hp : PRel P.1 (uppV c) l q f m h) (hw : (T i).2.2.1 = 0 ∧ (T i).2.2.2 = nI k) (nf : ¬ lFull k l q f m h) (ht : c.1 0 59 = nI t) (t5 : t < 512) (ok : k < 6 ∨ t.testBit k = false) (w : lBody (nI k) (lc2 c k (T (i + 1))) (fun x => lTail x J)) : k2_X12_line c J := by
  have e64 := hr.2.2.2.1.2.2.1
  have e65 := hr.2.2.2.1.2.2.2
  rw [lineL_eq, e64, e65, hw.1, hw.2, if_neg (fun y => y rfl), if_pos (by rw [li_8, nI_le' (by omega) (by omega)]; exact hk)]
  refine full_ok hk hp (fun y => absurd y nf) fun _ => ?_
  rw [if_pos rfl]
  have go : lGo (nI k) J c := by
    unfold lGo
    rw [if_pos hr.2.2.2.2.1, wrF_eq]
    exact token_s (hr.s (nrv_0 (by omega)) (by omega)) w
  refine ite_b (fun _ => go) fun z => ?_
  rw [li_6, nI_lt' (by omega) (by omega)] at z
  rw [if_pos]
  · exact go
  · rw [ht, bit_n (by omega) (by omega), ok.resolve_left z]
    decide
theorem line_full {k : Nat} (hk : k ≤ 8) (hr : RDr M c T n i) (hp : PRel P.1 (uppV c) l q f m h) (hw : (T i).2.2.1 = 0 ∧ (T i).2.2.2 = nI k) (nf : lFull k l q f m h) (w : J (flt c 2)) : k2_X12_line c J := by
  have e64 := hr.2.2.2.1.2.2.1
  have e65 := hr.2.2.2.1.2.2.2
  rw [lineL_eq, e64, e65, hw.1, hw.2, if_neg (fun y => y rfl), if_pos (by rw [li_8, nI_le' (by omega) (by omega)]; exact hk)]
  refine full_ok hk hp (fun _ => ?_) fun y => absurd nf y
  rw [if_neg (by decide)]
  exact wrong_s hr (lGo_x hr.fl (by decide) w)
theorem line_told {k : Nat} (hk : k ≤ 8) (h6 : 6 ≤ k) (hr : RDr M c T n i) (hp : PRel P.1 (uppV c) l q f m h) (hw : (T i).2.2.1 = 0 ∧ (T i).2.2.2 = nI k) (ht : c.1 0 59 = nI t) (t5 : t < 512) (told : t.testBit k = true) (w : J (flt c 3)) : k2_X12_line c J := by
  have e64 := hr.2.2.2.1.2.2.1
  have e65 := hr.2.2.2.1.2.2.2
  rw [lineL_eq, e64, e65, hw.1, hw.2, if_neg (fun y => y rfl), if_pos (by rw [li_8, nI_le' (by omega) (by omega)]; exact hk)]
  refine full_ok hk hp (fun y => absurd y (by omega)) fun _ => ?_
  rw [if_pos rfl, if_neg (by rw [li_6, nI_lt' (by omega) (by omega)]; omega), if_neg]
  · exact wrong_s hr (lGo_x hr.fl (by decide) w)
  · rw [ht, bit_n (by omega) (by omega), told]
    decide
theorem line_no (hr : RDr M c T n i) (shp : SHP (T i)) (hn : ∀ k : Nat, k ≤ 8 → ¬ ((T i).2.2.1 = 0 ∧ (T i).2.2.2 = nI k)) (w : J (flt c 1)) : k2_X12_line c J := by
  have e64 := hr.2.2.2.1.2.2.1
  have e65 := hr.2.2.2.1.2.2.2
  rw [lineL_eq, e64, e65]
  refine ite_b (fun _ => wrong_s hr w) fun z => ?_
  have z := Classical.not_not.mp z
  refine ite_b (fun y => ?_) fun _ => wrong_s hr w
  rcases shp with ⟨-, x, hx⟩ | s | s | s | s | s
  · rw [hx, li_8, nI_le' (by omega) (by omega)] at y
    exact absurd ⟨z, hx⟩ (hn x.val y)
  · rw [z] at s
    exact absurd s (by decide)
  · rw [z] at s
    exact absurd s (by decide)
  · rw [z] at s
    exact absurd s.1 (by decide)
  · rw [z] at s
    exact absurd s (by decide)
  · rw [z] at s
    exact absurd s (by decide)
theorem EXR.go {P' c' : CT} {k m' : Nat} {u : T4} (hx : EXR P c m h) (hk : k < 6) (hm : m ≤ m') (kc : KPc P P') (kr : KPr (lc2 c k u) c') : EXR P' c' m' h := by
  obtain ⟨⟨t, t5, ht, b6, b7, b8⟩, x1, x2, x3, x4⟩ := hx
  have at0 : ∀ j x, (j = 0 ∧ (x = 57 ∨ x = 58 ∨ x = 60 ∨ x = 70 ∨ x = 51 ∨ x = 53)) ∨ j = 21 → c'.1 j x = c.1 j x := fun j x e => (kr j x (by omega)).trans (lc2_ne (by omega))
  refine ⟨⟨t ||| 2 ^ k, Nat.or_lt_two_pow (n := 9) t5 (Nat.pow_lt_pow_right (by decide) (by omega)), (kr 0 59 (by omega)).trans (lc2_59 ht (by omega)), ?_, ?_, ?_⟩, ?_, ?_, ⟨(at0 0 70 (by omega)).trans x3.1, fun y => (at0 0 53 (by omega)).trans (x3.2.1 (by rw [← kc 11 0 (by omega)]; exact y)), fun y => (at0 0 51 (by omega)).trans (x3.2.2 (by rw [← kc 13 0 (by omega)]; exact y))⟩, fun i hi => ?_⟩
  · rw [Nat.testBit_or, Nat.testBit_two_pow_of_ne (by omega), Bool.or_false, kc 11 0 (by omega)]
    exact b6
  · rw [Nat.testBit_or, Nat.testBit_two_pow_of_ne (by omega), Bool.or_false, kc 13 0 (by omega)]
    exact b7
  · rw [Nat.testBit_or, Nat.testBit_two_pow_of_ne (by omega), Bool.or_false, kc 0 10 (by omega)]
    exact b8
  · rw [at0 0 58 (by omega), at0 0 57 (by omega)]
    exact x1
  · rw [at0 0 60 (by omega), kc 0 12 (by omega)]
    exact x2
  · obtain ⟨x, y1, y2, y3⟩ := x4 i hi
    exact ⟨x, by omega, (kc (33 + i) 2 (by omega)).trans y2, (at0 21 _ (by omega)).trans y3⟩
theorem EXR.ho {P' c' : CT} {u : T4} (hx : EXR P c m h) (kc : KPh P P' h) (kr : KPq (lc2 c 4 u) c' h) (new : ∃ x, x < m ∧ P'.1 (33 + h) 2 = nI x ∧ uppV c' 21 h = nI x) : EXR P' c' m (h + 1) := by
  obtain ⟨⟨t, t5, ht, b6, b7, b8⟩, x1, x2, x3, x4⟩ := hx
  have at0 : ∀ j x, (j = 0 ∧ (x = 57 ∨ x = 58 ∨ x = 60 ∨ x = 70 ∨ x = 51 ∨ x = 53)) ∨ (j = 21 ∧ x ≠ 10 + h) → c'.1 j x = c.1 j x := fun j x e => (kr j x (by omega)).trans (lc2_ne (by omega))
  refine ⟨⟨t ||| 2 ^ 4, Nat.or_lt_two_pow (n := 9) t5 (Nat.pow_lt_pow_right (by decide) (by omega)), (kr 0 59 (by omega)).trans (lc2_59 ht (by omega)), ?_, ?_, ?_⟩, ?_, ?_, ⟨(at0 0 70 (by omega)).trans x3.1, fun y => (at0 0 53 (by omega)).trans (x3.2.1 (by rw [← kc 11 0 (by omega)]; exact y)), fun y => (at0 0 51 (by omega)).trans (x3.2.2 (by rw [← kc 13 0 (by omega)]; exact y))⟩, fun i hi => ?_⟩
  · rw [Nat.testBit_or, Nat.testBit_two_pow_of_ne (by omega), Bool.or_false, kc 11 0 (by omega)]
    exact b6
  · rw [Nat.testBit_or, Nat.testBit_two_pow_of_ne (by omega), Bool.or_false, kc 13 0 (by omega)]
    exact b7
  · rw [Nat.testBit_or, Nat.testBit_two_pow_of_ne (by omega), Bool.or_false, kc 0 10 (by omega)]
    exact b8
  · rw [at0 0 58 (by omega), at0 0 57 (by omega)]
    exact x1
  · rw [at0 0 60 (by omega), kc 0 12 (by omega)]
    exact x2
  · by_cases e : i = h
    · subst e
      obtain ⟨x, y1, y2, y3⟩ := new
      exact ⟨x, y1, y2, (uppV_u (j := 21) (by omega)).symm.trans y3⟩
    · obtain ⟨x, y1, y2, y3⟩ := x4 i (by omega)
      exact ⟨x, y1, (kc (33 + i) 2 (by omega)).trans y2, (at0 21 _ (by omega)).trans y3⟩
theorem line_ok (hR0 : RuleOk 0) (hR1 : RuleOk 1) (hc : RDc R T K n i) (hr : RDr M c T n i) (hp : PRel P.1 (uppV c) l q f m h) (hx : EXR P c m h) (hS : ∀ P' R' c' i' l' q' f' m' h', i < i' → RDc R' T K n i' → RDr M c' T n i' → PRel P'.1 (uppV c') l' q' f' m' h' → EXR P' c' m' h' → (∀ J, lTail c' J → k2_X12_line c J) → Q 1 P' R') (hF : ∀ P' R' c' k p, k ≠ 0 → FLc R' k p → FLr M c' k p → (∀ J, J c' → k2_X12_line c J) → Q 0 P' R') : k_X7_readLine P R Q := by
  have shp := hc.1.2.2.2.2.2.2.2 i
  have hxx := hx
  obtain ⟨⟨t, t5, ht, b6, b7, b8⟩, x1, x2, x3, x4⟩ := hxx
  have b := hp.1.1
  have p1 := hp.1.2.1.1
  have p2 := hp.1.2.1.2.1
  have p3 := hp.1.2.1.2.2.1
  have p4 := hp.1.2.1.2.2.2.1
  have p5 := hp.1.2.1.2.2.2.2
  have hr2 : ∀ k, RDr M (lc2 c k (T (i + 1))) T n (i + 1) := fun k => lc2_rd hr
  have hp2 : ∀ k, PRel P.1 (uppV (lc2 c k (T (i + 1)))) l q f m h := fun k => lc2_pr hp
  have c46 : ∀ k, (lc2 c k (T (i + 1))).1 0 46 = nI l := fun k => cnt_u (k := 34) (hp2 k).1.2.2.1
  have c48 : ∀ k, (lc2 c k (T (i + 1))).1 0 48 = nI f := fun k => cnt_u (k := 36) (hp2 k).1.2.2.2.2.1
  have c50 : ∀ k, (lc2 c k (T (i + 1))).1 0 50 = nI h := fun k => cnt_u (k := 38) (hp2 k).1.2.2.2.2.2.2
  have full : ∀ k, k ≤ 8 → ((T i).2.2.1 = 0 ∧ (T i).2.2.2 = nI k) → lFull k l q f m h → ∀ P' R', FLc R' 2 (T i).2.1 → Q 0 P' R' := fun k hk hw fl P' R' f' => hF P' R' (flt c 2) _ _ (by decide) f' hr.fl fun J hJ => line_full hk hr hp hw fl hJ
  have told : ∀ k, k ≤ 8 → 6 ≤ k → ((T i).2.2.1 = 0 ∧ (T i).2.2.2 = nI k) → t.testBit k = true → ∀ P' R', FLc R' 3 (T i).2.1 → Q 0 P' R' := fun k hk h6 hw tt P' R' f' => hF P' R' (flt c 3) _ _ (by decide) f' hr.fl fun J hJ => line_told hk h6 hr hp hw ht t5 tt hJ
  unfold k_X7_readLine
  rw [hc.2.2.2.1]
  refine ite_b (fun z => ?_) fun z0 => ?_
  · rw [KT_w0 shp] at z
    have lt := hc.lt (by rw [z.1]; decide)
    by_cases e : l = 4
    · unfold k_X7_readLadder
      rw [vK_eq, p1, if_neg (by rw [e]; decide)]
      refine fail_ok hc fun R1 f1 => ?_
      rw [rZ_0]
      dsimp only
      rw [rZ_0]
      exact full 0 (by omega) z (by unfold lFull; omega) _ _ f1
    · have go : ∀ J, lBody (nI 0) (lc2 c 0 (T (i + 1))) (fun x => lTail x J) → k2_X12_line c J := fun J w => line_go (k := 0) (by omega) hr hp z (by unfold lFull; omega) ht t5 (Or.inl (by omega)) w
      refine ladder_ok hc lt (hr2 0) (hp2 0) (by omega) (fun P' R' c' i' a1 a2 a3 a4 a5 a6 a7 => ?_) fun P' R' c' k p a1 a2 a3 a4 => ?_
      · rw [rZ_1]
        refine hS P' R' c' i' (l + 1) q f m h a1 a2 a3 a4 (hx.go (k := 0) (by omega) (by omega) a5 a6) fun J w => go J ?_
        unfold lBody
        rw [if_pos (by decide)]
        exact a7 _ w
      · rw [rZ_0]
        refine hF P' R' c' k p a1 a2 a3 fun J hJ => go J ?_
        unfold lBody
        rw [if_pos (by decide)]
        exact a4 _ (lTail_x a3 a1 hJ)
  refine ite_b (fun z => ?_) fun z1 => ?_
  · rw [KT_w1 shp] at z
    have lt := hc.lt (by rw [z.1]; decide)
    by_cases e : q = 3
    · unfold k_X7_readPole
      rw [vK_eq, p2, if_neg (by rw [e]; decide)]
      refine fail_ok hc fun R1 f1 => ?_
      rw [rZ_0]
      dsimp only
      rw [rZ_0]
      exact full 1 (by omega) z (by unfold lFull; omega) _ _ f1
    · have go : ∀ J, lBody (nI 1) (lc2 c 1 (T (i + 1))) (fun x => lTail x J) → k2_X12_line c J := fun J w => line_go (k := 1) (by omega) hr hp z (by unfold lFull; omega) ht t5 (Or.inl (by omega)) w
      refine pole_ok hc lt (hr2 1) (hp2 1) (by omega) (fun P' R' c' i' a1 a2 a3 a4 a5 a6 a7 => ?_) fun P' R' c' k p a1 a2 a3 a4 => ?_
      · rw [rZ_1]
        refine hS P' R' c' i' l (q + 1) f m h a1 a2 a3 a4 (hx.go (k := 1) (by omega) (by omega) a5 a6) fun J w => go J ?_
        unfold lBody
        rw [if_neg (by decide), if_pos (by decide)]
        exact a7 _ w
      · rw [rZ_0]
        refine hF P' R' c' k p a1 a2 a3 fun J hJ => go J ?_
        unfold lBody
        rw [if_neg (by decide), if_pos (by decide)]
        exact a4 _ (lTail_x a3 a1 hJ)
  refine ite_b (fun z => ?_) fun z2 => ?_
  · rw [KT_w2 shp] at z
    have lt := hc.lt (by rw [z.1]; decide)
    by_cases e : f = 5
    · unfold k_X7_readFront
      rw [p3, if_neg (by rw [e]; decide)]
      refine fail_ok hc fun R1 f1 => ?_
      rw [rZ_0]
      dsimp only
      rw [rZ_0]
      exact full 2 (by omega) z (by unfold lFull; omega) _ _ f1
    · have go : ∀ J, lBody (nI 2) (lc2 c 2 (T (i + 1))) (fun x => lTail x J) → k2_X12_line c J := fun J w => line_go (k := 2) (by omega) hr hp z (by unfold lFull; omega) ht t5 (Or.inl (by omega)) w
      refine front_ok hc lt (hr2 2) (hp2 2) (by omega) (fun P' R' c' i' a1 a2 a3 a4 a5 a6 a7 => ?_) fun P' R' c' k p a1 a2 a3 a4 => ?_
      · rw [rZ_1]
        refine hS P' R' c' i' l q (f + 1) m h a1 a2 a3 a4 (hx.go (k := 2) (by omega) (by omega) a5 a6) fun J w => go J ?_
        unfold lBody
        rw [if_neg (by decide), if_neg (by decide), if_pos (by decide), c48, li_5, nI_add]
        exact a7 _ w
      · rw [rZ_0]
        refine hF P' R' c' k p a1 a2 a3 fun J hJ => go J ?_
        unfold lBody
        rw [if_neg (by decide), if_neg (by decide), if_pos (by decide), c48, li_5, nI_add]
        exact a4 _ (lTail_x a3 a1 hJ)
  refine ite_b (fun z => ?_) fun z3 => ?_
  · rw [KT_w3 shp] at z
    have lt := hc.lt (by rw [z.1]; decide)
    by_cases e : m = 3
    · unfold k_X7_readMan
      rw [p4, if_neg (by rw [e]; decide)]
      refine fail_ok hc fun R1 f1 => ?_
      rw [rZ_0]
      dsimp only
      rw [rZ_0]
      exact full 3 (by omega) z (by unfold lFull; omega) _ _ f1
    · have go : ∀ J, lBody (nI 3) (lc2 c 3 (T (i + 1))) (fun x => lTail x J) → k2_X12_line c J := fun J w => line_go (k := 3) (by omega) hr hp z (by unfold lFull; omega) ht t5 (Or.inl (by omega)) w
      refine man_ok hc lt (hr2 3) (hp2 3) (by omega) (fun P' R' c' i' a1 a2 a3 a4 a5 a6 a7 => ?_) fun P' R' c' k p a1 a2 a3 a4 => ?_
      · rw [rZ_1]
        refine hS P' R' c' i' l q f (m + 1) h a1 a2 a3 a4 (hx.go (k := 3) (by omega) (by omega) a5 a6) fun J w => go J ?_
        unfold lBody
        rw [if_neg (by decide), if_neg (by decide), if_neg (by decide), if_pos (by decide)]
        exact a7 _ w
      · rw [rZ_0]
        refine hF P' R' c' k p a1 a2 a3 fun J hJ => go J ?_
        unfold lBody
        rw [if_neg (by decide), if_neg (by decide), if_neg (by decide), if_pos (by decide)]
        exact a4 _ (lTail_x a3 a1 hJ)
  refine ite_b (fun z => ?_) fun z4 => ?_
  · rw [KT_w4 shp] at z
    have lt := hc.lt (by rw [z.1]; decide)
    by_cases e : h = 10
    · unfold k_X7_readHouse
      rw [p5, if_neg (by rw [e]; decide)]
      refine fail_ok hc fun R1 f1 => ?_
      rw [rZ_0]
      dsimp only
      rw [rZ_0]
      exact full 4 (by omega) z (by unfold lFull; omega) _ _ f1
    · have go : ∀ J, lBody (nI 4) (lc2 c 4 (T (i + 1))) (fun x => lTail x J) → k2_X12_line c J := fun J w => line_go (k := 4) (by omega) hr hp z (by unfold lFull; omega) ht t5 (Or.inl (by omega)) w
      refine house_ok hc lt (hr2 4) (hp2 4) (by omega) (fun P' R' c' i' a1 a2 a3 a4 a5 a6 a7 a8 => ?_) fun P' R' c' k p a1 a2 a3 a4 => ?_
      · rw [rZ_1]
        refine hS P' R' c' i' l q f m (h + 1) a1 a2 a3 a4 (hx.ho a6 a7 a5) fun J w => go J ?_
        unfold lBody
        rw [if_neg (by decide), if_neg (by decide), if_neg (by decide), if_neg (by decide), if_pos (by decide), c50, li_10, nI_add]
        exact a8 _ w
      · rw [rZ_0]
        refine hF P' R' c' k p a1 a2 a3 fun J hJ => go J ?_
        unfold lBody
        rw [if_neg (by decide), if_neg (by decide), if_neg (by decide), if_neg (by decide), if_pos (by decide), c50, li_10, nI_add]
        exact a4 _ (lTail_x a3 a1 hJ)
  refine ite_b (fun z => ?_) fun z5 => ?_
  · rw [KT_w5 shp] at z
    have lt := hc.lt (by rw [z.1]; decide)
    have go : ∀ J, lBody (nI 5) (lc2 c 5 (T (i + 1))) (fun x => lTail x J) → k2_X12_line c J := fun J w => line_go (k := 5) (by omega) hr hp z (by unfold lFull; omega) ht t5 (Or.inl (by omega)) w
    refine wet_ok hc lt (hr2 5) (hp2 5) (fun P' R' c' i' a1 a2 a3 a4 a5 a6 a7 => ?_) fun P' R' c' k p a1 a2 a3 a4 => ?_
    · rw [rZ_1]
      refine hS P' R' c' i' l q f m h a1 a2 a3 a4 (hx.go (k := 5) (by omega) (by omega) a5 a6) fun J w => go J ?_
      unfold lBody
      rw [if_neg (by decide), if_neg (by decide), if_neg (by decide), if_neg (by decide), if_neg (by decide), if_pos (by decide)]
      exact a7 _ w
    · rw [rZ_0]
      refine hF P' R' c' k p a1 a2 a3 fun J hJ => go J ?_
      unfold lBody
      rw [if_neg (by decide), if_neg (by decide), if_neg (by decide), if_neg (by decide), if_neg (by decide), if_pos (by decide)]
      exact a4 _ (lTail_x a3 a1 hJ)
  refine ite_b (fun z => ?_) fun z6 => ?_
  · rw [KT_w6 shp] at z
    have lt := hc.lt (by rw [z.1]; decide)
    by_cases e : P.1 11 0 ≤ 0
    · have free : t.testBit 6 = false := Bool.eq_false_iff.mpr fun y => (b6.mp y) e
      have go : ∀ J, lBody (nI 6) (lc2 c 6 (T (i + 1))) (fun x => lTail x J) → k2_X12_line c J := fun J w => line_go (k := 6) (by omega) hr hp z (by unfold lFull; omega) ht t5 (Or.inr free) w
      have go' : ∀ J, rRul 0 (lc2 c 6 (T (i + 1))) (fun x => lTail x J) → k2_X12_line c J := fun J w => go J (by
        unfold lBody
        rw [if_neg (by decide), if_neg (by decide), if_neg (by decide), if_neg (by decide), if_neg (by decide), if_neg (by decide), if_pos (by decide)]
        exact w)
      refine hR0 P R (lc2 c 6 (T (i + 1))) M T K n i l q f m h _ hc lt (hr2 6) (hp2 6) e ?_ ?_ ?_ (fun P' R' c' i' a1 a2 a3 a4 a5 a6 a7 a8 a10 a9 => ?_) (fun P' R' c' k p a1 a2 a3 a4 => ?_) fun P' R' c' i' a1 a2 a3 a4 => ?_
      · rw [lc2_ne (by omega), lc2_ne (by omega)]
        exact x1
      · rw [lc2_ne (by omega)]
        exact x3.1
      · rw [lc2_ne (by omega)]
        first
          | exact x3.2.1 e
          | exact x3.2.2 e
      · rw [rZ_1]
        refine hS P' R' c' i' l q f m h a1 a2 a3 a4 ⟨⟨t ||| 2 ^ 6, Nat.or_lt_two_pow (n := 9) t5 (Nat.pow_lt_pow_right (by decide) (by omega)), (a8 0 59 (by omega)).trans (lc2_59 ht (by omega)), ?_, ?_, ?_⟩, a7, ?_, ?_, fun j hj => ?_⟩ fun J w => go' J (a9 _ w)
        · rw [Nat.testBit_or, Nat.testBit_two_pow_self, Bool.or_true]
          exact ⟨fun _ => a5, fun _ => rfl⟩
        · rw [Nat.testBit_or, Nat.testBit_two_pow_of_ne (by omega), Bool.or_false, a6 13 0 (by omega) (by omega)]
          exact b7
        · rw [Nat.testBit_or, Nat.testBit_two_pow_of_ne (by omega), Bool.or_false, a6 0 10 (by omega) (by omega)]
          exact b8
        · rw [a8 0 60 (by omega), lc2_ne (by omega), a6 0 12 (by omega) (by omega)]
          exact x2
        · refine ⟨?_, fun y => ?_, fun y => ?_⟩
          · rw [a8 0 70 (by omega), lc2_ne (by omega)]
            exact x3.1
          · first
              | exact absurd y a5
              | exact a10 (by rw [← a6 11 0 (by omega) (by omega)]; exact y)
          · first
              | exact absurd y a5
              | exact a10 (by rw [← a6 13 0 (by omega) (by omega)]; exact y)
        · obtain ⟨x, y1, y2, y3⟩ := x4 j hj
          exact ⟨x, y1, (a6 (33 + j) 2 (by omega) (by omega)).trans y2, (a8 21 _ (by omega)).trans ((lc2_ne (by omega)).trans y3)⟩
      · rw [rZ_0]
        exact hF P' R' c' k p a1 a2 a3 fun J hJ => go' J (a4 _ (lTail_x a3 a1 hJ))
      · rw [rZ_0]
        refine hF P' R' (sI (flt c' 1) 0 60 (c'.1 0 60 + 1)) _ _ (by decide) a1 (a2.fl.s (nrv_0 (by omega)) (by omega)) fun J hJ => go' J (a4 _ (lTail_n a2 a3 hJ))
    · unfold k_X7_readRule
      rw [if_neg e]
      refine fail_ok hc fun R1 f1 => ?_
      rw [rZ_0]
      dsimp only
      rw [rZ_0]
      exact told 6 (by omega) (by omega) z (b6.mpr e) _ _ f1
  refine ite_b (fun z => ?_) fun z7 => ?_
  · rw [KT_w7 shp] at z
    have lt := hc.lt (by rw [z.1]; decide)
    by_cases e : P.1 13 0 ≤ 0
    · have free : t.testBit 7 = false := Bool.eq_false_iff.mpr fun y => (b7.mp y) e
      have go : ∀ J, lBody (nI 7) (lc2 c 7 (T (i + 1))) (fun x => lTail x J) → k2_X12_line c J := fun J w => line_go (k := 7) (by omega) hr hp z (by unfold lFull; omega) ht t5 (Or.inr free) w
      have go' : ∀ J, rRul 1 (lc2 c 7 (T (i + 1))) (fun x => lTail x J) → k2_X12_line c J := fun J w => go J (by
        unfold lBody
        rw [if_neg (by decide), if_neg (by decide), if_neg (by decide), if_neg (by decide), if_neg (by decide), if_neg (by decide), if_neg (by decide), if_pos (by decide)]
        exact w)
      refine hR1 P R (lc2 c 7 (T (i + 1))) M T K n i l q f m h _ hc lt (hr2 7) (hp2 7) e ?_ ?_ ?_ (fun P' R' c' i' a1 a2 a3 a4 a5 a6 a7 a8 a10 a9 => ?_) (fun P' R' c' k p a1 a2 a3 a4 => ?_) fun P' R' c' i' a1 a2 a3 a4 => ?_
      · rw [lc2_ne (by omega), lc2_ne (by omega)]
        exact x1
      · rw [lc2_ne (by omega)]
        exact x3.1
      · rw [lc2_ne (by omega)]
        first
          | exact x3.2.1 e
          | exact x3.2.2 e
      · rw [rZ_1]
        refine hS P' R' c' i' l q f m h a1 a2 a3 a4 ⟨⟨t ||| 2 ^ 7, Nat.or_lt_two_pow (n := 9) t5 (Nat.pow_lt_pow_right (by decide) (by omega)), (a8 0 59 (by omega)).trans (lc2_59 ht (by omega)), ?_, ?_, ?_⟩, a7, ?_, ?_, fun j hj => ?_⟩ fun J w => go' J (a9 _ w)
        · rw [Nat.testBit_or, Nat.testBit_two_pow_of_ne (by omega), Bool.or_false, a6 11 0 (by omega) (by omega)]
          exact b6
        · rw [Nat.testBit_or, Nat.testBit_two_pow_self, Bool.or_true]
          exact ⟨fun _ => a5, fun _ => rfl⟩
        · rw [Nat.testBit_or, Nat.testBit_two_pow_of_ne (by omega), Bool.or_false, a6 0 10 (by omega) (by omega)]
          exact b8
        · rw [a8 0 60 (by omega), lc2_ne (by omega), a6 0 12 (by omega) (by omega)]
          exact x2
        · refine ⟨?_, fun y => ?_, fun y => ?_⟩
          · rw [a8 0 70 (by omega), lc2_ne (by omega)]
            exact x3.1
          · first
              | exact absurd y a5
              | exact a10 (by rw [← a6 11 0 (by omega) (by omega)]; exact y)
          · first
              | exact absurd y a5
              | exact a10 (by rw [← a6 13 0 (by omega) (by omega)]; exact y)
        · obtain ⟨x, y1, y2, y3⟩ := x4 j hj
          exact ⟨x, y1, (a6 (33 + j) 2 (by omega) (by omega)).trans y2, (a8 21 _ (by omega)).trans ((lc2_ne (by omega)).trans y3)⟩
      · rw [rZ_0]
        exact hF P' R' c' k p a1 a2 a3 fun J hJ => go' J (a4 _ (lTail_x a3 a1 hJ))
      · rw [rZ_0]
        refine hF P' R' (sI (flt c' 1) 0 60 (c'.1 0 60 + 1)) _ _ (by decide) a1 (a2.fl.s (nrv_0 (by omega)) (by omega)) fun J hJ => go' J (a4 _ (lTail_n a2 a3 hJ))
    · unfold k_X7_readRule
      rw [if_neg e]
      refine fail_ok hc fun R1 f1 => ?_
      rw [rZ_0]
      dsimp only
      rw [rZ_0]
      exact told 7 (by omega) (by omega) z (b7.mpr e) _ _ f1
  refine ite_b (fun z => ?_) fun z8 => ?_
  · rw [KT_w8 shp] at z
    have lt := hc.lt (by rw [z.1]; decide)
    by_cases e : P.1 0 10 ≤ 0
    · have free : t.testBit 8 = false := Bool.eq_false_iff.mpr fun y => (b8.mp y) e
      have go' : ∀ J, rTan (lc2 c 8 (T (i + 1))) (fun x => lTail x J) → k2_X12_line c J := fun J w => line_go (k := 8) (by omega) hr hp z (by unfold lFull; omega) ht t5 (Or.inr free) (by
        unfold lBody
        rw [if_neg (by decide), if_neg (by decide), if_neg (by decide), if_neg (by decide), if_neg (by decide), if_neg (by decide), if_neg (by decide), if_neg (by decide)]
        exact w)
      refine tank_ok hc lt (hr2 8) (hp2 8) e (fun P' R' c' i' a1 a2 a3 a4 a5 a6 a7 a8 => ?_) fun P' R' c' k p a1 a2 a3 a4 => ?_
      · rw [rZ_1]
        obtain ⟨y, y1, y2, y3⟩ := a6
        refine hS P' R' c' i' l q f m h a1 a2 a3 a4 ⟨⟨t ||| 2 ^ 8, Nat.or_lt_two_pow (n := 9) t5 (Nat.pow_lt_pow_right (by decide) (by omega)), (a7 0 59 (by omega)).trans (lc2_59 ht (by omega)), ?_, ?_, ?_⟩, ?_, ?_, ?_, fun j hj => ?_⟩ fun J w => go' J (a8 _ w)
        · rw [Nat.testBit_or, Nat.testBit_two_pow_of_ne (by omega), Bool.or_false, a5 11 0 (by omega)]
          exact b6
        · rw [Nat.testBit_or, Nat.testBit_two_pow_of_ne (by omega), Bool.or_false, a5 13 0 (by omega)]
          exact b7
        · rw [Nat.testBit_or, Nat.testBit_two_pow_self, Bool.or_true, y3, li_0]
          refine ⟨fun _ => ?_, fun _ => rfl⟩
          rw [nI_le' (by omega) (by omega)]
          omega
        · rw [a7 0 58 (by omega), a7 0 57 (by omega), lc2_ne (by omega), lc2_ne (by omega)]
          exact x1
        · rw [a7 0 60 (by omega), lc2_ne (by omega), a5 0 12 (by omega)]
          exact x2
        · refine ⟨?_, fun y => ?_, fun y => ?_⟩
          · rw [a7 0 70 (by omega), lc2_ne (by omega)]
            exact x3.1
          · rw [a7 0 53 (by omega), lc2_ne (by omega)]
            exact x3.2.1 (by rw [← a5 11 0 (by omega)]; exact y)
          · rw [a7 0 51 (by omega), lc2_ne (by omega)]
            exact x3.2.2 (by rw [← a5 13 0 (by omega)]; exact y)
        · obtain ⟨x, y1, y2, y3⟩ := x4 j hj
          exact ⟨x, y1, (a5 (33 + j) 2 (by omega)).trans y2, (a7 21 _ (by omega)).trans ((lc2_ne (by omega)).trans y3)⟩
      · rw [rZ_0]
        exact hF P' R' c' k p a1 a2 a3 fun J hJ => go' J (a4 _ (lTail_x a3 a1 hJ))
    · unfold k_X7_readTank
      rw [if_neg e]
      refine fail_ok hc fun R1 f1 => ?_
      rw [rZ_0]
      dsimp only
      rw [rZ_0]
      exact told 8 (by omega) (by omega) z (b8.mpr e) _ _ f1
  refine fail_ok hc fun R1 f1 => ?_
  rw [rZ_0]
  refine hF _ _ (flt c 1) _ _ (by decide) f1 hr.fl fun J hJ => line_no hr shp (fun k hk => ?_) hJ
  rw [KT_w0 shp] at z0
  rw [KT_w1 shp] at z1
  rw [KT_w2 shp] at z2
  rw [KT_w3 shp] at z3
  rw [KT_w4 shp] at z4
  rw [KT_w5 shp] at z5
  rw [KT_w6 shp] at z6
  rw [KT_w7 shp] at z7
  rw [KT_w8 shp] at z8
  rcases (show k = 0 ∨ k = 1 ∨ k = 2 ∨ k = 3 ∨ k = 4 ∨ k = 5 ∨ k = 6 ∨ k = 7 ∨ k = 8 by omega) with rfl | rfl | rfl | rfl | rfl | rfl | rfl | rfl | rfl
  · exact z0
  · exact z1
  · exact z2
  · exact z3
  · exact z4
  · exact z5
  · exact z6
  · exact z7
  · exact z8
end Line2
