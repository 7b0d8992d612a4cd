/-! ===== minutes and panes by poles: the reference ===== -/
theorem take_s {r : List Nat} {i : Nat} (h : i < r.length) : r.take (i + 1) = r.take i ++ [r.getD i 0] := by
  rw [List.take_add_one, List.getElem?_eq_getElem h, List.getD_eq_getElem?_getD, List.getElem?_eq_getElem h]
  rfl
theorem code_dec {t c d : Nat} (ht : t < 16) (hc : c < 16) : (t + 16 * c + 256 * d) % 16 = t ∧ (t + 16 * c + 256 * d) / 16 % 16 = c ∧ (t + 16 * c + 256 * d) / 256 = d := by omega
theorem rm_n {a b : Nat} {Q : Int32 → Prop} (ha : a < 2 ^ 31) (hb : b < 2 ^ 31) (h0 : 0 < b) : rmI (nI a) (nI b) Q = Q (nI (a % b)) := by
  rw [rmI_eq (fun z => by have := (nI_eq (b := 0) hb (by omega)).mp z; omega), pk_div ha h0 hb, pk_mul, pk_sub (Nat.div_mul_le_self a b), Nat.mod_eq_sub_div_mul]
theorem dv_n {a b : Nat} {Q : Int32 → Prop} (ha : a < 2 ^ 31) (hb : b < 2 ^ 31) (h0 : 0 < b) : dvI (nI a) (nI b) Q = Q (nI (a / b)) := by
  rw [dvI_eq (fun z => by have := (nI_eq (b := 0) hb (by omega)).mp z; omega), pk_div ha h0 hb]
section Mnt
variable {P M : CT} {V : VW} {l q f tools : Nat} {held : Bool} {a3 : Int32}
/-- a setting of the row, taken apart -/
theorem row_dec (T : TLS P.1 V l q) (g : PFro P.1 V f) {i : Nat} (hi : i ∈ rowS V l q f tools held) : ∃ t c d, t < l + q ∧ c < nv (V 8 f) ∧ 1 ≤ d ∧ d ≤ 9 ∧ codeS V f i = t + 16 * c + 256 * d ∧ ladS V l f i = decide (t < l) ∧ msS V l f tools held i = (if tools.testBit t = true then (cvS V l f t c d held).getD 0 else 0) ∧ msS V l f tools held i ≠ 0 := by
  obtain ⟨i1, i2⟩ := gr_lt _ i (by rw [rowS_eq] at hi; exact hi)
  obtain ⟨-, w, u, p, b, s, hw, -, hp, -, -, ⟨e8, -⟩, -⟩ := g
  have ew : nv (V 8 f) = w := by rw [e8, nv_n (by omega)]
  rw [← cnt_eq, ew] at i1
  refine ⟨i / (9 * nv (V 8 f)), i / 9 % nv (V 8 f), i % 9 + 1, ?_, ?_, by omega, by omega, rfl, rfl, rfl, i2⟩
  · rw [ew]
    apply Nat.div_lt_of_lt_mul
    rw [Nat.mul_comm, Nat.mul_comm 9, ← Nat.mul_assoc]
    exact i1
  · exact Nat.mod_lt _ (by omega)
theorem RF.vw {c : CT} (hM : PVw M V l q) (h : RF M c V l q f tools held) : PVw c V l q := hM.mv (fun j x h1 h2 => h.1 j x (by omega) (by omega)) (h.1 0 34 (by omega) (by omega)) (h.1 0 35 (by omega) (by omega))
theorem RF.ma {c : CT} (h : RF M c V l q f tools held) : MA M c := fun j k r => h.1 j k (by unfold RV at r; omega) (by unfold RV at r; omega)
theorem GR.ma {ms cd : Nat → Nat} {i : Nat} {s : Int32} {c : CT} (h : GR M ms cd i s c) : MA M c := fun j k r => h.2.1 j k (by unfold RV at r; omega) (by unfold RV at r; omega) (by unfold RV at r; omega)
theorem minutesOf_ok {Q : Int32 → CT → Prop} (hM : PVw M V l q) (T : TLS P.1 V l q) (g : PFro P.1 V f) (hf : f < 5) (ht7 : tools < 128) (h3 : (a3 ≠ 0) ↔ held = true) (hQ : ∀ c, RF M c V l q f tools held → Q (nI (minS V l q f tools held)) c) : k_X12_minutesOf M (nI f) (nI tools) a3 Q := by
  have l4 := T.1.1
  have q3 := T.1.2.1
  have hw : nv (V 8 f) ≤ 12 := by
    obtain ⟨-, w, u, p, b, s, hw, -, -, -, -, ⟨e8, -⟩, -⟩ := g
    rw [e8, nv_n (by omega)]
    omega
  unfold k_X12_minutesOf
  refine fewestFor_ok hM T g hf ht7 h3 fun c rf => ?_
  have hq := hQ c rf
  have vw := rf.vw hM
  have rl := rowS_le (l := l) (q := q) (tools := tools) (held := held) g
  obtain ⟨-, r76, r36⟩ := rf
  refine bitsOf_ok (all_lt g).2 ?_
  rw [li_2, pk_mul, vK_eq]
  refine LP2.ind (fun s v => ∃ i, i ≤ (rowS V l q f tools held).length ∧ v = nI i ∧ s = nI (2 * pop 12 (allS V l q f tools held) + (((rowS V l q f tools held).take i).map fun i => if ladS V l f i = true then 6 else 3).sum)) (fun _ v => (rowS V l q f tools held).length - v.toNatClampNeg) ?_ ⟨0, by omega, rfl, rfl⟩
  rintro R s v ⟨i, hi, rfl, rfl⟩ ih
  by_cases hin : i < (rowS V l q f tools held).length
  · obtain ⟨t, k, d, d1, d2, d3, d4, d5, d6, -⟩ := row_dec T g (getD_mem hin)
    obtain ⟨x1, -⟩ := code_dec (t := t) (c := k) (d := d) (by omega) (by omega)
    have nx : R (nI (2 * pop 12 (allS V l q f tools held) + (((rowS V l q f tools held).take i).map fun i => if ladS V l f i = true then 6 else 3).sum) + (if t < l then 6 else 3)) (nI i + 1) := by
      rw [nI_1]
      refine ih _ _ ⟨i + 1, by omega, rfl, ?_⟩ (by rw [nI_clamp (by omega), nI_clamp (by omega)]; omega)
      rw [take_s hin, List.map_append, List.sum_append, List.map_singleton, List.sum_singleton, d6]
      by_cases hl : t < l
      · rw [if_pos hl, if_pos (decide_eq_true hl), li_6, nI_add, Nat.add_assoc]
      · rw [if_neg hl, if_neg (by rw [decide_eq_false hl]; decide), li_3, nI_add, Nat.add_assoc]
    rw [r76, if_neg (nI_ge hin (by omega)), jn_eq, rdI_n (by omega) (by omega), r36 i hin, d5, li_16, rm_n (by omega) (by omega) (by omega), x1, isLadM vw l4 (by omega)]
    by_cases hl : t < l
    · rw [if_pos hl] at nx
      rw [if_pos hl, if_neg (by decide)]
      dsimp only
      rw [vK_eq]
      exact nx
    · rw [if_neg hl] at nx
      rw [if_neg hl, if_pos rfl]
      dsimp only
      rw [vK_eq]
      exact nx
  · have e : i = (rowS V l q f tools held).length := by omega
    subst e
    rw [r76, if_pos (Int32.le_refl _), List.take_length]
    exact hq
theorem or_dif (d a : Nat) : d ||| dif a d = d ||| a := by
  apply Nat.eq_of_testBit_eq
  intro k
  rw [Nat.testBit_or, Nat.testBit_or, dif_bit]
  cases d.testBit k <;> cases a.testBit k <;> rfl
theorem orR_lt {ms : Nat → Nat} {n : Nat} (h : ∀ i, ms i < 2 ^ n) : ∀ r, orR ms r < 2 ^ n
  | [] => Nat.two_pow_pos n
  | a :: r => Nat.or_lt_two_pow (h a) (orR_lt h r)
theorem byPolesR_ok {Q : Int32 → CT → Prop} (hM : PVw M V l q) (T : TLS P.1 V l q) (g : PFro P.1 V f) (hf : f < 5) (hQ : ∀ c, RF M c V l q f (2 ^ (l + q) - 1) false → Q (nI (polnS V l q f (2 ^ (l + q) - 1) false)) c) : k_X12_byPoles M (nI f) Q := by
  have l4 := T.1.1
  have q3 := T.1.2.1
  have t7 : 2 ^ (l + q) ≤ 2 ^ 7 := Nat.pow_le_pow_right (by omega) (by omega)
  have tp := Nat.two_pow_pos (l + q)
  have hw : nv (V 8 f) ≤ 12 := by
    obtain ⟨-, w, u, p, b, s, hw, -, -, -, -, ⟨e8, -⟩, -⟩ := g
    rw [e8, nv_n (by omega)]
    omega
  have ml := fun i => ms_lt (l := l) (tools := 2 ^ (l + q) - 1) (held := false) (i := i) g
  unfold k_X12_byPoles
  rw [hM.2.1, hM.2.2, nI_add, shl_1 (by omega), li_1, pk_sub tp, ← li_1]
  refine fewestFor_ok (held := false) hM T g hf (by omega) (by simp) fun c rf => ?_
  have hq := hQ c rf
  have vw := rf.vw hM
  have rl := rowS_le (l := l) (q := q) (tools := 2 ^ (l + q) - 1) (held := false) g
  obtain ⟨-, r76, r36⟩ := rf
  unfold polnS at hq
  generalize hr : rowS V l q f (2 ^ (l + q) - 1) false = r at hq rl r76 r36
  refine LP3.ind (fun dn s v => ∃ i, i ≤ r.length ∧ v = nI i ∧ dn = nI (orR (msS V l f (2 ^ (l + q) - 1) false) (r.take i)) ∧ s = nI (polS (msS V l f (2 ^ (l + q) - 1) false) (ladS V l f) 0 (r.take i))) (fun _ _ v => r.length - v.toNatClampNeg) ?_ ⟨0, by omega, rfl, rfl, rfl⟩
  rintro R dn s v ⟨i, hi, rfl, rfl, rfl⟩ ih
  by_cases hin : i < r.length
  · obtain ⟨t, k, d, d1, d2, d3, d4, d5, d6, d7, d8⟩ := row_dec (tools := 2 ^ (l + q) - 1) (held := false) T g (i := r.getD i 0) (by rw [hr]; exact getD_mem hin)
    obtain ⟨x1, x2, x3⟩ := code_dec (t := t) (c := k) (d := d) (by omega) (by omega)
    have tb : (2 ^ (l + q) - 1).testBit t = true := by
      rw [Nat.testBit_two_pow_sub_one]
      exact decide_eq_true d1
    rw [if_pos tb] at d7
    have cv : cvS V l f t k d false = some (msS V l f (2 ^ (l + q) - 1) false (r.getD i 0)) := by
      cases h : cvS V l f t k d false with
      | none =>
        rw [h] at d7
        exact absurd d7 d8
      | some y =>
        rw [h] at d7
        rw [d7]
        rfl
    have ol := orR_lt (n := 12) (fun i => ml i) (r.take i)
    have mi := ml (r.getD i 0)
    have dl : dif (msS V l f (2 ^ (l + q) - 1) false (r.getD i 0)) (orR (msS V l f (2 ^ (l + q) - 1) false) (r.take i)) < 2 ^ 12 := dif_lt (n := 12) mi
    rw [r76, if_neg (nI_ge hin (by omega)), rdI_n (by omega) (by omega), r36 i hin, d5, li_16, rm_n (by omega) (by omega) (by omega), x1, rdI_n (by omega) (by omega), r36 i hin, d5, dv_n (by omega) (by omega) (by omega), rm_n (by omega) (by omega) (by omega), x2, rdI_n (by omega) (by omega), r36 i hin, d5, li_256, dv_n (by omega) (by omega) (by omega), x3]
    refine coversOf_ok (held := false) vw T g hf d1 d2 d3 d4 (by simp) ?_
    rw [cv]
    show vK (nI _ &&& _) _
    rw [dif_n (by omega) (by omega), vK_eq, or_n, or_dif, vK_eq, jn_eq, isLadM vw l4 (by omega)]
    have nx : ∀ x : Int32, x = nI (if decide (t < l) = true then 0 else pop 12 (dif (msS V l f (2 ^ (l + q) - 1) false (r.getD i 0)) (orR (msS V l f (2 ^ (l + q) - 1) false) (r.take i)))) → R (nI (orR (msS V l f (2 ^ (l + q) - 1) false) (r.take i) ||| msS V l f (2 ^ (l + q) - 1) false (r.getD i 0))) (nI (polS (msS V l f (2 ^ (l + q) - 1) false) (ladS V l f) 0 (r.take i)) + x) (nI i + 1) := fun x ex => by
      rw [nI_1]
      refine ih _ _ _ ⟨i + 1, by omega, rfl, ?_, ?_⟩ (by rw [nI_clamp (by omega), nI_clamp (by omega)]; omega)
      · rw [take_s hin, orR_app]
      · rw [take_s hin, polS_app, d6, Nat.zero_or, ex, nI_add]
    by_cases hl : t < l
    · rw [if_pos hl, if_neg (by decide)]
      dsimp only
      rw [vK_eq]
      exact nx _ (by rw [if_pos (decide_eq_true hl)]; rfl)
    · rw [if_neg hl, if_pos rfl]
      refine bitsOf_ok dl ?_
      dsimp only
      rw [vK_eq]
      exact nx _ (by rw [if_neg (by rw [decide_eq_false hl]; decide)])
  · have e : i = r.length := by omega
    subst e
    rw [r76, if_pos (Int32.le_refl _), List.take_length]
    exact hq
end Mnt
