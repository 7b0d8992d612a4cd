/-! ===== rules: values, one sign worked out ===== -/
def inL (x : Int64) : Prop := x ≤ 1000000000000 ∧ -1000000000000 ≤ x
def mok (x y : Int64) : Prop := x.toInt.natAbs * y.toInt.natAbs ≤ 1000000000000
def relS (v : Int32) (x y : Int64) : Prop := if v = 60 then x < y else if v = 61 then x = y else if v = 62 then y < x else if v = 256 then x ≤ y else if v = 257 then ¬ x = y else if v = 258 then y ≤ x else if v = 261 then (¬ x = 0 ∧ ¬ y = 0) else (¬ x = 0 ∨ ¬ y = 0)
noncomputable def chk (z : Int64) : Option Int64 := @ite _ (inL z) (Classical.propDecidable _) (some z) none
noncomputable def tf (p : Prop) : Int64 := @ite _ p (Classical.propDecidable _) 1 0
theorem tf_t {p : Prop} (h : p) : tf p = 1 := if_pos h
theorem tf_f {p : Prop} (h : ¬ p) : tf p = 0 := if_neg h
theorem tf_d {p : Prop} [Decidable p] : (if p then (1 : Int64) else 0) = tf p := by
  by_cases h : p
  · rw [if_pos h, tf_t h]
  · rw [if_neg h, tf_f h]
theorem tf_cg {p q : Prop} (h : p ↔ q) : tf p = tf q := by rw [propext h]
noncomputable def opS (v : Int32) (x y : Int64) : Option Int64 := if v = 43 then chk (x + y) else if v = 45 then chk (x - y) else if v = 42 then (@ite _ (mok x y) (Classical.propDecidable _) (chk (x * y)) none) else if v = 47 then (if y = 0 then none else chk (x / y)) else some (tf (relS v x y))
theorem chk_t {z : Int64} (h : inL z) : chk z = some z := if_pos h
theorem chk_f {z : Int64} (h : ¬ inL z) : chk z = none := if_neg h
theorem in_tf {p : Prop} : inL (tf p) := by
  by_cases h : p
  · rw [tf_t h]; unfold inL; decide
  · rw [tf_f h]; unfold inL; decide
theorem in_i32 (x : Int32) : inL x.toInt64 := by
  have h1 := x.toInt_lt
  have h2 := x.le_toInt
  unfold inL
  rw [Int64.le_iff_toInt_le, Int64.le_iff_toInt_le, Int32.toInt_toInt64]
  rw [show (1000000000000 : Int64).toInt = 1000000000000 from by decide, show (-1000000000000 : Int64).toInt = -1000000000000 from by decide]
  omega
theorem inL_abs {x : Int64} (h : inL x) : x.toInt.natAbs ≤ 1000000000000 := by
  unfold inL at h
  rw [Int64.le_iff_toInt_le, Int64.le_iff_toInt_le] at h
  rw [show (1000000000000 : Int64).toInt = 1000000000000 from by decide, show (-1000000000000 : Int64).toInt = -1000000000000 from by decide] at h
  omega
/-- the greatness of a value in bounds, as a long -/
theorem neg_ab {x : Int64} (h : inL x) (hx : x ≤ 0) : -x = lN x.toInt.natAbs := by
  have hb := inL_abs h
  apply Int64.toInt_inj.mp
  rw [pk_lT (by omega)]
  rw [Int64.le_iff_toInt_le] at hx
  rw [show (0 : Int64).toInt = 0 from by decide] at hx
  rw [Int64.toInt_neg, Int.bmod_eq_of_le (by omega) (by omega)]
  omega
theorem pos_ab {x : Int64} (h : inL x) (hx : 0 ≤ x) : x = lN x.toInt.natAbs := by
  have hb := inL_abs h
  apply Int64.toInt_inj.mp
  rw [pk_lT (by omega)]
  rw [Int64.le_iff_toInt_le] at hx
  rw [show (0 : Int64).toInt = 0 from by decide] at hx
  omega
theorem aL_ab {x : Int64} (h : inL x) : aL x = lN x.toInt.natAbs := by
  unfold aL
  split
  · rename_i q
    exact pos_ab h (Int64.le_of_lt q)
  · rename_i q
    exact neg_ab h (Int64.not_lt.mp q)
theorem cl_ab {x : Int64} (h : inL x) : (if ¬ ((0 : Int32) ≤ (lg_cmp x (0 : Int64))) then (-x) else x) = lN x.toInt.natAbs := by
  split
  · rename_i q
    rw [lg_cmp_ge] at q
    exact neg_ab h (Int64.le_of_lt (Int64.not_le.mp q))
  · rename_i q
    rw [Classical.not_not, lg_cmp_ge] at q
    exact pos_ab h q
theorem ab_0 {x : Int64} (h : inL x) : x.toInt.natAbs = 0 ↔ x = 0 := by
  constructor
  · intro e
    apply Int64.toInt_inj.mp
    rw [show (0 : Int64).toInt = 0 from by decide]
    omega
  · rintro rfl
    decide
theorem L_N : (1000000000000 : Int64) = lN 1000000000000 := rfl
theorem mul_le_div {A B L : Nat} (hB : 0 < B) : A ≤ L / B ↔ A * B ≤ L := Nat.le_div_iff_mul_le hB
theorem isWithin_ok {x y : Int64} {Q : Int32 → Prop} (hx : inL x) (hy : inL y) (h1 : mok x y → Q 1) (h0 : ¬ mok x y → Q 0) : k_X2_isWithin x y Q := by
  unfold k_X2_isWithin
  rw [vK_eq, jn_eq, cl_ab hy, cl_ab hx]
  have a1 := inL_abs hx
  have a2 := inL_abs hy
  refine ite_b (fun z => ?_) fun z => ?_
  · show rZ 1 _
    rw [rZ_1]
    refine h1 ?_
    rw [lg_cmp_eq, show (0 : Int64) = lN 0 from rfl, pk_lEQ (by omega) (by omega)] at z
    unfold mok
    rw [z]
    omega
  · rw [lg_cmp_eq, show (0 : Int64) = lN 0 from rfl, pk_lEQ (by omega) (by omega)] at z
    have hB : 0 < y.toInt.natAbs := by omega
    have hq : 1000000000000 / y.toInt.natAbs ≤ 1000000000000 := Nat.div_le_self _ _
    refine ⟨fun e => ?_, ?_⟩
    · rw [show (0 : Int64) = lN 0 from rfl, pk_lEQ (by omega) (by omega)] at e
      exact z e
    · rw [L_N, pk_lDiv (by omega) hB (by omega)]
      refine ite_b (fun w => ?_) fun w => ?_
      · show rZ 0 _
        rw [rZ_0]
        refine h0 fun mm => ?_
        rw [lg_cmp_gt, pk_lLT (by omega) (by omega)] at w
        have := (mul_le_div (L := 1000000000000) hB).mpr mm
        omega
      · show rZ 1 _
        rw [rZ_1]
        refine h1 ?_
        rw [lg_cmp_gt, pk_lLT (by omega) (by omega)] at w
        exact (mul_le_div (L := 1000000000000) hB).mp (by omega)
theorem i64_nl {x : Int64} : (¬ ((0 : Int32) < (lg_cmp x (1000000000000 : Int64))) ∧ ¬ ((lg_cmp x (-1000000000000 : Int64)) < (0 : Int32))) ↔ inL x := by
  rw [lg_cmp_gt, lg_cmp_lt, Int64.not_lt, Int64.not_lt]
  exact Iff.rfl
theorem not_ne {α : Type} {a b : α} : ¬ (a ≠ b) ↔ a = b := Classical.not_not
theorem tfn {p : Prop} [Decidable p] : (if ¬ ((if p then (1 : Int32) else 0) = 0) then (1 : Int64) else 0) = tf p := by
  by_cases h : p
  · rw [if_pos h, tf_t h]; rfl
  · rw [if_neg h, tf_f h]; rfl
theorem is_ok {p r : Prop} [Decidable p] {Q : Int64 → Prop} (e : p ↔ r) (hQ : Q (tf r)) : k_X12_is (if p then (1 : Int32) else 0) Q := by
  unfold k_X12_is
  rw [tfn, tf_cg e]
  exact hQ
theorem truth_ok {p r : Prop} [Decidable p] {Q : Int64 → Prop} (e : p ↔ r) (hQ : Q (tf r)) : k_X2_truth (if p then (1 : Int32) else 0) Q := by
  unfold k_X2_truth
  rw [tfn, tf_cg e]
  exact hQ
theorem lc_lt {x y : Int64} : ¬ ((0 : Int32) ≤ lg_cmp x y) ↔ x < y := by rw [lg_cmp_ge]; exact Int64.not_le
theorem lc_le {x y : Int64} : ¬ ((0 : Int32) < lg_cmp x y) ↔ x ≤ y := by rw [lg_cmp_gt]; exact Int64.not_lt
theorem lc_eq {x y : Int64} : ¬ (lg_cmp x y ≠ 0) ↔ x = y := not_ne.trans (lg_cmp_eq x y)
theorem lc_ne {x y : Int64} : ¬ (lg_cmp x y = 0) ↔ ¬ x = y := by rw [lg_cmp_eq]
theorem lc_ge {x y : Int64} : ¬ (lg_cmp x y < 0) ↔ y ≤ x := by rw [lg_cmp_lt]; exact Int64.not_lt
theorem lc_gt {x y : Int64} : ¬ (lg_cmp x y ≤ 0) ↔ y < x := by rw [lg_cmp_le]; exact Int64.not_le
/-- frame of the reference's working: its stack and the stack's size -/
def MW (M M' : CT) : Prop := (∀ j k, ¬ (j = 0 ∧ k = 99) → M'.1 j k = M.1 j k) ∧ ∀ j k, j ≠ 53 → M'.2 j k = M.2 j k
theorem sL_ne {c : CT} {j k j' k' : Nat} {x : Int64} (h : ¬ (j' = j ∧ k' = k)) : (sL c j k x).2 j' k' = c.2 j' k' := if_neg h
theorem sL_same {c : CT} {j k : Nat} {x : Int64} : (sL c j k x).2 j k = x := if_pos ⟨rfl, rfl⟩
theorem works_not {M : CT} {d : Nat} {Q : Int32 → CT → Prop} (hd : M.1 0 99 = nI (d + 1)) (h6 : d + 1 ≤ 64) (hQ : Q 1 (sL M 53 d (tf (M.2 53 d = 0)))) : k_X12_works M 260 Q := by
  unfold k_X12_works
  rw [hd, nI_pred, rdL_n (by omega) (by omega), if_neg (by decide)]
  refine is_ok (r := M.2 53 d = 0) lc_eq ?_
  rw [wrL_n (by omega) (by omega)]
  exact hQ
theorem works_ok {M : CT} {d : Nat} {v : Int32} {Q : Int32 → CT → Prop} (hd : M.1 0 99 = nI (d + 2)) (h6 : d + 2 ≤ 64) (hv : ¬ v = 260) (hx : inL (M.2 53 d)) (hy : inL (M.2 53 (d + 1)))
    (h1 : ∀ z, opS v (M.2 53 d) (M.2 53 (d + 1)) = some z → Q 1 (sL (sI M 0 99 (nI (d + 1))) 53 d z)) (h0 : opS v (M.2 53 d) (M.2 53 (d + 1)) = none → ∀ M', MW M M' → Q 0 M') : k_X12_works M v Q := by
  unfold k_X12_works
  have e1 : nI (d + 2) - 1 = nI (d + 1) := nI_pred (d + 1)
  have e2 : nI (d + 2) - 2 = nI d := by rw [li_2, pk_sub (by omega)]; rfl
  rw [hd, e1, e2, rdL_n (by omega) (by omega), if_pos hv, rdL_n (by omega) (by omega), wrF_eq]
  generalize hX : M.2 53 d = x at *
  generalize hY : M.2 53 (d + 1) = y at *
  refine jn_of (fun J => ∀ z, (inL z → opS v x y = some z) → (¬ inL z → opS v x y = none) → J z) ?_ ?_
  · intro z z1 z2
    rw [sI_same, nI_pred, wrL_n (by omega) (by omega)]
    by_cases hz : inL z
    · rw [if_pos (i64_nl.mpr hz), rZ_1]
      exact h1 z (z1 hz)
    · rw [if_neg (fun q => hz (i64_nl.mp q)), rZ_0]
      refine h0 (z2 hz) _ ⟨fun j k q => ?_, fun j k q => ?_⟩
      · exact sI_ne q
      · exact sL_ne fun w => q w.1
  intro J hJ
  have hrel : ∀ z, opS v x y = some (tf z) → J (tf z) := fun z e => hJ _ (fun _ => e) (fun q => absurd in_tf q)
  have h0' : opS v x y = none → Q 0 (sI M 0 99 (nI (d + 1))) := fun e => h0 e _ ⟨fun j k q => sI_ne q, fun _ _ _ => rfl⟩
  unfold opS at hJ hrel h0'
  refine ite_b (fun z42 => ?_) fun z42 => ite_b (fun z43 => ?_) fun z43 => ite_b (fun z45 => ?_) fun z45 => ite_b (fun z47 => ?_) fun z47 => ?_
  · subst z42
    rw [if_neg (by decide), if_neg (by decide), if_pos rfl] at h0'
    have hJ' : ∀ z, (inL z → (@ite _ (mok x y) (Classical.propDecidable _) (chk (x * y)) none) = some z) → (¬ inL z → (@ite _ (mok x y) (Classical.propDecidable _) (chk (x * y)) none) = none) → J z := hJ
    have ok : mok x y → J (x * y) := fun mm => by
      refine hJ' _ (fun q => ?_) (fun q => ?_)
      · rw [if_pos mm, chk_t q]
      · rw [if_pos mm, chk_f q]
    have a1 := inL_abs hx
    have a2 := inL_abs hy
    refine ite_b (fun w => ?_) fun w => ?_
    · rw [vK_eq]
      refine ok ?_
      rw [lg_cmp_eq] at w
      unfold mok
      rw [w]
      show (0 : Int64).toInt.natAbs * _ ≤ _
      rw [show (0 : Int64).toInt.natAbs = 0 from by decide]
      omega
    · rw [lg_cmp_eq] at w
      have hA : 0 < x.toInt.natAbs := Nat.pos_of_ne_zero fun e => w ((ab_0 hx).mp e)
      have hq : 1000000000000 / x.toInt.natAbs ≤ 1000000000000 := Nat.div_le_self _ _
      rw [aL_ab hx, aL_ab hy]
      refine ⟨fun e => ?_, ?_⟩
      · rw [show (0 : Int64) = lN 0 from rfl, pk_lEQ (by omega) (by omega)] at e
        omega
      · rw [L_N, pk_lDiv (by omega) hA (by omega)]
        refine ite_b (fun u => ?_) fun u => ?_
        · rw [vK_eq]
          refine ok ?_
          rw [lg_cmp_le, pk_lLE (by omega) (by omega)] at u
          unfold mok
          rw [Nat.mul_comm]
          exact (mul_le_div hA).mp u
        · refine h0' ?_
          rw [lg_cmp_le, pk_lLE (by omega) (by omega)] at u
          rw [if_neg]
          intro mm
          unfold mok at mm
          rw [Nat.mul_comm] at mm
          exact u ((mul_le_div hA).mpr mm)
  · rw [vK_eq]
    subst z43
    exact hJ _ (fun q => chk_t q) (fun q => chk_f q)
  · rw [vK_eq]
    subst z45
    exact hJ _ (fun q => chk_t q) (fun q => chk_f q)
  · subst z47
    have hJ' : ∀ z, (inL z → (if y = 0 then none else chk (x / y)) = some z) → (¬ inL z → (if y = 0 then none else chk (x / y)) = none) → J z := hJ
    have h0'' : (if y = 0 then none else chk (x / y)) = none → Q 0 (sI M 0 99 (nI (d + 1))) := h0'
    refine ite_b (fun w => ?_) fun w => ?_
    · have w' : ¬ y = 0 := fun e => w ((lg_cmp_eq y 0).mpr e)
      refine ⟨w', ?_⟩
      exact hJ' _ (fun q => by rw [if_neg w', chk_t q]) (fun q => by rw [if_neg w', chk_f q])
    · have w' : y = 0 := (lg_cmp_eq y 0).mp (Classical.not_not.mp w)
      exact h0'' (by rw [if_pos w'])
  · have hr : ∀ z, relS v x y = z → J (tf z) := fun z e => hrel z (by rw [if_neg z43, if_neg z45, if_neg z42, if_neg z47, e])
    unfold relS at hr
    refine ite_b (fun u => is_ok lc_lt (hr _ (by rw [if_pos u]))) fun u60 => ite_b (fun u => is_ok lc_eq (hr _ (by rw [if_neg u60, if_pos u]))) fun u61 => ite_b (fun u => is_ok lc_gt (hr _ (by rw [if_neg u60, if_neg u61, if_pos u]))) fun u62 => ite_b (fun u => is_ok lc_le (hr _ (by rw [if_neg u60, if_neg u61, if_neg u62, if_pos u]))) fun u256 => ite_b (fun u => is_ok lc_ne (hr _ (by rw [if_neg u60, if_neg u61, if_neg u62, if_neg u256, if_pos u]))) fun u257 => ite_b (fun u => is_ok lc_ge (hr _ (by rw [if_neg u60, if_neg u61, if_neg u62, if_neg u256, if_neg u257, if_pos u]))) fun u258 => ite_b (fun u => is_ok (and_congr lc_ne lc_ne) (hr _ (by rw [if_neg u60, if_neg u61, if_neg u62, if_neg u256, if_neg u257, if_neg u258, if_pos u]))) fun u261 => is_ok (or_congr lc_ne lc_ne) (hr _ (by rw [if_neg u60, if_neg u61, if_neg u62, if_neg u256, if_neg u257, if_neg u258, if_neg u261]))
