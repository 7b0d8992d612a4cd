/-! ===== settings: how high, what they cover ===== -/
def oI : Option Nat → Int32
  | none => -1
  | some h => nI h
theorem root_ok {n : Nat} {Q : Int32 → Prop} (hn : n ≤ 2000) (hQ : Q (nI (rt n))) : k_X12_root (nI n) Q := by
  unfold k_X12_root
  refine LP1.ind (fun v => ∃ r, r * r ≤ n ∧ v = nI r) (fun v => n + 1 - v.toNatClampNeg) ?_ ⟨0, by omega, rfl⟩
  rintro R v ⟨r, hr, rfl⟩ ih
  have hr2 : r ≤ n := by
    apply Nat.le_of_not_lt
    intro h
    have : r * 1 ≤ r * r := Nat.mul_le_mul_left _ (by omega)
    omega
  have hs : (r + 1) * (r + 1) ≤ 2001 * 2001 := Nat.mul_le_mul (by omega) (by omega)
  rw [nI_1, pk_mul]
  refine ite_b (fun z => ?_) fun z => ?_
  · rw [nI_lt' (by omega) (by omega)] at z
    rw [← rt_uniq hr z] at hQ
    exact hQ
  · rw [nI_lt' (by omega) (by omega)] at z
    exact ih _ ⟨r + 1, by omega, rfl⟩ (by rw [nI_clamp (by omega), nI_clamp (by omega)]; omega)
theorem rootBelow_ok {n s : Nat} {Q : Int32 → Prop} (hs : s ≤ 50) (hn : n < (s + 1) * (s + 1)) (h2 : n ≤ 2000) (hQ : Q (nI (rt n))) : k_X8_rootBelow (nI s) (nI n) Q := by
  unfold k_X8_rootBelow
  refine LP1.ind (fun v => ∃ r, r ≤ s ∧ n < (r + 1) * (r + 1) ∧ v = nI r) (fun v => v.toNatClampNeg) ?_ ⟨s, Nat.le_refl s, hn, rfl⟩
  rintro R v ⟨r, hr, hr2, rfl⟩ ih
  cases r with
  | zero =>
    rw [if_pos (by decide)]
    have e : rt n = 0 := (rt_uniq (r := 0) (by omega) hr2).symm
    rw [e] at hQ
    exact hQ
  | succ r =>
    have hm : (r + 1) * (r + 1) ≤ 50 * 50 := Nat.mul_le_mul (by omega) (by omega)
    rw [if_neg (nI_nle (by omega) (by omega)), pk_mul]
    refine ite_b (fun z => ?_) fun z => ?_
    · rw [nI_lt' (by omega) (by omega)] at z
      rw [m1_add]
      exact ih _ ⟨r, by omega, z, rfl⟩ (by rw [nI_clamp (by omega), nI_clamp (by omega)]; omega)
    · rw [nI_lt' (by omega) (by omega)] at z
      rw [← rt_uniq (r := r + 1) (by omega) hr2] at hQ
      exact hQ
/-- tools of a plan -/
def TLS (P V : VW) (l q : Nat) : Prop := (l ≤ 4 ∧ q ≤ 3 ∧ P 1 0 = nI l ∧ P 1 1 = nI q) ∧ (∀ i, i < l → PLad P V i) ∧ ∀ i, i < q → PPol P V i
section Set
variable {P M : CT} {V : VW} {l q f t d : Nat}
theorem lenS_b (T : TLS P.1 V l q) (ht : t < l + q) : 4 ≤ lenS V l t ∧ lenS V l t ≤ 40 := by
  unfold lenS
  split
  · obtain ⟨-, -, n, h1, h2, e⟩ := T.2.1 t (by omega)
    rw [e, nv_n (by omega)]
    omega
  · obtain ⟨-, -, -, ⟨n, h1, h2, e⟩, -⟩ := T.2.2 (t - l) (by omega)
    rw [e, nv_n (by omega)]
    omega
theorem isLadP {Q : Int32 → Prop} (T : TLS P.1 V l q) (ht : t < 100) : k_X8_isLadder P (nI t) Q = Q (if t < l then 1 else 0) := by
  unfold k_X8_isLadder
  rw [rZ_ite, T.1.2.2.1]
  have hl := T.1.1
  by_cases h : t < l
  · rw [if_pos (nI_ge h (by omega)), if_pos h]
  · rw [if_neg (fun z => z (nI_le (by omega) (by omega))), if_neg h]
theorem has_y {Q : Int32 → Prop} (T : TLS P.1 V l q) (ht : t < l + q) : k_X8_has P (nI t) Q = Q 1 := by
  unfold k_X8_has
  obtain ⟨⟨l4, q3, e1, e2⟩, -⟩ := T
  rw [rZ_ite, e1, e2, nI_add, inh_y rfl (by omega) ht]
theorem has_n {Q : Int32 → Prop} {a : Int32} (T : TLS P.1 V l q) (hn : ¬ ∃ i, i < l + q ∧ a = nI i) : k_X8_has P a Q = Q 0 := by
  unfold k_X8_has
  obtain ⟨⟨l4, q3, e1, e2⟩, -⟩ := T
  rw [rZ_ite, e1, e2, nI_add, inh_n rfl (by omega) hn]
theorem rt_lt {n s : Nat} (h : n < (s + 1) * (s + 1)) : rt n ≤ s := by
  apply Nat.le_of_not_lt
  intro z
  have h1 := (rt_ok n).1
  have : (s + 1) * (s + 1) ≤ rt n * rt n := Nat.mul_le_mul z z
  omega
theorem reach_ok {Q : Int32 → Prop} (T : TLS P.1 V l q) (ht : t < l + q) (hd : 1 ≤ d) (h9 : d ≤ 9) (hQ : Q (oI (rchS V l t d))) : k_X8_reach P (nI t) (nI d) Q := by
  obtain ⟨b1, b2⟩ := lenS_b T ht
  have T' := T
  obtain ⟨⟨l4, q3, e1, e2⟩, gl, gp⟩ := T
  unfold k_X8_reach
  rw [has_y T' ht, if_neg (by decide), li_1, if_neg (nI_nlt hd (by omega)), li_9, if_pos (nI_le h9 (by omega))]
  unfold rchS at hQ
  refine jn_of (fun J => J (nI (lenS V l t))) ?_ ?_
  · refine ite_b (fun z => ?_) fun z => ?_
    · rw [nI_lt' (by omega) (by omega)] at z
      rw [if_neg (by omega)] at hQ
      have dd : d * d ≤ 81 := Nat.mul_le_mul h9 h9
      have ddl : d * d ≤ lenS V l t * lenS V l t := Nat.mul_le_mul (by omega) (by omega)
      have ll : lenS V l t * lenS V l t ≤ 40 * 40 := Nat.mul_le_mul b2 b2
      have d1 : 1 ≤ d * d := Nat.mul_le_mul hd hd
      have lls : (lenS V l t + 1) * (lenS V l t + 1) = lenS V l t * lenS V l t + 2 * lenS V l t + 1 := by
        rw [Nat.add_mul, Nat.mul_add]
        omega
      have hrt : rt (lenS V l t * lenS V l t - d * d) ≤ lenS V l t := rt_lt (by omega)
      rw [pk_mul, pk_mul, pk_sub ddl]
      refine rootBelow_ok (by omega) (by omega) (by omega) ?_
      rw [isLadP T' (by omega)]
      by_cases hl : t < l
      · rw [if_pos hl] at hQ ⊢
        rw [if_neg (by decide), li_3, li_5, pk_mul, pk_mul]
        by_cases c : 3 * d ≤ rt (lenS V l t * lenS V l t - d * d) ∧ rt (lenS V l t * lenS V l t - d * d) ≤ 5 * d
        · rw [if_pos c] at hQ
          rw [if_pos ⟨nI_nlt c.1 (by omega), nI_nlt c.2 (by omega)⟩]
          exact hQ
        · rw [if_neg c] at hQ
          rw [if_neg (fun y => c ⟨by have := y.1; rw [nI_lt' (by omega) (by omega)] at this; omega, by have := y.2; rw [nI_lt' (by omega) (by omega)] at this; omega⟩)]
          exact hQ
      · rw [if_neg hl] at hQ ⊢
        obtain ⟨-, -, p6, -, n, n9, e6⟩ := gp (t - l) (by omega)
        rw [if_pos rfl, e1, pk_sub (by omega), rdI_n (by omega) (by omega), p6, e6, pk_mul, dvI_eq (by decide), li_10, pk_div (by have : lenS V l t * n ≤ 40 * 9 := Nat.mul_le_mul b2 n9; omega) (by omega) (by omega), mx_sub (by omega) (by have : lenS V l t * n ≤ 40 * 9 := Nat.mul_le_mul b2 n9; have := Nat.div_le_self (lenS V l t * n) 10; omega)]
        rw [e6, nv_n (by omega)] at hQ
        exact hQ
    · rw [nI_lt' (by omega) (by omega)] at z
      rw [if_pos (by omega)] at hQ
      exact hQ
  intro J hJ
  rw [isLadP T' (by omega)]
  unfold lenS at hJ
  by_cases hl : t < l
  · rw [if_pos hl] at hJ
    rw [if_pos hl, if_neg (by decide), rdI_n (by omega) (by omega)]
    obtain ⟨-, p3, n, h1, h2, e⟩ := gl t hl
    rw [p3, e]
    rw [e, nv_n (by omega)] at hJ
    exact hJ
  · rw [if_neg hl] at hJ
    rw [if_neg hl, if_pos rfl, e1, pk_sub (by omega), rdI_n (by omega) (by omega)]
    obtain ⟨-, p5, -, ⟨n, h1, h2, e⟩, -⟩ := gp (t - l) (by omega)
    rw [p5, e]
    rw [e, nv_n (by omega)] at hJ
    exact hJ
end Set
