/-! ===== shortest ways: the class ===== -/
def oMX : Option Nat → Int32
  | none => 2147483647
  | some v => nI v
theorem li_mx : (2147483647 : Int32) = nI 2147483647 := rfl
section ShC
variable {P T N : CT} {V : VW} {f m h man n : Nat} {s : Nat → Nat}
/-- where he is: at home, or at a stop -/
def ATS (n : Nat) (s : Nat → Nat) (a : Int32) (o : Option Nat) : Prop := (a = -1 ∧ o = none) ∨ ∃ x, x < n ∧ a = nI x ∧ o = some (s x)
theorem sf_b (gm : PMan P.1 V man) (gh : ∀ i, i < h → PHou P.1 V f m i) (hs : ∀ x, x < n → s x < h) : ∀ c S a, a < n → sf V man n s c S a ≤ 189 * (c + 1)
  | 0, S, a, ha => by
    have := (hm_n gm (gh _ (hs a ha))).2
    show hmN V man (s a) ≤ _
    omega
  | c + 1, S, a, ha => by
    show (mnO _ _ n).getD 0 ≤ _
    rcases mnO_ok (p := fun k => S.testBit k) (g := fun k => btN V (s a) (s k) + sf V man n s c (dif S (2 ^ k)) k) n with ⟨e, -⟩ | ⟨v, k, e, hk, -, hv, -⟩
    · rw [e]
      exact Nat.zero_le _
    · rw [e]
      have := (bt_n (gh _ (hs a ha)) (gh _ (hs k hk))).2
      have := sf_b gm gh hs c (dif S (2 ^ k)) k hk
      show v ≤ _
      omega
theorem DS_b {S a : Nat} (gm : PMan P.1 V man) (gh : ∀ i, i < h → PHou P.1 V f m i) (hs : ∀ x, x < n → s x < h) (h7 : n ≤ 7) (ha : a < n) : DS V man n s S a ≤ 1512 := by
  have := sf_b gm gh hs (pop n S) S a ha
  have := pop_le n S
  unfold DS
  omega
theorem st_b {o : Option Nat} {x : Nat} (gm : PMan P.1 V man) (gh : ∀ i, i < h → PHou P.1 V f m i) (hx : x < h) (ho : o = none ∨ ∃ a, a < h ∧ o = some a) : stN V man o x ≤ 189 := by
  rcases ho with rfl | ⟨a, ha, rfl⟩
  · exact (hm_n gm (gh x hx)).2
  · exact (bt_n (gh a ha) (gh x hx)).2
theorem ATS.o {a : Int32} {o : Option Nat} (g : ATS n s a o) (hs : ∀ x, x < n → s x < h) : o = none ∨ ∃ a, a < h ∧ o = some a := by
  rcases g with ⟨-, rfl⟩ | ⟨x, hx, -, rfl⟩
  · exact Or.inl rfl
  · exact Or.inr ⟨_, hs x hx, rfl⟩
theorem walkBy_ok {a3 : Int32} {o : Option Nat} {been k v : Nat} {Q : Int32 → Prop} (gm : PMan P.1 V man) (gh : ∀ i, i < h → PHou P.1 V f m i) (hm : man < 3) (h9 : h ≤ 10) (h7 : n ≤ 7) (hs : ∀ x, x < n → s x < h) (r1 : ∀ x, x < n → T.1 1 x = nI (s x)) (at_ : ATS n s a3 o) (hb : been < 2 ^ n) (hk : k < n) (tb : N.1 0 ((been ||| 2 ^ k) * 7 + k) = nI v) : k_X9_walkBy P T N (nI man) (nI been) a3 (nI k) Q = Q (nI (stN V man o (s k) + v)) := by
  have p7 : 2 ^ n ≤ 2 ^ 7 := Nat.pow_le_pow_right (by decide) h7
  have pk : 2 ^ k < 2 ^ n := Nat.pow_lt_pow_right (by decide) hk
  have bo : been ||| 2 ^ k < 2 ^ n := Nat.or_lt_two_pow hb pk
  unfold k_X9_walkBy
  rw [jn_eq]
  have main : ∀ t : Int32, t = oH2 o → rdI T 1 7 (nI k) (fun t3 => k_X6_onward P (nI man) t t3 (fun t5 => rdI N 0 896 (((nI been ||| ((1 : Int32) <<< (nI k &&& 31))) * (7 : Int32)) + nI k) (fun t6 => Q (t5 + t6)))) = Q (nI (stN V man o (s k) + v)) := fun t et => by
    subst et
    rw [rdI_n (by omega) (by omega), r1 k hk, onwardN gm gh hm h9 (hs k hk) (at_.o hs), shl_1 (by omega), or_n, li_7, pk_mul, nI_add, rdI_n (by omega) (by omega), tb, nI_add]
  rcases id at_ with ⟨rfl, e⟩ | ⟨x, hx, rfl, e⟩
  · rw [if_neg (fun z => z rfl)]
    exact main _ (by rw [e]; rfl)
  · rw [if_pos (by rw [ne_eq, m1_ne (by omega)]; exact id), rdI_n (by omega) (by omega), r1 x hx]
    exact main _ (by rw [e]; rfl)
theorem full_bit {been k : Nat} (hk : k < n) : (dif (2 ^ n - 1) been).testBit k = !(been.testBit k) := by
  rw [dif_bit, Nat.testBit_two_pow_sub_one, decide_eq_true hk, Bool.true_and]
theorem full_z {been : Nat} (hb : been < 2 ^ n) : dif (2 ^ n - 1) been = 0 ↔ ∀ k, k < n → been.testBit k = true := by
  constructor
  · intro z k hk
    have := full_bit (n := n) (been := been) hk
    rw [z, Nat.zero_testBit] at this
    cases q : been.testBit k with
    | true => rfl
    | false =>
      rw [q] at this
      cases this
  · intro a
    apply Nat.eq_of_testBit_eq
    intro k
    rw [Nat.zero_testBit]
    by_cases hk : k < n
    · rw [full_bit hk, a k hk]
      rfl
    · rw [dif_bit, Nat.testBit_two_pow_sub_one, decide_eq_false hk, Bool.false_and]
theorem least_ok {a3 : Int32} {o : Option Nat} {been : Nat} {Q : Int32 → Prop} (gm : PMan P.1 V man) (gh : ∀ i, i < h → PHou P.1 V f m i) (hm : man < 3) (h9 : h ≤ 10) (h7 : n ≤ 7) (hs : ∀ x, x < n → s x < h) (r4 : T.1 0 4 = nI n) (r1 : ∀ x, x < n → T.1 1 x = nI (s x)) (at_ : ATS n s a3 o) (hb : been < 2 ^ n) (tb : ∀ k, k < n → been.testBit k = false → N.1 0 ((been ||| 2 ^ k) * 7 + k) = nI (DS V man n s (dif (dif (2 ^ n - 1) been) (2 ^ k)) k)) (hQ : Q (nI (LeS V man n s o (dif (2 ^ n - 1) been)))) : k_X9_leastOnward P T N (nI man) (nI been) a3 Q := by
  have p7 : 2 ^ n ≤ 2 ^ 7 := Nat.pow_le_pow_right (by decide) h7
  unfold k_X9_leastOnward
  refine LP2.ind (fun w v => ∃ k, k ≤ n ∧ v = nI k ∧ w = oMX (mnO (fun k => !(been.testBit k)) (fun k => stN V man o (s k) + DS V man n s (dif (dif (2 ^ n - 1) been) (2 ^ k)) k) k)) (fun _ v => n - v.toNatClampNeg) ?_ ⟨0, by omega, rfl, rfl⟩
  rintro R w v ⟨k, hk, rfl, rfl⟩ ih
  rw [r4]
  by_cases hin : k < n
  · rw [if_neg (nI_ge hin (by omega)), bit_n (by omega) (by omega), nI_1]
    have sb := st_b (V := V) (x := s k) gm gh (hs k hin) (at_.o hs)
    have db := DS_b (S := dif (dif (2 ^ n - 1) been) (2 ^ k)) gm gh hs h7 hin
    cases z : been.testBit k with
    | true =>
      rw [if_pos (by decide)]
      refine ih _ _ ⟨k + 1, by omega, rfl, ?_⟩ (by rw [nI_clamp (by omega), nI_clamp (by omega)]; omega)
      rw [mnO_s, if_neg (by rw [z]; decide)]
    | false =>
      rw [if_neg (by decide), walkBy_ok gm gh hm h9 h7 hs r1 at_ hb hin (tb k hin z), vK_eq]
      refine ih _ _ ⟨k + 1, by omega, rfl, ?_⟩ (by rw [nI_clamp (by omega), nI_clamp (by omega)]; omega)
      rw [mnO_s, if_pos (by rw [z]; rfl)]
      rcases mnO_ok (p := fun k => !(been.testBit k)) (g := fun k => stN V man o (s k) + DS V man n s (dif (dif (2 ^ n - 1) been) (2 ^ k)) k) k with ⟨e, -⟩ | ⟨u, j, e, j1, j2, j3, -⟩
      · rw [e]
        show mnI 2147483647 (nI _) = nI _
        rw [li_mx, mnI_n (by omega) (by omega), if_pos (by omega)]
      · have sb2 := st_b (V := V) (x := s j) gm gh (hs j (by omega)) (at_.o hs)
        have db2 := DS_b (S := dif (dif (2 ^ n - 1) been) (2 ^ j)) gm gh hs h7 (show j < n by omega)
        rw [e]
        show mnI (nI u) (nI _) = nI _
        rw [mnI_n (by omega) (by omega)]
  · have e : k = n := by omega
    subst e
    rw [if_pos (Int32.le_refl _), jn_eq]
    unfold LeS at hQ
    have cg : mnO (fun k => !(been.testBit k)) (fun x => stN V man o (s x) + DS V man k s (dif (dif (2 ^ k - 1) been) (2 ^ x)) x) k = mnO (fun x => (dif (2 ^ k - 1) been).testBit x) (fun x => stN V man o (s x) + DS V man k s (dif (dif (2 ^ k - 1) been) (2 ^ x)) x) k := mnO_cg (fun x hx => (full_bit hx).symm) fun _ _ _ => rfl
    rw [cg]
    rcases mnO_ok (p := fun x => (dif (2 ^ k - 1) been).testBit x) (g := fun x => stN V man o (s x) + DS V man k s (dif (dif (2 ^ k - 1) been) (2 ^ x)) x) k with ⟨e, none_⟩ | ⟨u, j, e, j1, j2, j3, -⟩
    · have z : dif (2 ^ k - 1) been = 0 := (full_z hb).mpr fun x hx => by
        have := none_ x hx
        rw [full_bit hx] at this
        cases q : been.testBit x with
        | true => rfl
        | false =>
          rw [q] at this
          cases this
      rw [if_pos z] at hQ
      rw [e, if_neg (show ¬ oMX none ≠ 2147483647 from fun y => y rfl), jn_eq]
      have main : ∀ t : Int32, t = oH2 o → k_X6_homeward P (nI man) t (fun t43 => Q t43) := fun t et => by
        subst et
        rw [homewardN gm gh hm h9 (at_.o hs)]
        exact hQ
      rcases id at_ with ⟨rfl, eo⟩ | ⟨x, hx, rfl, eo⟩
      · rw [if_neg (fun z => z rfl)]
        exact main _ (by rw [eo]; rfl)
      · rw [if_pos (by rw [ne_eq, m1_ne (by omega)]; exact id), rdI_n (by omega) (by omega), r1 x hx]
        exact main _ (by rw [eo]; rfl)
    · have z : ¬ dif (2 ^ k - 1) been = 0 := nz_bit j2
      have sb2 := st_b (V := V) (x := s j) gm gh (hs j j1) (at_.o hs)
      have db2 := DS_b (S := dif (dif (2 ^ k - 1) been) (2 ^ j)) gm gh hs h7 j1
      rw [if_neg z, e] at hQ
      rw [e, if_pos (show oMX (some u) ≠ 2147483647 from fun y => by have y : nI u = nI 2147483647 := y; have := (nI_eq (by omega) (by omega)).mp y; omega)]
      exact hQ
end ShC
