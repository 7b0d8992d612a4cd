/-! ===== shortest ways: the class's table and order ===== -/
section ShD
variable {P T N K : CT} {V : VW} {f m h man n : Nat} {s : Nat → Nat}
theorem full_ff {S : Nat} (hS : S < 2 ^ n) : dif (2 ^ n - 1) (dif (2 ^ n - 1) S) = S := by
  apply Nat.eq_of_testBit_eq
  intro k
  rw [dif_bit, dif_bit, Nat.testBit_two_pow_sub_one]
  by_cases hk : k < n
  · rw [decide_eq_true hk]
    cases S.testBit k <;> rfl
  · rw [decide_eq_false hk, Nat.testBit_lt_two_pow (Nat.lt_of_lt_of_le hS (Nat.pow_le_pow_right (by decide) (by omega)))]
    rfl
def NTB (N : CT) (V : VW) (man n : Nat) (s : Nat → Nat) (been : Nat) : Prop := ∀ b a, been < b → b < 2 ^ n → a < n → b.testBit a = true → N.1 0 (b * 7 + a) = nI (DS V man n s (dif (2 ^ n - 1) b) a)
theorem NTB.at {been k : Nat} (g : NTB N V man n s been) (hb : been < 2 ^ n) (hk : k < n) (z : been.testBit k = false) : N.1 0 ((been ||| 2 ^ k) * 7 + k) = nI (DS V man n s (dif (dif (2 ^ n - 1) been) (2 ^ k)) k) := by
  have pk : 2 ^ k < 2 ^ n := Nat.pow_lt_pow_right (by decide) hk
  have bk : (been ||| 2 ^ k).testBit k = true := by
    rw [Nat.testBit_or, Nat.testBit_two_pow, decide_eq_true rfl, Bool.or_true]
  have gt : been < been ||| 2 ^ k := by
    have h1 : been ≤ been ||| 2 ^ k := Nat.left_le_or
    have h2 : been ≠ been ||| 2 ^ k := fun e => by
      rw [← e, z] at bk
      cases bk
    omega
  rw [g _ k gt (Nat.or_lt_two_pow hb pk) hk bk, dif_or]
theorem NTB.mono {a b : Nat} (g : NTB N V man n s a) (h : a ≤ b) : NTB N V man n s b := fun b' x h1 h2 h3 h4 => g b' x (by omega) h2 h3 h4
theorem order_ok {Q : CT → Prop} (gm : PMan P.1 V man) (gh : ∀ i, i < h → PHou P.1 V f m i) (hm : man < 3) (h9 : h ≤ 10) (h7 : n ≤ 7) (hs : ∀ x, x < n → s x < h) (r4 : T.1 0 4 = nI n) (r1 : ∀ x, x < n → T.1 1 x = nI (s x)) (nt : NTB N V man n s 0) (hQ : ∀ c, (∀ j k, j ≠ 2 → c.1 j k = T.1 j k) → (∀ i, i < n → c.1 2 i = nI (s (oCh V man n s i))) → Q c) : k_X9_orderStops P T N (nI man) (nI (LeS V man n s none (2 ^ n - 1))) Q := by
  have p7 : 2 ^ n ≤ 2 ^ 7 := Nat.pow_le_pow_right (by decide) h7
  have pn := Nat.two_pow_pos n
  have ffull : dif (2 ^ n - 1) (2 ^ n - 1) = 0 := dif_0.mpr (sbs.refl _)
  have leb : ∀ {o : Option Nat} {S : Nat}, (o = none ∨ ∃ a, a < h ∧ o = some a) → LeS V man n s o S ≤ 2000 := fun {o S} ho => by
    unfold LeS
    split
    · rcases ho with rfl | ⟨a, ha, rfl⟩
      · exact Nat.zero_le _
      · have := (hm_n gm (gh a ha)).2
        show hmN V man a ≤ _
        omega
    · rcases mnO_ok (p := fun k => S.testBit k) (g := fun k => stN V man o (s k) + DS V man n s (dif S (2 ^ k)) k) n with ⟨e, -⟩ | ⟨u, j, e, j1, j2, j3, -⟩
      · rw [e]
        exact Nat.zero_le _
      · have := st_b (V := V) (x := s j) gm gh (hs j j1) ho
        have := DS_b (S := dif S (2 ^ j)) gm gh hs h7 j1
        rw [e]
        show u ≤ _
        omega
  unfold k_X9_orderStops
  refine LP5.ind (fun left been at_ v c => ∃ i, i ≤ n ∧ v = nI i ∧ left = nI (LeS V man n s (oSt V man n s i).1 (oSt V man n s i).2) ∧ been = nI (dif (2 ^ n - 1) (oSt V man n s i).2) ∧ ATS n s at_ (oSt V man n s i).1 ∧ (∀ j k, j ≠ 2 → c.1 j k = T.1 j k) ∧ ∀ x, x < i → c.1 2 x = nI (s (oCh V man n s x))) (fun _ _ _ v _ => n - v.toNatClampNeg) ?_ ⟨0, by omega, rfl, rfl, by show (0 : Int32) = nI (dif (2 ^ n - 1) (2 ^ n - 1)); rw [ffull]; rfl, Or.inl ⟨rfl, rfl⟩, fun _ _ _ => rfl, fun x hx => absurd hx (by omega)⟩
  rintro R left been at_ v c ⟨i, hi, rfl, rfl, rfl, ats, c1, c2⟩ ih
  obtain ⟨s1, s2, s3⟩ := oSt_ok (V := V) (man := man) (n := n) (s := s) i hi
  have c4 : c.1 0 4 = nI n := (c1 0 4 (by omega)).trans r4
  have cr1 : ∀ x, x < n → c.1 1 x = nI (s x) := fun x hx => (c1 1 x (by omega)).trans (r1 x hx)
  rw [c4]
  by_cases hin : i < n
  · obtain ⟨o1, o2, o3, o4⟩ := oCh_ok (V := V) (man := man) (n := n) (s := s) hin
    have bl : dif (2 ^ n - 1) (oSt V man n s i).2 < 2 ^ n := dif_lt (by omega)
    have lb := leb (S := (oSt V man n s i).2) (ats.o hs)
    rw [if_neg (nI_ge hin (by omega))]
    refine jn_of (fun J => J (nI (oCh V man n s i))) ?_ ?_
    · have pk : 2 ^ oCh V man n s i < 2 ^ n := Nat.pow_lt_pow_right (by decide) o1
      have bo : dif (2 ^ n - 1) (oSt V man n s i).2 ||| 2 ^ oCh V man n s i < 2 ^ n := Nat.or_lt_two_pow bl pk
      have z : (dif (2 ^ n - 1) (oSt V man n s i).2).testBit (oCh V man n s i) = false := by
        rw [full_bit o1, o3]
        rfl
      have ta := (nt.mono (Nat.zero_le _)).at bl o1 z
      rw [full_ff s1] at ta
      have sd : dif (2 ^ n - 1) (dif (oSt V man n s i).2 (2 ^ oCh V man n s i)) = dif (2 ^ n - 1) (oSt V man n s i).2 ||| 2 ^ oCh V man n s i := by
        apply Nat.eq_of_testBit_eq
        intro k
        rw [Nat.testBit_or, dif_bit, dif_bit, dif_bit, Nat.testBit_two_pow, Nat.testBit_two_pow_sub_one]
        by_cases e : oCh V man n s i = k
        · rw [decide_eq_true e, decide_eq_true (show k < n by omega)]
          cases (oSt V man n s i).2.testBit k <;> rfl
        · rw [decide_eq_false e]
          cases decide (k < n) <;> cases (oSt V man n s i).2.testBit k <;> rfl
      rw [if_pos (by rw [ne_eq, m1_ne (by omega)]; exact id), shl_1 (by omega), or_n, vK_eq, rdI_n (by omega) (by omega), cr1 _ o1, wrI_n (by omega) (by omega), li_7, pk_mul, nI_add, rdI_n (by omega) (by omega), ta, nI_1]
      refine ih _ _ _ _ _ ⟨i + 1, by omega, rfl, ?_, ?_, Or.inr ⟨_, o1, rfl, rfl⟩, fun j k hj => (sI_ne (by omega)).trans (c1 j k hj), fun x hx => ?_⟩ (by rw [nI_clamp (by omega), nI_clamp (by omega)]; omega)
      · rw [oSt_s]
        dsimp only
        rw [LeS_some (dif_lt s1)]
      · rw [oSt_s]
        dsimp only
        rw [sd]
      · by_cases e : x = i
        · subst e
          rw [sI_same]
        · rw [sI_ne (by omega)]
          exact c2 x (by omega)
    · intro J hJ
      refine LP2.ind (fun ch v => ∃ k, v = nI k ∧ ((k ≤ oCh V man n s i ∧ ch = -1) ∨ (k = oCh V man n s i + 1 ∧ ch = nI (oCh V man n s i)))) (fun _ v => n + 1 - v.toNatClampNeg) ?_ ⟨0, rfl, Or.inl ⟨by omega, rfl⟩⟩
      rintro R2 ch v ⟨k, rfl, ⟨k1, rfl⟩ | ⟨k1, rfl⟩⟩ ih2
      · rw [if_neg (nI_ge (by omega) (by omega)), if_neg (fun y => y rfl), bit_n (by omega) (by omega), nI_1]
        cases z : (dif (2 ^ n - 1) (oSt V man n s i).2).testBit k with
        | true =>
          rw [if_pos (by decide)]
          refine ih2 _ _ ⟨k + 1, rfl, Or.inl ⟨?_, rfl⟩⟩ (by rw [nI_clamp (by omega), nI_clamp (by omega)]; omega)
          by_cases e : k = oCh V man n s i
          · rw [full_bit (by omega), e, o3] at z
            cases z
          · omega
        | false =>
          have ta := (nt.mono (Nat.zero_le _)).at bl (show k < n by omega) z
          rw [full_ff s1] at ta
          have hkS : (oSt V man n s i).2.testBit k = true := by
            rw [full_bit (by omega)] at z
            cases q : (oSt V man n s i).2.testBit k with
            | true => rfl
            | false =>
              rw [q] at z
              cases z
          have sb := st_b (V := V) (x := s k) gm gh (hs k (by omega)) (ats.o hs)
          have db := DS_b (S := dif (oSt V man n s i).2 (2 ^ k)) gm gh hs h7 (show k < n by omega)
          rw [if_neg (by decide), walkBy_ok gm gh hm h9 h7 hs cr1 ats bl (show k < n by omega) ta]
          by_cases e : k = oCh V man n s i
          · have eq : stN V man (oSt V man n s i).1 (s k) + DS V man n s (dif (oSt V man n s i).2 (2 ^ k)) k = LeS V man n s (oSt V man n s i).1 (oSt V man n s i).2 := by
              rw [e]
              exact of_decide_eq_true (Bool.and_eq_true_iff.mp o2).2
            rw [eq, if_neg (fun y => y rfl)]
            exact ih2 _ _ ⟨k + 1, rfl, Or.inr ⟨by omega, by rw [e]⟩⟩ (by rw [nI_clamp (by omega), nI_clamp (by omega)]; omega)
          · have no := o4 k (by omega)
            unfold nxB at no
            rw [hkS, Bool.true_and] at no
            have no := of_decide_eq_false no
            rw [if_pos (fun y => no ((nI_eq (by omega) (by omega)).mp y))]
            exact ih2 _ _ ⟨k + 1, rfl, Or.inl ⟨by omega, rfl⟩⟩ (by rw [nI_clamp (by omega), nI_clamp (by omega)]; omega)
      · have nm : nI (oCh V man n s i) ≠ -1 := by rw [ne_eq, m1_ne (by omega)]; exact id
        refine ite_b (fun _ => hJ) fun _ => ?_
        rw [if_pos nm]
        exact hJ
  · have e : i = n := by omega
    subst e
    rw [if_pos (Int32.le_refl _)]
    exact hQ c c1 c2
theorem findShortest_ok {r : List Nat} {D : Nat} {Q : Int32 → CT → CT → Prop} (gm : PMan P.1 V man) (gh : ∀ i, i < h → PHou P.1 V f m i) (hm : man < 3) (h9 : h ≤ 10) (hD : D < 200) (hK : K.2 10 (3 * D + man) = lN (encL r)) (hl : r.length ≤ 7) (ha : ∀ a ∈ r, a < h) (nd : r.Nodup) (hQ : ∀ T' N', (∀ j k, j ≠ 1 → j ≠ 2 → ¬ (j = 0 ∧ k = 4) → T'.1 j k = T.1 j k) → T'.1 0 4 = nI r.length → (∀ i, i < r.length → T'.1 2 i = nI ((stL (mskL r) 10).getD (oCh V man r.length (fun x => (stL (mskL r) 10).getD x 0) i) 0)) → Q (nI (if r.length = 0 then 0 else LeS V man r.length (fun x => (stL (mskL r) 10).getD x 0) none (2 ^ r.length - 1))) T' N') : k_X9_findShortest P K T N (nI man) (nI D) Q := by
  have ha10 : ∀ a ∈ r, a < 10 := fun a h => by have := ha a h; omega
  have pm := pop_msk r nd ha10
  unfold k_X9_findShortest
  refine gatherStops_ok hD hm hK (by omega) ha10 (by omega) fun T1 t1 t2 t3 => ?_
  rw [pm] at t2 t3
  obtain ⟨n, hn⟩ : ∃ n, n = r.length := ⟨_, rfl⟩
  obtain ⟨s, hs⟩ : ∃ s, s = fun x => (stL (mskL r) 10).getD x 0 := ⟨_, rfl⟩
  rw [← hn] at t2 t3 hQ hl
  rw [← hs] at hQ
  have t3 : ∀ x, x < n → T1.1 1 x = nI (s x) := fun x hx => by rw [hs]; exact t3 x hx
  have hsx : ∀ x, x < n → s x < h := fun x hx => by
    rw [hs]
    have m1 := stL_mem 10 _ (getD_mem (r := stL (mskL r) 10) (j := x) (by rw [stL_len, pm]; omega))
    have := m1.2
    rw [mskL_bit] at this
    exact ha _ (of_decide_eq_true this)
  have p7 : 2 ^ n ≤ 2 ^ 7 := Nat.pow_le_pow_right (by decide) hl
  have pn := Nat.two_pow_pos n
  rw [t2]
  by_cases nz : n = 0
  · rw [if_pos nz] at hQ
    rw [nz, if_neg (fun y => y rfl)]
    refine hQ T1 N (fun j k h1 h2 h3 => t1 j k h1 h3) (by rw [t2, nz]) fun i hi => absurd hi (by omega)
  · rw [if_neg nz] at hQ
    rw [if_pos (show nI n ≠ 0 from fun y => nz ((nI_eq (b := 0) (by omega) (by omega)).mp y)), jn_eq, shl_1 (by omega), sub1_n pn, vK_eq]
    refine LP2.ind (fun v c => ∃ b, b < 2 ^ n ∧ v = nI b ∧ NTB c V man n s b) (fun v _ => v.toNatClampNeg) ?_ ⟨2 ^ n - 1, by omega, rfl, fun b a h1 h2 => absurd h2 (by omega)⟩
    rintro R v c ⟨b, hb, rfl, nt⟩ ih
    cases b with
    | zero =>
      rw [if_pos (show nI 0 ≤ 0 from by decide)]
      have d0 : dif (2 ^ n - 1) 0 = 2 ^ n - 1 := dif_z _
      refine least_ok (o := none) (been := 0) gm gh hm h9 hl hsx t2 t3 (Or.inl ⟨rfl, rfl⟩) (by omega) (fun k hk z => nt.at (by omega) hk z) ?_
      rw [d0]
      exact order_ok gm gh hm h9 hl hsx t2 t3 nt fun c2 e1 e2 => hQ c2 c (fun j k h1 h2 h3 => (e1 j k h2).trans (t1 j k h1 h3)) ((e1 0 4 (by omega)).trans t2) fun i hi => (e2 i hi).trans (congrArg nI (by rw [hs]))
    | succ b =>
      rw [if_neg (nI_nle (by omega) (by omega)), m1_add]
      refine upl2 (N := n) (a := 0) (by omega) (fun k c' => NTB c' V man n s (b + 1) ∧ ∀ a, a < k → (b + 1).testBit a = true → c'.1 0 ((b + 1) * 7 + a) = nI (DS V man n s (dif (2 ^ n - 1) (b + 1)) a)) ?_ ?_ (by omega) ⟨nt, fun a ha' => absurd ha' (by omega)⟩
      · rintro R2 k c' - hk ⟨d1, d2⟩ ih2
        rw [if_neg (nI_ge hk (by omega)), bit_n (by omega) (by omega)]
        cases z : (b + 1).testBit k with
        | false =>
          rw [if_pos (by decide), nI_1]
          refine ih2 _ ⟨d1, fun a ha' hz => ?_⟩
          by_cases e : a = k
          · rw [e, z] at hz
            cases hz
          · exact d2 a (by omega) hz
        | true =>
          rw [if_neg (by decide)]
          refine least_ok (o := some (s k)) (been := b + 1) gm gh hm h9 hl hsx t2 t3 (Or.inr ⟨k, hk, rfl, rfl⟩) hb (fun x hx y => d1.at hb hx y) ?_
          rw [LeS_some (dif_lt (by omega)), li_7, pk_mul, nI_add, wrI_n (by omega) (by omega), nI_1]
          refine ih2 _ ⟨fun b' a h1 h2 h3 h4 => (sI_ne (by omega)).trans (d1 b' a h1 h2 h3 h4), fun a ha' hz => ?_⟩
          by_cases e : a = k
          · subst e
            rw [sI_same]
          · rw [sI_ne (by omega)]
            exact d2 a (by omega) hz
      · rintro R2 c' ⟨d1, d2⟩
        rw [if_pos (Int32.le_refl _)]
        refine ih _ _ ⟨b, by omega, rfl, fun b' a h1 h2 h3 h4 => ?_⟩ (by rw [nI_clamp (by omega), nI_clamp (by omega)]; omega)
        by_cases e : b' = b + 1
        · subst e
          exact d2 a h3 h4
        · exact d1 b' a (by omega) h2 h3 h4
end ShD
