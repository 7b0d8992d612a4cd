/-! ===== shortest ways: the reference ===== -/
def oM1 : Option Nat → Int32
  | none => -1
  | some v => nI v
section ShR
variable {P M0 : CT} {V : VW} {f m h man n : Nat} {s : Nat → Nat}
def MEM (c : CT) (V : VW) (man n : Nat) (s : Nat → Nat) : Prop := ∀ S a, S < 2 ^ n → a < n → c.1 55 (7 * S + a) = -1 ∨ c.1 55 (7 * S + a) = nI (DS V man n s S a)
def F55 (M c : CT) : Prop := ∀ j k, j ≠ 55 → c.1 j k = M.1 j k
theorem shortFrom_ok (gm : PMan P.1 V man) (gh : ∀ i, i < h → PHou P.1 V f m i) (hm : man < 3) (h9 : h ≤ 10) (h7 : n ≤ 7) (hs : ∀ x, x < n → s x < h) (pv : PV M0 V) (r101 : M0.1 0 101 = nI n) (r54 : ∀ x, x < n → M0.1 54 x = nI (s x)) :
    ∀ (F : Nat) {c : CT} {S a : Nat} {Q : Int32 → CT → Prop}, S < 2 ^ n → a < n → pop n S < F → F55 M0 c → MEM c V man n s → (∀ c', F55 M0 c' → MEM c' V man n s → Q (nI (DS V man n s S a)) c') → k_X12_shortFrom F c (nI man) (nI a) (nI S) Q := by
  have p7 : 2 ^ n ≤ 2 ^ 7 := Nat.pow_le_pow_right (by decide) h7
  intro F
  induction F with
  | zero => intro c S a Q _ _ hp; exact absurd hp (by omega)
  | succ F ihF =>
    intro c S a Q hS ha hp fr me hQ
    have pvc : PV c V := fun j x h1 h2 hx => (fr j x (by omega)).trans (pv j x h1 h2 hx)
    have c54 : ∀ x, x < n → c.1 54 x = nI (s x) := fun x hx => (fr 54 x (by omega)).trans (r54 x hx)
    have db := DS_b (S := S) gm gh hs h7 ha
    have sa := hs a ha
    unfold k_X12_shortFrom
    by_cases z : S = 0
    · subst z
      rw [if_neg (fun y => y rfl), rdI_n (by omega) (by omega), c54 a ha, fromHomeV pvc hm (by omega), (hm_n gm (gh _ sa)).1]
      have := hQ c fr me
      rw [DS_0] at this
      exact this
    · rw [if_pos (show nI S ≠ 0 from fun y => z ((nI_eq (b := 0) (by omega) (by omega)).mp y)), li_7, pk_mul, nI_add, rdI_n (by omega) (by omega)]
      refine ite_b (fun _ => ?_) fun y => ?_
      · refine upl3 (N := n) (a := 0) (by omega) (fun k w c' => w = oM1 (mnO (fun k => S.testBit k) (fun k => btN V (s a) (s k) + DS V man n s (dif S (2 ^ k)) k) k) ∧ F55 M0 c' ∧ MEM c' V man n s) ?_ ?_ (by omega) ⟨rfl, fr, me⟩
        · rintro R k w c' - hk ⟨rfl, f1, m1⟩ ih
          have bb := (bt_n (gh _ sa) (gh _ (hs k hk))).2
          have db2 := DS_b (S := dif S (2 ^ k)) gm gh hs h7 hk
          have sk := hs k hk
          rw [f1 0 101 (by omega), r101, if_neg (nI_ge hk (by omega)), bit_n (by omega) (by omega), nI_1]
          cases q : S.testBit k with
          | false =>
            rw [if_neg (by decide)]
            refine ih _ _ ⟨?_, f1, m1⟩
            rw [mnO_s, if_neg (by rw [q]; decide)]
          | true =>
            have pk : 2 ^ k < 2 ^ n := Nat.pow_lt_pow_right (by decide) hk
            have pr := pop_rm q n hk
            rw [if_pos (by decide), rdI_n (by omega) (by omega), f1 54 a (by omega), r54 a ha, rdI_n (by omega) (by omega), f1 54 k (by omega), r54 k hk, betweenV (fun j x h1 h2 hx => (f1 j x (by omega)).trans (pv j x h1 h2 hx)) (by omega) (by omega), (bt_n (gh _ sa) (gh _ sk)).1, shl_1 (by omega), dif_n (by omega) (by omega)]
            refine ihF (dif_lt hS) hk (by omega) f1 m1 fun c2 f2 m2 => ?_
            rw [nI_add, vK_eq]
            have go : ∀ x : Int32, x = oM1 (mnO (fun k => S.testBit k) (fun k => btN V (s a) (s k) + DS V man n s (dif S (2 ^ k)) k) (k + 1)) → R x (nI (k + 1)) c2 := fun x ex => ih _ _ ⟨ex, f2, m2⟩
            rw [mnO_s, if_pos q] at go
            rcases mnO_ok (p := fun k => S.testBit k) (g := fun k => btN V (s a) (s k) + DS V man n s (dif S (2 ^ k)) k) k with ⟨e, -⟩ | ⟨u, j, e, j1, j2, j3, -⟩
            · rw [e] at go ⊢
              rw [if_pos (show oM1 none = -1 from rfl)]
              exact go _ rfl
            · have b3 := (bt_n (gh _ sa) (gh _ (hs j (by omega)))).2
              have b4 := DS_b (S := dif S (2 ^ j)) gm gh hs h7 (show j < n by omega)
              rw [e] at go ⊢
              have gu : ∀ x : Int32, x = nI (if btN V (s a) (s k) + DS V man n s (dif S (2 ^ k)) k < u then btN V (s a) (s k) + DS V man n s (dif S (2 ^ k)) k else u) → R x (nI (k + 1)) c2 := go
              rw [show oM1 (some u) = nI u from rfl, if_neg (by rw [m1_ne (by omega)]; exact id)]
              by_cases y : u ≤ btN V (s a) (s k) + DS V man n s (dif S (2 ^ k)) k
              · rw [if_pos (nI_le y (by omega))]
                exact gu _ (by rw [if_neg (by omega)])
              · rw [if_neg (by rw [nI_le' (by omega) (by omega)]; exact y)]
                exact gu _ (by rw [if_pos (by omega)])
        · rintro R w c' ⟨rfl, f1, m1⟩
          have ed := DS_s (V := V) (man := man) (s := s) (a := a) hS z
          obtain ⟨k0, hk0⟩ := bit_of z
          have main : ∀ u, mnO (fun k => S.testBit k) (fun k => btN V (s a) (s k) + DS V man n s (dif S (2 ^ k)) k) n = some u → u = DS V man n s S a := fun u e => by
            rw [ed, e]
            rfl
          rw [f1 0 101 (by omega), r101, if_pos (Int32.le_refl _), wrI_n (by omega) (by omega)]
          rcases mnO_ok (p := fun k => S.testBit k) (g := fun k => btN V (s a) (s k) + DS V man n s (dif S (2 ^ k)) k) n with ⟨e, e'⟩ | ⟨u, j, e, j1, j2, j3, -⟩
          · exfalso
            have := e' k0 (bit_lt hS hk0)
            rw [hk0] at this
            cases this
          · rw [e, show oM1 (some u) = nI u from rfl, main u e]
            refine hQ _ (fun j k hj => (sI_ne (by omega)).trans (f1 j k hj)) fun S' a' h1 h2 => ?_
            by_cases e3 : S' = S ∧ a' = a
            · rw [e3.1, e3.2, sI_same]
              exact Or.inr rfl
            · rw [sI_ne (by omega)]
              exact m1 S' a' h1 h2
      · rcases me S a hS ha with q | q
        · exact absurd q y
        · rw [q]
          exact hQ c fr me
theorem shortR_ok {w : Nat} {Q : Int32 → CT → Prop} (gm : PMan P.1 V man) (gh : ∀ i, i < h → PHou P.1 V f m i) (hm : man < 3) (h9 : h ≤ 10) (n0 : 0 < n) (h7 : n ≤ 7) (hw : w ≤ n) (hs : ∀ x, x < n → s x < h) (pv : PV M0 V) (r101 : M0.1 0 101 = nI n) (r54 : ∀ x, x < n → M0.1 54 x = nI (s x)) (hQ : ∀ c, F55 M0 c → Q (nI (if w = 0 then LeS V man n s none (2 ^ n - 1) else s (oCh V man n s (w - 1)))) c) :
    LP2 (fun R12145 (v12143 : Int32) (c12144 : CT) => (if (896 : Int32) ≤ v12143 then vK (((1 : Int32) <<< ((c12144.1 0 101) &&& 31)) - (1 : Int32)) (fun v12153 => LP4 (fun R12329 (v12324 : Int32) (v12325 : Int32) (v12326 : Int32) (c12328 : CT) => (if (c12328.1 0 101) ≤ v12326 then (if nI w ≠ (0 : Int32) then vK (v12153 &&& (((1 : Int32) <<< (v12325 &&& 31)) ^^^ (-1 : Int32))) (fun v12421 => LP4 (fun R12438 (v12433 : Int32) (v12434 : Int32) (v12435 : Int32) (c12437 : CT) => (if nI w ≤ v12435 then rdI c12437 54 10 v12434 (fun t12449 => Q t12449 c12437) else LP2 (fun R12461 (v12459 : Int32) (c12460 : CT) => (if ((v12433 >>> (v12459 &&& 31)) &&& (1 : Int32)) = (0 : Int32) then R12461 (v12459 + 1) c12460 else rdI c12460 54 10 v12434 (fun t12474 => rdI c12460 54 10 v12459 (fun t12476 => k_X12_between c12460 t12474 t12476 (fun t12478 => k_X12_shortFrom 9 c12460 (nI man) v12459 (v12433 &&& (((1 : Int32) <<< (v12459 &&& 31)) ^^^ (-1 : Int32))) (fun t12480 c12479 => k_X12_shortFrom 9 c12479 (nI man) v12434 v12433 (fun t12482 c12481 => (if (t12478 + t12480) = t12482 then vK (v12433 &&& (((1 : Int32) <<< (v12459 &&& 31)) ^^^ (-1 : Int32))) (fun v12483 => R12438 v12483 v12459 (v12435 + 1) c12481) else R12461 (v12459 + 1) c12481)))))))) (0 : Int32) c12437)) v12421 v12325 (1 : Int32) c12328) else Q v12324 c12328) else rdI c12328 54 10 v12326 (fun t12501 => k_X12_fromHome c12328 (nI man) t12501 (fun t12503 => k_X12_shortFrom 9 c12328 (nI man) v12326 (v12153 &&& (((1 : Int32) <<< (v12326 &&& 31)) ^^^ (-1 : Int32))) (fun t12505 c12504 => vK (t12503 + t12505) (fun v12506 => (if v12324 = (-1 : Int32) then R12329 v12506 v12326 (v12326 + 1) c12504 else (if v12506 < v12324 then R12329 v12506 v12326 (v12326 + 1) c12504 else R12329 v12324 v12325 (v12326 + 1) c12504)))))))) (-1 : Int32) (0 : Int32) (0 : Int32) c12144) else wrI c12144 55 896 v12143 (-1 : Int32) (fun c12530 => R12145 (v12143 + 1) c12530))) (0 : Int32) M0 := by
  have p7 : 2 ^ n ≤ 2 ^ 7 := Nat.pow_le_pow_right (by decide) h7
  have pn := Nat.two_pow_pos n
  have SF := shortFrom_ok (M0 := M0) gm gh hm h9 h7 hs pv r101 r54
  refine upl2 (N := 896) (a := 0) (by omega) (fun i c => F55 M0 c ∧ ∀ x, x < i → c.1 55 x = -1) ?_ ?_ (by omega) ⟨fun _ _ _ => rfl, fun x hx => absurd hx (by omega)⟩
  · rintro R i c - hi ⟨c1, c2⟩ ih
    rw [show (896 : Int32) = nI 896 from rfl, if_neg (nI_ge hi (by omega)), wrI_n (by omega) (by omega), nI_1]
    refine ih _ ⟨fun j k hj => (sI_ne (by omega)).trans (c1 j k hj), fun x hx => ?_⟩
    by_cases e : x = i
    · subst e
      rw [sI_same]
    · rw [sI_ne (by omega)]
      exact c2 x (by omega)
  · rintro R c ⟨c1, c2⟩
    have me0 : MEM c V man n s := fun S a h1 h2 => Or.inl (c2 _ (by omega))
    rw [show (896 : Int32) = nI 896 from rfl, if_pos (Int32.le_refl _), c1 0 101 (by omega), r101, shl_1 (by omega), sub1_n pn, vK_eq]
    have fb : ∀ k, k < n → (2 ^ n - 1).testBit k = true := fun k hk => by
      rw [Nat.testBit_two_pow_sub_one]
      exact decide_eq_true hk
    have gb : ∀ k, k < n → hmN V man (s k) + DS V man n s (dif (2 ^ n - 1) (2 ^ k)) k ≤ 2000 := fun k hk => by
      have := (hm_n gm (gh _ (hs k hk))).2
      have := DS_b (S := dif (2 ^ n - 1) (2 ^ k)) gm gh hs h7 hk
      omega
    have oo : oSt V man n s 0 = (none, 2 ^ n - 1) := rfl
    refine LP4.ind (fun best fi v c' => ∃ k, k ≤ n ∧ v = nI k ∧ F55 M0 c' ∧ MEM c' V man n s ∧ ((k = 0 ∧ best = -1) ∨ ∃ u j, j < k ∧ best = nI u ∧ fi = nI j ∧ hmN V man (s j) + DS V man n s (dif (2 ^ n - 1) (2 ^ j)) j = u ∧ (∀ i, i < k → u ≤ hmN V man (s i) + DS V man n s (dif (2 ^ n - 1) (2 ^ i)) i) ∧ ∀ i, i < j → u < hmN V man (s i) + DS V man n s (dif (2 ^ n - 1) (2 ^ i)) i)) (fun _ _ v _ => n - v.toNatClampNeg) ?_ ⟨0, by omega, rfl, c1, me0, Or.inl ⟨rfl, rfl⟩⟩
    rintro R2 best fi v c' ⟨k, hk, rfl, f1, m1, inv⟩ ih
    rw [f1 0 101 (by omega), r101]
    by_cases hin : k < n
    · have sk := hs k hin
      have pk : 2 ^ k < 2 ^ n := Nat.pow_lt_pow_right (by decide) hin
      have g1 := gb k hin
      have pl := pop_le n (dif (2 ^ n - 1) (2 ^ k))
      rw [if_neg (nI_ge hin (by omega)), rdI_n (by omega) (by omega), f1 54 k (by omega), r54 k hin, fromHomeV (fun j x h1 h2 hx => (f1 j x (by omega)).trans (pv j x h1 h2 hx)) hm (by omega), (hm_n gm (gh _ sk)).1, shl_1 (by omega), dif_n (by omega) (by omega)]
      refine SF 9 (dif_lt (by omega)) hin (by omega) f1 m1 fun c2' f2 m2 => ?_
      rw [nI_add, vK_eq, nI_1]
      rcases inv with ⟨k0, rfl⟩ | ⟨u, j, j1, rfl, rfl, j4, j5, j6⟩
      · rw [if_pos rfl]
        refine ih _ _ _ _ ⟨k + 1, by omega, rfl, f2, m2, Or.inr ⟨_, k, by omega, rfl, rfl, rfl, fun i hi => ?_, fun i hi => absurd hi (by omega)⟩⟩ (by rw [nI_clamp (by omega), nI_clamp (by omega)]; omega)
        rw [show i = k by omega]
        exact Nat.le_refl _
      · have g2 := gb j (by omega)
        rw [if_neg (by rw [m1_ne (by omega)]; exact id)]
        by_cases y : hmN V man (s k) + DS V man n s (dif (2 ^ n - 1) (2 ^ k)) k < u
        · rw [if_pos (nI_lt y (by omega))]
          refine ih _ _ _ _ ⟨k + 1, by omega, rfl, f2, m2, Or.inr ⟨_, k, by omega, rfl, rfl, rfl, fun i hi => ?_, fun i hi => ?_⟩⟩ (by rw [nI_clamp (by omega), nI_clamp (by omega)]; omega)
          · by_cases e : i = k
            · rw [e]; exact Nat.le_refl _
            · have := j5 i (by omega)
              omega
          · have := j5 i hi
            omega
        · rw [if_neg (nI_nlt (by omega) (by omega))]
          refine ih _ _ _ _ ⟨k + 1, by omega, rfl, f2, m2, Or.inr ⟨u, j, by omega, rfl, rfl, j4, fun i hi => ?_, j6⟩⟩ (by rw [nI_clamp (by omega), nI_clamp (by omega)]; omega)
          by_cases e : i = k
          · rw [e]; omega
          · exact j5 i (by omega)
    · have e : k = n := by omega
      subst e
      rcases inv with ⟨k0, -⟩ | ⟨u, j, j1, rfl, rfl, j4, j5, j6⟩
      · omega
      have lu : LeS V man k s none (2 ^ k - 1) = u := by
        unfold LeS
        have nz : ¬ 2 ^ k - 1 = 0 := nz_bit (fb 0 (by omega))
        rw [if_neg nz]
        rcases mnO_ok (p := fun x => (2 ^ k - 1).testBit x) (g := fun x => stN V man none (s x) + DS V man k s (dif (2 ^ k - 1) (2 ^ x)) x) k with ⟨e, e'⟩ | ⟨u', j', e, a1, a2, a3, a4⟩
        · have := e' 0 (by omega)
          rw [fb 0 (by omega)] at this
          cases this
        · rw [e]
          have b1 := a4 j j1 (fb j j1)
          have b2 := j5 j' a1
          have a3 : hmN V man (s j') + DS V man k s (dif (2 ^ k - 1) (2 ^ j')) j' = u' := a3
          have b1 : u' ≤ hmN V man (s j) + DS V man k s (dif (2 ^ k - 1) (2 ^ j)) j := b1
          show u' = u
          omega
      have ej : j = oCh V man k s 0 := by
        obtain ⟨o1, o2, o3, o4⟩ := oCh_ok (V := V) (man := man) (n := k) (s := s) (i := 0) n0
        rw [oo] at o2 o4
        have nx : ∀ x, x < k → (nxB V man k s none (2 ^ k - 1) x = true ↔ hmN V man (s x) + DS V man k s (dif (2 ^ k - 1) (2 ^ x)) x = u) := fun x hx => by
          unfold nxB
          rw [fb x hx, Bool.true_and, decide_eq_true_iff, lu]
          exact Iff.rfl
        rcases Nat.lt_trichotomy j (oCh V man k s 0) with q | q | q
        · have := o4 j q
          have t := (nx j j1).mpr j4
          dsimp only at this
          rw [t] at this
          cases this
        · exact q
        · have := (nx _ o1).mp o2
          have := j6 _ q
          omega
      rw [if_pos (Int32.le_refl _)]
      by_cases wz : w = 0
      · rw [wz, if_neg (fun y => y rfl)]
        have := hQ c' f1
        rw [if_pos wz, lu] at this
        exact this
      · rw [if_pos (show nI w ≠ 0 from fun y => wz ((nI_eq (b := 0) (by omega) (by omega)).mp y))]
        have pj : 2 ^ j < 2 ^ k := Nat.pow_lt_pow_right (by decide) j1
        rw [shl_1 (by omega), dif_n (by omega) (by omega), vK_eq]
        have hQ' := fun c hc => hQ c hc
        refine LP4.ind (fun set fr v c => ∃ i, 1 ≤ i ∧ i ≤ w ∧ v = nI i ∧ set = nI (oSt V man k s i).2 ∧ fr = nI (oCh V man k s (i - 1)) ∧ F55 M0 c ∧ MEM c V man k s) (fun _ _ v _ => w - v.toNatClampNeg) ?_ ⟨1, by omega, by omega, rfl, ?_, by rw [ej], f1, m1⟩
        · rintro R3 set fr v c3 ⟨i, i1, i2, rfl, rfl, rfl, f3, m3⟩ ih3
          obtain ⟨q1, -, -, -⟩ := oCh_ok (V := V) (man := man) (n := k) (s := s) (i := i - 1) (by omega)
          have sq1 := hs _ q1
          by_cases iw : i < w
          · obtain ⟨s1, s2, s3⟩ := oSt_ok (V := V) (man := man) (n := k) (s := s) i (by omega)
            obtain ⟨o1, o2, o3, o4⟩ := oCh_ok (V := V) (man := man) (n := k) (s := s) (i := i) (by omega)
            have e1 : (oSt V man k s i).1 = some (s (oCh V man k s (i - 1))) := by
              have := oSt_s (V := V) (man := man) (n := k) (s := s) (i := i - 1)
              rw [show i - 1 + 1 = i by omega] at this
              rw [this]
            have pls := pop_le k (oSt V man k s i).2
            have ls := LeS_some (V := V) (man := man) (s := s) (a := oCh V man k s (i - 1)) s1
            rw [if_neg (nI_ge iw (by omega))]
            refine LP2.ind (fun v c => ∃ x, x ≤ oCh V man k s i ∧ v = nI x ∧ F55 M0 c ∧ MEM c V man k s) (fun v _ => k - v.toNatClampNeg) ?_ ⟨0, by omega, rfl, f3, m3⟩
            rintro R4 v c4 ⟨x, hx, rfl, f4, m4⟩ ih4
            have sx := hs x (by omega)
            rw [bit_n (by omega) (by omega), nI_1]
            cases q : (oSt V man k s i).2.testBit x with
            | false =>
              rw [if_pos (by decide)]
              refine ih4 _ _ ⟨x + 1, ?_, rfl, f4, m4⟩ (by rw [nI_clamp (by omega), nI_clamp (by omega)]; omega)
              by_cases e : x = oCh V man k s i
              · rw [e, o3] at q
                cases q
              · omega
            | true =>
              have px : 2 ^ x < 2 ^ k := Nat.pow_lt_pow_right (by decide) (by omega)
              have pr := pop_rm q k (by omega)
              have b1 := (bt_n (gh _ sq1) (gh _ sx)).2
              have b2 := DS_b (S := dif (oSt V man k s i).2 (2 ^ x)) gm gh hs h7 (show x < k by omega)
              have b3 := DS_b (S := (oSt V man k s i).2) gm gh hs h7 q1
              rw [if_neg (by decide), rdI_n (by omega) (by omega), f4 54 _ (by omega), r54 _ q1, rdI_n (by omega) (by omega), f4 54 x (by omega), r54 x (by omega), betweenV (fun j x h1 h2 hx => (f4 j x (by omega)).trans (pv j x h1 h2 hx)) (by omega) (by omega), (bt_n (gh _ sq1) (gh _ sx)).1, shl_1 (by omega), dif_n (by omega) (by omega)]
              refine SF 9 (dif_lt s1) (by omega) (by omega) f4 m4 fun c5 f5 m5 => ?_
              refine SF 9 s1 q1 (by omega) f5 m5 fun c6 f6 m6 => ?_
              rw [nI_add]
              have nxq : nxB V man k s (oSt V man k s i).1 (oSt V man k s i).2 x = true ↔ btN V (s (oCh V man k s (i - 1))) (s x) + DS V man k s (dif (oSt V man k s i).2 (2 ^ x)) x = DS V man k s (oSt V man k s i).2 (oCh V man k s (i - 1)) := by
                unfold nxB
                rw [q, Bool.true_and, decide_eq_true_iff, e1, ls]
                exact Iff.rfl
              by_cases e : x = oCh V man k s i
              · have t := nxq.mp (by rw [e]; exact o2)
                rw [t, if_pos rfl, vK_eq, nI_1 i]
                refine ih3 _ _ _ _ ⟨i + 1, by omega, by omega, rfl, ?_, ?_, f6, m6⟩ (by rw [nI_clamp (by omega), nI_clamp (by omega)]; omega)
                · rw [oSt_s, e]
                · rw [Nat.add_sub_cancel, e]
              · have no := o4 x (by omega)
                rw [if_neg (fun y => by
                  have := nxq.mpr ((nI_eq (by omega) (by omega)).mp y)
                  rw [this] at no
                  cases no)]
                exact ih4 _ _ ⟨x + 1, by omega, rfl, f6, m6⟩ (by rw [nI_clamp (by omega), nI_clamp (by omega)]; omega)
          · have e : i = w := by omega
            subst e
            have := hQ c3 f3
            rw [if_neg wz] at this
            rw [if_pos (Int32.le_refl _), rdI_n (by omega) (by omega), f3 54 _ (by omega), r54 _ q1]
            exact this
        · show nI (dif (2 ^ k - 1) (2 ^ j)) = nI (oSt V man k s (0 + 1)).2
          rw [oSt_s, ej]
          rfl
end ShR
