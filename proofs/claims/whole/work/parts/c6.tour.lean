/-! ===== tours, worth, sales ===== -/
def adN (a b : Nat) : Nat := (a - b) + (b - a)
theorem aI_n {a b : Nat} (ha : a < 2 ^ 30) (hb : b < 2 ^ 30) : aI (nI a - nI b) = nI (adN a b) := by
  unfold aI adN
  by_cases h : b ≤ a
  · rw [pk_sub h, if_pos (nI_pos' (by omega)), show (a - b) + (b - a) = a - b by omega]
  · rw [if_neg]
    · rw [Int32.zero_sub, Int32.neg_sub, pk_sub (by omega), show (a - b) + (b - a) = b - a by omega]
    · intro z
      rw [Int32.le_iff_toInt_le, pk_sub_toInt ha hb] at z
      have e0 : (0 : Int32).toInt = 0 := by decide
      omega
def hmN (V : VW) (man i : Nat) : Nat := adN (nv (V 17 man)) (nv (V 23 i)) + 10 * adN (nv (V 16 man)) (nv (V 22 i))
def btN (V : VW) (a i : Nat) : Nat := adN (nv (V 23 a)) (nv (V 23 i)) + 10 * adN (nv (V 22 a)) (nv (V 22 i))
section Tou
variable {H P K I M T : CT} {V : VW} {l q f m h D n b : Nat} {a1 a2 : Int32}
theorem hm_n {man i : Nat} (gm : PMan P.1 V man) (gi : PHou P.1 V f m i) : hmS V man i = nI (hmN V man i) ∧ hmN V man i ≤ 189 := by
  obtain ⟨-, -, -, -, ⟨a, ha, ea⟩, ⟨b, hb, eb⟩, -⟩ := gm
  obtain ⟨-, -, ⟨-, c, hc, ec⟩, ⟨-, d, hd, ed⟩, -⟩ := gi
  unfold hmS hmN
  rw [ea, eb, ec, ed, nv_n (by omega), nv_n (by omega), nv_n (by omega), nv_n (by omega), aI_n (by omega) (by omega), aI_n (by omega) (by omega), li_10, pk_mul, nI_add]
  unfold adN
  exact ⟨rfl, by omega⟩
theorem bt_n {y i : Nat} (gy : PHou P.1 V f m y) (gi : PHou P.1 V f m i) : btS V y i = nI (btN V y i) ∧ btN V y i ≤ 189 := by
  obtain ⟨-, -, ⟨-, a, ha, ea⟩, ⟨-, b, hb, eb⟩, -⟩ := gy
  obtain ⟨-, -, ⟨-, c, hc, ec⟩, ⟨-, d, hd, ed⟩, -⟩ := gi
  unfold btS btN
  rw [ea, eb, ec, ed, nv_n (by omega), nv_n (by omega), nv_n (by omega), nv_n (by omega), aI_n (by omega) (by omega), aI_n (by omega) (by omega), li_10, pk_mul, nI_add]
  unfold adN
  exact ⟨rfl, by omega⟩
/-- one step of a walk, and the way home -/
def stN (V : VW) (man : Nat) : Option Nat → Nat → Nat
  | none, i => hmN V man i
  | some a, i => btN V a i
def bkN (V : VW) (man : Nat) : Option Nat → Nat
  | none => 0
  | some a => hmN V man a
/-- along the houses in order, those chosen: the last, the walk -/
def tp (V : VW) (h man : Nat) (p : Nat → Bool) : Nat → Option Nat × Nat
  | 0 => (none, 0)
  | k + 1 => if p k = true then (some (sq V h k), (tp V h man p k).2 + stN V man (tp V h man p k).1 (sq V h k)) else tp V h man p k
def trN (V : VW) (h man : Nat) (p : Nat → Bool) : Nat := (tp V h man p h).2 + bkN V man (tp V h man p h).1
theorem tp_s {man k : Nat} {p : Nat → Bool} : tp V h man p (k + 1) = if p k = true then (some (sq V h k), (tp V h man p k).2 + stN V man (tp V h man p k).1 (sq V h k)) else tp V h man p k := rfl
def oH2 : Option Nat → Int32
  | none => -1
  | some a => nI a
theorem tp_b {man : Nat} {p : Nat → Bool} (gm : PMan P.1 V man) (gh : ∀ i, i < h → PHou P.1 V f m i) : ∀ k, k ≤ h → (tp V h man p k).2 ≤ 189 * k ∧ ((tp V h man p k).1 = none ∨ ∃ a, a < h ∧ (tp V h man p k).1 = some a)
  | 0, _ => ⟨Nat.le_refl _, Or.inl rfl⟩
  | k + 1, hk => by
    obtain ⟨i1, i2⟩ := tp_b gm gh k (by omega)
    have sk := (sq_ok V h).1 k (by omega)
    rw [tp_s]
    split
    · refine ⟨?_, Or.inr ⟨_, sk, rfl⟩⟩
      dsimp only
      rcases i2 with e | ⟨a, ha, e⟩
      · rw [e]
        have := (hm_n gm (gh _ sk)).2
        show _ + hmN V man (sq V h k) ≤ _
        omega
      · rw [e]
        have := (bt_n (gh a ha) (gh _ sk)).2
        show _ + btN V a (sq V h k) ≤ _
        omega
    · exact ⟨by omega, i2⟩
theorem trN_b {man : Nat} {p : Nat → Bool} (gm : PMan P.1 V man) (gh : ∀ i, i < h → PHou P.1 V f m i) : trN V h man p ≤ 189 * h + 189 := by
  obtain ⟨i1, i2⟩ := tp_b (p := p) gm gh h (Nat.le_refl h)
  unfold trN
  rcases i2 with e | ⟨a, ha, e⟩
  · rw [e]
    show _ + 0 ≤ _
    omega
  · rw [e]
    have := (hm_n gm (gh a ha)).2
    show _ + hmN V man a ≤ _
    omega
/-- the class's steps -/
theorem onwardN {man i : Nat} {o : Option Nat} {Q : Int32 → Prop} (gm : PMan P.1 V man) (gh : ∀ i, i < h → PHou P.1 V f m i) (hm : man < 3) (h9 : h ≤ 10) (hi : i < h) (ho : o = none ∨ ∃ a, a < h ∧ o = some a) : k_X6_onward P (nI man) (oH2 o) (nI i) Q = Q (nI (stN V man o i)) := by
  rcases ho with rfl | ⟨a, ha, rfl⟩
  · show k_X6_onward P (nI man) (-1) (nI i) Q = Q (nI (hmN V man i))
    rw [onward_ok gm gh hm hi h9 (Or.inl rfl)]
    unfold wkS
    rw [if_pos rfl, (hm_n gm (gh i hi)).1]
  · show k_X6_onward P (nI man) (nI a) (nI i) Q = Q (nI (btN V a i))
    rw [onward_ok gm gh hm hi h9 (Or.inr ⟨a, ha, rfl⟩)]
    unfold wkS
    rw [if_neg (show ¬ nI a = -1 by rw [m1_ne (by omega)]; exact id), nv_n (by omega), (bt_n (gh a ha) (gh i hi)).1]
theorem homewardN {man : Nat} {o : Option Nat} {Q : Int32 → Prop} (gm : PMan P.1 V man) (gh : ∀ i, i < h → PHou P.1 V f m i) (hm : man < 3) (h9 : h ≤ 10) (ho : o = none ∨ ∃ a, a < h ∧ o = some a) : k_X6_homeward P (nI man) (oH2 o) Q = Q (nI (bkN V man o)) := by
  rcases ho with rfl | ⟨a, ha, rfl⟩
  · unfold k_X6_homeward
    rw [jn_eq, if_neg (fun z => z rfl)]
    rfl
  · show k_X6_homeward P (nI man) (nI a) Q = _
    rw [homeward_ok gm (gh a ha) hm (by omega), (hm_n gm (gh a ha)).1]
    rfl
/-- the share of a man by ranks -/
def shP (V : VW) (h : Nat) (sh : Nat → Nat) (b : Nat) : Nat → Bool := fun r => decide (sh (sq V h r) = b)
def SRT (V : VW) (h : Nat) (T T' : CT) : Prop := (∀ j k, j ≠ 3 → j ≠ 4 → T'.1 j k = T.1 j k) ∧ ∀ i, i < h → T'.1 3 i = nI (sq V h i) ∧ T'.1 4 (sq V h i) = nI i
theorem tourC_ok {sh : Nat → Nat} {Q : Int32 → CT → Prop} (ph : P.1 0 3 = nI h) (h9 : h ≤ 10) (gm : PMan P.1 V b) (gh : ∀ i, i < h → PHou P.1 V f m i) (hb : b < 3) (hs : ∀ x, x < h → K.1 1 x = nI (sh x) ∧ sh x < 3) (hQ : ∀ T', SRT V h T T' → Q (nI (trN V h b (shP V h sh b))) T') : k_X9_tourOf P K T (nI b) Q := by
  unfold k_X9_tourOf
  refine sortHouses_ok ph h9 gh fun T' t1 t2 => ?_
  refine LP3.ind (fun s wh v => ∃ i, i ≤ h ∧ v = nI i ∧ s = nI (tp V h b (shP V h sh b) i).2 ∧ wh = oH2 (tp V h b (shP V h sh b) i).1) (fun _ _ v => h - v.toNatClampNeg) ?_ ⟨0, by omega, rfl, rfl, rfl⟩
  rintro R s wh v ⟨i, hi, rfl, rfl, rfl⟩ ih
  obtain ⟨i1, i2⟩ := tp_b (p := shP V h sh b) gm gh i hi
  rw [ph]
  by_cases hin : i < h
  · have sk := (sq_ok V h).1 i hin
    obtain ⟨e1, e2⟩ := hs _ sk
    rw [if_neg (nI_ge hin (by omega)), rdI_n (by omega) (by omega), (t2 i hin).1, rdI_n (by omega) (by omega), e1, nI_1]
    by_cases e : sh (sq V h i) = b
    · rw [if_neg (fun z => z (by rw [e])), rdI_n (by omega) (by omega), (t2 i hin).1, onwardN gm gh hb h9 sk i2, nI_add, vK_eq, rdI_n (by omega) (by omega), (t2 i hin).1]
      refine ih _ _ _ ⟨i + 1, by omega, rfl, ?_, ?_⟩ (by rw [nI_clamp (by omega), nI_clamp (by omega)]; omega)
      · rw [tp_s, if_pos (show shP V h sh b i = true from decide_eq_true e)]
      · rw [tp_s, if_pos (show shP V h sh b i = true from decide_eq_true e)]
        rfl
    · rw [if_pos (fun z => e ((nI_eq (by omega) (by omega)).mp z))]
      refine ih _ _ _ ⟨i + 1, by omega, rfl, ?_, ?_⟩ (by rw [nI_clamp (by omega), nI_clamp (by omega)]; omega)
      · rw [tp_s, if_neg (show ¬ shP V h sh b i = true from fun z => e (of_decide_eq_true z))]
      · rw [tp_s, if_neg (show ¬ shP V h sh b i = true from fun z => e (of_decide_eq_true z))]
  · have e : i = h := by omega
    subst e
    rw [if_pos (Int32.le_refl _), homewardN gm gh hb h9 i2, nI_add]
    exact hQ T' ⟨t1, t2⟩
/-- the reference's rows: houses by street, shares -/
def SHR (M : CT) (V : VW) (h : Nat) (sh : Nat → Nat) : Prop := (∀ i, i < h → M.1 57 i = nI (sq V h i)) ∧ ∀ x, x < h → M.1 56 x = nI (sh x) ∧ sh x < 3
theorem tourR_ok {sh : Nat → Nat} {Q : Int32 → Prop} (v38 : M.1 0 38 = nI h) (pv : PV M V) (h9 : h ≤ 10) (gm : PMan P.1 V b) (gh : ∀ i, i < h → PHou P.1 V f m i) (hb : b < 3) (hs : SHR M V h sh) (hQ : Q (nI (trN V h b (shP V h sh b)))) : k_X12_tourOf M (nI b) Q := by
  unfold k_X12_tourOf
  refine LP3.ind (fun wh s v => ∃ i, i ≤ h ∧ v = nI i ∧ s = nI (tp V h b (shP V h sh b) i).2 ∧ wh = oH2 (tp V h b (shP V h sh b) i).1) (fun _ _ v => h - v.toNatClampNeg) ?_ ⟨0, by omega, rfl, rfl, rfl⟩
  rintro R wh s v ⟨i, hi, rfl, rfl, rfl⟩ ih
  obtain ⟨i1, i2⟩ := tp_b (p := shP V h sh b) gm gh i hi
  rw [v38]
  by_cases hin : i < h
  · have sk := (sq_ok V h).1 i hin
    obtain ⟨e1, e2⟩ := hs.2 _ sk
    rw [if_neg (nI_ge hin (by omega)), rdI_n (by omega) (by omega), hs.1 i hin, rdI_n (by omega) (by omega), e1, nI_1]
    by_cases e : sh (sq V h i) = b
    · rw [if_pos (by rw [e]), jn_eq]
      have nx : ∀ x : Int32, x = nI (stN V b (tp V h b (shP V h sh b) i).1 (sq V h i)) → R (nI (sq V h i)) (nI (tp V h b (shP V h sh b) i).2 + x) (nI (i + 1)) := fun x ex => by
        refine ih _ _ _ ⟨i + 1, by omega, rfl, ?_, ?_⟩ (by rw [nI_clamp (by omega), nI_clamp (by omega)]; omega)
        · rw [tp_s, if_pos (show shP V h sh b i = true from decide_eq_true e), ex, nI_add]
        · rw [tp_s, if_pos (show shP V h sh b i = true from decide_eq_true e)]
          rfl
      rcases i2 with o | ⟨a, ha, o⟩
      · rw [o] at nx ⊢
        rw [if_neg (show ¬ oH2 none ≠ -1 from fun z => z rfl), fromHomeV pv hb (by omega), (hm_n gm (gh _ sk)).1]
        dsimp only
        rw [vK_eq]
        exact nx _ rfl
      · rw [o] at nx ⊢
        rw [if_pos (show oH2 (some a) ≠ -1 by show nI a ≠ -1; rw [ne_eq, m1_ne (by omega)]; exact id), show oH2 (some a) = nI a from rfl, betweenV pv (by omega) (by omega), (bt_n (gh a ha) (gh _ sk)).1]
        dsimp only
        rw [vK_eq]
        exact nx _ rfl
    · rw [if_neg (fun z => e ((nI_eq (by omega) (by omega)).mp z))]
      refine ih _ _ _ ⟨i + 1, by omega, rfl, ?_, ?_⟩ (by rw [nI_clamp (by omega), nI_clamp (by omega)]; omega)
      · rw [tp_s, if_neg (show ¬ shP V h sh b i = true from fun z => e (of_decide_eq_true z))]
      · rw [tp_s, if_neg (show ¬ shP V h sh b i = true from fun z => e (of_decide_eq_true z))]
  · have e : i = h := by omega
    subst e
    rw [if_pos (Int32.le_refl _), jn_eq]
    unfold trN at hQ
    rcases i2 with o | ⟨a, ha, o⟩
    · have sz : ∀ k, (tp V i b (shP V i sh b) k).1 = none → (tp V i b (shP V i sh b) k).2 = 0 := by
        intro k
        induction k with
        | zero => intro _; rfl
        | succ k ih =>
          rw [tp_s]
          split
          · intro z
            cases z
          · exact ih
      rw [o, sz i o] at hQ
      rw [o, if_neg (show ¬ oH2 none ≠ -1 from fun z => z rfl)]
      exact hQ
    · rw [o] at hQ
      rw [o, if_pos (show oH2 (some a) ≠ -1 by show nI a ≠ -1; rw [ne_eq, m1_ne (by omega)]; exact id), show oH2 (some a) = nI a from rfl, fromHomeV pv hb (by omega), (hm_n gm (gh a ha)).1, nI_add]
      exact hQ
theorem sharesNow_ok {Q : CT → Prop} {sh : Nat → Nat} (v38 : M.1 0 38 = nI h) (pv : PV M V) (h9 : h ≤ 10) (gh : ∀ i, i < h → PHou P.1 V f m i) (hw : ∀ x, x < h → M.1 44 x = nI (sh x) ∧ sh x < 3) (hQ : ∀ c, (∀ j k, j ≠ 56 → j ≠ 57 → c.1 j k = M.1 j k) → SHR c V h sh → Q c) : k_X12_sharesNow M Q := by
  unfold k_X12_sharesNow
  refine sorts_ok v38 pv h9 gh fun c c1 c2 => ?_
  refine upl2 (N := h) (a := 0) (by omega) (fun k c' => (∀ j x, j ≠ 56 → c'.1 j x = c.1 j x) ∧ ∀ x, x < k → c'.1 56 x = nI (sh x)) ?_ ?_ (by omega) ⟨fun _ _ _ => rfl, fun x hx => absurd hx (by omega)⟩
  · rintro R k c' - hk ⟨d1, d2⟩ ih
    rw [d1 0 38 (by omega), c1 0 38 (by omega), v38, if_neg (nI_ge hk (by omega)), rdI_n (by omega) (by omega), d1 44 k (by omega), c1 44 k (by omega), (hw k hk).1, wrI_n (by omega) (by omega), nI_1]
    refine ih _ ⟨fun j x hj => (sI_ne (by omega)).trans (d1 j x hj), fun x hx => ?_⟩
    by_cases e : x = k
    · subst e
      rw [sI_same]
    · rw [sI_ne (by omega)]
      exact d2 x (by omega)
  · rintro R c' ⟨d1, d2⟩
    rw [d1 0 38 (by omega), c1 0 38 (by omega), v38, if_pos (Int32.le_refl _)]
    exact hQ c' (fun j k h1 h2 => (d1 j k h1).trans (c1 j k h2)) ⟨fun i hi => (d1 57 i (by omega)).trans (c2 i hi), fun x hx => ⟨d2 x hx, (hw x hx).2⟩⟩
/-- what a house is worth; what a share is -/
def wvN (V : VW) (x : Nat) : Nat := nv (V 26 x) * 72 / nv (V 24 x)
def woN (V : VW) (sh : Nat → Nat) (b : Nat) : Nat → Nat
  | 0 => 0
  | k + 1 => woN V sh b k + if sh k = b then wvN V k else 0
theorem value_ok {x : Nat} {Q : Int32 → Prop} (g : PHou P.1 V f m x) : k_X4_value P x Q = Q (nI (wvN V x)) ∧ wvN V x ≤ 71928 := by
  obtain ⟨-, -, -, -, ⟨p5, e, e1, e9, ee⟩, -, ⟨p7, p, hp, ep⟩, -⟩ := g
  unfold k_X4_value wvN
  rw [jn_eq, p5, p7, ee, ep, nv_n (by omega), nv_n (by omega), li_0, if_neg (by rw [nI_le' (by omega) (by omega)]; omega), li_72, pk_mul, dv_n (by omega) (by omega) (by omega)]
  have := Nat.div_le_self (p * 72) e
  exact ⟨rfl, by omega⟩
theorem valueR_ok {x : Nat} {Q : Int32 → Prop} (pv : PV M V) (hx : x < 10) (g : PHou P.1 V f m x) : k_X12_worthOf M (nI x) Q = Q (nI (wvN V x)) := by
  obtain ⟨-, -, -, -, ⟨p5, e, e1, e9, ee⟩, -, ⟨p7, p, hp, ep⟩, -⟩ := g
  unfold k_X12_worthOf wvN
  rw [rdI_n (by omega) (by omega), rdI_n (by omega) (by omega), pv 26 x (by omega) (by omega) (show x < 10 from hx), pv 24 x (by omega) (by omega) (show x < 10 from hx), ee, ep, nv_n (by omega), nv_n (by omega), li_72, pk_mul, dv_n (by omega) (by omega) (by omega)]
theorem woN_b {sh : Nat → Nat} (gh : ∀ i, i < h → PHou P.1 V f m i) : ∀ k, k ≤ h → woN V sh b k ≤ 71928 * k
  | 0, _ => Nat.le_refl _
  | k + 1, hk => by
    have ih := woN_b (sh := sh) gh k (by omega)
    have := (value_ok (Q := fun _ => True) (gh k (by omega))).2
    show woN V sh b k + (if sh k = b then wvN V k else 0) ≤ _
    split <;> omega
theorem worthC_ok {sh : Nat → Nat} {Q : Int32 → Prop} (ph : P.1 0 3 = nI h) (h9 : h ≤ 10) (gh : ∀ i, i < h → PHou P.1 V f m i) (hb : b < 3) (hs : ∀ x, x < h → K.1 1 x = nI (sh x) ∧ sh x < 3) (hQ : Q (nI (woN V sh b h))) : k_X0_worthOf P K (nI b) Q := by
  unfold k_X0_worthOf
  refine LP2.ind (fun s v => ∃ i, i ≤ h ∧ v = nI i ∧ s = nI (woN V sh b i)) (fun _ v => h - v.toNatClampNeg) ?_ ⟨0, by omega, rfl, rfl⟩
  rintro R s v ⟨i, hi, rfl, rfl⟩ ih
  rw [ph]
  by_cases hin : i < h
  · obtain ⟨e1, e2⟩ := hs i hin
    rw [if_neg (nI_ge hin (by omega)), rdI_n (by omega) (by omega), e1, nI_1]
    by_cases e : sh i = b
    · rw [if_neg (fun z => z (by rw [e])), ixN_n (by omega) (by omega), (value_ok (gh i hin)).1, vK_eq, nI_add]
      refine ih _ _ ⟨i + 1, by omega, rfl, ?_⟩ (by rw [nI_clamp (by omega), nI_clamp (by omega)]; omega)
      show _ = nI (woN V sh b i + if sh i = b then wvN V i else 0)
      rw [if_pos e]
    · rw [if_pos (fun z => e ((nI_eq (by omega) (by omega)).mp z))]
      refine ih _ _ ⟨i + 1, by omega, rfl, ?_⟩ (by rw [nI_clamp (by omega), nI_clamp (by omega)]; omega)
      show _ = nI (woN V sh b i + if sh i = b then wvN V i else 0)
      rw [if_neg e, Nat.add_zero]
  · have e : i = h := by omega
    subst e
    rw [if_pos (Int32.le_refl _)]
    exact hQ
theorem worthR_ok {sh : Nat → Nat} {Q : Int32 → Prop} (v38 : M.1 0 38 = nI h) (pv : PV M V) (h9 : h ≤ 10) (gh : ∀ i, i < h → PHou P.1 V f m i) (hb : b < 3) (hs : ∀ x, x < h → M.1 56 x = nI (sh x) ∧ sh x < 3) (hQ : Q (nI (woN V sh b h))) : k_X12_worthBy M (nI b) Q := by
  unfold k_X12_worthBy
  refine LP2.ind (fun s v => ∃ i, i ≤ h ∧ v = nI i ∧ s = nI (woN V sh b i)) (fun _ v => h - v.toNatClampNeg) ?_ ⟨0, by omega, rfl, rfl⟩
  rintro R s v ⟨i, hi, rfl, rfl⟩ ih
  rw [v38]
  by_cases hin : i < h
  · obtain ⟨e1, e2⟩ := hs i hin
    rw [if_neg (nI_ge hin (by omega)), jn_eq, rdI_n (by omega) (by omega), e1, nI_1]
    by_cases e : sh i = b
    · rw [if_neg (fun z => z (by rw [e])), valueR_ok pv (by omega) (gh i hin)]
      dsimp only
      rw [vK_eq, nI_add]
      refine ih _ _ ⟨i + 1, by omega, rfl, ?_⟩ (by rw [nI_clamp (by omega), nI_clamp (by omega)]; omega)
      show _ = nI (woN V sh b i + if sh i = b then wvN V i else 0)
      rw [if_pos e]
    · rw [if_pos (fun z => e ((nI_eq (by omega) (by omega)).mp z))]
      dsimp only
      rw [vK_eq, Int32.add_zero]
      refine ih _ _ ⟨i + 1, by omega, rfl, ?_⟩ (by rw [nI_clamp (by omega), nI_clamp (by omega)]; omega)
      show _ = nI (woN V sh b i + if sh i = b then wvN V i else 0)
      rw [if_neg e, Nat.add_zero]
  · have e : i = h := by omega
    subst e
    rw [if_pos (Int32.le_refl _)]
    exact hQ
/-- whose the houses are -/
def whN (M : CT) (x : Nat) : Nat := nv (M.1 44 x)
theorem CO.whose (g : CO H P K I M l q f m h D n) : ∀ x, x < h → (K.1 1 x = nI (whN M x) ∧ M.1 44 x = nI (whN M x)) ∧ whN M x < m := fun x hx => by
  have m3 := g.2.2.1.1.1.2.2.2.1
  obtain ⟨⟨e1, y, hy, ey⟩, -⟩ := g.2.2.2.1.1.2.1 x hx
  rw [show oT false + x = x from Nat.zero_add x] at e1
  unfold whN
  rw [← e1, ey, nv_n (by omega)]
  exact ⟨⟨rfl, rfl⟩, hy⟩
theorem ma56 {M c : CT} (h : ∀ j k, j ≠ 56 → j ≠ 57 → c.1 j k = M.1 j k) : MA M c := fun j k r => h j k (by unfold RV at r; omega) (by unfold RV at r; omega)
theorem g_worth (g : CO H P K I M l q f m h D n) : k_X11_worth H P K a1 fun x => k_X12_worth M a1 fun y M' => x = y ∧ MA M M' := by
  obtain ⟨⟨m3, h9⟩, gm, gh, pm, ph, v37, v38, pv⟩ := g.plan
  have wh := g.whose
  unfold k_X11_worth
  rw [jn_eq]
  by_cases cm : ∃ b, b < m ∧ a1 = nI b
  · obtain ⟨b, hb, rfl⟩ := cm
    rw [hasMan_y pm (by omega) hb, if_neg (by decide)]
    refine worthC_ok (sh := whN M) ph h9 gh (by omega) (fun x hx => ⟨(wh x hx).1.1, by have := (wh x hx).2; omega⟩) ?_
    unfold k_X12_worth
    try dsimp only
    rw [wrF_eq, isMan_y v37 (by omega) hb, if_pos (by decide)]
    refine sharesNow_ok (sh := whN M) v38 pv h9 gh (fun x hx => ⟨(th_at (by omega)).trans (wh x hx).1.2, by have := (wh x hx).2; omega⟩) fun c c1 c2 => ?_
    exact worthR_ok ((c1 0 38 (by omega) (by omega)).trans v38) (fun j x h1 h2 h3 => (c1 j x (by omega) (by omega)).trans (pv j x h1 h2 h3)) h9 gh (by omega) c2.2 ⟨rfl, MA.th.trans (ma56 c1)⟩
  · rw [hasMan_n pm (by omega) cm, if_pos rfl]
    unfold k_X12_worth
    try dsimp only
    rw [wrF_eq, isMan_n v37 (by omega) cm, if_neg (fun z => z rfl)]
    exact ⟨rfl, MA.th⟩
theorem g_tour (g : CO H P K I M l q f m h D n) : k_X11_tour H P K T a1 fun x T' => k_X12_tour M a1 fun y M' => x = y ∧ MA M M' ∧ (T' = T ∨ SRT (clV M) h T T') := by
  obtain ⟨⟨m3, h9⟩, gm, gh, pm, ph, v37, v38, pv⟩ := g.plan
  have wh := g.whose
  unfold k_X11_tour
  rw [jn_eq]
  by_cases cm : ∃ b, b < m ∧ a1 = nI b
  · obtain ⟨b, hb, rfl⟩ := cm
    rw [hasMan_y pm (by omega) hb, if_neg (by decide)]
    refine tourC_ok (sh := whN M) ph h9 (gm b hb) gh (by omega) (fun x hx => ⟨(wh x hx).1.1, by have := (wh x hx).2; omega⟩) fun T' hT' => ?_
    unfold k_X12_tour
    try dsimp only
    rw [wrF_eq, isMan_y v37 (by omega) hb, if_pos (by decide)]
    refine sharesNow_ok (sh := whN M) v38 pv h9 gh (fun x hx => ⟨(th_at (by omega)).trans (wh x hx).1.2, by have := (wh x hx).2; omega⟩) fun c c1 c2 => ?_
    exact tourR_ok ((c1 0 38 (by omega) (by omega)).trans v38) (fun j x h1 h2 h3 => (c1 j x (by omega) (by omega)).trans (pv j x h1 h2 h3)) h9 (gm b hb) gh (by omega) c2 ⟨rfl, MA.th.trans (ma56 c1), Or.inr hT'⟩
  · rw [hasMan_n pm (by omega) cm, if_pos rfl]
    unfold k_X12_tour
    try dsimp only
    rw [wrF_eq, isMan_n v37 (by omega) cm, if_neg (fun z => z rfl)]
    exact ⟨rfl, MA.th, Or.inl rfl⟩
end Tou
