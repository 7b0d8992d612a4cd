/-! ===== swap: both sides agree ===== -/
/-- whose the houses are, as the class's book says -/
def cwN (K : CT) (h : Nat) : Nat → Nat := fun x => if x < h then nv (K.1 1 x) else 0
/-- what the walker keeps -/
def TOK (T U : CT) (V : VW) (m h : Nat) (sh0 : Nat → Nat) : Prop := (T.1 0 8 = 0 ∨ (T.1 0 8 = 1 ∧ TTB T U V m h)) ∧ (T.1 0 10 = -1 ∨ ∃ loss B S, loss ≤ 9999 ∧ T.1 0 10 = nI loss ∧ swBest V m h loss sh0 = some (B, S) ∧ T.1 0 11 = nI B ∧ ∀ x, x < h → T.1 5 x = nI (S x))
section FSw
variable {H P K I M T U : CT} {V : VW} {l q f m h D n loss : Nat} {a1 a2 : Int32}
theorem all_f {b : Nat} {sh : Nat → Nat} : trN V h b (pdk V h sh b 0) = 0 ∧ rmN V h sh b 0 = 0 := by
  have z : ∀ r, pdk V h sh b 0 r = false := fun r => decide_eq_false (by omega)
  constructor
  · have : ∀ k, tp V h b (pdk V h sh b 0) k = (none, 0) := by
      intro k
      induction k with
      | zero => rfl
      | succ k ih => rw [tp_s, if_neg (by rw [z]; decide), ih]
    unfold trN
    rw [this]
    rfl
  · apply Nat.eq_of_testBit_eq
    intro k
    unfold rmN
    rw [bm_bit, z, Bool.and_false, Nat.zero_testBit]
theorem pt_0 {sh : Nat → Nat} : ∀ m, ptN V h sh 0 m = 0
  | 0 => rfl
  | m + 1 => by
    show ptN V h sh 0 m + trN V h m (pdk V h sh m 0) = 0
    rw [pt_0 m, all_f.1]
theorem best_ok {sh0 : Nat → Nat} (hs : ∀ x, x < h → sh0 x < m) (x0 : Nat → Nat) : ∃ st, swpF (upC V h loss (fun b => woN V sh0 b h) m) m h h sh0 (toN V h sh0 m + 1, x0) = st ∧ swBest V m h loss sh0 = some st ∧ st.1 ≤ toN V h sh0 m := by
  refine ⟨_, rfl, ?_⟩
  have rb := RB.sw (V := V) (h := h) (loss := loss) (wn := fun b => woN V sh0 b h) (m := m) (c := toN V h sh0 m) h (o := none) (st := (toN V h sh0 m + 1, x0)) (sh := sh0) (Or.inl ⟨rfl, Or.inl rfl⟩)
  have le := (sw_le (V := V) (h := h) (loss := loss) (wn := fun b => woN V sh0 b h) (m := m) (sh0 := sh0) hs (va_t.mpr fun b hb => by omega) h (sh := sh0) (st := (toN V h sh0 m + 1, x0)) (Nat.le_refl h)).2 (fun _ _ => rfl)
  rcases rb with ⟨z, -⟩ | ⟨z1, z2⟩
  · omega
  · exact ⟨z1, z2⟩
theorem findSwap_ok {sh0 : Nat → Nat} {Q : Int32 → CT → CT → Prop} (m3 : m ≤ 3) (h9 : h ≤ 10) (l9 : loss ≤ 9999) (pm : P.1 0 2 = nI m) (ph : P.1 0 3 = nI h) (gm : ∀ b, b < m → PMan P.1 V b) (gh : ∀ i, i < h → PHou P.1 V f m i) (hs : ∀ x, x < h → K.1 1 x = nI (sh0 x) ∧ sh0 x < m) (tok : TOK T U V m h sh0) (hQ : ∀ T' U' B S, swBest V m h loss sh0 = some (B, S) → TOK T' U' V m h sh0 → (∀ x, x < h → T'.1 5 x = nI (S x)) → Q (nI B) T' U') : k_X9_findSwap P K T U (nI loss) Q := by
  unfold k_X9_findSwap
  have hs3 : ∀ x, x < h → K.1 1 x = nI (sh0 x) ∧ sh0 x < 3 := fun x hx => ⟨(hs x hx).1, by have := (hs x hx).2; omega⟩
  refine ite_b (fun z => ?_) fun z => ?_
  · rw [wrF_eq]
    refine prepareTours_ok m3 h9 pm ph gm gh (by rw [sI_ne (by omega)]; rcases tok.1 with a | ⟨a, b⟩; exact Or.inl a; exact Or.inr ⟨a, fun i hi => by rw [sI_ne (by omega), sI_ne (by omega)]; exact b.1 i hi, b.2⟩) fun T1 U1 t1 t2 t3 => ?_
    refine upl3 (N := m) (a := 0) (by omega) (fun b s c => s = nI (toN V h sh0 b) ∧ (∀ j k, j ≠ 3 → j ≠ 4 → j ≠ 8 → j ≠ 9 → c.1 j k = T1.1 j k) ∧ (∀ i, i < h → c.1 3 i = nI (sq V h i) ∧ c.1 4 (sq V h i) = nI i) ∧ ∀ b', b' < b → c.1 8 b' = nI (woN V sh0 b' h) - nI loss ∧ c.1 9 b' = 0) ?_ ?_ (by omega) ⟨rfl, fun _ _ _ _ _ _ => rfl, t3.1, fun b' hb' => absurd hb' (by omega)⟩
    · rintro R b s c - hb ⟨rfl, c1, c2, c3⟩ ih
      rw [pm, if_neg (nI_ge hb (by omega))]
      refine worthC_ok (sh := sh0) ph h9 gh (by omega) hs3 ?_
      rw [wrI_n (by omega) (by omega), wrI_n (by omega) (by omega)]
      refine tourC_ok (sh := sh0) ph h9 (gm b hb) gh (by omega) hs3 fun T' srt => ?_
      rw [nI_add, vK_eq, nI_1]
      refine ih _ _ ⟨rfl, fun j k h3 h4 h8 h9' => ?_, srt.2, fun b' hb' => ?_⟩
      · rw [srt.1 j k h3 h4, sI_ne (by omega), sI_ne (by omega)]
        exact c1 j k h3 h4 h8 h9'
      · rw [srt.1 8 b' (by omega) (by omega), srt.1 9 b' (by omega) (by omega)]
        by_cases e : b' = b
        · subst e
          rw [sI_ne (by omega), sI_same, sI_same]
          exact ⟨rfl, rfl⟩
        · rw [sI_ne (by omega), sI_ne (by omega), sI_ne (by omega), sI_ne (by omega)]
          exact c3 b' (by omega)
    · rintro R s c ⟨rfl, c1, c2, c3⟩
      have tb := toN_b (sh := sh0) gm gh h9 m (Nat.le_refl m)
      rw [pm, if_pos (Int32.le_refl _), ph, wrI_n (by omega) (by omega), vK_eq]
      refine dnl2 (N := h) (by omega) (fun j c' => (∀ j' k, j' ≠ 7 → c'.1 j' k = c.1 j' k) ∧ ∀ x, j ≤ x → x ≤ h → c'.1 7 x = nI (vbN V h (h - x))) ?_ ?_ ⟨fun j' k hj => sI_ne (by omega), fun x h1 h2 => ?_⟩ (by rw [Int32.sub_eq_add_neg])
      · rintro R2 j c' hj ⟨d1, d2⟩ ih
        have e1 := d2 (j + 1) (Nat.le_refl _) (by omega)
        rw [if_neg (nI_pos (by omega)), nI_1, rdI_n (by omega) (by omega), e1, ixN_n (by omega) (by omega), (value_ok (gh j hj)).1, nI_add, wrI_n (by omega) (by omega)]
        refine ih _ ⟨fun j' k hj' => (sI_ne (by omega)).trans (d1 j' k hj'), fun x h1 h2 => ?_⟩
        by_cases e : x = j
        · subst e
          rw [sI_same]
          obtain ⟨n', hn'⟩ : ∃ n', h - x = n' + 1 := ⟨h - x - 1, by omega⟩
          rw [hn', show h - (x + 1) = n' by omega]
          show nI (vbN V h n' + wvN V x) = nI (vbN V h n' + wvN V (h - (n' + 1)))
          rw [show h - (n' + 1) = x by omega]
        · rw [sI_ne (by omega)]
          exact d2 x (by omega) h2
      · rintro R2 c' ⟨d1, d2⟩
        rw [if_pos (by decide), wrF_eq, li_1, nI_add]
        obtain ⟨st, e1, e2, e3⟩ := best_ok (V := V) (h := h) (m := m) (loss := loss) (fun x hx => (hs x hx).2) (fun _ => 0)
        have wb : ∀ b, woN V sh0 b h ≤ 719280 := fun b => by have := woN_b (sh := sh0) (b := b) gh h (Nat.le_refl h); omega
        have at_ : ∀ j k, j ≠ 7 → ¬ (j = 0 ∧ k = 11) → (sI c' 0 11 (nI (toN V h sh0 m + 1))).1 j k = c.1 j k := fun j k h1 h2 => (sI_ne h2).trans (d1 j k h1)
        have ga := giveAway_ok (P := P) (T0 := sI c' 0 11 (nI (toN V h sh0 m + 1))) (U := U1) (V := V) (loss := loss) (now := toN V h sh0 m) (wn := fun b => woN V sh0 b h) m3 h9 l9 pm ph gm gh (fun b hb => by have := wb b; omega) (fun i hi => (at_ 4 _ (by omega) (by omega)).trans (c2 i hi).2) (fun n' hn' => by rw [sI_ne (by omega), d2 (h - n') (by omega) (by omega), show h - (h - n') = n' by omega]) t3.2 (by omega) h 11 (c := sI c' 0 11 (nI (toN V h sh0 m + 1))) (k := 0) (sh := sh0) (st := (toN V h sh0 m + 1, fun _ => 0)) (Q := fun c208 => Q (c208.1 0 11) c208 U1) (by omega) (by omega) (fun _ _ _ _ _ _ _ => rfl) ⟨fun b hb => ?_, fun b hb => ?_, fun x hx => absurd hx (by omega)⟩ ⟨sI_same, by show toN V h sh0 m + 1 ≤ 10000; omega, fun y => absurd y (by show ¬ toN V h sh0 m + 1 ≤ toN V h sh0 m; omega)⟩ (Nat.le_refl _) (by rw [pt_0]; exact Nat.succ_pos _) ?_ (fun c3' f1 f2 f3 f4 => ?_)
        · rw [pt_0] at ga
          exact ga
        · rw [at_ 8 b (by omega) (by omega), (c3 b hb).1]
          show _ = nI (woN V sh0 b h) - nI loss - nI 0
          exact (Int32.sub_zero _).symm
        · rw [at_ 9 b (by omega) (by omega), (c3 b hb).2, all_f.2]
          rfl
        · rw [← woR_sum (V := V) (h := h) (m := m) (sh := sh0) h (Nat.le_refl h) (fun x _ hx => (hs x hx).2)]
          refine sumN_le fun b hb => ?_
          have := wo_split (V := V) (h := h) (sh := sh0) (b := b) h (Nat.le_refl h)
          rw [Nat.sub_self] at this
          have z0 : woN V sh0 b 0 = 0 := rfl
          show woN V sh0 b h - (loss + woN V sh0 b 0) ≤ woR V h sh0 b h
          omega
        · rw [e1] at f3
          obtain ⟨g1, g2, g3⟩ := f3
          have fr : ∀ j k, j ≠ 3 → j ≠ 4 → j ≠ 5 → j ≠ 6 → j ≠ 7 → j ≠ 8 → j ≠ 9 → ¬ (j = 0 ∧ k = 11) → c3'.1 j k = T1.1 j k := fun j k x3 x4 x5 x6 x7 x8 x9 x0 => by
            rw [f1 j k x5 x6 x8 x9 x0, at_ j k x7 x0]
            exact c1 j k x3 x4 x8 x9
          have q8 : c3'.1 0 8 = 1 := (fr 0 8 (by omega) (by omega) (by omega) (by omega) (by omega) (by omega) (by omega) (by omega)).trans t2
          have q10 : c3'.1 0 10 = nI loss := by
            rw [fr 0 10 (by omega) (by omega) (by omega) (by omega) (by omega) (by omega) (by omega) (by omega), t1 0 10 (by omega) (by omega) (by omega), sI_same]
          have r34 : ∀ i, i < h → c3'.1 3 i = nI (sq V h i) ∧ c3'.1 4 (sq V h i) = nI i := fun i hi => by
            rw [f1 3 i (by omega) (by omega) (by omega) (by omega) (by omega), f1 4 _ (by omega) (by omega) (by omega) (by omega) (by omega), at_ 3 i (by omega) (by omega), at_ 4 _ (by omega) (by omega)]
            exact c2 i hi
          rw [g1]
          exact hQ c3' U1 st.1 st.2 e2 ⟨Or.inr ⟨q8, r34, t3.2⟩, Or.inr ⟨loss, st.1, st.2, l9, q10, e2, g1, g3 e3⟩⟩ (g3 e3)
      · have : x = h := by omega
        subst this
        rw [sI_same, Nat.sub_self]
        rfl
  · have z := Classical.not_not.mp z
    rcases tok.2 with a | ⟨loss', B, S, a1, a2, a3, a4, a5⟩
    · rw [a] at z
      have := z.symm
      rw [m1_ne (by omega)] at this
      exact this.elim
    · have e : loss' = loss := (nI_eq (by omega) (by omega)).mp (a2.symm.trans z)
      subst e
      rw [a4]
      exact hQ T U B S a3 tok a5
theorem CO.cw (g : CO H P K I M l q f m h D n) : ∀ x, x < h → K.1 1 x = nI (cwN K h x) ∧ M.1 44 x = nI (cwN K h x) ∧ cwN K h x < m := fun x hx => by
  have wh := g.whose x hx
  have m3 := g.2.2.1.1.1.2.2.2.1
  have : cwN K h x = whN M x := by
    unfold cwN
    rw [if_pos hx, wh.1.1, nv_n (by omega)]
  rw [this]
  exact ⟨wh.1.1, wh.1.2, wh.2⟩
theorem g_swap (g : CO H P K I M l q f m h D n) (tok : TOK T U (clV M) m h (cwN K h)) : k_X11_swap H P K T U a1 a2 fun x T' U' => k_X12_swap M a1 a2 fun y M' => x = y ∧ MA M M' ∧ TOK T' U' (clV M) m h (cwN K h) := by
  obtain ⟨⟨m3, h9⟩, gm, gh, pm, ph, v37, v38, pv⟩ := g.plan
  have cw := g.cw
  unfold k_X11_swap
  rw [pm]
  have no : ∀ Q : Int32 → CT → Prop, Q (-1) (sI M 0 0 0) → (m = 0 ∨ a1 < 0 ∨ 9999 < a1 ∨ a2 < 0 ∨ ¬ a2 ≤ nI h) → k_X12_swap M a1 a2 Q := fun Q hQ c => by
    unfold k_X12_swap
    rw [wrF_eq, v37, v38]
    refine ite_b (fun _ => hQ) fun z1 => ite_b (fun _ => hQ) fun z2 => ite_b (fun _ => hQ) fun z3 => ite_b (fun _ => hQ) fun z4 => ?_
    refine ite_b (fun z5 => ?_) fun _ => hQ
    exfalso
    rcases c with c | c | c | c | c
    · exact z1 (by rw [c]; rfl)
    · exact z2 c
    · exact z3 c
    · exact z4 c
    · exact c z5
  refine ite_b (fun z1 => no _ ⟨rfl, MA.th, tok⟩ (Or.inl ((nI_eq (b := 0) (by omega) (by omega)).mp z1))) fun z1 => ite_b (fun z2 => no _ ⟨rfl, MA.th, tok⟩ (Or.inr (Or.inl z2))) fun z2 => ite_b (fun z3 => no _ ⟨rfl, MA.th, tok⟩ (Or.inr (Or.inr (Or.inl z3)))) fun z3 => ite_b (fun z4 => no _ ⟨rfl, MA.th, tok⟩ (Or.inr (Or.inr (Or.inr (Or.inl z4))))) fun z4 => ?_
  rw [ph]
  refine ite_b (fun z5 => ?_) fun z5 => no _ ⟨rfl, MA.th, tok⟩ (Or.inr (Or.inr (Or.inr (Or.inr z5))))
  have m0 : 0 < m := by
    apply Nat.pos_of_ne_zero
    intro z
    exact z1 (by rw [z]; rfl)
  obtain ⟨loss, hl, rfl⟩ := nI_of z2
  obtain ⟨w, hw, rfl⟩ := nI_of z4
  rw [li_9999, nI_lt' (by omega) (by omega)] at z3
  rw [nI_le' (by omega) (by omega)] at z5
  refine findSwap_ok m3 h9 (by omega) pm ph gm gh (fun x hx => ⟨(cw x hx).1, (cw x hx).2.2⟩) tok fun T' U' B S e1 e2 e3 => ?_
  have R : ∀ x : Int32, x = (if w = 0 then nI B else nI (S (w - 1))) → k_X12_swap M (nI loss) (nI w) fun y M' => x = y ∧ MA M M' ∧ TOK T' U' (clV M) m h (cwN K h) := fun x ex => swapR_ok m0 m3 h9 (by omega) z5 v37 v38 pv gm gh (fun x hx => (cw x hx).2) e1 fun c ma => ⟨ex, ma, e2⟩
  rw [jn_eq]
  by_cases wz : w = 0
  · subst wz
    rw [if_neg (fun z => z rfl)]
    exact R _ (if_pos rfl).symm
  · rw [if_pos (show nI w ≠ 0 from fun z => wz ((nI_eq (b := 0) (by omega) (by omega)).mp z)), li_1, pk_sub (by omega)]
    unfold k_X9_swapMan
    rw [jn_eq, if_neg (nI_pos (by omega)), li_10, if_neg (nI_ge (by omega) (by omega)), rdI_n (by omega) (by omega), e3 _ (by omega)]
    exact R _ (if_neg wz).symm
end FSw
