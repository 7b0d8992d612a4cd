/-! ===== swaps: the class ===== -/
def GA (V : VW) (h m loss : Nat) (wn : Nat → Nat) (c : CT) (sh : Nat → Nat) (k : Nat) : Prop := (∀ b, b < m → c.1 8 b = nI (wn b) - nI loss - nI (woN V sh b k)) ∧ (∀ b, b < m → c.1 9 b = nI (rmN V h sh b k)) ∧ ∀ x, x < k → c.1 6 x = nI (sh x)
def SWO (h now : Nat) (c : CT) (st : Nat × (Nat → Nat)) : Prop := c.1 0 11 = nI st.1 ∧ st.1 ≤ 10000 ∧ (st.1 ≤ now → ∀ x, x < h → c.1 5 x = nI (st.2 x))
def FRT (T c : CT) : Prop := ∀ j k, j ≠ 5 → j ≠ 6 → j ≠ 8 → j ≠ 9 → ¬ (j = 0 ∧ k = 11) → c.1 j k = T.1 j k
theorem sub_back (x : Int32) (w v : Nat) : x - nI (w + v) + nI v = x - nI w := by
  rw [← nI_add, ← i32_ss, Int32.sub_add_cancel]
section GvA
variable {P T0 U : CT} {V : VW} {f m h loss now : Nat} {wn : Nat → Nat}
theorem allLacks_ok {c : CT} {sh : Nat → Nat} {k : Nat} {Q : Int32 → Prop} (m3 : m ≤ 3) (pm : P.1 0 2 = nI m) (l9 : loss ≤ 9999) (hw : ∀ b, b < m → wn b ≤ 800000 ∧ woN V sh b k ≤ 800000) (r8 : ∀ b, b < m → c.1 8 b = nI (wn b) - nI loss - nI (woN V sh b k)) (hQ : Q (nI (lkN V loss wn sh k m))) : k_X9_allLacks P c Q := by
  unfold k_X9_allLacks
  refine LP2.ind (fun s v => ∃ b, b ≤ m ∧ v = nI b ∧ s = nI (lkN V loss wn sh k b)) (fun _ v => m - v.toNatClampNeg) ?_ ⟨0, by omega, rfl, rfl⟩
  rintro R s v ⟨b, hb, rfl, rfl⟩ ih
  rw [pm]
  by_cases hin : b < m
  · have := hw b hin
    rw [if_neg (nI_ge hin (by omega)), rdI_n (by omega) (by omega), r8 b hin, i32_ss, nI_add, mx_sub (by omega) (by omega), nI_add, vK_eq, nI_1]
    exact ih _ _ ⟨b + 1, by omega, rfl, rfl⟩ (by rw [nI_clamp (by omega), nI_clamp (by omega)]; omega)
  · have e : b = m := by omega
    subst e
    rw [if_pos (Int32.le_refl _)]
    exact hQ
theorem giveAway_ok (m3 : m ≤ 3) (h9 : h ≤ 10) (l9 : loss ≤ 9999) (pm : P.1 0 2 = nI m) (ph : P.1 0 3 = nI h) (gm : ∀ b, b < m → PMan P.1 V b) (gh : ∀ i, i < h → PHou P.1 V f m i) (hwn : ∀ b, b < m → wn b ≤ 800000) (r4 : ∀ i, i < h → T0.1 4 (sq V h i) = nI i) (r7 : ∀ n, n ≤ h → T0.1 7 (h - n) = nI (vbN V h n)) (ut : ∀ b, b < m → UTB U V h b h) (hnow : now ≤ 9000) :
    ∀ (n F : Nat) {c : CT} {k : Nat} {sh : Nat → Nat} {st : Nat × (Nat → Nat)} {Q : CT → Prop}, n ≤ F → k + n = h → FRT T0 c → GA V h m loss wn c sh k → SWO h now c st → (st.1 ≤ now + 1) → ptN V h sh k m < st.1 → lkN V loss wn sh k m ≤ vbN V h n → (∀ c', FRT T0 c' → GA V h m loss wn c' sh k → SWO h now c' (swpF (upC V h loss wn m) m h n sh st) → (swpF (upC V h loss wn m) m h n sh st).1 ≤ st.1 → Q c') → k_X9_giveAway (F + 1) P c U (nI k) (nI (ptN V h sh k m)) Q := by
  intro n
  induction n with
  | zero =>
    intro F c k sh st Q hF hk fr ga sw sn pt lk hQ
    have ek : k = h := by omega
    subst ek
    have up : swpF (upC V k loss wn m) m k 0 sh st = (toN V k sh m, sh) := by
      show upC V k loss wn m st sh = _
      unfold upC
      refine if_pos (Bool.and_eq_true_iff.mpr ⟨va_t.mpr fun b hb => ?_, decide_eq_true (by rw [toN_pt]; exact pt)⟩)
      have lk : lkN V loss wn sh k m ≤ 0 := lk
      have := sumN_at (f := fun b => wn b - (loss + woN V sh b k)) hb
      unfold lkN at lk
      omega
    rw [up] at hQ
    have tb := toN_b (sh := sh) gm gh h9 m (Nat.le_refl m)
    unfold k_X9_giveAway
    rw [ph, if_neg (Int32.lt_irrefl), wrF_eq]
    refine upl2 (N := k) (a := 0) (by omega) (fun i c' => (∀ j x, j ≠ 5 → ¬ (j = 0 ∧ x = 11) → c'.1 j x = c.1 j x) ∧ c'.1 0 11 = nI (toN V k sh m) ∧ ∀ x, x < i → c'.1 5 x = nI (sh x)) ?_ ?_ (by omega) ⟨fun j x h1 h2 => sI_ne h2, by rw [sI_same, toN_pt], fun x hx => absurd hx (by omega)⟩
    · rintro R i c' - hi ⟨d1, d2, d3⟩ ih
      rw [if_neg (nI_ge hi (by omega)), rdI_n (by omega) (by omega), d1 6 i (by omega) (by omega), ga.2.2 i hi, wrI_n (by omega) (by omega), nI_1]
      refine ih _ ⟨fun j x h1 h2 => (sI_ne (by omega)).trans (d1 j x h1 h2), (sI_ne (by omega)).trans d2, fun x hx => ?_⟩
      by_cases e : x = i
      · subst e
        rw [sI_same]
      · rw [sI_ne (by omega)]
        exact d3 x (by omega)
    · rintro R c' ⟨d1, d2, d3⟩
      rw [if_pos (Int32.le_refl _)]
      refine hQ c' (fun j x h5 h6 h8 h9' h0 => (d1 j x h5 h0).trans (fr j x h5 h6 h8 h9' h0)) ⟨fun b hb => (d1 8 b (by omega) (by omega)).trans (ga.1 b hb), fun b hb => (d1 9 b (by omega) (by omega)).trans (ga.2.1 b hb), fun x hx => (d1 6 x (by omega) (by omega)).trans (ga.2.2 x hx)⟩ ⟨d2, by show toN V k sh m ≤ 10000; omega, fun _ => d3⟩ ?_
      show toN V k sh m ≤ st.1
      rw [toN_pt]
      omega
  | succ n ihn =>
    intro F c k sh st Q hF hk fr ga sw sn pt lk hQ
    obtain ⟨F', rfl⟩ : ∃ F', F = F' + 1 := ⟨F - 1, by omega⟩
    obtain ⟨i, hi, ei⟩ := sq_surj V h k (by omega)
    have r4k : T0.1 4 k = nI i := by rw [← ei]; exact r4 i hi
    have ph10 : 2 ^ h ≤ 2 ^ 10 := Nat.pow_le_pow_right (by decide) h9
    have pi : 2 ^ i < 2 ^ h := Nat.pow_lt_pow_right (by decide) hi
    have wv := (value_ok (Q := fun _ => True) (gh k (by omega))).2
    rw [swpF_s, show h - (n + 1) = k by omega] at hQ
    unfold k_X9_giveAway
    rw [ph, if_pos (nI_lt (show k < h by omega) (by omega)), ixN_n (by omega) (by omega), (value_ok (gh k (by omega))).1, rdI_n (by omega) (by omega), fr 4 k (by omega) (by omega) (by omega) (by omega) (by omega), r4k, shl_1 (by omega), vK_eq]
    refine upl2 (N := m) (a := 0) (by omega) (fun b c' => FRT T0 c' ∧ GA V h m loss wn c' sh k ∧ SWO h now c' (fo (fun b st => swpF (upC V h loss wn m) m h n (setF sh k b) st) b st) ∧ (fo (fun b st => swpF (upC V h loss wn m) m h n (setF sh k b) st) b st).1 ≤ st.1) ?_ ?_ (by omega) ⟨fr, ga, sw, Nat.le_refl _⟩
    · rintro R b c' - hb ⟨d1, d2, d3, d4⟩ ihb
      generalize hst : fo (fun b st => swpF (upC V h loss wn m) m h n (setF sh k b) st) b st = sb at d3 d4
      have hb10 : nI b <<< ((10 : Int32) &&& 31) = nI (1024 * b) := by
        rw [li_10, shl_n (by omega) (by omega), Nat.mul_comm]
      have rl := rm_lt (V := V) (h := h) (sh := sh) (b := b) (k := k)
      have rs := rm_s (V := V) (sh := sh) (b := b) hi ei
      have rl2 : rmN V h sh b k ||| 2 ^ i < 2 ^ h := Nat.or_lt_two_pow rl pi
      have u1 := ut b hb _ rl
      have u2 := ut b hb _ rl2
      rw [tr_rm] at u1
      rw [← rs, tr_rm] at u2
      have po := pt_one (V := V) (h := h) (sh := sh) (k := k) (hbm := hb)
      have oldle : trN V h b (pdk V h sh b k) ≤ ptN V h sh k m := sumN_at (f := fun b => trN V h b (pdk V h sh b k)) hb
      have nb := trN_b (p := pdk V h (setF sh k b) b (k + 1)) (gm b hb) gh
      have ew : woN V (setF sh k b) b (k + 1) = woN V sh b k + wvN V k := wo_s
      have wok : ∀ b', woN V sh b' k ≤ 719280 := fun b' => by have := woN_b (sh := sh) (b := b') gh k (by omega); omega
      have wok' : ∀ b', woN V (setF sh k b) b' (k + 1) ≤ 719280 := fun b' => by have := woN_b (sh := setF sh k b) (b := b') gh (k + 1) (by omega); omega
      have l8 : c'.1 8 b - nI (wvN V k) = nI (wn b) - nI loss - nI (woN V (setF sh k b) b (k + 1)) := by
        rw [d2.1 b hb, ew, i32_ss, nI_add]
      rw [pm, if_neg (nI_ge hb (by omega)), hb10, vK_eq, rdI_n (by omega) (by omega), d2.2.1 b hb, nI_add, rdI_n (by omega) (by omega), u1, rdI_n (by omega) (by omega), d2.2.1 b hb, or_n, nI_add, rdI_n (by omega) (by omega), ← rs, u2, pk_sub oldle, nI_add, vK_eq, rdI_n (by omega) (by omega), wrI_n (by omega) (by omega), l8]
      have ept : ptN V h sh k m - trN V h b (pdk V h sh b k) + trN V h b (pdk V h (setF sh k b) b (k + 1)) = ptN V h (setF sh k b) (k + 1) m := by omega
      have ptb : ptN V h sh k m ≤ 10000 := by omega
      rw [ept]
      have c8 : ∀ b', b' < m → (sI c' 8 b (nI (wn b) - nI loss - nI (woN V (setF sh k b) b (k + 1)))).1 8 b' = nI (wn b') - nI loss - nI (woN V (setF sh k b) b' (k + 1)) := fun b' hb' => by
        by_cases e : b' = b
        · subst e
          rw [sI_same]
        · rw [sI_ne (by omega), wo_o e]
          exact d2.1 b' hb'
      have pb : ptN V h (setF sh k b) (k + 1) m ≤ 20000 := by omega
      refine jn_of (fun J => ∀ c2, FRT T0 c2 → (∀ b', b' < m → c2.1 8 b' = nI (wn b') - nI loss - nI (woN V (setF sh k b) b' (k + 1))) → (∀ b', b' < m → c2.1 9 b' = nI (rmN V h sh b' k)) → (∀ x, x < k → c2.1 6 x = nI (sh x)) → SWO h now c2 (swpF (upC V h loss wn m) m h n (setF sh k b) sb) → (swpF (upC V h loss wn m) m h n (setF sh k b) sb).1 ≤ sb.1 → J c2) ?_ ?_
      · intro c2 e1 e2 e3 e4 e5 e6
        rw [rdI_n (by omega) (by omega), e2 b hb, ew, sub_back, wrI_n (by omega) (by omega), nI_1]
        refine ihb _ ⟨fun j x h5 h6 h8 h9' h0 => (sI_ne (by omega)).trans (e1 j x h5 h6 h8 h9' h0), ⟨fun b' hb' => ?_, fun b' hb' => (sI_ne (by omega)).trans (e3 b' hb'), fun x hx => (sI_ne (by omega)).trans (e4 x hx)⟩, ?_, ?_⟩
        · by_cases e : b' = b
          · subst e
            rw [sI_same]
          · rw [sI_ne (by omega), e2 b' hb', wo_o e]
        · rw [fo_s, hst]
          exact ⟨(sI_ne (by omega)).trans e5.1, e5.2.1, fun z x hx => (sI_ne (by omega)).trans (e5.2.2 z x hx)⟩
        · rw [fo_s, hst]
          omega
      · intro J hJ
        have same : FRT T0 (sI c' 8 b (nI (wn b) - nI loss - nI (woN V (setF sh k b) b (k + 1)))) := fun j x h5 h6 h8 h9' h0 => (sI_ne (by omega)).trans (d1 j x h5 h6 h8 h9' h0)
        have s9 : ∀ b', b' < m → (sI c' 8 b (nI (wn b) - nI loss - nI (woN V (setF sh k b) b (k + 1)))).1 9 b' = nI (rmN V h sh b' k) := fun b' hb' => (sI_ne (by omega)).trans (d2.2.1 b' hb')
        have s6 : ∀ x, x < k → (sI c' 8 b (nI (wn b) - nI loss - nI (woN V (setF sh k b) b (k + 1)))).1 6 x = nI (sh x) := fun x hx => (sI_ne (by omega)).trans (d2.2.2 x hx)
        have ssw : SWO h now (sI c' 8 b (nI (wn b) - nI loss - nI (woN V (setF sh k b) b (k + 1)))) sb := ⟨(sI_ne (by omega)).trans d3.1, d3.2.1, fun z x hx => (sI_ne (by omega)).trans (d3.2.2 z x hx)⟩
        have skip : (sb.1 ≤ ptN V h (setF sh k b) (k + 1) m ∨ vbN V h n < lkN V loss wn (setF sh k b) (k + 1) m) → J (sI c' 8 b (nI (wn b) - nI loss - nI (woN V (setF sh k b) b (k + 1)))) := fun z => by
          have pr := prune (V := V) (h := h) (m := m) (loss := loss) (wn := wn) (sh := setF sh k b) (k := k + 1) (n := n) (st := sb) (by omega) z
          refine hJ _ same c8 s9 s6 ?_ ?_
          · rw [pr]
            exact ssw
          · rw [pr]
            exact Nat.le_refl _
        rw [ssw.1]
        by_cases z : sb.1 ≤ ptN V h (setF sh k b) (k + 1) m
        · rw [if_pos (nI_le z (by omega))]
          exact skip (Or.inl z)
        · rw [if_neg (by rw [nI_le' (by have := d3.2.1; omega) (by omega)]; exact z)]
          refine allLacks_ok (sh := setF sh k b) (k := k + 1) m3 pm l9 (fun b' hb' => ⟨hwn b' hb', by have := wok' b'; omega⟩) c8 ?_
          have q7 := r7 n (by omega)
          rw [show h - n = k + 1 by omega] at q7
          have vb7 : vbN V h n ≤ 719280 := by
            have : ∀ n, n ≤ h → vbN V h n ≤ 71928 * n := by
              intro n
              induction n with
              | zero => intro _; exact Nat.le_refl _
              | succ n ih =>
                intro hn
                have := ih (by omega)
                have := (value_ok (Q := fun _ => True) (gh (h - (n + 1)) (by omega))).2
                show vbN V h n + wvN V (h - (n + 1)) ≤ _
                omega
            have := this n (by omega)
            omega
          have lk7 : lkN V loss wn (setF sh k b) (k + 1) m ≤ 2400000 := by
            have : ∀ m', m' ≤ m → lkN V loss wn (setF sh k b) (k + 1) m' ≤ 800000 * m' := by
              intro m'
              induction m' with
              | zero => intro _; exact Nat.le_refl _
              | succ m' ih =>
                intro hm'
                have := ih (by omega)
                have := hwn m' (by omega)
                show lkN V loss wn (setF sh k b) (k + 1) m' + (wn m' - (loss + woN V (setF sh k b) m' (k + 1))) ≤ _
                omega
            have := this m (Nat.le_refl m)
            omega
          rw [nI_1, rdI_n (by omega) (by omega), same 7 (k + 1) (by omega) (by omega) (by omega) (by omega) (by omega), q7]
          by_cases y : vbN V h n < lkN V loss wn (setF sh k b) (k + 1) m
          · rw [if_pos (nI_lt y (by omega))]
            exact skip (Or.inr y)
          · rw [if_neg (nI_nlt (by omega) (by omega)), rdI_n (by omega) (by omega), s9 b hb, or_n, wrI_n (by omega) (by omega), wrI_n (by omega) (by omega), ← rs]
            refine ihn F' (k := k + 1) (sh := setF sh k b) (st := sb) (by omega) (by omega) (fun j x h5 h6 h8 h9' h0 => ?_) ⟨fun b' hb' => ?_, fun b' hb' => ?_, fun x hx => ?_⟩ ⟨?_, ssw.2.1, fun z x hx => ?_⟩ (by omega) (by omega) (by omega) fun c3 e1 e2 e3 e4 => ?_
            · rw [sI_ne (by omega), sI_ne (by omega)]
              exact same j x h5 h6 h8 h9' h0
            · rw [sI_ne (by omega), sI_ne (by omega)]
              exact c8 b' hb'
            · rw [sI_ne (by omega)]
              by_cases e : b' = b
              · subst e
                rw [sI_same]
              · rw [sI_ne (by omega), rm_o e]
                exact s9 b' hb'
            · unfold setF
              by_cases e : x = k
              · rw [if_pos e, e, sI_same]
              · rw [if_neg e, sI_ne (by omega), sI_ne (by omega)]
                exact s6 x (by omega)
            · rw [sI_ne (by omega), sI_ne (by omega)]
              exact ssw.1
            · rw [sI_ne (by omega), sI_ne (by omega)]
              exact ssw.2.2 z x hx
            · rw [rdI_n (by omega) (by omega), e2.2.1 b hb, rs, dif_n (by omega) (by omega), rm_b hi ei, wrI_n (by omega) (by omega)]
              refine hJ _ (fun j x h5 h6 h8 h9' h0 => (sI_ne (by omega)).trans (e1 j x h5 h6 h8 h9' h0)) (fun b' hb' => (sI_ne (by omega)).trans (e2.1 b' hb')) (fun b' hb' => ?_) (fun x hx => ?_) ⟨(sI_ne (by omega)).trans e3.1, e3.2.1, fun z x hx => (sI_ne (by omega)).trans (e3.2.2 z x hx)⟩ e4
              · by_cases e : b' = b
                · subst e
                  rw [sI_same]
                · rw [sI_ne (by omega), e2.2.1 b' hb', rm_o e]
              · rw [sI_ne (by omega), e2.2.2 x (by omega)]
                unfold setF
                rw [if_neg (by omega)]
    · rintro R c' ⟨d1, d2, d3, d4⟩
      rw [pm, if_pos (Int32.le_refl _)]
      exact hQ c' d1 d2 d3 d4
end GvA
