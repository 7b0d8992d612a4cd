/-! ===== shortest ways: the stops ===== -/
def stL (S : Nat) : Nat → List Nat
  | 0 => []
  | k + 1 => if S.testBit k = true then stL S k ++ [k] else stL S k
theorem stL_s {S k : Nat} : stL S (k + 1) = if S.testBit k = true then stL S k ++ [k] else stL S k := rfl
theorem stL_len (S : Nat) : ∀ k, (stL S k).length = pop k S
  | 0 => rfl
  | k + 1 => by
    rw [stL_s]
    show _ = pop k S + (if S.testBit k = true then 1 else 0)
    by_cases z : S.testBit k = true
    · rw [if_pos z, if_pos z, List.length_append, List.length_singleton, stL_len S k]
    · rw [if_neg z, if_neg z, stL_len S k, Nat.add_zero]
theorem stL_at {S y : Nat} (hy : S.testBit y = true) : ∀ k, y < k → (stL S k).getD (pop y S) 0 = y ∧ pop y S < pop k S
  | 0, h => absurd h (by omega)
  | k + 1, h => by
    rw [stL_s]
    show _ ∧ pop y S < pop k S + (if S.testBit k = true then 1 else 0)
    by_cases e : y = k
    · subst e
      rw [if_pos hy, if_pos hy]
      have := getD_last (r := stL S y) (x := y)
      rw [stL_len] at this
      exact ⟨this, by omega⟩
    · obtain ⟨a, b⟩ := stL_at hy k (by omega)
      by_cases z : S.testBit k = true
      · rw [if_pos z, if_pos z, getD_init (by rw [stL_len]; exact b)]
        exact ⟨a, by omega⟩
      · rw [if_neg z, if_neg z]
        exact ⟨a, by omega⟩
theorem stL_mem {S : Nat} : ∀ k, ∀ x ∈ stL S k, x < k ∧ S.testBit x = true
  | 0, x, h => by cases h
  | k + 1, x, h => by
    rw [stL_s] at h
    by_cases z : S.testBit k = true
    · rw [if_pos z] at h
      rcases List.mem_append.mp h with q | q
      · have := stL_mem k x q
        exact ⟨by omega, this.2⟩
      · have e := List.mem_singleton.mp q
        subst e
        exact ⟨by omega, z⟩
    · rw [if_neg z] at h
      have := stL_mem k x h
      exact ⟨by omega, this.2⟩
theorem pop_eq {S a : Nat} : ∀ b, a ≤ b → (∀ y, a ≤ y → y < b → S.testBit y = false) → pop b S = pop a S
  | 0, h, _ => by rw [show a = 0 by omega]
  | b + 1, h, e => by
    by_cases z : a = b + 1
    · rw [z]
    · show pop b S + (if S.testBit b = true then 1 else 0) = pop a S
      rw [pop_eq b (by omega) fun y h1 h2 => e y h1 (by omega), e b (by omega) (by omega)]
      rfl
/-- a rising row of a set's members is the set's list -/
theorem rise_uniq {S n : Nat} {T : Nat → Nat} (asc : ∀ x y, x < y → y < n → T x < T y) (mem : ∀ x, x < n → S.testBit (T x) = true) (cov : ∀ y, S.testBit y = true → ∃ x, x < n ∧ T x = y) : ∀ x, x < n → pop (T x) S = x
  | 0, h => by
    have : pop (T 0) S = pop 0 S := pop_eq _ (by omega) fun y _ h2 => by
      cases q : S.testBit y with
      | false => rfl
      | true =>
        obtain ⟨z, z1, z2⟩ := cov y q
        rcases Nat.eq_zero_or_pos z with e | e
        · rw [e] at z2
          omega
        · have := asc 0 z e z1
          omega
    rw [this]
    rfl
  | x + 1, h => by
    have ih := rise_uniq asc mem cov x (by omega)
    have lt := asc x (x + 1) (by omega) h
    have e1 : pop (T (x + 1)) S = pop (T x + 1) S := pop_eq _ (by omega) fun y h1 h2 => by
      cases q : S.testBit y with
      | false => rfl
      | true =>
        obtain ⟨z, z1, z2⟩ := cov y q
        rcases Nat.lt_or_ge z (x + 1) with e | e
        · have : T z ≤ T x := by
            by_cases w : z = x
            · rw [w]; exact Nat.le_refl _
            · exact Nat.le_of_lt (asc z x (by omega) (by omega))
          omega
        · have : T (x + 1) ≤ T z := by
            by_cases w : z = x + 1
            · rw [w]; exact Nat.le_refl _
            · exact Nat.le_of_lt (asc (x + 1) z (by omega) z1)
          omega
    rw [e1]
    show pop (T x) S + (if S.testBit (T x) = true then 1 else 0) = x + 1
    rw [if_pos (mem x (by omega)), ih]
section Gth
variable {K T M : CT} {D b h : Nat} {r : List Nat}
theorem gatherStops_ok {Q : CT → Prop} (hD : D < 200) (hb : b < 3) (hK : K.2 10 (3 * D + b) = lN (encL r)) (hl : r.length ≤ 10) (ha : ∀ a ∈ r, a < 10) (h7 : pop 10 (mskL r) ≤ 7) (hQ : ∀ T', (∀ j k, j ≠ 1 → ¬ (j = 0 ∧ k = 4) → T'.1 j k = T.1 j k) → T'.1 0 4 = nI (pop 10 (mskL r)) → (∀ x, x < pop 10 (mskL r) → T'.1 1 x = nI ((stL (mskL r) 10).getD x 0)) → Q T') : k_X9_gatherStops K T (nI b) (nI D) Q := by
  have ha2 : ∀ a ∈ r, a < 16 := fun a h => by have := ha a h; omega
  unfold k_X9_gatherStops
  refine LP2.ind (fun s v => ∃ i, i ≤ r.length ∧ v = nI i ∧ s = nI (mskL (r.take i))) (fun _ v => r.length - v.toNatClampNeg) ?_ ⟨0, by omega, rfl, rfl⟩
  rintro R s v ⟨i, hi, rfl, rfl⟩ ih
  rw [wayLength_ok hD hb hK hl ha2]
  by_cases hin : i < r.length
  · have hx := ha _ (getD_mem hin)
    rw [if_neg (nI_ge hin (by omega)), wayHouse_ok hD hb hK hl ha2 hin, shl_1 (by omega), or_n, vK_eq, nI_1]
    refine ih _ _ ⟨i + 1, by omega, rfl, ?_⟩ (by rw [nI_clamp (by omega), nI_clamp (by omega)]; omega)
    rw [take_s hin, mskL_app]
  · have e : i = r.length := by omega
    subst e
    have ml : mskL r < 2 ^ 10 := mskL_lt ha
    rw [if_pos (Int32.le_refl _), List.take_length, wrF_eq]
    generalize mskL r = S at ml h7 hQ
    refine upl2 (N := 10) (a := 0) (by omega) (fun k c => (∀ j x, j ≠ 1 → ¬ (j = 0 ∧ x = 4) → c.1 j x = T.1 j x) ∧ c.1 0 4 = nI (pop k S) ∧ ∀ x, x < pop k S → c.1 1 x = nI ((stL S k).getD x 0)) ?_ ?_ (by omega) ⟨fun j x h1 h2 => sI_ne h2, sI_same, fun x hx => absurd hx (by show ¬ x < 0; omega)⟩
    · rintro R2 k c - hk ⟨c1, c2, c3⟩ ih2
      rw [li_10, if_neg (nI_ge hk (by omega)), bit_n (by omega) (by omega), nI_1]
      have up : pop (k + 1) S ≤ pop 10 S := by
        have : ∀ j, pop (k + 1) S ≤ pop (k + 1 + j) S := by
          intro j
          induction j with
          | zero => exact Nat.le_refl _
          | succ j ih =>
            show _ ≤ pop (k + 1 + j) S + _
            omega
        have := this (10 - (k + 1))
        rw [show k + 1 + (10 - (k + 1)) = 10 by omega] at this
        exact this
      by_cases z : S.testBit k = true
      · have pk : pop (k + 1) S = pop k S + 1 := by
          show pop k S + (if S.testBit k = true then 1 else 0) = _
          rw [if_pos z]
        rw [if_pos z, if_neg (by decide), c2, li_7, if_neg (nI_ge (by omega) (by omega)), wrI_n (by omega) (by omega), sI_ne (by omega), c2, nI_1, wrF_eq]
        refine ih2 _ ⟨fun j x h1 h2 => ?_, by rw [sI_same, pk], fun x hx => ?_⟩
        · rw [sI_ne h2, sI_ne (by omega)]
          exact c1 j x h1 h2
        · rw [sI_ne (by omega), stL_s, if_pos z]
          by_cases y : x = pop k S
          · subst y
            rw [sI_same]
            have := getD_last (r := stL S k) (x := k)
            rw [stL_len] at this
            rw [this]
          · rw [sI_ne (by omega), getD_init (by rw [stL_len]; omega)]
            exact c3 x (by omega)
      · have pk : pop (k + 1) S = pop k S := by
          show pop k S + (if S.testBit k = true then 1 else 0) = _
          rw [if_neg z, Nat.add_zero]
        rw [if_neg z, if_pos rfl]
        refine ih2 _ ⟨c1, by rw [pk]; exact c2, fun x hx => ?_⟩
        rw [stL_s, if_neg z]
        exact c3 x (by omega)
    · rintro R2 c ⟨c1, c2, c3⟩
      rw [li_10, if_pos (Int32.le_refl _)]
      exact hQ c c1 c2 c3
/-- the reference puts its list in rising order -/
theorem rises_ok {Q : CT → Prop} (h101 : M.1 0 101 = nI r.length) (h54 : ∀ j, j < r.length → M.1 54 j = nI (r.getD j 0)) (hl : r.length ≤ 10) (ha : ∀ a ∈ r, a < 10) (nd : r.Nodup) (hl1 : 1 ≤ r.length) (hQ : ∀ c, (∀ j k, j ≠ 54 → c.1 j k = M.1 j k) → (∀ x, x < r.length → c.1 54 x = nI ((stL (mskL r) 10).getD x 0)) → Q c) : k_X12_rises M Q := by
  unfold k_X12_rises
  have gn : ∀ i, i < r.length → ∀ x, x < i → r.getD x 0 ≠ r.getD i 0 := fun i hi x hx e => by
    rw [List.getD_eq_getElem?_getD, List.getD_eq_getElem?_getD, List.getElem?_eq_getElem hi, List.getElem?_eq_getElem (show x < r.length by omega)] at e
    exact List.pairwise_iff_getElem.mp nd x i (by omega) hi hx e
  refine upl2 (N := r.length) (a := 1) (by omega) (fun i c => (∀ j k, j ≠ 54 → c.1 j k = M.1 j k) ∧ (∀ x, i ≤ x → x < r.length → c.1 54 x = nI (r.getD x 0)) ∧ ∃ T : Nat → Nat, (∀ x, x < i → c.1 54 x = nI (T x)) ∧ (∀ x y, x < y → y < i → T x < T y) ∧ (∀ x, x < i → ∃ z, z < i ∧ T x = r.getD z 0) ∧ ∀ z, z < i → ∃ x, x < i ∧ T x = r.getD z 0) ?_ ?_ hl1 ⟨fun _ _ _ => rfl, fun x _ h2 => h54 x h2, fun x => r.getD x 0, fun x hx => h54 x (by omega), fun x y h1 h2 => absurd h2 (by omega), fun x hx => ⟨x, hx, rfl⟩, fun z hz => ⟨z, hz, rfl⟩⟩
  · rintro R i c hi1 hi ⟨c1, c2, T, t1, t2, t3, t4⟩ ih
    have hi10 := ha _ (getD_mem hi)
    have T10 : ∀ x, x < i → T x < 10 := fun x hx => by
      obtain ⟨z, z1, z2⟩ := t3 x hx
      rw [z2]
      exact ha _ (getD_mem (by omega))
    have Tne : ∀ x, x < i → T x ≠ r.getD i 0 := fun x hx => by
      obtain ⟨z, z1, z2⟩ := t3 x hx
      rw [z2]
      exact gn i hi z z1
    rw [c1 0 101 (by omega), h101, if_neg (nI_ge hi (by omega)), rdI_n (by omega) (by omega), c2 i (Nat.le_refl _) hi]
    have fin : ∀ c2' p, p ≤ i → (∀ x, x < p → T x < r.getD i 0) → (∀ x, p ≤ x → x < i → r.getD i 0 < T x) → (∀ j x, j ≠ 54 → c2'.1 j x = M.1 j x) → (∀ x, i < x → x < r.length → c2'.1 54 x = nI (r.getD x 0)) → HOLE c2' 54 T p i → R (nI i + 1) (sI c2' 54 p (nI (r.getD i 0))) := fun c2' p hp p1 p2 f1 f2 f3 => by
      rw [nI_1]
      refine ih _ ⟨fun j x hj => (sI_ne (by omega)).trans (f1 j x hj), fun x h1 h2 => (sI_ne (by omega)).trans (f2 x (by omega) h2), insF T p (r.getD i 0), fun x hx => f3.fill hp x hx, fun x y hxy hy => ?_, fun x hx => ?_, fun z hz => ?_⟩
      · unfold insF
        by_cases a : y < p
        · rw [if_pos a, if_pos (by omega)]
          exact t2 x y hxy (by omega)
        · rw [if_neg a]
          by_cases d : y = p
          · rw [if_pos d, if_pos (by omega)]
            exact p1 x (by omega)
          · rw [if_neg d]
            by_cases e : x < p
            · rw [if_pos e]
              exact t2 x (y - 1) (by omega) (by omega)
            · rw [if_neg e]
              by_cases g : x = p
              · rw [if_pos g]
                exact p2 (y - 1) (by omega) (by omega)
              · rw [if_neg g]
                exact t2 (x - 1) (y - 1) (by omega) (by omega)
      · unfold insF
        by_cases a : x < p
        · rw [if_pos a]
          obtain ⟨z, z1, z2⟩ := t3 x (by omega)
          exact ⟨z, by omega, z2⟩
        · rw [if_neg a]
          by_cases d : x = p
          · rw [if_pos d]
            exact ⟨i, by omega, rfl⟩
          · rw [if_neg d]
            obtain ⟨z, z1, z2⟩ := t3 (x - 1) (by omega)
            exact ⟨z, by omega, z2⟩
      · unfold insF
        by_cases e : z = i
        · exact ⟨p, by omega, by rw [if_neg (by omega), if_pos rfl, e]⟩
        · obtain ⟨x, x1, x2⟩ := t4 z (by omega)
          by_cases a : x < p
          · exact ⟨x, by omega, by rw [if_pos a]; exact x2⟩
          · exact ⟨x + 1, by omega, by rw [if_neg (by omega), if_neg (by omega), Nat.add_sub_cancel]; exact x2⟩
    refine LP2.ind (fun v c' => ∃ p, p ≤ i ∧ v = nI p ∧ (∀ x, p ≤ x → x < i → r.getD i 0 < T x) ∧ (∀ j x, j ≠ 54 → c'.1 j x = M.1 j x) ∧ (∀ x, i < x → x < r.length → c'.1 54 x = nI (r.getD x 0)) ∧ HOLE c' 54 T p i) (fun v _ => v.toNatClampNeg) ?_ ⟨i, Nat.le_refl _, rfl, fun x h1 h2 => by omega, c1, fun x h1 h2 => c2 x (by omega) h2, t1, fun x h1 h2 => by omega⟩
    rintro R2 v c' ⟨p, hp, rfl, p2, f1, f2, f3⟩ ih2
    cases p with
    | zero =>
      rw [if_pos (show nI 0 ≤ 0 from by decide), wrI_n (by omega) (by omega)]
      exact fin c' 0 hp (fun x hx => absurd hx (by omega)) p2 f1 f2 f3
    | succ p =>
      have hT := T10 p (by omega)
      have hn := Tne p (by omega)
      rw [if_neg (nI_nle (by omega) (by omega)), nI_pred, rdI_n (by omega) (by omega), f3.1 p (by omega)]
      by_cases z : T p ≤ r.getD i 0
      · rw [if_pos (nI_le z (by omega)), wrI_n (by omega) (by omega)]
        refine fin c' (p + 1) hp (fun x hx => ?_) p2 f1 f2 f3
        by_cases e : x = p
        · rw [e]; omega
        · have := t2 x p (by omega) (by omega)
          omega
      · rw [if_neg (by rw [nI_le' (by omega) (by omega)]; exact z), rdI_n (by omega) (by omega), f3.1 p (by omega), wrI_n (by omega) (by omega), m1_add]
        refine ih2 _ _ ⟨p, by omega, rfl, fun x h1 h2 => ?_, fun j x hj => (sI_ne (by omega)).trans (f1 j x hj), fun x h1 h2 => (sI_ne (by omega)).trans (f2 x h1 h2), f3.down (by omega)⟩ (by rw [nI_clamp (by omega), nI_clamp (by omega)]; omega)
        by_cases e : x = p
        · rw [e]; omega
        · exact p2 x (by omega) h2
  · rintro R c ⟨c1, c2, T, t1, t2, t3, t4⟩
    rw [c1 0 101 (by omega), h101, if_pos (Int32.le_refl _)]
    refine hQ c c1 fun x hx => ?_
    rw [t1 x hx]
    have mem : ∀ x, x < r.length → (mskL r).testBit (T x) = true := fun x hx => by
      obtain ⟨z, z1, z2⟩ := t3 x hx
      rw [mskL_bit, z2]
      exact decide_eq_true (getD_mem z1)
    have cov : ∀ y, (mskL r).testBit y = true → ∃ x, x < r.length ∧ T x = y := fun y hy => by
      rw [mskL_bit] at hy
      obtain ⟨z, z1, z2⟩ := mem_getD (of_decide_eq_true hy)
      obtain ⟨x, x1, x2⟩ := t4 z z1
      exact ⟨x, x1, x2.trans z2⟩
    have u := rise_uniq t2 mem cov x hx
    obtain ⟨z, z1, z2⟩ := t3 x hx
    have lt : T x < 10 := by
      rw [z2]
      exact ha _ (getD_mem z1)
    have := (stL_at (mem x hx) 10 lt).1
    rw [u] at this
    rw [this]
/-- as many stops as houses -/
theorem pop_msk : ∀ (r : List Nat), r.Nodup → (∀ a ∈ r, a < 10) → pop 10 (mskL r) = r.length
  | [], _, _ => pop_0 10
  | a :: r, nd, h => by
    obtain ⟨na, nd⟩ := List.nodup_cons.mp nd
    have ih := pop_msk r nd fun x hx => h x (List.mem_cons_of_mem _ hx)
    have bit : (mskL (a :: r)).testBit a = true := by
      rw [mskL_bit]
      exact decide_eq_true List.mem_cons_self
    have rm := pop_rm bit 10 (h a List.mem_cons_self)
    have e : dif (mskL (a :: r)) (2 ^ a) = mskL r := by
      apply Nat.eq_of_testBit_eq
      intro k
      rw [dif_bit, mskL_bit, mskL_bit, Nat.testBit_two_pow]
      by_cases z : a = k
      · subst z
        rw [decide_eq_true (show a = a from rfl), decide_eq_false na]
        simp
      · have : ¬ k = a := fun e => z e.symm
        simp [z, this]
    rw [e, ih] at rm
    rw [List.length_cons]
    omega
end Gth
