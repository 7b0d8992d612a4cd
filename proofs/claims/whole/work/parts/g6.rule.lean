/-! ===== reading: the rules' lines, steps of both sides (tools/gen18.py) ===== -/
def rkI (x : Int32) : Int32 := if x = 16 then 3 else (if x = 17 then 1 else (if x = 18 then 2 else (if x = 30 then 4 else (if x = 31 then 4 else (if x = 32 then 4 else (if x = 33 then 4 else (if x = 34 then 4 else (if x = 35 then 4 else (if x = 36 then 5 else (if x = 37 then 5 else (if x = 38 then 6 else (if x = 39 then 6 else (0)))))))))))))
theorem rank_eq {x : Int32} {Q : Int32 → Prop} : k_X7_rank x Q = Q (rkI x) := by
  unfold k_X7_rank rkI
  by_cases h16 : x = 16
  · rw [if_pos h16, if_pos h16]
  rw [if_neg h16, if_neg h16]
  by_cases h17 : x = 17
  · rw [if_pos h17, if_pos h17]
  rw [if_neg h17, if_neg h17]
  by_cases h18 : x = 18
  · rw [if_pos h18, if_pos h18]
  rw [if_neg h18, if_neg h18]
  by_cases h30 : x = 30
  · rw [if_pos h30, if_pos h30]
  rw [if_neg h30, if_neg h30]
  by_cases h31 : x = 31
  · rw [if_pos h31, if_pos h31]
  rw [if_neg h31, if_neg h31]
  by_cases h32 : x = 32
  · rw [if_pos h32, if_pos h32]
  rw [if_neg h32, if_neg h32]
  by_cases h33 : x = 33
  · rw [if_pos h33, if_pos h33]
  rw [if_neg h33, if_neg h33]
  by_cases h34 : x = 34
  · rw [if_pos h34, if_pos h34]
  rw [if_neg h34, if_neg h34]
  by_cases h35 : x = 35
  · rw [if_pos h35, if_pos h35]
  rw [if_neg h35, if_neg h35]
  by_cases h36 : x = 36
  · rw [if_pos h36, if_pos h36]
  rw [if_neg h36, if_neg h36]
  by_cases h37 : x = 37
  · rw [if_pos h37, if_pos h37]
  rw [if_neg h37, if_neg h37]
  by_cases h38 : x = 38
  · rw [if_pos h38, if_pos h38]
  rw [if_neg h38, if_neg h38]
  by_cases h39 : x = 39
  · rw [if_pos h39, if_pos h39]
  rw [if_neg h39, if_neg h39]
def rkN (k : Nat) : Nat := if k = 16 then 3 else if k = 17 then 1 else if k = 18 then 2 else if 30 ≤ k ∧ k ≤ 35 then 4 else if k = 36 ∨ k = 37 then 5 else if k = 38 ∨ k = 39 then 6 else 0
theorem rk_all : ∀ k : Fin 64, rkI (nI k.val) = nI (rkN k.val) := by decide
theorem rk_le (k : Nat) : rkN k ≤ 6 := by
  unfold rkN
  repeat' split
  all_goals omega
theorem rank_ok {k : Nat} {Q : Int32 → Prop} (hk : k < 64) (hQ : Q (nI (rkN k))) : k_X7_rank (nI k) Q := by
  rw [rank_eq, rk_all ⟨k, hk⟩]
  exact hQ
/-- the class's waiting signs, the latest last -/
def STK (R : CT) (L : List Nat) : Prop := R.1 0 13 = nI L.length ∧ L.length ≤ 72 ∧ (∀ x ∈ L, x < 64) ∧ ∀ j x, L[j]? = some x → R.1 4 j = nI x
section RuleS
variable {P R c M : CT} {T : Nat → T4} {K n i u ne : Nat} {L : List Nat}
theorem STK.cg {R' : CT} (h : STK R L) (e : R'.1 0 13 = R.1 0 13) (e4 : ∀ k, R'.1 4 k = R.1 4 k) : STK R' L := ⟨e.trans h.1, h.2.1, h.2.2.1, fun j x hx => (e4 j).trans (h.2.2.2 j x hx)⟩
theorem STK.top {x : Nat} (h : STK R (L ++ [x])) : R.1 4 L.length = nI x := h.2.2.2 _ _ (by rw [List.getElem?_append_right (Nat.le_refl _), Nat.sub_self]; rfl)
theorem STK.pop {x : Nat} (h : STK R (L ++ [x])) : STK (sI R 0 13 (nI L.length)) L := by
  obtain ⟨a, b, c, d⟩ := h
  rw [List.length_append] at a b
  refine ⟨sI_same, by omega, fun y hy => c y (List.mem_append_left _ hy), fun j y hy => ?_⟩
  rw [sI_ne (by omega)]
  have hj : j < L.length := by
    rcases Nat.lt_or_ge j L.length with q | q
    · exact q
    · rw [List.getElem?_eq_none q] at hy
      exact absurd hy (by simp)
  exact d j y (by rw [List.getElem?_append_left hj]; exact hy)
theorem STK.push {x : Nat} (h : STK R L) (h7 : L.length < 72) (hx : x < 64) : STK (sI (sI R 4 L.length (nI x)) 0 13 (nI (L.length + 1))) (L ++ [x]) := by
  obtain ⟨a, b, c, d⟩ := h
  have ll : (L ++ [x]).length = L.length + 1 := by rw [List.length_append]; rfl
  refine ⟨by rw [sI_same, ll], by omega, fun y hy => ?_, fun j y hy => ?_⟩
  · rcases List.mem_append.mp hy with q | q
    · exact c y q
    · rw [List.mem_singleton.mp q]
      exact hx
  · rw [sI_ne (by omega)]
    by_cases e : j = L.length
    · subst e
      rw [List.getElem?_append_right (Nat.le_refl _), Nat.sub_self] at hy
      have : x = y := by simpa using hy
      rw [sI_same, this]
    · rw [sI_ne (by omega)]
      have hj : j < L.length := by
        rcases Nat.lt_or_ge j L.length with q | q
        · exact q
        · rw [List.getElem?_eq_none (by omega)] at hy
          exact absurd hy (by simp)
      rw [List.getElem?_append_left hj] at hy
      exact d j y hy
/-- the class's reader with other waiting signs stands where it stood -/
theorem RDc.w {R' : CT} (h : RDc R T K n i) (e : ∀ j k, ¬ (j = 4 ∨ (j = 0 ∧ (k = 13 ∨ k = 14))) → R'.1 j k = R.1 j k) : RDc R' T K n i := by
  obtain ⟨a, b, c, d, f, g, k⟩ := h
  exact ⟨a.mv fun j k z => e j k (by omega), b, (e _ _ (by omega)).trans c, (e _ _ (by omega)).trans d, by rw [e 0 9 (by omega), e 3 i (by omega)]; exact f, (e _ _ (by omega)).trans g, (e _ _ (by omega)).trans k⟩
theorem await_ok {x : Nat} {Q : Int32 → CT → Prop} (h : STK R L) (h7 : L.length < 72) (hQ : Q 1 (sI (sI R 4 L.length (nI x)) 0 13 (nI (L.length + 1)))) : k_X7_await R (nI x) Q := by
  unfold k_X7_await
  rw [h.1, if_pos (by rw [li_72, nI_lt' (by omega) (by omega)]; exact h7), wrI_n (by omega) (by omega), wrF_eq, sI_ne (by omega), h.1, inc_n]
  exact hQ
theorem latest_0 {Q : Int32 → Prop} (h : STK R []) (hQ : Q (nI 28)) : k_X7_latestWaiting R Q := by
  unfold k_X7_latestWaiting
  rw [jn_eq, h.1, if_pos (by decide)]
  exact hQ
theorem latest_s {x : Nat} {Q : Int32 → Prop} (h : STK R (L ++ [x])) (hQ : Q (nI x)) : k_X7_latestWaiting R Q := by
  have t := h.top
  obtain ⟨a, b, -⟩ := h
  rw [List.length_append] at a b
  have a : R.1 0 13 = nI (L.length + 1) := a
  have b : L.length + 1 ≤ 72 := b
  unfold k_X7_latestWaiting
  rw [jn_eq, a, if_neg (by rw [li_0, nI_le' (by omega) (by omega)]; omega), sub1_n (by omega), Nat.add_sub_cancel, rdI_n (by omega) (by omega), t]
  exact hQ
/-- one knot of the class -/
def ad1 (P : CT) (u ne : Nat) (x : Int32) : CT := sI (sI P (11 + 2 * u + 1) ne x) (11 + 2 * u) 0 (nI (ne + 1))
theorem add_ok {x : Int32} {Q : CT → Prop} (h : P.1 (11 + 2 * u) 0 = nI ne) (h6 : ne < 64) (hQ : Q (ad1 P u ne x)) : k_X2_add P u x Q := by
  unfold k_X2_add
  rw [h, if_neg (by rw [li_64, nI_le' (by omega) (by omega)]; omega), wrI_n (by omega) (by omega), wrF_eq, sI_ne (by omega), h, inc_n]
  exact hQ
theorem ad1_0 {x : Int32} : (ad1 P u ne x).1 (11 + 2 * u) 0 = nI (ne + 1) := sI_same
/-- signs settled, the latest first -/
def adL (P : CT) (u : Nat) : Nat → List Nat → CT
  | _, [] => P
  | ne, x :: r => adL (ad1 P u ne (-1 - nI x)) u (ne + 1) r
def stB (u : Nat) (a2 : Int32) (Q : CT → CT → Prop) (R12 : Int32 → CT → CT → Prop) (v9 : Int32) (c10 c11 : CT) : Prop := (if v9 ≤ (0 : Int32) then Q c10 c11 else rdI c11 4 72 (v9 - (1 : Int32)) (fun t21 => k_X7_rank t21 (fun t23 => (if t23 ≤ a2 then Q c10 c11 else rdI c11 4 72 (v9 - (1 : Int32)) (fun t24 => k_X2_add c10 u ((-1 : Int32) - t24) (fun c26 => wrF c11 0 13 ((c11.1 0 13) - (1 : Int32)) (fun c27 => R12 (v9 + (-1)) c26 c27)))))))
theorem settle_ok {a : Nat} {Q : CT → CT → Prop} (a6 : a < 64) : ∀ (p : List Nat) (P R : CT) (ne : Nat), STK R (L ++ p.reverse) → P.1 (11 + 2 * u) 0 = nI ne → ne + p.length ≤ 64 → (∀ x ∈ p, a < rkN x) → (∀ L' x, L = L' ++ [x] → rkN x ≤ a) → (∀ R', (p ≠ [] → R'.1 0 13 = nI L.length) → (∀ j k, ¬ (j = 0 ∧ k = 13) → R'.1 j k = R.1 j k) → STK R' L → Q (adL P u ne p) R') → LP3 (stB u (nI a) Q) (nI (L.length + p.length)) P R
  | [], P, R, ne, hs, h0, h6, hr, hl, hQ => by
    intro S hS
    refine hS _ _ _ ?_
    unfold stB
    rw [List.reverse_nil, List.append_nil] at hs
    have fin := hQ R (fun y => absurd rfl y) (fun _ _ _ => rfl) hs
    rcases List.eq_nil_or_concat L with e | ⟨L', x, e⟩
    · rw [if_pos (by rw [e]; decide)]
      exact fin
    · rw [List.concat_eq_append] at e
      have ll : L.length = L'.length + 1 := by rw [e, List.length_append]; rfl
      have hs' := hs
      rw [e] at hs'
      have l7 := hs.2.1
      have x6 : x < 64 := hs'.2.2.1 x (List.mem_append_right _ (List.mem_singleton.mpr rfl))
      have lz : L.length + ([] : List Nat).length = L'.length + 1 := ll
      rw [lz, if_neg (by rw [li_0, nI_le' (by omega) (by omega)]; omega), sub1_n (by omega), Nat.add_sub_cancel, rdI_n (by omega) (by omega), hs'.top]
      refine rank_ok x6 ?_
      have := rk_le x
      have := hl L' x e
      rw [if_pos (by rw [nI_le' (by omega) (by omega)]; omega)]
      exact fin
  | x :: r, P, R, ne, hs, h0, h6, hr, hl, hQ => by
    intro S hS
    refine hS _ _ _ ?_
    unfold stB
    rw [List.reverse_cons, ← List.append_assoc] at hs
    have l7 := hs.2.1
    rw [List.length_append] at l7
    have lr : (L ++ r.reverse).length = L.length + r.length := by rw [List.length_append, List.length_reverse]
    have l7 : L.length + r.length + 1 ≤ 72 := by
      rw [lr] at l7
      exact l7
    have top := hs.top
    rw [lr] at top
    have x6 : x < 64 := hs.2.2.1 x (List.mem_append_right _ (List.mem_singleton.mpr rfl))
    have s13 : R.1 0 13 = nI (L.length + r.length + 1) := by
      have := hs.1
      rw [List.length_append, lr] at this
      exact this
    have pl := hs.pop
    rw [lr] at pl
    have lz : L.length + (x :: r).length = L.length + r.length + 1 := by
      rw [List.length_cons]
      omega
    rw [lz]
    have rx := rk_le x
    have ra := hr x (List.mem_cons_self)
    have h6' : ne + (r.length + 1) ≤ 64 := h6
    rw [if_neg (by rw [li_0, nI_le' (by omega) (by omega)]; omega), sub1_n (by omega), Nat.add_sub_cancel, rdI_n (by omega) (by omega), top]
    refine rank_ok x6 ?_
    rw [if_neg (by rw [nI_le' (by omega) (by omega)]; omega), rdI_n (by omega) (by omega), top]
    refine add_ok h0 (by omega) ?_
    rw [wrF_eq, s13, sub1_n (by omega), Nat.add_sub_cancel, m1_add]
    refine settle_ok a6 r (ad1 P u ne (-1 - nI x)) (sI R 0 13 (nI (L.length + r.length))) (ne + 1) pl ad1_0 (by omega) (fun y hy => hr y (List.mem_cons_of_mem _ hy)) hl (fun R' q1 q2 q3 => hQ R' (fun _ => q3.1) (fun j k z => (q2 j k z).trans (sI_ne (by omega))) q3) S hS
theorem settle_s {a : Nat} {Q : CT → CT → Prop} {p : List Nat} (a6 : a < 64) (hs : STK R (L ++ p.reverse)) (h0 : P.1 (11 + 2 * u) 0 = nI ne) (h6 : ne + p.length ≤ 64) (hr : ∀ x ∈ p, a < rkN x) (hl : ∀ L' x, L = L' ++ [x] → rkN x ≤ a) (hQ : ∀ R', (∀ j k, ¬ (j = 0 ∧ k = 13) → R'.1 j k = R.1 j k) → STK R' L → Q (adL P u ne p) R') : k_X7_settle P R u (nI a) Q := by
  unfold k_X7_settle
  rw [vK_eq, hs.1, List.length_append, List.length_reverse]
  exact settle_ok a6 p P R ne hs h0 h6 hr hl fun R' _ q2 q3 => hQ R' q2 q3
/-! the reference's knots -/
theorem knot_s {k : Nat} {Q : CT → Prop} (h : RDr M c T n i) (h8 : c.1 0 58 = nI k) (hk : k < 64) (hQ : Q (sI c 0 58 (nI (k + 1)))) : k_X12_knot c Q := by
  unfold k_X12_knot
  rw [if_pos h.2.2.2.2.1, h8, if_pos (by rw [li_64, Ne, nI_eq' (by omega) (by omega)]; omega), wrF_eq, inc_n]
  exact hQ
theorem knot_f {Q : CT → Prop} (h : RDr M c T n i) (h8 : c.1 0 58 = nI 64) (hQ : Q (flt c 2)) : k_X12_knot c Q := by
  unfold k_X12_knot
  rw [if_pos h.2.2.2.2.1, h8, if_neg (fun y => y rfl)]
  exact wrong_s h hQ
theorem knot_x {k p : Int32} {Q : CT → Prop} (g : FLr M c k p) (hk : k ≠ 0) (hQ : Q c) : k_X12_knot c Q := by
  unfold k_X12_knot
  rw [if_neg (by rw [g.2.1]; exact hk)]
  exact hQ
theorem puts_s {N : Nat} {a b : Int32} {Q : CT → Prop} (h : RDr M c T n i) (h7 : c.1 0 57 = nI N) (hN : N < 64) (hQ : Q (sI (sU (sU c 31 N a) 32 N b) 0 57 (nI (N + 1)))) : k_X12_puts c a b Q := by
  unfold k_X12_puts
  rw [if_pos h.2.2.2.2.1, h7]
  refine wr_u (j := 31) rfl (show 64 + N < 128 by omega) (by omega) ?_
  rw [sU_ne (by omega), h7]
  refine wr_u (j := 32) rfl (show 64 + N < 128 by omega) (by omega) ?_
  rw [wrF_eq, sU_ne (by omega), sU_ne (by omega), h7, inc_n]
  exact hQ
theorem puts_x {k p a b : Int32} {Q : CT → Prop} (g : FLr M c k p) (hk : k ≠ 0) (hQ : Q c) : k_X12_puts c a b Q := by
  unfold k_X12_puts
  rw [if_neg (by rw [g.2.1]; exact hk)]
  exact hQ
theorem isSign_x {k p a : Int32} {Q : Int32 → Prop} (g : FLr M c k p) (hk : k ≠ 0) (hn : Q 0) : k_X12_isSign c a Q := by
  unfold k_X12_isSign
  rw [g.2.1, if_neg (fun z => z.1 hk), rZ_0]
  exact hn
/-- in fault every level of the descent leaves things as they are -/
theorem ex_x {k p : Int32} (hk : k ≠ 0) : ∀ (f lv : Nat) {c : CT} {Q : CT → Prop}, 6 ≤ f + lv → lv ≤ 5 → FLr M c k p → Q c → kg2_X12_expression f lv c Q
  | 0, lv, c, Q, h1, h2, g, q => absurd h1 (by omega)
  | f + 1, 0, c, Q, h1, h2, g, q => by
    unfold kg2_X12_expression
    refine ex_x hk f 1 (by omega) (by omega) g ?_
    intro S hS
    refine hS _ ?_
    refine isWord_x g hk ?_
    rw [if_pos rfl]
    exact q
  | f + 1, 1, c, Q, h1, h2, g, q => by
    unfold kg2_X12_expression
    refine ex_x hk f 2 (by omega) (by omega) g ?_
    intro S hS
    refine hS _ ?_
    refine isWord_x g hk ?_
    rw [if_pos rfl]
    exact q
  | f + 1, 2, c, Q, h1, h2, g, q => by
    unfold kg2_X12_expression
    refine isWord_x g hk ?_
    rw [if_pos rfl]
    refine ex_x hk f 3 (by omega) (by omega) g ?_
    rw [jn_eq, if_pos (by rw [g.2.1]; exact hk)]
    exact q
  | f + 1, 3, c, Q, h1, h2, g, q => by
    unfold kg2_X12_expression
    refine ex_x hk f 4 (by omega) (by omega) g ?_
    intro S hS
    refine hS _ ?_
    dsimp only
    rw [jn_eq]
    refine isSign_x g hk ?_
    rw [if_neg fun y => y rfl]
    refine isSign_x g hk ?_
    rw [if_pos rfl]
    exact q
  | f + 1, 4, c, Q, h1, h2, g, q => by
    unfold kg2_X12_expression
    refine ex_x hk f 5 (by omega) (by omega) g ?_
    intro S hS
    refine hS _ ?_
    dsimp only
    rw [jn_eq]
    refine isSign_x g hk ?_
    rw [if_neg fun y => y rfl]
    refine isSign_x g hk ?_
    rw [if_pos rfl]
    exact q
  | f + 1, 5, c, Q, h1, h2, g, q => by
    show (if (c.1 0 66) = (0 : Int32) then _ else Q c)
    rw [if_neg (by rw [g.2.1]; exact hk)]
    exact q
  | f + 1, lv + 6, c, Q, h1, h2, g, q => absurd h2 (by omega)
end RuleS
