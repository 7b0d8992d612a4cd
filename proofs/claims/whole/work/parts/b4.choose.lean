/-! ===== the class chooses its row ===== -/
def RWr (c : CT) (f : Nat) (ms : Nat → Nat) (lad : Nat → Bool) (cd : Nat → Nat) (b : Nat) (r : List Nat) : Prop := c.1 1 f = nI r.length ∧ c.1 5 f = nI (b + (r.map fun i => if lad i = true then 6 else 3).sum) ∧ c.1 6 f = nI (polS ms lad 0 r) ∧ ∀ j, j < r.length → c.1 7 (12 * f + j) = nI (cd (r.getD j 0))
theorem take_ok {F : CT} {f r m pl cd ps : Nat} {lad : Bool} {a2 : Int32} {Q : CT → Prop} (hf : f < 5) (h1 : F.1 1 f = nI r) (hr : r < 12) (h5 : F.1 5 f = nI m) (h6 : F.1 6 f = nI pl) (hp : ps < 4096) (h2 : a2 = if lad = true then 1 else 0) (hQ : Q (sI (sI (sI (sI F 7 (12 * f + r) (nI cd)) 1 f (nI (r + 1))) 5 f (nI (m + if lad = true then 6 else 3))) 6 f (nI (pl + if lad = true then 0 else pop 12 ps)))) : k_X1_take F (nI f) a2 (nI cd) (nI ps) Q := by
  unfold k_X1_take
  subst h2
  rw [rdI_n (by omega) (by omega), h1, li_12, if_pos (nI_lt hr (by omega)), rdI_n (by omega) (by omega), h1, pk_mul, nI_add, wrI_n (by omega) (by omega), rdI_n (by omega) (by omega), sI_ne (by omega), h1, nI_1, wrI_n (by omega) (by omega), rdI_n (by omega) (by omega), sI_ne (by omega), sI_ne (by omega), h5]
  rw [Nat.mul_comm f 12]
  cases lad with
  | true =>
    rw [if_pos rfl, if_pos (by decide), li_6, nI_add, wrI_n (by omega) (by omega), rdI_n (by omega) (by omega), sI_ne (by omega), sI_ne (by omega), sI_ne (by omega), h6, jn_eq, if_neg (by decide)]
    dsimp only
    rw [Int32.add_zero, wrI_n (by omega) (by omega)]
    exact hQ
  | false =>
    rw [if_neg (by decide), if_neg (by decide), li_3, nI_add, wrI_n (by omega) (by omega), rdI_n (by omega) (by omega), sI_ne (by omega), sI_ne (by omega), sI_ne (by omega), h6, jn_eq, if_pos rfl]
    refine bitCount_ok hp ?_
    dsimp only
    rw [nI_add, wrI_n (by omega) (by omega)]
    exact hQ
theorem RWr.app {c : CT} {f b i : Nat} {ms : Nat → Nat} {lad : Nat → Bool} {cd : Nat → Nat} {r : List Nat} (g : RWr c f ms lad cd b r) : RWr (sI (sI (sI (sI c 7 (12 * f + r.length) (nI (cd i))) 1 f (nI (r.length + 1))) 5 f (nI (b + (r.map fun i => if lad i = true then 6 else 3).sum + if lad i = true then 6 else 3))) 6 f (nI (polS ms lad 0 r + if lad i = true then 0 else pop 12 (dif (ms i) (orR ms r))))) f ms lad cd b (r ++ [i]) := by
  obtain ⟨g1, g2, g3, g4⟩ := g
  refine ⟨?_, ?_, ?_, fun j hj => ?_⟩
  · rw [sI_ne (by omega), sI_ne (by omega), sI_same, List.length_append, List.length_singleton]
  · rw [sI_ne (by omega), sI_same, List.map_append, List.sum_append, List.map_singleton, List.sum_singleton, Nat.add_assoc]
  · rw [sI_same, polS_app, Nat.zero_or]
  · rw [List.length_append, List.length_singleton] at hj
    rw [sI_ne (by omega), sI_ne (by omega), sI_ne (by omega)]
    by_cases e : j = r.length
    · subst e
      rw [sI_same, List.getD_eq_getElem?_getD, List.getElem?_concat_length]
      rfl
    · rw [sI_ne (by omega), List.getD_eq_getElem?_getD, List.getElem?_append_left (by omega), ← List.getD_eq_getElem?_getD]
      exact g4 j (by omega)
def RWk (F0 : CT) (f : Nat) (ms : Nat → Nat) (lad : Nat → Bool) (cd : Nat → Nat) (N i : Nat) (s : Int32) (c : CT) : Prop :=
  s = nI (grS ms (famN ms N) (orN ms N) i).1 ∧ (∀ j k, ¬ ((j = 1 ∨ j = 5 ∨ j = 6) ∧ k = f) → ¬ (j = 7 ∧ 12 * f ≤ k ∧ k < 12 * f + 12) → c.1 j k = F0.1 j k) ∧ RWr c f ms lad cd (2 * pop 12 (orN ms N)) (grS ms (famN ms N) (orN ms N) i).2
theorem ms_ltp {P V : VW} {l f tools i : Nat} {held : Bool} (g : PFro P V f) : msS V l f tools held i < 2 ^ nv (V 12 f) := by
  have pp := Nat.two_pow_pos (nv (V 12 f))
  unfold msS cvS
  split
  · split
    · cases rchS V l (i / (9 * nv (V 8 f))) (i % 9 + 1) with
      | none => exact pp
      | some y => exact bm_lt _ _
    · exact pp
  · exact pp
/-- one setting looked at -/
theorem rwk_step {F0 c : CT} {f N i p : Nat} {ms : Nat → Nat} {lad : Nat → Bool} {cd : Nat → Nat} {s a2 : Int32} {R : Int32 → CT → Prop} (hf : f < 5) (hp : p ≤ 12) (hms : ∀ i, ms i < 2 ^ p) (hi : i < N) (g : RWk F0 f ms lad cd N i s c) (tb : ∀ s, s < 2 ^ p → F0.1 13 s = nI (lst (famN ms N) (s &&& orN ms N))) (h2 : a2 = if lad i = true then 1 else 0) (hR : ∀ s' c', RWk F0 f ms lad cd N (i + 1) s' c' → R s' c') :
    if s &&& nI (ms i) = 0 then R s c else rdI c 13 4096 (s &&& ((s &&& nI (ms i)) ^^^ (-1 : Int32))) (fun t91 => rdI c 13 4096 s (fun t93 => (if t91 ≠ (t93 - (1 : Int32)) then R s c else k_X1_take c (nI f) a2 (nI (cd i)) (s &&& nI (ms i)) (fun c96 => R (s &&& ((s &&& nI (ms i)) ^^^ (-1 : Int32))) c96)))) := by
  have pl : 2 ^ p ≤ 2 ^ 12 := Nat.pow_le_pow_right (by omega) hp
  have hA : orN ms N < 2 ^ p := or_lt hms N
  obtain ⟨rfl, g2, g3⟩ := g
  have sub := gr_sub (ms := ms) (fam := famN ms N) (A := orN ms N) i
  have ll : (grS ms (famN ms N) (orN ms N) i).1 < 2 ^ p := sbs_lt sub hA
  have mi := hms i
  have al : (grS ms (famN ms N) (orN ms N) i).1 &&& ms i < 2 ^ p := Nat.lt_of_le_of_lt Nat.and_le_left ll
  rw [and_n (by omega) (by omega), dif_n (by omega) (by omega), dif_and]
  have tb' : ∀ x, sbs x (orN ms N) → c.1 13 x = nI (lst (famN ms N) x) := fun x hx => by
    rw [g2 13 x (by omega) (by omega), tb x (sbs_lt hx hA)]
    congr 2
    apply Nat.eq_of_testBit_eq
    intro k
    rw [Nat.testBit_and]
    cases e : x.testBit k with
    | false => rfl
    | true => rw [hx k e]; rfl
  have dl : dif (grS ms (famN ms N) (orN ms N) i).1 (ms i) < 2 ^ p := dif_lt ll
  have k1 := tb' _ sub
  have k2 := tb' _ ((sbs_dif _ (ms i)).trans sub)
  obtain ⟨m, m1, m2, m3⟩ := lstB sub (by omega)
  obtain ⟨m', n1, n2, n3⟩ := lstB ((sbs_dif _ (ms i)).trans sub) (by omega)
  by_cases hz : (grS ms (famN ms N) (orN ms N) i).1 &&& ms i = 0
  · rw [hz, if_pos (show nI 0 = 0 from rfl)]
    refine hR _ _ ?_
    have e := gr_n (ms := ms) (fam := famN ms N) (A := orN ms N) (n := i) fun h => h.1 hz
    unfold RWk
    rw [e]
    exact ⟨rfl, g2, g3⟩
  · rw [if_neg (show ¬ nI _ = 0 from fun z => hz ((nI_eq (b := 0) (by omega) (by omega)).mp z)), rdI_n (by omega) (by omega), rdI_n (by omega) (by omega), k1, k2, m3, n3]
    have m0 : 1 ≤ m := m2.pos fun z => hz (by rw [z, Nat.zero_and])
    rw [li_1, pk_sub m0]
    by_cases hr : m' + 1 = m
    · have red : redS ms (famN ms N) (grS ms (famN ms N) (orN ms N) i).1 i := ⟨hz, by rw [n3, m3]; exact hr⟩
      rw [show m' = m - 1 by omega, if_neg (fun z => z rfl)]
      have gl := gr_len (ms := ms) (fam := famN ms N) (A := orN ms N) i
      obtain ⟨mA, a1, a2, a3⟩ := lstB (ms := ms) (N := N) (sbs.refl (orN ms N)) (by omega)
      rw [m3, a3] at gl
      refine take_ok hf g3.1 (by omega) g3.2.1 g3.2.2.1 (by omega) h2 ?_
      refine hR _ _ ?_
      have e := gr_y red
      unfold RWk
      rw [e]
      dsimp only
      have fr := g3.app (i := i)
      rw [gr_or i, left_and (ms_sub hi), ← gr_or i]
      refine ⟨rfl, fun j k h1 h2 => ?_, fr⟩
      rw [sI_ne (by omega), sI_ne (by omega), sI_ne (by omega), sI_ne (by omega)]
      exact g2 j k h1 h2
    · rw [if_pos (show nI m' ≠ nI (m - 1) from fun z => hr (by have := (nI_eq (by omega) (by omega)).mp z; omega))]
      refine hR _ _ ?_
      have e := gr_n (ms := ms) (fam := famN ms N) (A := orN ms N) (n := i) fun h => hr (by have := h.2; rw [n3, m3] at this; exact this)
      unfold RWk
      rw [e]
      exact ⟨rfl, g2, g3⟩
theorem chooseRow_ok {P F : CT} {V : VW} {l q f tools : Nat} {held : Bool} {Q : CT → Prop} (T : TLS P.1 V l q) (g : PFro P.1 V f) (hf : f < 5) (L : FLk F V l q f tools held) (h4 : F.1 4 f = nI (orN (msS V l f tools held) (((l + q) * nv (V 8 f)) * 9)))
    (tb : ∀ s, s < 2 ^ nv (V 12 f) → F.1 13 s = nI (lst (famN (msS V l f tools held) (((l + q) * nv (V 8 f)) * 9)) (s &&& orN (msS V l f tools held) (((l + q) * nv (V 8 f)) * 9)))) (hQ : ∀ s c, RWk F f (msS V l f tools held) (ladS V l f) (codeS V f) (((l + q) * nv (V 8 f)) * 9) (((l + q) * nv (V 8 f)) * 9) s c → Q c) : k_X1_chooseRow P F (nI (nv (V 8 f))) (nI f) Q := by
  have l4 := T.1.1
  have q3 := T.1.2.1
  have ml := fun i => ms_ltp (l := l) (tools := tools) (held := held) (i := i) g
  have hw : nv (V 8 f) ≤ 12 ∧ nv (V 12 f) ≤ 12 := by
    obtain ⟨-, w, u, p, b, s, hw, -, hp, -, -, ⟨e8, -, e12, -⟩, -⟩ := g
    rw [e8, e12, nv_n (by omega), nv_n (by omega)]
    omega
  obtain ⟨hw, hp⟩ := hw
  have pl : 2 ^ nv (V 12 f) ≤ 2 ^ 12 := Nat.pow_le_pow_right (by omega) hp
  generalize hN : ((l + q) * nv (V 8 f)) * 9 = N at h4 tb hQ
  have hA : orN (msS V l f tools held) N < 2 ^ nv (V 12 f) := or_lt ml N
  have mv : ∀ {i s c}, RWk F f (msS V l f tools held) (ladS V l f) (codeS V f) N i s c → FLk c V l q f tools held := fun h => L.mv fun j k hj => h.2.1 j k (by omega) (by omega)
  unfold k_X1_chooseRow
  rw [rdI_n (by omega) (by omega), h4, wrI_n (by omega) (by omega), wrI_n (by omega) (by omega)]
  refine bitCount_ok (by omega) ?_
  rw [li_2, pk_mul, wrI_n (by omega) (by omega)]
  refine upl3 (N := l + q) (a := 0) (by omega) (fun t s c => RWk F f (msS V l f tools held) (ladS V l f) (codeS V f) N ((t * nv (V 8 f)) * 9) s c) ?_ ?_ (by omega) ?_
  · intro R t s c _ ht hi ih
    rw [total_eq T, if_neg (nI_ge ht (by omega))]
    refine upl3 (N := nv (V 8 f)) (a := 0) (by omega) (fun k s c => RWk F f (msS V l f tools held) (ladS V l f) (codeS V f) N ((t * nv (V 8 f) + k) * 9) s c) ?_ ?_ (by omega) hi
    · intro R2 k s c _ hk hi2 ih2
      rw [if_neg (nI_ge hk (by omega))]
      refine upl3 (N := 10) (a := 1) (by omega) (fun d s c => RWk F f (msS V l f tools held) (ladS V l f) (codeS V f) N ((t * nv (V 8 f) + k) * 9 + (d - 1)) s c) ?_ ?_ (by omega) hi2
      · intro R3 d s c h1 h10 hi3 ih3
        have bd : (t + 1) * nv (V 8 f) ≤ (l + q) * nv (V 8 f) := Nat.mul_le_mul (by omega) (Nat.le_refl _)
        rw [Nat.add_mul, Nat.one_mul] at bd
        have ed : (t * nv (V 8 f) + k) * 9 + (d + 1 - 1) = (t * nv (V 8 f) + k) * 9 + (d - 1) + 1 := by omega
        obtain ⟨x1, x2, x3⟩ := ix_div (t := t) (e := d - 1) hk (by omega)
        rw [li_9, if_neg (by rw [nI_lt' (by omega) (by omega)]; omega), panesOf_eq T g (mv hi3) ht hk h1 (by omega), vK_eq, nI_1]
        have cde : codeS V f ((t * nv (V 8 f) + k) * 9 + (d - 1)) = t + 16 * k + 256 * d := by
          unfold codeS
          rw [x1, x2, x3, Nat.sub_add_cancel h1]
        have step := rwk_step (R := fun s' c' => R3 s' (nI (d + 1)) c') (a2 := if t < l then 1 else 0) hf hp ml (by omega) hi3 tb (by unfold ladS; rw [x1]; by_cases hl : t < l <;> simp [hl]) (fun s' c' h => ih3 s' c' (by rw [ed]; exact h))
        rw [cde] at step
        have fin : ∀ {s v : Int32} {c : CT} {K : Int32 → CT → Prop}, (if v = 0 then K s c else rdI c 13 4096 (s &&& (v ^^^ (-1 : Int32))) (fun t91 => rdI c 13 4096 s (fun t93 => (if t91 ≠ (t93 - (1 : Int32)) then K s c else k_X1_take c (nI f) (if t < l then 1 else 0) (nI (t + 16 * k + 256 * d)) v (fun c96 => K (s &&& (v ^^^ (-1 : Int32))) c96))))) → (if v = (0 : Int32) then K s c else rdI c 13 4096 (s &&& (v ^^^ (-1 : Int32))) (fun t91 => rdI c 13 4096 s (fun t93 => (if t91 ≠ (t93 - (1 : Int32)) then K s c else k_X8_isLadder P (nI t) (fun t95 => k_X1_take c (nI f) t95 ((nI t + ((16 : Int32) * nI k)) + ((256 : Int32) * nI d)) v (fun c96 => vK (s &&& (v ^^^ (-1 : Int32))) (fun v97 => K v97 c96))))))) := by
          intro s v c K h
          have e1 : ∀ (b : CT → Prop), k_X8_isLadder P (nI t) (fun t95 => k_X1_take c (nI f) t95 ((nI t + ((16 : Int32) * nI k)) + ((256 : Int32) * nI d)) v b) = k_X1_take c (nI f) (if t < l then 1 else 0) (nI (t + 16 * k + 256 * d)) v b := fun b => by
            rw [isLadP T (by omega), li_16, pk_mul, nI_add, li_256, pk_mul, nI_add]
          have e2 : (fun c96 => vK (s &&& (v ^^^ (-1 : Int32))) (fun v97 => K v97 c96)) = fun c96 => K (s &&& (v ^^^ (-1 : Int32))) c96 := by
            funext c96
            rw [vK_eq]
          rw [e2, e1]
          exact h
        exact fin (K := fun s' c' => R3 s' (nI (d + 1)) c') step
      · intro R3 s c hi3
        rw [li_9, if_pos (by rw [nI_lt' (by omega) (by omega)]; omega), nI_1]
        refine ih2 _ _ ?_
        have ed : (t * nv (V 8 f) + (k + 1)) * 9 = (t * nv (V 8 f) + k) * 9 + (10 - 1) := by omega
        rw [ed]
        exact hi3
    · intro R2 s c hi2
      rw [if_pos (Int32.le_refl _), nI_1]
      refine ih _ _ ?_
      rw [Nat.add_mul, Nat.one_mul]
      exact hi2
  · intro R s c hi
    rw [total_eq T, if_pos (Int32.le_refl _)]
    rw [hN] at hi
    exact hQ s c hi
  · rw [Nat.zero_mul, Nat.zero_mul]
    refine ⟨rfl, fun j k h1 h2 => ?_, ?_, ?_, ?_, fun j hj => absurd hj (by show ¬ j < 0; omega)⟩
    · rw [sI_ne (by omega), sI_ne (by omega), sI_ne (by omega)]
    · rw [sI_ne (by omega), sI_ne (by omega), sI_same]
      rfl
    · rw [sI_same]
      rfl
    · rw [sI_ne (by omega), sI_same]
      rfl
