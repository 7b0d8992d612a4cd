/-! ===== reading: the rules' lines, what holds between the steps ===== -/
/-- the class's loop over a rule's tokens -/
def clB (u : Nat) (Q : Int32 → CT → CT → Prop) (R150 : Int32 → Int32 → CT → CT → Prop) (v144 : Int32) (v145 : Int32) (c148 : CT) (c149 : CT) : Prop := (if (c149.1 0 2) < v145 then k_X7_fail c149 (1 : Int32) (fun t163 c162 => rZ t163 (fun t164 => Q t164 c148 c162)) else jn (fun (c167 : CT) (c168 : CT) => vK (if ((c168.1 0 8) = (28 : Int32) ∨ ¬ ((c168.1 0 8) ≠ (16 : Int32))) then (1 : Int32) else (0 : Int32)) (fun v169 => vK (if ¬ ((c168.1 0 8) ≠ (29 : Int32)) then (1 : Int32) else (0 : Int32)) (fun v170 => jn (fun (c172 : CT) (c173 : CT) => jn (fun (t174 : Int32) => k_X7_advance c173 (fun c176 => R150 t174 (v145 + 1) c172 c176)) (fun J178 => (if v144 = (0 : Int32) then J178 (if ¬ (v170 ≠ (0 : Int32)) then (1 : Int32) else (0 : Int32)) else J178 v169))) (fun J185 => (if v144 = (0 : Int32) then k_X7_readJoint c167 c168 u (fun t208 c206 c207 => (if t208 ≠ (0 : Int32) then J185 c206 c207 else Q (0 : Int32) c206 c207)) else k_X7_readValue c167 c168 u (fun t215 c213 c214 => (if t215 = (0 : Int32) then Q (0 : Int32) c213 c214 else J185 c213 c214))))))) (fun J226 => (if v144 ≠ (0 : Int32) then J226 c148 c149 else (if (c149.1 0 14) ≠ (0 : Int32) then J226 c148 c149 else k_X7_rank (c149.1 0 8) (fun t228 => (if t228 ≠ (0 : Int32) then J226 c148 c149 else k_X7_settle c148 c149 u (0 : Int32) (fun c229 c230 => Q (1 : Int32) c229 c230)))))))
theorem rule_eq {P R : CT} {u : Nat} {Q : Int32 → CT → CT → Prop} (h : P.1 (11 + 2 * u) 0 ≤ 0) : k_X7_readRule P R u Q = k_X7_advance R (fun c127 => wrF c127 0 13 (0 : Int32) (fun c128 => wrF c128 0 14 (0 : Int32) (fun c129 => LP4 (clB u Q) 1 0 P c129))) := if_pos h
def SgV (x : Nat) (v : Int32) : Prop := (x = 16 ∧ v = 260) ∨ ∃ q ∈ signL, q.1 = x ∧ v = nI q.2
theorem SgV.kn {x : Nat} {v : Int32} (h : SgV x v) : KnR (-1 - nI x) 2 v := by
  rcases h with ⟨rfl, rfl⟩ | ⟨q, q1, q2, q3⟩
  · exact Or.inr (Or.inr (Or.inl ⟨rfl, rfl, rfl⟩))
  · exact Or.inr (Or.inr (Or.inr ⟨rfl, q, q1, by rw [q2], q3⟩))
def kS (c : CT) (a : Nat) : Nat → Int32 := fun j => uppV c 31 (a + j)
def kV (c : CT) (a : Nat) : Nat → Int32 := fun j => uppV c 32 (a + j)
/-- class and reference within a rule: W waits on both sides, the signs p wait in the class and are put already in the reference -/
def RS (P0 c0 M : CT) (T : Nat → T4) (K n u a i0 d ne k o i : Nat) (W p : List Nat) (P R c : CT) : Prop := (RDc R T K n i ∧ RDr M c T n i ∧ i0 ≤ i ∧ STK R (W ++ p.reverse)) ∧ (P.1 (11 + 2 * u) 0 = nI ne ∧ P.1 (13 - 2 * u) 0 = nI a ∧ ∀ j x, j ≠ 11 + 2 * u → j ≠ 12 + 2 * u → P.1 j x = P0.1 j x) ∧ (c.1 0 57 = nI (a + ne + p.length) ∧ c.1 0 58 = nI k ∧ c.1 0 70 = nI o ∧ R.1 0 14 = nI o) ∧ (k + o = a + ne + (W.length + p.length) ∧ k ≤ 64 ∧ o ≤ 8 ∧ o ≤ W.length) ∧ ((∀ j, j < ne → KnR (P.1 (12 + 2 * u) j) (kS c a j) (kV c a j)) ∧ (∀ j x, p[j]? = some x → kS c a (ne + j) = 2 ∧ SgV x (kV c a (ne + j)))) ∧ (dpOK (kS c a) (kV c a) (ne + p.length) ∧ dpK (kS c a) (kV c a) (ne + p.length) = d) ∧ ∀ j x, ¬ (j = 0 ∧ (x = 57 ∨ x = 58 ∨ (62 ≤ x ∧ x ≤ 67) ∨ x = 70)) → ¬ ((j = 31 ∨ j = 32) ∧ 64 + a ≤ x) → c.1 j x = c0.1 j x
theorem dp_ext {s v s' v' : Nat → Int32} {m d : Nat} (h : dpOK s v m) (hd : dpK s v m = d) (es : ∀ j, j < m → s' j = s j ∧ v' j = v j) (need : s' m = 2 → (if v' m = 260 then 1 else 2) ≤ d) : dpOK s' v' (m + 1) ∧ dpK s' v' (m + 1) = if s' m = 2 then (if v' m = 260 then d else d - 1) else d + 1 := by
  have e : ∀ j, j ≤ m → dpK s' v' j = dpK s v j := fun j hj => dpK.mv fun i hi => es i (by omega)
  refine ⟨fun j hj h2 => ?_, ?_⟩
  · by_cases z : j = m
    · subst z
      rw [e _ (Nat.le_refl _), hd]
      exact need h2
    · rw [e j (by omega), (es j (by omega)).2]
      exact h j (by omega) ((es j (by omega)).1 ▸ h2)
  · rw [dpK_s, e m (Nat.le_refl _), hd]
section RsS
variable {P0 c0 M P R c R' : CT} {T : Nat → T4} {K n u a i0 d ne k o i : Nat} {W p : List Nat}
theorem kS_f {x : Nat} {v : Int32} : kS (sI c 0 x v) a = kS c a := funext fun j => upp_f (by omega)
theorem kV_f {x : Nat} {v : Int32} : kV (sI c 0 x v) a = kV c a := funext fun j => upp_f (by omega)
theorem kS_t {t : T4} : kS (wTk c t) a = kS c a := funext fun j => upp_t (by omega)
theorem kV_t {t : T4} : kV (wTk c t) a = kV c a := funext fun j => upp_t (by omega)
/-- one knot put -/
def putK (c : CT) (N : Nat) (x y : Int32) : CT := sI (sU (sU c 31 N x) 32 N y) 0 57 (nI (N + 1))
theorem putK_S {m j : Nat} {x y : Int32} : kS (putK c (a + m) x y) a j = if j = m then x else kS c a j := by
  unfold kS putK
  rw [upp_f (by omega), upp_sn (by omega) (by omega)]
  by_cases e : j = m
  · subst e
    rw [if_pos rfl, upp_s (by omega)]
  · rw [if_neg e, upp_sn (by omega) (by omega)]
theorem putK_V {m j : Nat} {x y : Int32} : kV (putK c (a + m) x y) a j = if j = m then y else kV c a j := by
  unfold kV putK
  rw [upp_f (by omega)]
  by_cases e : j = m
  · subst e
    rw [if_pos rfl, upp_s (by omega)]
  · rw [if_neg e, upp_sn (by omega) (by omega), upp_sn (by omega) (by omega)]
theorem putK_ne {N j k' : Nat} {x y : Int32} (h : ¬ (j = 0 ∧ k' = 57)) (h' : ¬ ((j = 31 ∨ j = 32) ∧ k' = 64 + N)) : (putK c N x y).1 j k' = c.1 j k' := by
  have e1 : half 31 = 64 := rfl
  have e2 : half 32 = 64 := rfl
  unfold putK sU
  rw [sI_ne (by omega), sI_ne (by omega), sI_ne (by omega)]
theorem putK_rd {N : Nat} {x y : Int32} (h : RDr M c T n i) : RDr M (putK c N x y) T n i := ((h.u (by omega)).u (by omega)).s (nrv_0 (by omega)) (by omega)
/-- a value -/
theorem RS.val {x sv vv : Int32} (h : RS P0 c0 M T K n u a i0 d ne k o i W [] P R c) (hu : u ≤ 1) (k6 : k < 64) (hc : RDc R' T K n (i + 1)) (hw : SMW R R') (kn : KnR x sv vv) (n2 : sv ≠ 2) : RS P0 c0 M T K n u a i0 (d + 1) (ne + 1) (k + 1) o (i + 1) W [] (ad1 P u ne x) R' (wTk (putK (sI c 0 58 (nI (k + 1))) (a + ne) sv vv) (T (i + 1))) := by
  obtain ⟨⟨h1, h2, h3, h4⟩, ⟨p1, p2, p3⟩, ⟨c1, c2, c3, c4⟩, ⟨a1, a2, a3, a4⟩, ⟨k1, k2⟩, ⟨d1, d2⟩, fr⟩ := h
  have r2 : RDr M (putK (sI c 0 58 (nI (k + 1))) (a + ne) sv vv) T n i := putK_rd (h2.s (nrv_0 (by omega)) (by omega))
  have cell : ∀ j x', ¬ (j = 0 ∧ (x' = 57 ∨ x' = 58 ∨ (62 ≤ x' ∧ x' ≤ 65))) → ¬ ((j = 31 ∨ j = 32) ∧ x' = 64 + (a + ne)) → (wTk (putK (sI c 0 58 (nI (k + 1))) (a + ne) sv vv) (T (i + 1))).1 j x' = c.1 j x' := fun j x' z1 z2 => by
    rw [wTk_ne (by omega), putK_ne (by omega) z2, sI_ne (by omega)]
  have eS : ∀ j, kS (wTk (putK (sI c 0 58 (nI (k + 1))) (a + ne) sv vv) (T (i + 1))) a j = if j = ne then sv else kS c a j := fun j => by
    rw [kS_t, putK_S, kS_f]
  have eV : ∀ j, kV (wTk (putK (sI c 0 58 (nI (k + 1))) (a + ne) sv vv) (T (i + 1))) a j = if j = ne then vv else kV c a j := fun j => by
    rw [kV_t, putK_V, kV_f]
  have l0 : ([] : List Nat).length = 0 := rfl
  rw [l0] at a1
  have dd := dp_ext (s' := kS (wTk (putK (sI c 0 58 (nI (k + 1))) (a + ne) sv vv) (T (i + 1))) a) (v' := kV (wTk (putK (sI c 0 58 (nI (k + 1))) (a + ne) sv vv) (T (i + 1))) a) (m := ne) d1 d2 (fun j hj => ⟨by rw [eS, if_neg (by omega)], by rw [eV, if_neg (by omega)]⟩) (fun y => absurd (by rw [eS, if_pos rfl] at y; exact y) n2)
  rw [eS ne, if_pos rfl, if_neg n2] at dd
  refine ⟨⟨hc, r2.tk, by omega, h4.cg hw.1 hw.2.2⟩, ⟨ad1_0, (ad1_ne (by omega) (by omega)).trans p2, fun j x' z1 z2 => (ad1_ne (by omega) (by omega)).trans (p3 j x' z1 z2)⟩, ⟨?_, ?_, (cell 0 70 (by omega) (by omega)).trans c3, hw.2.1.trans c4⟩, ⟨by rw [l0]; omega, by omega, a3, a4⟩, ⟨fun j hj => ?_, fun j x' hx => ?_⟩, dd, fun j x' z1 z2 => (cell j x' (by omega) (by omega)).trans (fr j x' z1 z2)⟩
  · rw [wTk_ne (by omega)]
    unfold putK
    rw [sI_same]
    rfl
  · rw [wTk_ne (by omega), putK_ne (by omega) (by omega), sI_same]
  · rw [eS, eV]
    by_cases e : j = ne
    · subst e
      rw [if_pos rfl, if_pos rfl, ad1_at]
      exact kn
    · rw [if_neg e, if_neg e, ad1_ne (by omega) (by omega)]
      exact k1 j (by omega)
  · simp at hx
/-- signs settled in the class -/
theorem RS.adl (hu : u ≤ 1) (h : RS P0 c0 M T K n u a i0 d ne k o i W p P R c) : ((adL P u ne p).1 (11 + 2 * u) 0 = nI (ne + p.length) ∧ (adL P u ne p).1 (13 - 2 * u) 0 = nI a ∧ ∀ j x, j ≠ 11 + 2 * u → j ≠ 12 + 2 * u → (adL P u ne p).1 j x = P0.1 j x) ∧ ∀ j, j < ne + p.length → KnR ((adL P u ne p).1 (12 + 2 * u) j) (kS c a j) (kV c a j) := by
  obtain ⟨-, ⟨p1, p2, p3⟩, -, -, ⟨k1, k2⟩, -⟩ := h
  refine ⟨⟨adL_0 p P ne p1, (adL_ne p P ne (by omega) (by omega)).trans p2, fun j x z1 z2 => (adL_ne p P ne (by omega) (by omega)).trans (p3 j x z1 z2)⟩, fun j hj => ?_⟩
  by_cases e : j < ne
  · rw [adL_ne p P ne (by omega) (by omega)]
    exact k1 j e
  · obtain ⟨q, rfl⟩ : ∃ q, j = ne + q := ⟨j - ne, by omega⟩
    have hq : q < p.length := by omega
    obtain ⟨y1, y2⟩ := k2 q p[q] (List.getElem?_eq_getElem hq)
    rw [adL_at p P ne (List.getElem?_eq_getElem hq), y1]
    exact y2.kn
/-- a joint: p is settled, s waits -/
theorem RS.jnt {s : Nat} (h : RS P0 c0 M T K n u a i0 d ne k o i W p P R c) (hu : u ≤ 1) (k6 : k < 64) (hc : RDc R' T K n (i + 1)) (hw : STK R' (W ++ [s])) (ho : R'.1 0 14 = R.1 0 14) : RS P0 c0 M T K n u a i0 d (ne + p.length) (k + 1) o (i + 1) (W ++ [s]) [] (adL P u ne p) R' (wTk (sI c 0 58 (nI (k + 1))) (T (i + 1))) := by
  have ad := h.adl hu
  obtain ⟨⟨h1, h2, h3, h4⟩, ⟨p1, p2, p3⟩, ⟨c1, c2, c3, c4⟩, ⟨a1, a2, a3, a4⟩, ⟨k1, k2⟩, ⟨d1, d2⟩, fr⟩ := h
  have ls : (W ++ [s]).length = W.length + 1 := by rw [List.length_append]; rfl
  have l0 : ([] : List Nat).length = 0 := rfl
  have cell : ∀ j x', ¬ (j = 0 ∧ (x' = 58 ∨ (62 ≤ x' ∧ x' ≤ 65))) → (wTk (sI c 0 58 (nI (k + 1))) (T (i + 1))).1 j x' = c.1 j x' := fun j x' z1 => by
    rw [wTk_ne (by omega), sI_ne (by omega)]
  refine ⟨⟨hc, (h2.s (nrv_0 (by omega)) (by omega)).tk, by omega, by rw [List.reverse_nil, List.append_nil]; exact hw⟩, ad.1, ⟨?_, ?_, (cell 0 70 (by omega)).trans c3, ho.trans c4⟩, ⟨by rw [l0, ls]; omega, by omega, a3, by rw [ls]; omega⟩, ⟨fun j hj => ?_, fun j x' hx => ?_⟩, ?_, fun j x' z1 z2 => (cell j x' (by omega)).trans (fr j x' z1 z2)⟩
  · rw [cell 0 57 (by omega), c1, l0, Nat.add_zero, Nat.add_assoc]
  · rw [wTk_ne (by omega), sI_same]
  · rw [kS_t, kS_f, kV_t, kV_f]
    exact ad.2 j hj
  · simp at hx
  · rw [kS_t, kS_f, kV_t, kV_f, l0]
    exact ⟨d1, d2⟩
/-- a bracket opens -/
theorem RS.opn (h : RS P0 c0 M T K n u a i0 d ne k o i W [] P R c) (o8 : o < 8) (hc : RDc R' T K n (i + 1)) (hw : STK R' (W ++ [28])) (ho : R'.1 0 14 = nI (o + 1)) : RS P0 c0 M T K n u a i0 d ne k (o + 1) (i + 1) (W ++ [28]) [] P R' (wTk (sI c 0 70 (nI (o + 1))) (T (i + 1))) := by
  obtain ⟨⟨h1, h2, h3, h4⟩, pp, ⟨c1, c2, c3, c4⟩, ⟨a1, a2, a3, a4⟩, ⟨k1, k2⟩, ⟨d1, d2⟩, fr⟩ := h
  have ls : (W ++ [28]).length = W.length + 1 := by rw [List.length_append]; rfl
  have l0 : ([] : List Nat).length = 0 := rfl
  have cell : ∀ j x', ¬ (j = 0 ∧ (x' = 70 ∨ (62 ≤ x' ∧ x' ≤ 65))) → (wTk (sI c 0 70 (nI (o + 1))) (T (i + 1))).1 j x' = c.1 j x' := fun j x' z1 => by
    rw [wTk_ne (by omega), sI_ne (by omega)]
  refine ⟨⟨hc, (h2.s (nrv_0 (by omega)) (by omega)).tk, by omega, by rw [List.reverse_nil, List.append_nil]; exact hw⟩, pp, ⟨(cell 0 57 (by omega)).trans c1, (cell 0 58 (by omega)).trans c2, ?_, ho⟩, ⟨by rw [l0] at a1 ⊢; rw [ls]; omega, by omega, by omega, by rw [ls]; omega⟩, ⟨fun j hj => ?_, fun j x' hx => ?_⟩, ?_, fun j x' z1 z2 => (cell j x' (by omega)).trans (fr j x' z1 z2)⟩
  · rw [wTk_ne (by omega), sI_same]
  · rw [kS_t, kS_f, kV_t, kV_f]
    exact k1 j hj
  · simp at hx
  · rw [kS_t, kS_f, kV_t, kV_f]
    exact ⟨d1, d2⟩
/-- a bracket shuts -/
theorem RS.sht (h : RS P0 c0 M T K n u a i0 d ne k (o + 1) i (W ++ [28]) p P R c) (hu : u ≤ 1) (hc : RDc R' T K n (i + 1)) (hw : STK R' W) (ho : R'.1 0 14 = nI o) : RS P0 c0 M T K n u a i0 d (ne + p.length) k o (i + 1) W [] (adL P u ne p) R' (wTk (sI c 0 70 (nI o)) (T (i + 1))) := by
  have ad := h.adl hu
  obtain ⟨⟨h1, h2, h3, h4⟩, ⟨p1, p2, p3⟩, ⟨c1, c2, c3, c4⟩, ⟨a1, a2, a3, a4⟩, ⟨k1, k2⟩, ⟨d1, d2⟩, fr⟩ := h
  have ls : (W ++ [28]).length = W.length + 1 := by rw [List.length_append]; rfl
  have l0 : ([] : List Nat).length = 0 := rfl
  rw [ls] at a1 a4
  have cell : ∀ j x', ¬ (j = 0 ∧ (x' = 70 ∨ (62 ≤ x' ∧ x' ≤ 65))) → (wTk (sI c 0 70 (nI o)) (T (i + 1))).1 j x' = c.1 j x' := fun j x' z1 => by
    rw [wTk_ne (by omega), sI_ne (by omega)]
  refine ⟨⟨hc, (h2.s (nrv_0 (by omega)) (by omega)).tk, by omega, by rw [List.reverse_nil, List.append_nil]; exact hw⟩, ad.1, ⟨?_, (cell 0 58 (by omega)).trans c2, ?_, ho⟩, ⟨by rw [l0]; omega, by omega, by omega, by omega⟩, ⟨fun j hj => ?_, fun j x' hx => ?_⟩, ?_, fun j x' z1 z2 => (cell j x' (by omega)).trans (fr j x' z1 z2)⟩
  · rw [cell 0 57 (by omega), c1, l0, Nat.add_zero, Nat.add_assoc]
  · rw [wTk_ne (by omega), sI_same]
  · rw [kS_t, kS_f, kV_t, kV_f]
    exact ad.2 j hj
  · simp at hx
  · rw [kS_t, kS_f, kV_t, kV_f, l0]
    exact ⟨d1, d2⟩
/-- the reference puts a sign that still waits in the class -/
theorem RS.put {s : Nat} {v : Int32} (h : RS P0 c0 M T K n u a i0 d ne k o i (W ++ [s]) p P R c) (ow : o ≤ W.length) (sg : SgV s v) (need : (if v = 260 then 1 else 2) ≤ d) : RS P0 c0 M T K n u a i0 (if v = 260 then d else d - 1) ne k o i W (p ++ [s]) P R (putK c (a + ne + p.length) 2 v) := by
  obtain ⟨⟨h1, h2, h3, h4⟩, pp, ⟨c1, c2, c3, c4⟩, ⟨a1, a2, a3, a4⟩, ⟨k1, k2⟩, ⟨d1, d2⟩, fr⟩ := h
  have ls : (W ++ [s]).length = W.length + 1 := by rw [List.length_append]; rfl
  have lp : (p ++ [s]).length = p.length + 1 := by rw [List.length_append]; rfl
  rw [ls] at a1 a4
  have en : a + ne + p.length = a + (ne + p.length) := by omega
  have eS : ∀ j, kS (putK c (a + ne + p.length) 2 v) a j = if j = ne + p.length then 2 else kS c a j := fun j => by
    rw [en, putK_S]
  have eV : ∀ j, kV (putK c (a + ne + p.length) 2 v) a j = if j = ne + p.length then v else kV c a j := fun j => by
    rw [en, putK_V]
  have dd := dp_ext (s' := kS (putK c (a + ne + p.length) 2 v) a) (v' := kV (putK c (a + ne + p.length) 2 v) a) (m := ne + p.length) d1 d2 (fun j hj => ⟨by rw [eS, if_neg (by omega)], by rw [eV, if_neg (by omega)]⟩) (fun _ => by rw [eV, if_pos rfl]; exact need)
  rw [eS (ne + p.length), eV (ne + p.length), if_pos rfl, if_pos rfl, if_pos rfl] at dd
  refine ⟨⟨h1, putK_rd h2, h3, ?_⟩, pp, ⟨?_, (putK_ne (by omega) (by omega)).trans c2, (putK_ne (by omega) (by omega)).trans c3, c4⟩, ⟨by rw [lp]; omega, a2, a3, ow⟩, ⟨fun j hj => ?_, fun j x hx => ?_⟩, ?_, fun j x z1 z2 => (putK_ne (by omega) (by omega)).trans (fr j x z1 z2)⟩
  · rw [List.reverse_append, List.reverse_singleton, ← List.append_assoc]
    exact h4
  · unfold putK
    rw [sI_same, lp]
    rfl
  · rw [eS, eV, if_neg (by omega), if_neg (by omega)]
    exact k1 j hj
  · by_cases e : j < p.length
    · rw [List.getElem?_append_left e] at hx
      rw [eS, eV, if_neg (by omega), if_neg (by omega)]
      exact k2 j x hx
    · rw [List.getElem?_append_right (by omega)] at hx
      have e2 : j = p.length := by
        rcases Nat.lt_or_ge (j - p.length) 1 with q | q
        · omega
        · rw [List.getElem?_eq_none (by exact q)] at hx
          exact absurd hx (by simp)
      subst e2
      rw [Nat.sub_self] at hx
      have e3 : s = x := by simpa using hx
      rw [eS, eV, if_pos rfl, if_pos rfl, ← e3]
      exact ⟨rfl, sg⟩
  · rw [lp]
    exact dd
end RsS
