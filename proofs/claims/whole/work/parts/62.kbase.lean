/-! ===== contents of blocks; what code does to them, told by what follows ===== -/
abbrev CT : Type := (Nat → Nat → Int32) × (Nat → Nat → Int64)
abbrev WR : Type := List (Nat × LY) × (Nat → Nat → Nat → Option Nat)
def bc (w : WR) (b : Nat) (c : CT) : BC := (c.1, c.2, w.2 b)
def sI (c : CT) (j k : Nat) (x : Int32) : CT := (up2 c.1 j k x, c.2)
def sL (c : CT) (j k : Nat) (x : Int64) : CT := (c.1, up2 c.2 j k x)
/-- the worker is two blocks: its object (6), its rows (13), which hold the cells 1 to 5 of its content -/
def woLay : LY := [.inr (10, [1, 1, 1, 1, 1, 1, 0, 1, 1])]
def vLay : LY := [.inl (.int, 10), .inl (.int, 10), .inl (.int, 10), .inl (.long, 6), .inl (.long, 64)]
def bcV (w : WR) (c : CT) : BC := (fun j k => c.1 (j + 1) k, fun j k => c.2 (j + 1) k, w.2 13)
def HV (w : WR) (C : List CT) (σ : ST) : Prop := ∀ (q : Nat × LY) (c : CT), w.1[13]? = some q → C[6]? = some c → ∀ j, j < q.2.length → σ.1 (q.1 + j) = bCell q.1 q.2 (bcV w c) j
/-- the heap holds the blocks of w with the contents C -/
def Hd (w : WR) (C : List CT) (σ : ST) : Prop :=
  (∀ (b b' : Nat) (q q' : Nat × LY), w.1[b]? = some q → w.1[b']? = some q' → b ≠ b' → q.1 + q.2.length ≤ q'.1 ∨ q'.1 + q'.2.length ≤ q.1) ∧
  (∀ (b : Nat) (q : Nat × LY), w.1[b]? = some q → q.1 + q.2.length ≤ σ.2.1) ∧
  (∀ (b : Nat) (q : Nat × LY) (c : CT), b < 13 → w.1[b]? = some q → C[b]? = some c → ∀ j, j < q.2.length → σ.1 (q.1 + j) = bCell q.1 q.2 (bc w b c) j) ∧ HV w C σ
theorem Hd.ov {w : WR} {C : List CT} {σ : ST} {b r : Nat} {lay : LY} {c : CT} (h : Hd w C σ) (b3 : b < 13) (hw : w.1[b]? = some (r, lay)) (hc : C[b]? = some c) : σ = (bOv r lay (bc w b c) σ.1, σ.2) := by
  refine Prod.ext ?_ rfl
  funext a
  show σ.1 a = bOv r lay (bc w b c) σ.1 a
  unfold bOv
  by_cases ha : r ≤ a ∧ a < r + lay.length
  · rw [if_pos ha]
    have := h.2.2.1 b _ c b3 hw hc (a - r) (by show a - r < lay.length; omega)
    rw [show r + (a - r) = a by omega] at this
    exact this
  · rw [if_neg ha]
theorem Hd.ovV {w : WR} {C : List CT} {σ : ST} {r : Nat} {lay : LY} {c : CT} (h : Hd w C σ) (hw : w.1[13]? = some (r, lay)) (hc : C[6]? = some c) : σ = (bOv r lay (bcV w c) σ.1, σ.2) := by
  refine Prod.ext ?_ rfl
  funext a
  show σ.1 a = bOv r lay (bcV w c) σ.1 a
  unfold bOv
  by_cases ha : r ≤ a ∧ a < r + lay.length
  · rw [if_pos ha]
    have := h.2.2.2 _ c hw hc (a - r) (by show a - r < lay.length; omega)
    rw [show r + (a - r) = a by omega] at this
    exact this
  · rw [if_neg ha]
theorem Hd.put {w : WR} {C : List CT} {σ : ST} {b r : Nat} {lay : LY} {c c' : CT} (h : Hd w C σ) (b3 : b < 13) (hw : w.1[b]? = some (r, lay)) (hc : C[b]? = some c) (b6 : b = 6 → ∀ j k, c'.1 (j + 1) k = c.1 (j + 1) k ∧ c'.2 (j + 1) k = c.2 (j + 1) k) : Hd w (C.set b c') (bOv r lay (bc w b c') σ.1, σ.2) := by
  have hb : b < C.length := (List.getElem?_eq_some_iff.mp hc).1
  refine ⟨h.1, h.2.1, fun b' q d b3' hq hd j hj => ?_, fun q d hq hd j hj => ?_⟩
  · by_cases e : b = b'
    · subst e
      rw [List.getElem?_set_self hb] at hd
      cases hd
      rw [hw] at hq
      cases hq
      exact bOv_at hj
    · rw [List.getElem?_set_ne e] at hd
      show bOv r lay (bc w b c') σ.1 (q.1 + j) = _
      rw [bOv_out]
      · exact h.2.2.1 b' q d b3' hq hd j hj
      · have := h.1 b b' _ _ hw hq e
        dsimp only at this
        omega
  · show bOv r lay (bc w b c') σ.1 (q.1 + j) = _
    rw [bOv_out]
    · by_cases e : b = 6
      · subst e
        rw [List.getElem?_set_self hb] at hd
        cases hd
        have e2 : bcV w c' = bcV w c := by
          unfold bcV
          refine Prod.ext (funext fun j => funext fun k => (b6 rfl j k).1) (Prod.ext (funext fun j => funext fun k => (b6 rfl j k).2) rfl)
        rw [e2]
        exact h.2.2.2 q c hq hc j hj
      · rw [List.getElem?_set_ne e] at hd
        exact h.2.2.2 q d hq hd j hj
    · have := h.1 b 13 _ _ hw hq (by omega)
      dsimp only at this
      omega
theorem Hd.putV {w : WR} {C : List CT} {σ : ST} {r x6 : Nat} {lay : LY} {c c' : CT} (h : Hd w C σ) (hw : w.1[13]? = some (r, lay)) (hw6 : w.1[6]? = some (x6, woLay)) (hc : C[6]? = some c) (b6 : ∀ k, c'.1 0 k = c.1 0 k ∧ c'.2 0 k = c.2 0 k) : Hd w (C.set 6 c') (bOv r lay (bcV w c') σ.1, σ.2) := by
  have hb : 6 < C.length := (List.getElem?_eq_some_iff.mp hc).1
  refine ⟨h.1, h.2.1, fun b' q d b3' hq hd j hj => ?_, fun q d hq hd j hj => ?_⟩
  · show bOv r lay (bcV w c') σ.1 (q.1 + j) = _
    rw [bOv_out]
    · by_cases e : 6 = b'
      · subst e
        rw [List.getElem?_set_self hb] at hd
        cases hd
        rw [hw6] at hq
        cases hq
        have hj : j < 1 := hj
        have j0 : j = 0 := by omega
        subst j0
        rw [h.2.2.1 6 _ c (by omega) hw6 hc 0 (by show 0 < 1; omega)]
        show (some (Sum.inr (10, bVal x6 (bc w 6 c) 0 [1, 1, 1, 1, 1, 1, 0, 1, 1])) : Option MC) = some (Sum.inr (10, bVal x6 (bc w 6 c') 0 [1, 1, 1, 1, 1, 1, 0, 1, 1]))
        have e1 : (bc w 6 c').1 0 = (bc w 6 c).1 0 := funext fun k => (b6 k).1
        have e2 : (bc w 6 c').2.1 0 = (bc w 6 c).2.1 0 := funext fun k => (b6 k).2
        have e3 : (bc w 6 c').2.2 = (bc w 6 c).2.2 := rfl
        have e4 : bVal x6 (bc w 6 c') 0 [1, 1, 1, 1, 1, 1, 0, 1, 1] = bVal x6 (bc w 6 c) 0 [1, 1, 1, 1, 1, 1, 0, 1, 1] := by
          funext k
          unfold bVal
          simp only [e1, e3]
        rw [e4]
      · rw [List.getElem?_set_ne e] at hd
        exact h.2.2.1 b' q d b3' hq hd j hj
    · have := h.1 13 b' _ _ hw hq (by omega)
      dsimp only at this
      omega
  · rw [List.getElem?_set_self hb] at hd
    cases hd
    rw [hw] at hq
    cases hq
    exact bOv_at hj
def EW (w : WR) (e : XE) (L : List Value) (C : List CT) (Q : Value → List CT → Prop) : Prop := ∀ σ, Hd w C σ → ∃ v σ' C', e L σ = some (v, σ') ∧ Hd w C' σ' ∧ σ'.2 = σ.2 ∧ Q v C'
def KW (w : WR) (e : XC) (L : List Value) (C : List CT) (Q : Bool → List CT → Prop) : Prop := ∀ σ, Hd w C σ → ∃ v σ' C', e L σ = some (v, σ') ∧ Hd w C' σ' ∧ σ'.2 = σ.2 ∧ Q v C'
def AW (w : WR) (es : List XE) (L : List Value) (C : List CT) (Q : List Value → List CT → Prop) : Prop := ∀ σ, Hd w C σ → ∃ v σ' C', evL es L σ = some (v, σ') ∧ Hd w C' σ' ∧ σ'.2 = σ.2 ∧ Q v C'
def FW (w : WR) (f : XF) (as : List Value) (C : List CT) (Q : Option Value → List CT → Prop) : Prop := ∀ σ, Hd w C σ → ∃ v σ' C', f as σ = some (v, σ') ∧ Hd w C' σ' ∧ σ'.2 = σ.2 ∧ Q v C'
def SW (w : WR) (s : XS) (L : List Value) (C : List CT) (Q : XO → List Value → List CT → Prop) : Prop := ∀ σ, Hd w C σ → ∃ o L' σ' C', s L σ = some (o, L', σ') ∧ Hd w C' σ' ∧ σ'.2 = σ.2 ∧ Q o L' C'
def UW (w : WR) (op : Value → ST → Option Value) (a : Value) (C : List CT) (P : Value → Prop) : Prop := ∀ σ, Hd w C σ → ∃ v, op a σ = some v ∧ P v
def BW (w : WR) (op : Value → Value → ST → Option Value) (a b : Value) (C : List CT) (P : Value → Prop) : Prop := ∀ σ, Hd w C σ → ∃ v, op a b σ = some v ∧ P v
def P2W (w : WR) (op : Value → Value → ST → Option ST) (a b : Value) (C : List CT) (P : List CT → Prop) : Prop := ∀ σ, Hd w C σ → ∃ σ' C', op a b σ = some σ' ∧ Hd w C' σ' ∧ σ'.2 = σ.2 ∧ P C'
def P3W (w : WR) (op : Value → Value → Value → ST → Option ST) (a b d : Value) (C : List CT) (P : List CT → Prop) : Prop := ∀ σ, Hd w C σ → ∃ σ' C', op a b d σ = some σ' ∧ Hd w C' σ' ∧ σ'.2 = σ.2 ∧ P C'
section KR
variable {w : WR} {L : List Value} {C : List CT} {Q : Value → List CT → Prop} {QB : Bool → List CT → Prop} {QA : List Value → List CT → Prop} {QF : Option Value → List CT → Prop} {QS : XO → List Value → List CT → Prop}
theorem FW.mono {f : XF} {as : List Value} {Q' : Option Value → List CT → Prop} (h : FW w f as C Q') (k : ∀ v C', Q' v C' → QF v C') : FW w f as C QF := fun σ hσ => by
  obtain ⟨v, σ', C', h1, h2, h3, h4⟩ := h σ hσ
  exact ⟨v, σ', C', h1, h2, h3, k _ _ h4⟩
theorem ew_K {v : Value} (h : Q v C) : EW w (eK v) L C Q := fun σ hσ => ⟨v, σ, C, rfl, hσ, rfl, h⟩
theorem ew_I {i : Nat} {x : Int32} (hi : L[i]? = some (.int x)) (h : Q (.int x) C) : EW w (eI i) L C Q := fun σ hσ => ⟨.int x, σ, C, by unfold eI; rw [hi], hσ, rfl, h⟩
theorem ew_A {i : Nat} {x : Nat} (hi : L[i]? = some (.ref x)) (h : Q (.ref x) C) : EW w (eA i) L C Q := fun σ hσ => ⟨.ref x, σ, C, by unfold eA; rw [hi], hσ, rfl, h⟩
theorem ew_L {i : Nat} {x : Int64} (hi : L[i]? = some (.long x)) (h : Q (.long x) C) : EW w (eL i) L C Q := fun σ hσ => ⟨.long x, σ, C, by unfold eL; rw [hi], hσ, rfl, h⟩
theorem ew_U {op : Value → ST → Option Value} {e : XE} (h : EW w e L C fun v C' => UW w op v C' fun u => Q u C') : EW w (eU op e) L C Q := fun σ hσ => by
  obtain ⟨v, σ', C', h1, h2, h3, h4⟩ := h σ hσ
  obtain ⟨u, h5, h6⟩ := h4 σ' h2
  exact ⟨u, σ', C', by unfold eU; rw [h1, Option.bind_some, h5]; rfl, h2, h3, h6⟩
theorem ew_B {op : Value → Value → ST → Option Value} {e1 e2 : XE} (h : EW w e1 L C fun a C1 => EW w e2 L C1 fun b C2 => BW w op a b C2 fun u => Q u C2) : EW w (eB op e1 e2) L C Q := fun σ hσ => by
  obtain ⟨a, σ1, C1, h1, h2, h3, h4⟩ := h σ hσ
  obtain ⟨b, σ2, C2, g1, g2, g3, g4⟩ := h4 σ1 h2
  obtain ⟨u, h5, h6⟩ := g4 σ2 g2
  exact ⟨u, σ2, C2, by unfold eB; rw [h1, Option.bind_some, g1, Option.bind_some, h5]; rfl, g2, g3.trans h3, h6⟩
theorem ew_T {c : XC} {e1 e2 : XE} (h : KW w c L C fun b C' => (b = true → EW w e1 L C' Q) ∧ (b = false → EW w e2 L C' Q)) : EW w (eT c e1 e2) L C Q := fun σ hσ => by
  obtain ⟨b, σ1, C1, h1, h2, h3, h4⟩ := h σ hσ
  cases b with
  | true =>
    obtain ⟨v, σ', C', g1, g2, g3, g4⟩ := h4.1 rfl σ1 h2
    exact ⟨v, σ', C', by unfold eT; rw [h1, Option.bind_some]; exact g1, g2, g3.trans h3, g4⟩
  | false =>
    obtain ⟨v, σ', C', g1, g2, g3, g4⟩ := h4.2 rfl σ1 h2
    exact ⟨v, σ', C', by unfold eT; rw [h1, Option.bind_some]; exact g1, g2, g3.trans h3, g4⟩
theorem kw_2 {op : Value → Value → Option Bool} {e1 e2 : XE} (h : EW w e1 L C fun a C1 => EW w e2 L C1 fun b C2 => ∃ t, op a b = some t ∧ QB t C2) : KW w (c2 op e1 e2) L C QB := fun σ hσ => by
  obtain ⟨a, σ1, C1, h1, h2, h3, h4⟩ := h σ hσ
  obtain ⟨b, σ2, C2, g1, g2, g3, t, g4, g5⟩ := h4 σ1 h2
  exact ⟨t, σ2, C2, by unfold c2; rw [h1, Option.bind_some, g1, Option.bind_some, g4]; rfl, g2, g3.trans h3, g5⟩
theorem kw_1 {op : Value → Option Bool} {e : XE} (h : EW w e L C fun a C1 => ∃ t, op a = some t ∧ QB t C1) : KW w (c1 op e) L C QB := fun σ hσ => by
  obtain ⟨a, σ1, C1, h1, h2, h3, t, g4, g5⟩ := h σ hσ
  exact ⟨t, σ1, C1, by unfold c1; rw [h1, Option.bind_some, g4]; rfl, h2, h3, g5⟩
theorem kw_If {c x y : XC} (h : KW w c L C fun b C' => (b = true → KW w x L C' QB) ∧ (b = false → KW w y L C' QB)) : KW w (cIf c x y) L C QB := fun σ hσ => by
  obtain ⟨b, σ1, C1, h1, h2, h3, h4⟩ := h σ hσ
  cases b with
  | true =>
    obtain ⟨v, σ', C', g1, g2, g3, g4⟩ := h4.1 rfl σ1 h2
    exact ⟨v, σ', C', by unfold cIf; rw [h1, Option.bind_some]; exact g1, g2, g3.trans h3, g4⟩
  | false =>
    obtain ⟨v, σ', C', g1, g2, g3, g4⟩ := h4.2 rfl σ1 h2
    exact ⟨v, σ', C', by unfold cIf; rw [h1, Option.bind_some]; exact g1, g2, g3.trans h3, g4⟩
theorem kw_T (h : QB true C) : KW w cT L C QB := fun σ hσ => ⟨true, σ, C, rfl, hσ, rfl, h⟩
theorem kw_F (h : QB false C) : KW w cF L C QB := fun σ hσ => ⟨false, σ, C, rfl, hσ, rfl, h⟩
/-- a decided question: both ways -/
theorem dec2 {p : Prop} [Decidable p] {A B : Prop} (h1 : p → A) (h2 : ¬ p → B) : (decide p = true → A) ∧ (decide p = false → B) := ⟨fun e => h1 (of_decide_eq_true e), fun e => h2 (of_decide_eq_false e)⟩
theorem ite_do {p : Prop} [Decidable p] {A B : Prop} (h : if p then A else B) : (p → A) ∧ (¬ p → B) := ⟨fun e => by rw [if_pos e] at h; exact h, fun e => by rw [if_neg e] at h; exact h⟩
theorem aw_0 (h : QA [] C) : AW w [] L C QA := fun σ hσ => ⟨[], σ, C, rfl, hσ, rfl, h⟩
theorem aw_1 {e : XE} {es : List XE} (h : EW w e L C fun v C1 => AW w es L C1 fun vs C2 => QA (v :: vs) C2) : AW w (e :: es) L C QA := fun σ hσ => by
  obtain ⟨a, σ1, C1, h1, h2, h3, h4⟩ := h σ hσ
  obtain ⟨vs, σ2, C2, g1, g2, g3, g4⟩ := h4 σ1 h2
  exact ⟨a :: vs, σ2, C2, by unfold evL; rw [h1, Option.bind_some, g1]; rfl, g2, g3.trans h3, g4⟩
theorem ew_C {f : XF} {es : List XE} (h : AW w es L C fun vs C1 => FW w f vs C1 fun v C2 => ∃ u, v = some u ∧ Q u C2) : EW w (eC f es) L C Q := fun σ hσ => by
  obtain ⟨vs, σ1, C1, h1, h2, h3, h4⟩ := h σ hσ
  obtain ⟨v, σ2, C2, g1, g2, g3, u, g4, g5⟩ := h4 σ1 h2
  subst g4
  exact ⟨u, σ2, C2, by unfold eC; rw [h1, Option.bind_some, g1]; rfl, g2, g3.trans h3, g5⟩
theorem sw_C {f : XF} {es : List XE} (h : AW w es L C fun vs C1 => FW w f vs C1 fun v C2 => v = none ∧ QS (.inl 0) L C2) : SW w (sC f es) L C QS := fun σ hσ => by
  obtain ⟨vs, σ1, C1, h1, h2, h3, h4⟩ := h σ hσ
  obtain ⟨v, σ2, C2, g1, g2, g3, g4, g5⟩ := h4 σ1 h2
  subst g4
  exact ⟨_, L, σ2, C2, by unfold sC; rw [h1, Option.bind_some, g1]; rfl, g2, g3.trans h3, g5⟩
theorem sw_Cp {f : XF} {es : List XE} (h : AW w es L C fun vs C1 => FW w f vs C1 fun v C2 => ∃ x : Int32, v = some (.int x) ∧ QS (.inl 0) L C2) : SW w (sCp f es) L C QS := fun σ hσ => by
  obtain ⟨vs, σ1, C1, h1, h2, h3, h4⟩ := h σ hσ
  obtain ⟨v, σ2, C2, g1, g2, g3, x, g4, g5⟩ := h4 σ1 h2
  subst g4
  exact ⟨_, L, σ2, C2, by unfold sCp; rw [h1, Option.bind_some, g1]; rfl, g2, g3.trans h3, g5⟩
theorem sw_stI {i : Nat} {e : XE} (h : EW w e L C fun v C' => ∃ x, v = .int x ∧ QS (.inl 0) (sto1 L i (.int x)) C') : SW w (sStI i e) L C QS := fun σ hσ => by
  obtain ⟨v, σ1, C1, h1, h2, h3, x, h4, h5⟩ := h σ hσ
  subst h4
  exact ⟨_, _, σ1, C1, by unfold sStI; rw [h1]; rfl, h2, h3, h5⟩
theorem sw_stA {i : Nat} {e : XE} (h : EW w e L C fun v C' => ∃ x, v = .ref x ∧ QS (.inl 0) (sto1 L i (.ref x)) C') : SW w (sStA i e) L C QS := fun σ hσ => by
  obtain ⟨v, σ1, C1, h1, h2, h3, x, h4, h5⟩ := h σ hσ
  subst h4
  exact ⟨_, _, σ1, C1, by unfold sStA; rw [h1]; rfl, h2, h3, h5⟩
theorem sw_stL {i : Nat} {e : XE} (h : EW w e L C fun v C' => ∃ x, v = .long x ∧ QS (.inl 0) (sto2 L i (.long x)) C') : SW w (sStL i e) L C QS := fun σ hσ => by
  obtain ⟨v, σ1, C1, h1, h2, h3, x, h4, h5⟩ := h σ hσ
  subst h4
  exact ⟨_, _, σ1, C1, by unfold sStL; rw [h1]; rfl, h2, h3, h5⟩
theorem sw_inc {i : Nat} {n : Int} {x : Int32} (hi : L[i]? = some (.int x)) (h : QS (.inl 0) (sto1 L i (.int (x + Int32.ofInt n))) C) : SW w (sInc i n) L C QS := fun σ hσ => ⟨_, _, σ, C, by unfold sInc; rw [hi], hσ, rfl, h⟩
theorem sw_P2 {op : Value → Value → ST → Option ST} {e1 e2 : XE} (h : EW w e1 L C fun a C1 => EW w e2 L C1 fun b C2 => P2W w op a b C2 fun C3 => QS (.inl 0) L C3) : SW w (sP2 op e1 e2) L C QS := fun σ hσ => by
  obtain ⟨a, σ1, C1, h1, h2, h3, h4⟩ := h σ hσ
  obtain ⟨b, σ2, C2, g1, g2, g3, g4⟩ := h4 σ1 h2
  obtain ⟨σ3, C3, k1, k2, k3, k4⟩ := g4 σ2 g2
  exact ⟨_, L, σ3, C3, by unfold sP2; rw [h1, Option.bind_some, g1, Option.bind_some, k1]; rfl, k2, k3.trans (g3.trans h3), k4⟩
theorem sw_P3 {op : Value → Value → Value → ST → Option ST} {e1 e2 e3 : XE} (h : EW w e1 L C fun a C1 => EW w e2 L C1 fun b C2 => EW w e3 L C2 fun d C3 => P3W w op a b d C3 fun C4 => QS (.inl 0) L C4) : SW w (sP3 op e1 e2 e3) L C QS := fun σ hσ => by
  obtain ⟨a, σ1, C1, h1, h2, h3, h4⟩ := h σ hσ
  obtain ⟨b, σ2, C2, g1, g2, g3, g4⟩ := h4 σ1 h2
  obtain ⟨d, σ3, C3, k1, k2, k3, k4⟩ := g4 σ2 g2
  obtain ⟨σ4, C4, l1, l2, l3, l4⟩ := k4 σ3 k2
  exact ⟨_, L, σ4, C4, by unfold sP3; rw [h1, Option.bind_some, g1, Option.bind_some, k1, Option.bind_some, l1]; rfl, l2, l3.trans (k3.trans (g3.trans h3)), l4⟩
theorem sw_UF {g : Value → ST → Option Value} {o : Value → Value → ST → Option Value} {p : Value → Value → ST → Option ST} {e1 e2 : XE} (h : EW w e1 L C fun a C1 => UW w g a C1 fun v => EW w e2 L C1 fun b C2 => BW w o v b C2 fun u => P2W w p a u C2 fun C3 => QS (.inl 0) L C3) : SW w (sUF g o p e1 e2) L C QS := fun σ hσ => by
  obtain ⟨a, σ1, C1, h1, h2, h3, h4⟩ := h σ hσ
  obtain ⟨v, u1, u2⟩ := h4 σ1 h2
  obtain ⟨b, σ2, C2, g1, g2, g3, g4⟩ := u2 σ1 h2
  obtain ⟨u, v1, v2⟩ := g4 σ2 g2
  obtain ⟨σ3, C3, k1, k2, k3, k4⟩ := v2 σ2 g2
  exact ⟨_, L, σ3, C3, by unfold sUF; rw [h1, Option.bind_some, u1, Option.bind_some, g1, Option.bind_some, v1, Option.bind_some, k1]; rfl, k2, k3.trans (g3.trans h3), k4⟩
theorem sw_UA {g : Value → Value → ST → Option Value} {o : Value → Value → ST → Option Value} {p : Value → Value → Value → ST → Option ST} {e1 e2 e3 : XE} (h : EW w e1 L C fun a C1 => EW w e2 L C1 fun b C2 => BW w g a b C2 fun v => EW w e3 L C2 fun d C3 => BW w o v d C3 fun u => P3W w p a b u C3 fun C4 => QS (.inl 0) L C4) : SW w (sUA g o p e1 e2 e3) L C QS := fun σ hσ => by
  obtain ⟨a, σ1, C1, h1, h2, h3, h4⟩ := h σ hσ
  obtain ⟨b, σ2, C2, g1, g2, g3, g4⟩ := h4 σ1 h2
  obtain ⟨v, u1, u2⟩ := g4 σ2 g2
  obtain ⟨d, σ3, C3, k1, k2, k3, k4⟩ := u2 σ2 g2
  obtain ⟨u, v1, v2⟩ := k4 σ3 k2
  obtain ⟨σ4, C4, l1, l2, l3, l4⟩ := v2 σ3 k2
  exact ⟨_, L, σ4, C4, by unfold sUA; rw [h1, Option.bind_some, g1, Option.bind_some, u1, Option.bind_some, k1, Option.bind_some, v1, Option.bind_some, l1]; rfl, l2, l3.trans (k3.trans (g3.trans h3)), l4⟩
def sqK (w : WR) (b : XS) (Q : XO → List Value → List CT → Prop) : XO → List Value → List CT → Prop := fun o L C => match o with
  | .inl 0 => SW w b L C Q
  | o => Q o L C
theorem sw_seq {a b : XS} (h : SW w a L C (sqK w b QS)) : SW w (sSeq a b) L C QS := fun σ hσ => by
  obtain ⟨o, L1, σ1, C1, h1, h2, h3, h4⟩ := h σ hσ
  unfold sSeq
  rw [h1, Option.bind_some]
  dsimp only
  unfold sqK at h4
  split
  · obtain ⟨o2, L2, σ2, C2, g1, g2, g3, g4⟩ := h4 σ1 h2
    exact ⟨o2, L2, σ2, C2, g1, g2, g3.trans h3, g4⟩
  · rename_i hz
    refine ⟨_, L1, σ1, C1, rfl, h2, h3, ?_⟩
    split at h4
    · exact absurd rfl hz
    · exact h4
def dnK (Q : XO → List Value → List CT → Prop) : XO → List Value → List CT → Prop := fun o L C => Q (dnO o) L C
theorem sw_blk {a : XS} (h : SW w a L C (dnK QS)) : SW w (sBlk a) L C QS := fun σ hσ => by
  obtain ⟨o, L1, σ1, C1, h1, h2, h3, h4⟩ := h σ hσ
  exact ⟨dnO o, L1, σ1, C1, by unfold sBlk; rw [h1]; rfl, h2, h3, h4⟩
def lpK (w : WR) (s : XS) (Q : XO → List Value → List CT → Prop) : XO → List Value → List CT → Prop := fun o L C => match o with
  | .inl 0 => SW w (sLoop s) L C Q
  | o => Q o L C
theorem sw_loop {s : XS} (h : SW w s L C (lpK w s QS)) : SW w (sLoop s) L C QS := fun σ hσ => by
  obtain ⟨o, L1, σ1, C1, h1, h2, h3, h4⟩ := h σ hσ
  rw [sLoop_eq, h1, Option.bind_some]
  dsimp only
  unfold lpK at h4
  split
  · obtain ⟨o2, L2, σ2, C2, g1, g2, g3, g4⟩ := h4 σ1 h2
    exact ⟨o2, L2, σ2, C2, g1, g2, g3.trans h3, g4⟩
  · rename_i hz
    refine ⟨_, L1, σ1, C1, rfl, h2, h3, ?_⟩
    split at h4
    · exact absurd rfl hz
    · exact h4
theorem sw_brIf {c : XC} {k : Nat} (h : KW w c L C fun b C' => (b = true → QS (.inl k) L C') ∧ (b = false → QS (.inl 0) L C')) : SW w (sBrIf c k) L C QS := fun σ hσ => by
  obtain ⟨b, σ1, C1, h1, h2, h3, h4⟩ := h σ hσ
  refine ⟨_, L, σ1, C1, by unfold sBrIf; rw [h1]; rfl, h2, h3, ?_⟩
  cases b with
  | true => exact h4.1 rfl
  | false => exact h4.2 rfl
theorem sw_br {k : Nat} (h : QS (.inl k) L C) : SW w (sBr k) L C QS := fun σ hσ => ⟨_, L, σ, C, rfl, hσ, rfl, h⟩
theorem sw_nop (h : QS (.inl 0) L C) : SW w sNop L C QS := fun σ hσ => ⟨_, L, σ, C, rfl, hσ, rfl, h⟩
theorem sw_R0 (h : QS (.inr none) L C) : SW w sR0 L C QS := fun σ hσ => ⟨_, L, σ, C, rfl, hσ, rfl, h⟩
theorem sw_sw {e : XE} {f : Int32 → Nat} (h : EW w e L C fun v C' => ∃ x, v = .int x ∧ ∃ m, f x = m ∧ QS (.inl m) L C') : SW w (sSw e f) L C QS := fun σ hσ => by
  obtain ⟨v, σ1, C1, h1, h2, h3, x, h4, m, h6, h5⟩ := h σ hσ
  subst h4
  subst h6
  exact ⟨_, L, σ1, C1, by unfold sSw; rw [h1]; rfl, h2, h3, h5⟩
end KR
