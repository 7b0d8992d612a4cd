/-! ===== worlds that change: what is made when first wanted, and references that are set anew ===== -/
/-- what is made (by block), the readers' plan references, heap size and slots -/
abbrev LZD : Type := (Nat → Bool) × (Nat → Option Nat) × (Nat × Nat)
def oLay : LY := [.inl (.long, 1)]
def rfD (A : Nat → Nat) (d : LZD) : Nat → Nat → Nat → Option Nat := fun b j k =>
  if b = 0 then (if j = 0 then (if k = 2 then some (A 1) else if k = 3 then some (A 2) else if k = 4 then some (A 3) else if k = 5 then some (A 4) else if k = 6 then (if d.1 10 then some (A 10) else none) else if k = 8 then (if d.1 5 then some (A 5) else none) else if k = 9 then (if d.1 6 then some (A 6) else none) else if k = 10 then (if d.1 7 then some (A 7) else none) else none) else none)
  else if b = 1 then (if j = 7 then (if k < 5 then some (A 1 + (15 + 3 * k)) else none) else if j = 8 then (if k < 3 then some (A 1 + (30 + k)) else none) else if j = 9 then (if k < 10 then some (A 1 + (33 + k)) else none) else none)
  else if b = 2 then (if j = 7 then (if k < 5 then some (A 2 + (15 + 3 * k)) else none) else if j = 8 then (if k < 3 then some (A 2 + (30 + k)) else none) else if j = 9 then (if k < 10 then some (A 2 + (33 + k)) else none) else none)
  else if b = 3 then (if j = 0 ∧ k = 11 then d.2.1 3 else none)
  else if b = 6 then (if j = 0 then (if k = 0 then some (A 4) else if k = 1 then some (A 5) else if k = 2 then d.2.1 6 else if k = 3 then some (A 13 + 0) else if k = 4 then some (A 13 + 1) else if k = 5 then some (A 13 + 2) else if k = 7 then some (A 13 + 3) else if k = 8 then some (A 13 + 4) else none) else none)
  else if b = 7 then (if j = 0 then (if k = 0 then some (A 4) else if k = 1 then d.2.1 7 else if k = 2 then (if d.1 8 then some (A 8) else none) else if k = 9 then (if d.1 9 then some (A 9) else none) else none) else none)
  else if b = 10 then (if j = 0 then (if k = 10 then some (A 4 + 9) else if k = 11 then some (A 4 + 10) else if k = 12 then some (A 4 + 11) else if k = 13 then some (A 4 + 12) else if k = 14 then some (A 4 + 13) else if k = 15 then some (A 4 + 14) else none) else none)
  else none
def lzB (A : Nat → Nat) (d : LZD) (b : Nat) (lay : LY) : Nat × LY := if d.1 b then (A b, lay) else (0, [])
def wd (A : Nat → Nat) (d : LZD) : WR := ([(A 0, hLay), (A 1, pLay), (A 2, pLay), (A 3, rLay), (A 4, kLay), lzB A d 5 fLay, lzB A d 6 woLay, lzB A d 7 tLay, lzB A d 8 nLay, lzB A d 9 uLay, lzB A d 10 iLay, (A 11, mLay), (A 12, oLay), if d.1 6 then (A 13, vLay) else (0, [])], rfD A d)
section Fct
variable {A : Nat → Nat} {d : LZD}
theorem q_bH : (wd A d).1[0]? = some (A 0, hLay) := rfl
theorem q_bP : (wd A d).1[1]? = some (A 1, pLay) := rfl
theorem q_bS : (wd A d).1[2]? = some (A 2, pLay) := rfl
theorem q_bR : (wd A d).1[3]? = some (A 3, rLay) := rfl
theorem q_bK : (wd A d).1[4]? = some (A 4, kLay) := rfl
theorem q_bM : (wd A d).1[11]? = some (A 11, mLay) := rfl
theorem q_bO : (wd A d).1[12]? = some (A 12, oLay) := rfl
theorem lzB_y {b : Nat} {lay : LY} (h : d.1 b = true) : lzB A d b lay = (A b, lay) := if_pos h
theorem lzB_n {b : Nat} {lay : LY} (h : d.1 b = false) : lzB A d b lay = (0, []) := if_neg (by rw [h]; decide)
theorem q_bF (h : d.1 5 = true) : (wd A d).1[5]? = some (A 5, fLay) := congrArg some (lzB_y h)
theorem q_bW (h : d.1 6 = true) : (wd A d).1[6]? = some (A 6, woLay) := congrArg some (lzB_y h)
theorem q_bT (h : d.1 7 = true) : (wd A d).1[7]? = some (A 7, tLay) := congrArg some (lzB_y h)
theorem q_bN (h : d.1 8 = true) : (wd A d).1[8]? = some (A 8, nLay) := congrArg some (lzB_y h)
theorem q_bU (h : d.1 9 = true) : (wd A d).1[9]? = some (A 9, uLay) := congrArg some (lzB_y h)
theorem q_bI (h : d.1 10 = true) : (wd A d).1[10]? = some (A 10, iLay) := congrArg some (lzB_y h)
theorem q_bV (h : d.1 6 = true) : (wd A d).1[13]? = some (A 13, vLay) := congrArg some (if_pos h)
theorem q_aF : ∀ q, q < 5 → (wd A d).2 1 7 q = some (A 1 + (15 + 3 * q)) := fun _ h => if_pos h
theorem q_aM : ∀ q, q < 3 → (wd A d).2 1 8 q = some (A 1 + (30 + q)) := fun _ h => if_pos h
theorem q_aH : ∀ q, q < 10 → (wd A d).2 1 9 q = some (A 1 + (33 + q)) := fun _ h => if_pos h
theorem q_rH2 : (wd A d).2 0 0 2 = some (A 1) := rfl
theorem q_rH3 : (wd A d).2 0 0 3 = some (A 2) := rfl
theorem q_rH4 : (wd A d).2 0 0 4 = some (A 3) := rfl
theorem q_rH5 : (wd A d).2 0 0 5 = some (A 4) := rfl
theorem q_rH6 (h : d.1 10 = true) : (wd A d).2 0 0 6 = some (A 10) := if_pos h
theorem q_rH8 (h : d.1 5 = true) : (wd A d).2 0 0 8 = some (A 5) := if_pos h
theorem q_rH9 (h : d.1 6 = true) : (wd A d).2 0 0 9 = some (A 6) := if_pos h
theorem q_rH10 (h : d.1 7 = true) : (wd A d).2 0 0 10 = some (A 7) := if_pos h
theorem q_rW0 : (wd A d).2 6 0 0 = some (A 4) := rfl
theorem q_rW1 : (wd A d).2 6 0 1 = some (A 5) := rfl
theorem q_rW2 (h : d.2.1 6 = some (A 1)) : (wd A d).2 6 0 2 = some (A 1) := h
theorem q_rW3 : (wd A d).2 6 0 3 = some (A 13 + 0) := rfl
theorem q_rW4 : (wd A d).2 6 0 4 = some (A 13 + 1) := rfl
theorem q_rW5 : (wd A d).2 6 0 5 = some (A 13 + 2) := rfl
theorem q_rW7 : (wd A d).2 6 0 7 = some (A 13 + 3) := rfl
theorem q_rW8 : (wd A d).2 6 0 8 = some (A 13 + 4) := rfl
theorem q_rT0 : (wd A d).2 7 0 0 = some (A 4) := rfl
theorem q_rT1 (h : d.2.1 7 = some (A 1)) : (wd A d).2 7 0 1 = some (A 1) := h
theorem q_rT2 (h : d.1 8 = true) : (wd A d).2 7 0 2 = some (A 8) := if_pos h
theorem q_rT9 (h : d.1 9 = true) : (wd A d).2 7 0 9 = some (A 9) := if_pos h
theorem q_rR11 (h : d.2.1 3 = some (A 1)) : (wd A d).2 3 0 11 = some (A 1) := h
end Fct
def HL (A : Nat → Nat) (d : LZD) (C : List CT) (σ : ST) : Prop := Hd (wd A d) C σ ∧ σ.2 = d.2.2
def ZE (A : Nat → Nat) (d : LZD) (e : XE) (L : List Value) (C : List CT) (Q : LZD → Value → List CT → Prop) : Prop := ∀ σ, HL A d C σ → ∃ v σ' C' d', e L σ = some (v, σ') ∧ HL A d' C' σ' ∧ Q d' v C'
def ZK (A : Nat → Nat) (d : LZD) (e : XC) (L : List Value) (C : List CT) (Q : LZD → Bool → List CT → Prop) : Prop := ∀ σ, HL A d C σ → ∃ v σ' C' d', e L σ = some (v, σ') ∧ HL A d' C' σ' ∧ Q d' v C'
def ZA (A : Nat → Nat) (d : LZD) (es : List XE) (L : List Value) (C : List CT) (Q : LZD → List Value → List CT → Prop) : Prop := ∀ σ, HL A d C σ → ∃ v σ' C' d', evL es L σ = some (v, σ') ∧ HL A d' C' σ' ∧ Q d' v C'
def ZF (A : Nat → Nat) (d : LZD) (f : XF) (as : List Value) (C : List CT) (Q : LZD → Option Value → List CT → Prop) : Prop := ∀ σ, HL A d C σ → ∃ v σ' C' d', f as σ = some (v, σ') ∧ HL A d' C' σ' ∧ Q d' v C'
def ZS (A : Nat → Nat) (d : LZD) (s : XS) (L : List Value) (C : List CT) (Q : LZD → XO → List Value → List CT → Prop) : Prop := ∀ σ, HL A d C σ → ∃ o L' σ' C' d', s L σ = some (o, L', σ') ∧ HL A d' C' σ' ∧ Q d' o L' C'
section ZR
variable {A : Nat → Nat} {d : LZD} {L : List Value} {C : List CT} {Q : LZD → Value → List CT → Prop} {QB : LZD → Bool → List CT → Prop} {QA : LZD → List Value → List CT → Prop} {QF : LZD → Option Value → List CT → Prop} {QS : LZD → XO → List Value → List CT → Prop}
/-! from fixed worlds -/
theorem ze_of {e : XE} (h : EW (wd A d) e L C fun v C' => Q d v C') : ZE A d e L C Q := fun σ hσ => by
  obtain ⟨v, σ', C', h1, h2, h3, h4⟩ := h σ hσ.1
  exact ⟨v, σ', C', d, h1, ⟨h2, h3.trans hσ.2⟩, h4⟩
theorem zk_of {e : XC} (h : KW (wd A d) e L C fun v C' => QB d v C') : ZK A d e L C QB := fun σ hσ => by
  obtain ⟨v, σ', C', h1, h2, h3, h4⟩ := h σ hσ.1
  exact ⟨v, σ', C', d, h1, ⟨h2, h3.trans hσ.2⟩, h4⟩
theorem za_of {e : List XE} (h : AW (wd A d) e L C fun v C' => QA d v C') : ZA A d e L C QA := fun σ hσ => by
  obtain ⟨v, σ', C', h1, h2, h3, h4⟩ := h σ hσ.1
  exact ⟨v, σ', C', d, h1, ⟨h2, h3.trans hσ.2⟩, h4⟩
theorem zf_of {f : XF} {as : List Value} (h : FW (wd A d) f as C fun v C' => QF d v C') : ZF A d f as C QF := fun σ hσ => by
  obtain ⟨v, σ', C', h1, h2, h3, h4⟩ := h σ hσ.1
  exact ⟨v, σ', C', d, h1, ⟨h2, h3.trans hσ.2⟩, h4⟩
theorem zs_of {s : XS} (h : SW (wd A d) s L C fun o L' C' => QS d o L' C') : ZS A d s L C QS := fun σ hσ => by
  obtain ⟨o, L', σ', C', h1, h2, h3, h4⟩ := h σ hσ.1
  exact ⟨o, L', σ', C', d, h1, ⟨h2, h3.trans hσ.2⟩, h4⟩
theorem ZF.mono {f : XF} {as : List Value} {Q' : LZD → Option Value → List CT → Prop} (h : ZF A d f as C Q') (k : ∀ d' v C', Q' d' v C' → QF d' v C') : ZF A d f as C QF := fun σ hσ => by
  obtain ⟨v, σ', C', d', h1, h2, h3⟩ := h σ hσ
  exact ⟨v, σ', C', d', h1, h2, k _ _ _ h3⟩
/-! what goes through changing worlds -/
theorem ze_B {op : Value → Value → ST → Option Value} {e1 e2 : XE} (h : ZE A d e1 L C fun d1 a C1 => ZE A d1 e2 L C1 fun d2 b C2 => BW (wd A d2) op a b C2 fun u => Q d2 u C2) : ZE A d (eB op e1 e2) L C Q := fun σ hσ => by
  obtain ⟨a, σ1, C1, d1, h1, h2, h4⟩ := h σ hσ
  obtain ⟨b, σ2, C2, d2, g1, g2, g4⟩ := h4 σ1 h2
  obtain ⟨u, h5, h6⟩ := g4 σ2 g2.1
  exact ⟨u, σ2, C2, d2, by unfold eB; rw [h1, Option.bind_some, g1, Option.bind_some, h5]; rfl, g2, h6⟩
theorem ze_T {c : XC} {e1 e2 : XE} (h : ZK A d c L C fun d' b C' => (b = true → ZE A d' e1 L C' Q) ∧ (b = false → ZE A d' e2 L C' Q)) : ZE A d (eT c e1 e2) L C Q := fun σ hσ => by
  obtain ⟨b, σ1, C1, d1, h1, h2, h4⟩ := h σ hσ
  cases b with
  | true =>
    obtain ⟨v, σ', C', d', g1, g2, g4⟩ := h4.1 rfl σ1 h2
    exact ⟨v, σ', C', d', by unfold eT; rw [h1, Option.bind_some]; exact g1, g2, g4⟩
  | false =>
    obtain ⟨v, σ', C', d', g1, g2, g4⟩ := h4.2 rfl σ1 h2
    exact ⟨v, σ', C', d', by unfold eT; rw [h1, Option.bind_some]; exact g1, g2, g4⟩
theorem za_0 (h : QA d [] C) : ZA A d [] L C QA := fun σ hσ => ⟨[], σ, C, d, rfl, hσ, h⟩
theorem za_1 {e : XE} {es : List XE} (h : ZE A d e L C fun d1 v C1 => ZA A d1 es L C1 fun d2 vs C2 => QA d2 (v :: vs) C2) : ZA A d (e :: es) L C QA := fun σ hσ => by
  obtain ⟨a, σ1, C1, d1, h1, h2, h4⟩ := h σ hσ
  obtain ⟨vs, σ2, C2, d2, g1, g2, g4⟩ := h4 σ1 h2
  exact ⟨a :: vs, σ2, C2, d2, by unfold evL; rw [h1, Option.bind_some, g1]; rfl, g2, g4⟩
theorem ze_C {f : XF} {es : List XE} (h : ZA A d es L C fun d1 vs C1 => ZF A d1 f vs C1 fun d2 v C2 => ∃ u, v = some u ∧ Q d2 u C2) : ZE A d (eC f es) L C Q := fun σ hσ => by
  obtain ⟨vs, σ1, C1, d1, h1, h2, h4⟩ := h σ hσ
  obtain ⟨v, σ2, C2, d2, g1, g2, u, g4, g5⟩ := h4 σ1 h2
  subst g4
  exact ⟨u, σ2, C2, d2, by unfold eC; rw [h1, Option.bind_some, g1]; rfl, g2, g5⟩
theorem zs_C {f : XF} {es : List XE} (h : ZA A d es L C fun d1 vs C1 => ZF A d1 f vs C1 fun d2 v C2 => v = none ∧ QS d2 (.inl 0) L C2) : ZS A d (sC f es) L C QS := fun σ hσ => by
  obtain ⟨vs, σ1, C1, d1, h1, h2, h4⟩ := h σ hσ
  obtain ⟨v, σ2, C2, d2, g1, g2, g4, g5⟩ := h4 σ1 h2
  subst g4
  exact ⟨_, L, σ2, C2, d2, by unfold sC; rw [h1, Option.bind_some, g1]; rfl, g2, g5⟩
theorem zs_stI {i : Nat} {e : XE} (h : ZE A d e L C fun d' v C' => ∃ x, v = .int x ∧ QS d' (.inl 0) (sto1 L i (.int x)) C') : ZS A d (sStI i e) L C QS := fun σ hσ => by
  obtain ⟨v, σ1, C1, d1, h1, h2, x, h4, h5⟩ := h σ hσ
  subst h4
  exact ⟨_, _, σ1, C1, d1, by unfold sStI; rw [h1]; rfl, h2, h5⟩
theorem zs_RI {e : XE} (h : ZE A d e L C fun d' v C' => ∃ x, v = .int x ∧ QS d' (.inr (some (.int x))) L C') : ZS A d (sRI e) L C QS := fun σ hσ => by
  obtain ⟨v, σ1, C1, d1, h1, h2, x, h4, h5⟩ := h σ hσ
  subst h4
  exact ⟨_, L, σ1, C1, d1, by unfold sRI; rw [h1]; rfl, h2, h5⟩
def zqK (A : Nat → Nat) (b : XS) (Q : LZD → XO → List Value → List CT → Prop) : LZD → XO → List Value → List CT → Prop := fun d o L C => match o with
  | .inl 0 => ZS A d b L C Q
  | o => Q d o L C
theorem zs_seq {a b : XS} (h : ZS A d a L C (zqK A b QS)) : ZS A d (sSeq a b) L C QS := fun σ hσ => by
  obtain ⟨o, L1, σ1, C1, d1, h1, h2, h4⟩ := h σ hσ
  unfold sSeq
  rw [h1, Option.bind_some]
  dsimp only
  unfold zqK at h4
  split
  · obtain ⟨o2, L2, σ2, C2, d2, g1, g2, g4⟩ := h4 σ1 h2
    exact ⟨o2, L2, σ2, C2, d2, g1, g2, g4⟩
  · rename_i hz
    refine ⟨_, L1, σ1, C1, d1, rfl, h2, ?_⟩
    split at h4
    · exact absurd rfl hz
    · exact h4
def znK (Q : LZD → XO → List Value → List CT → Prop) : LZD → XO → List Value → List CT → Prop := fun d o L C => Q d (dnO o) L C
theorem zs_blk {a : XS} (h : ZS A d a L C (znK QS)) : ZS A d (sBlk a) L C QS := fun σ hσ => by
  obtain ⟨o, L1, σ1, C1, d1, h1, h2, h4⟩ := h σ hσ
  exact ⟨dnO o, L1, σ1, C1, d1, by unfold sBlk; rw [h1]; rfl, h2, h4⟩
def zpK (A : Nat → Nat) (s : XS) (Q : LZD → XO → List Value → List CT → Prop) : LZD → XO → List Value → List CT → Prop := fun d o L C => match o with
  | .inl 0 => ZS A d (sLoop s) L C Q
  | o => Q d o L C
theorem zs_loop {s : XS} (h : ZS A d s L C (zpK A s QS)) : ZS A d (sLoop s) L C QS := fun σ hσ => by
  obtain ⟨o, L1, σ1, C1, d1, h1, h2, h4⟩ := h σ hσ
  rw [sLoop_eq, h1, Option.bind_some]
  dsimp only
  unfold zpK at h4
  split
  · obtain ⟨o2, L2, σ2, C2, d2, g1, g2, g4⟩ := h4 σ1 h2
    exact ⟨o2, L2, σ2, C2, d2, g1, g2, g4⟩
  · rename_i hz
    refine ⟨_, L1, σ1, C1, d1, rfl, h2, ?_⟩
    split at h4
    · exact absurd rfl hz
    · exact h4
theorem zs_brIf {c : XC} {k : Nat} (h : ZK A d c L C fun d' b C' => (b = true → QS d' (.inl k) L C') ∧ (b = false → QS d' (.inl 0) L C')) : ZS A d (sBrIf c k) L C QS := fun σ hσ => by
  obtain ⟨b, σ1, C1, d1, h1, h2, h4⟩ := h σ hσ
  refine ⟨_, L, σ1, C1, d1, by unfold sBrIf; rw [h1]; rfl, h2, ?_⟩
  cases b with
  | true => exact h4.1 rfl
  | false => exact h4.2 rfl
theorem zs_nop (h : QS d (.inl 0) L C) : ZS A d sNop L C QS := fun σ hσ => ⟨_, L, σ, C, d, rfl, hσ, h⟩
theorem zs_R0 (h : QS d (.inr none) L C) : ZS A d sR0 L C QS := fun σ hσ => ⟨_, L, σ, C, d, rfl, hσ, h⟩
def ztK (Q : LZD → Option Value → List CT → Prop) : LZD → XO → List Value → List CT → Prop := fun d o _ C => match o with
  | .inr v => Q d v C
  | _ => False
theorem zf_m {nL : Nat} {body : XS} {as L' : List Value} (hl : Nat.ble (expA as).length nL = true) (hL : L0 nL as = L') (h : ZS A d body L' C (ztK QF)) : ZF A d (mth nL body) as C QF := fun σ hσ => by
  obtain ⟨o, L1, σ1, C1, d1, h1, h2, h4⟩ := h σ hσ
  rw [mth_fin (Nat.le_of_ble_eq_true hl), hL, h1]
  cases o with
  | inl k => exact h4.elim
  | inr v => exact ⟨v, σ1, C1, d1, rfl, h2, h4⟩
theorem zf_V {b r j ci : Nat} {lay : LY} {ks : List Nat} {c : CT} {f : XF} {as : List Value} (hw : (wd A d).1[b]? = some (r, lay)) (hc : C[b]? = some c) (hl : lay[j]? = some (.inr (ci, ks))) (h : ZF A d f (.ref (r + j) :: as) C QF) (b3 : b < 13 := by decide) : ZF A d (fV ci f) (.ref (r + j) :: as) C QF := fun σ hσ => by
  obtain ⟨v, σ1, C1, d1, h1, h2, h4⟩ := h σ hσ
  refine ⟨v, σ1, C1, d1, ?_, h2, h4⟩
  rw [hσ.1.ov b3 hw hc, fV_b hl, ← hσ.1.ov b3 hw hc]
  exact h1
end ZR
