section KM
variable {w : WR} {L : List Value} {C : List CT} {QS : XO → List Value → List CT → Prop} {QF : Option Value → List CT → Prop}
theorem sw_RI {e : XE} (h : EW w e L C fun v C' => ∃ x, v = .int x ∧ QS (.inr (some (.int x))) L C') : SW w (sRI e) L C QS := fun σ hσ => by
  obtain ⟨v, σ1, C1, h1, h2, h3, x, h4, h5⟩ := h σ hσ
  subst h4
  exact ⟨_, L, σ1, C1, by unfold sRI; rw [h1]; rfl, h2, h3, h5⟩
theorem sw_RZ {e : XE} (h : EW w e L C fun v C' => ∃ x, v = .int x ∧ (x = 0 ∨ x = 1) ∧ QS (.inr (some (.int x))) L C') : SW w (sRZ e) L C QS := fun σ hσ => by
  obtain ⟨v, σ1, C1, h1, h2, h3, x, h4, h5, h6⟩ := h σ hσ
  subst h4
  exact ⟨_, L, σ1, C1, by unfold sRZ; rw [h1, Option.bind_some]; dsimp only; rw [if_pos h5], h2, h3, h6⟩
theorem sw_RL {e : XE} (h : EW w e L C fun v C' => ∃ x, v = .long x ∧ QS (.inr (some (.long x))) L C') : SW w (sRL e) L C QS := fun σ hσ => by
  obtain ⟨v, σ1, C1, h1, h2, h3, x, h4, h5⟩ := h σ hσ
  subst h4
  exact ⟨_, L, σ1, C1, by unfold sRL; rw [h1]; rfl, h2, h3, h5⟩
/-- a method's body, entered -/
def rtK (Q : Option Value → List CT → Prop) : XO → List Value → List CT → Prop := fun o _ C => match o with
  | .inr v => Q v C
  | _ => False
theorem fw_m {nL : Nat} {body : XS} {as L' : List Value} (hl : Nat.ble (expA as).length nL = true) (hL : L0 nL as = L') (h : SW w body L' C (rtK QF)) : FW w (mth nL body) as C QF := fun σ hσ => by
  obtain ⟨o, L1, σ1, C1, h1, h2, h3, h4⟩ := h σ hσ
  rw [mth_fin (Nat.le_of_ble_eq_true hl), hL, h1]
  cases o with
  | inl k => exact h4.elim
  | inr v => exact ⟨v, σ1, C1, rfl, h2, h3, h4⟩
theorem fw_V {b r j ci : Nat} {lay : LY} {ks : List Nat} {c : CT} {f : XF} {as : List Value} (hw : w.1[b]? = some (r, lay)) (hc : C[b]? = some c) (hl : lay[j]? = some (.inr (ci, ks))) (h : FW w f (.ref (r + j) :: as) C QF) (b3 : b < 13 := by decide) : FW w (fV ci f) (.ref (r + j) :: as) C QF := fun σ hσ => by
  obtain ⟨v, σ1, C1, h1, h2, h3, h4⟩ := h σ hσ
  refine ⟨v, σ1, C1, ?_, h2, h3, h4⟩
  rw [hσ.ov b3 hw hc, fV_b hl, ← hσ.ov b3 hw hc]
  exact h1
/-! reading and writing -/
def inX (i : Int32) (n : Nat) : Prop := ¬ (i < 0 ∨ n ≤ i.toNatClampNeg)
def rdI (c : CT) (j n : Nat) (i : Int32) (Q : Int32 → Prop) : Prop := inX i n ∧ Q (c.1 j i.toNatClampNeg)
def rdL (c : CT) (j n : Nat) (i : Int32) (Q : Int64 → Prop) : Prop := inX i n ∧ Q (c.2 j i.toNatClampNeg)
def wrI (c : CT) (j n : Nat) (i x : Int32) (Q : CT → Prop) : Prop := inX i n ∧ Q (sI c j i.toNatClampNeg x)
def wrL (c : CT) (j n : Nat) (i : Int32) (x : Int64) (Q : CT → Prop) : Prop := inX i n ∧ Q (sL c j i.toNatClampNeg x)
def wrF (c : CT) (j k : Nat) (x : Int32) (Q : CT → Prop) : Prop := Q (sI c j k x)
def ixN (n : Nat) (i : Int32) (Q : Nat → Prop) : Prop := inX i n ∧ Q i.toNatClampNeg
def dvI (a b : Int32) (Q : Int32 → Prop) : Prop := b ≠ 0 ∧ Q (a / b)
def rmI (a b : Int32) (Q : Int32 → Prop) : Prop := b ≠ 0 ∧ Q (a - a / b * b)
def dvL (a b : Int64) (Q : Int64 → Prop) : Prop := b ≠ 0 ∧ Q (a / b)
def rZ (x : Int32) (Q : Int32 → Prop) : Prop := (x = 0 ∨ x = 1) ∧ Q x
def chK (B : List Int32) (i : Int32) (Q : Int32 → Prop) : Prop := inX i B.length ∧ Q (B.getD i.toNatClampNeg 0)
def vK {α : Type} (x : α) (Q : α → Prop) : Prop := ∀ X : Prop, (Q x → X) → X
theorem vK_eq {α : Type} (x : α) (Q : α → Prop) : vK x Q = Q x := propext ⟨fun h => h _ id, fun h _ k => k h⟩
theorem vK_i {α : Type} {x : α} {Q : α → Prop} (h : Q x) : vK x Q := fun _ k => k h
/-- what follows from several places -/
def jn {T : Type} (K : T) (f : T → Prop) : Prop := ∀ X : Prop, (f K → X) → X
theorem jn_eq {T : Type} (K : T) (f : T → Prop) : jn K f = f K := propext ⟨fun h => h _ id, fun h _ k => k h⟩
theorem jn_i {T : Type} {K : T} {f : T → Prop} (h : f K) : jn K f := fun _ k => k h
/-- the ways' common end, shown once -/
theorem jn_of {T : Type} {K : T} {f : T → Prop} (P : T → Prop) (h : P K) (k : ∀ J, P J → f J) : jn K f := jn_i (k K h)
section Leaf
variable {b r j : Nat} {lay : LY} {c : CT} {P : Value → Prop} {PC : List CT → Prop}
theorem uw_gFi {ci k : Nat} {ks : List Nat} (hw : w.1[b]? = some (r, lay)) (hc : C[b]? = some c) (hl : lay[j]? = some (.inr (ci, ks))) (hk : ks.getD k 0 = 0) (h : P (.int (c.1 j k))) (b3 : b < 13 := by decide) : UW w (gF ci k) (.ref (r + j)) C P := fun σ hσ => ⟨_, by rw [hσ.ov b3 hw hc]; exact gF_i hl hk, h⟩
theorem uw_gFs {ci k o : Nat} {ks : List Nat} (hw : w.1[b]? = some (r, lay)) (hc : C[b]? = some c) (hl : lay[j]? = some (.inr (ci, ks))) (hk : ks.getD k 0 = o + 2) (h : P (.ref (r + o))) (b3 : b < 13 := by decide) : UW w (gF ci k) (.ref (r + j)) C P := fun σ hσ => ⟨_, by rw [hσ.ov b3 hw hc]; exact gF_s hl hk, h⟩
theorem uw_gFr {ci k a : Nat} {ks : List Nat} (hw : w.1[b]? = some (r, lay)) (hc : C[b]? = some c) (hl : lay[j]? = some (.inr (ci, ks))) (hk : ks.getD k 0 = 1) (hr : w.2 b j k = some a) (h : P (.ref a)) (b3 : b < 13 := by decide) : UW w (gF ci k) (.ref (r + j)) C P := fun σ hσ => ⟨_, by rw [hσ.ov b3 hw hc, gF_r hl hk]; show some (va_rf (w.2 b j k)) = _; rw [hr]; rfl, h⟩
theorem uw_arN {n : Nat} {ty : FieldType} (hw : w.1[b]? = some (r, lay)) (hc : C[b]? = some c) (hl : lay[j]? = some (.inl (ty, n))) (h : P (.int (Int32.ofNat n))) (b3 : b < 13 := by decide) : UW w arN (.ref (r + j)) C P := fun σ hσ => ⟨_, by rw [hσ.ov b3 hw hc]; exact arN_b hl, h⟩
theorem uw_o {op : Value → ST → Option Value} {a u : Value} (ho : ∀ σ, op a σ = some u) (h : P u) : UW w op a C P := fun σ _ => ⟨u, ho σ, h⟩
theorem bw_o {op : Value → Value → ST → Option Value} {a a' u : Value} (ho : ∀ σ, op a a' σ = some u) (h : P u) : BW w op a a' C P := fun σ _ => ⟨u, ho σ, h⟩
theorem bw_idiv {x y : Int32} {F : Int32 → Prop} (h : dvI x y F) (k : ∀ u, F u → P (.int u)) : BW w o_idiv (.int x) (.int y) C P := fun σ _ => ⟨.int (x / y), by unfold o_idiv; dsimp only; rw [if_neg h.1], k _ h.2⟩
theorem bw_irem {x y : Int32} {F : Int32 → Prop} (h : rmI x y F) (k : ∀ u, F u → P (.int u)) : BW w o_irem (.int x) (.int y) C P := fun σ _ => ⟨.int (x - x / y * y), by unfold o_irem; dsimp only; rw [if_neg h.1], k _ h.2⟩
theorem bw_ldiv {x y : Int64} {F : Int64 → Prop} (h : dvL x y F) (k : ∀ u, F u → P (.long u)) : BW w o_ldiv (.long x) (.long y) C P := fun σ _ => ⟨.long (x / y), by unfold o_ldiv; dsimp only; rw [if_neg h.1], k _ h.2⟩
theorem uw_chW {B : List Int32} {i : Int32} {F : Int32 → Prop} (h : chK B i F) (k : ∀ u, F u → P (.int u)) : UW w (chW B) (.int i) C P := fun σ _ => ⟨_, by unfold chW; dsimp only; rw [if_pos (c := ¬ (i < 0 ∨ _ ≤ i.toNatClampNeg)) h.1], k _ h.2⟩
theorem bw_arI {n : Nat} {i : Int32} {F : Int32 → Prop} (hw : w.1[b]? = some (r, lay)) (hc : C[b]? = some c) (hl : lay[j]? = some (.inl (.int, n))) (h : rdI c j n i F) (k : ∀ u, F u → P (.int u)) (b3 : b < 13 := by decide) : BW w (arI .int) (.ref (r + j)) (.int i) C P := fun σ hσ => ⟨_, by rw [hσ.ov b3 hw hc, arI_b hl, if_pos (c := ¬ (i < 0 ∨ _ ≤ i.toNatClampNeg)) h.1]; rfl, k _ h.2⟩
theorem bw_arZ {n : Nat} {i : Int32} {ty : FieldType} {F : Int32 → Prop} (hw : w.1[b]? = some (r, lay)) (hc : C[b]? = some c) (hl : lay[j]? = some (.inl (ty, n))) (ht : ty = .byte ∨ ty = .boolean) (h : rdI c j n i F) (k : ∀ u, F u → P (.int u)) (b3 : b < 13 := by decide) : BW w arZ (.ref (r + j)) (.int i) C P := fun σ hσ => ⟨_, by rw [hσ.ov b3 hw hc, arZ_b hl ht, if_pos (c := ¬ (i < 0 ∨ _ ≤ i.toNatClampNeg)) h.1]; rfl, k _ h.2⟩
theorem bw_arL {n : Nat} {i : Int32} {F : Int64 → Prop} (hw : w.1[b]? = some (r, lay)) (hc : C[b]? = some c) (hl : lay[j]? = some (.inl (.long, n))) (h : rdL c j n i F) (k : ∀ u, F u → P (.long u)) (b3 : b < 13 := by decide) : BW w arL (.ref (r + j)) (.int i) C P := fun σ hσ => ⟨_, by rw [hσ.ov b3 hw hc, arL_b hl, if_pos (c := ¬ (i < 0 ∨ _ ≤ i.toNatClampNeg)) h.1]; rfl, k _ h.2⟩
theorem bw_arR {n : Nat} {i : Int32} {Cn : String} {F : Nat → Prop} {ad : Nat → Nat} (hw : w.1[b]? = some (r, lay)) (hc : C[b]? = some c) (hl : lay[j]? = some (.inl (.object Cn, n))) (hr : ∀ q, q < n → w.2 b j q = some (ad q)) (h : ixN n i F) (k : ∀ q, q < n → F q → P (.ref (ad q))) (b3 : b < 13 := by decide) : BW w (arR Cn) (.ref (r + j)) (.int i) C P := fun σ hσ => ⟨.ref (ad i.toNatClampNeg), by
  have hn : i.toNatClampNeg < n := Nat.lt_of_not_le fun q => h.1 (Or.inr q)
  rw [hσ.ov b3 hw hc, arR_b hl, if_pos (c := ¬ (i < 0 ∨ _ ≤ i.toNatClampNeg)) h.1]
  show some (va_rf (w.2 b j i.toNatClampNeg)) = _
  rw [hr _ hn]
  rfl, k _ (Nat.lt_of_not_le fun q => h.1 (Or.inr q)) h.2⟩
theorem pw_F {ci k : Nat} {ks : List Nat} {ty : FieldType} {x : Int32} {F : CT → Prop} (hw : w.1[b]? = some (r, lay)) (hc : C[b]? = some c) (hl : lay[j]? = some (.inr (ci, ks))) (hk : ks.getD k 0 = 0) (hv : vfit ty (.int x) = true) (h : wrF c j k x F) (kk : ∀ u, F u → PC (C.set b u)) (b3 : b < 13 := by decide) (b6 : b ≠ 6 ∨ j = 0 := by first | exact Or.inl (by decide) | exact Or.inr rfl) : P2W w (pF ci k ty) (.ref (r + j)) (.int x) C PC := fun σ hσ => ⟨_, C.set b (sI c j k x), by refine (congrArg (fun s => pF ci k ty (.ref (r + j)) (.int x) s) (hσ.ov b3 hw hc)).trans ?_; exact pF_i hl hk hv, hσ.put b3 hw hc (fun e j' k' => ⟨show up2 c.1 j k x (j' + 1) k' = c.1 (j' + 1) k' from if_neg (fun q => by rcases b6 with z | z; exact z e; omega), rfl⟩), rfl, kk _ h⟩
theorem pw_I {n : Nat} {i x : Int32} {F : CT → Prop} (hw : w.1[b]? = some (r, lay)) (hc : C[b]? = some c) (hl : lay[j]? = some (.inl (.int, n))) (h : wrI c j n i x F) (k : ∀ u, F u → PC (C.set b u)) (b3 : b < 13 := by decide) (b6 : b ≠ 6 := by decide) : P3W w asI (.ref (r + j)) (.int i) (.int x) C PC := fun σ hσ => ⟨_, C.set b (sI c j i.toNatClampNeg x), by refine (congrArg (fun s => asI (.ref (r + j)) (.int i) (.int x) s) (hσ.ov b3 hw hc)).trans ?_; rw [asI_b hl, if_pos (c := ¬ (i < 0 ∨ _ ≤ i.toNatClampNeg)) h.1]; rfl, hσ.put b3 hw hc (fun e => absurd e b6), rfl, k _ h.2⟩
theorem pw_Z {n : Nat} {i x : Int32} {ty : FieldType} {F : CT → Prop} (hw : w.1[b]? = some (r, lay)) (hc : C[b]? = some c) (hl : lay[j]? = some (.inl (ty, n))) (ht : ty = .byte ∨ ty = .boolean) (h : wrI c j n i (vp_nar ty x) F) (k : ∀ u, F u → PC (C.set b u)) (b3 : b < 13 := by decide) (b6 : b ≠ 6 := by decide) : P3W w asZ (.ref (r + j)) (.int i) (.int x) C PC := fun σ hσ => ⟨_, C.set b (sI c j i.toNatClampNeg (vp_nar ty x)), by refine (congrArg (fun s => asZ (.ref (r + j)) (.int i) (.int x) s) (hσ.ov b3 hw hc)).trans ?_; rw [asZ_b hl ht, if_pos (c := ¬ (i < 0 ∨ _ ≤ i.toNatClampNeg)) h.1]; rfl, hσ.put b3 hw hc (fun e => absurd e b6), rfl, k _ h.2⟩
theorem pw_L {n : Nat} {i : Int32} {x : Int64} {F : CT → Prop} (hw : w.1[b]? = some (r, lay)) (hc : C[b]? = some c) (hl : lay[j]? = some (.inl (.long, n))) (h : wrL c j n i x F) (k : ∀ u, F u → PC (C.set b u)) (b3 : b < 13 := by decide) (b6 : b ≠ 6 := by decide) : P3W w asL (.ref (r + j)) (.int i) (.long x) C PC := fun σ hσ => ⟨_, C.set b (sL c j i.toNatClampNeg x), by refine (congrArg (fun s => asL (.ref (r + j)) (.int i) (.long x) s) (hσ.ov b3 hw hc)).trans ?_; rw [asL_b hl, if_pos (c := ¬ (i < 0 ∨ _ ≤ i.toNatClampNeg)) h.1]; rfl, hσ.put b3 hw hc (fun e => absurd e b6), rfl, k _ h.2⟩
theorem uw_arNV {n : Nat} {ty : FieldType} (hw : w.1[13]? = some (r, lay)) (hc : C[6]? = some c) (hl : lay[j]? = some (.inl (ty, n))) (h : P (.int (Int32.ofNat n))) : UW w arN (.ref (r + j)) C P := fun σ hσ => ⟨_, by rw [hσ.ovV hw hc]; exact arN_b hl, h⟩
theorem bw_arIV {n : Nat} {i : Int32} {F : Int32 → Prop} (hw : w.1[13]? = some (r, lay)) (hc : C[6]? = some c) (hl : lay[j]? = some (.inl (.int, n))) (h : rdI c (j + 1) n i F) (k : ∀ u, F u → P (.int u)) : BW w (arI .int) (.ref (r + j)) (.int i) C P := fun σ hσ => ⟨_, by rw [hσ.ovV hw hc, arI_b hl, if_pos (c := ¬ (i < 0 ∨ _ ≤ i.toNatClampNeg)) h.1]; rfl, k _ h.2⟩
theorem bw_arLV {n : Nat} {i : Int32} {F : Int64 → Prop} (hw : w.1[13]? = some (r, lay)) (hc : C[6]? = some c) (hl : lay[j]? = some (.inl (.long, n))) (h : rdL c (j + 1) n i F) (k : ∀ u, F u → P (.long u)) : BW w arL (.ref (r + j)) (.int i) C P := fun σ hσ => ⟨_, by rw [hσ.ovV hw hc, arL_b hl, if_pos (c := ¬ (i < 0 ∨ _ ≤ i.toNatClampNeg)) h.1]; rfl, k _ h.2⟩
theorem bcV_I {k : Nat} {x : Int32} : setI (bcV w c) j k x = bcV w (sI c (j + 1) k x) := by
  unfold setI bcV sI
  refine Prod.ext (funext fun j' => funext fun k' => ?_) rfl
  show up2 (fun j k => c.1 (j + 1) k) j k x j' k' = up2 c.1 (j + 1) k x (j' + 1) k'
  unfold up2
  by_cases e : j' = j ∧ k' = k
  · rw [if_pos e, if_pos ⟨by omega, e.2⟩]
  · rw [if_neg e, if_neg (by omega)]
theorem bcV_L {k : Nat} {x : Int64} : setL (bcV w c) j k x = bcV w (sL c (j + 1) k x) := by
  unfold setL bcV sL
  refine Prod.ext rfl (Prod.ext (funext fun j' => funext fun k' => ?_) rfl)
  show up2 (fun j k => c.2 (j + 1) k) j k x j' k' = up2 c.2 (j + 1) k x (j' + 1) k'
  unfold up2
  by_cases e : j' = j ∧ k' = k
  · rw [if_pos e, if_pos ⟨by omega, e.2⟩]
  · rw [if_neg e, if_neg (by omega)]
theorem pw_IV {n x6 : Nat} {i x : Int32} {F : CT → Prop} (hw6 : w.1[6]? = some (x6, woLay)) (hw : w.1[13]? = some (r, lay)) (hc : C[6]? = some c) (hl : lay[j]? = some (.inl (.int, n))) (h : wrI c (j + 1) n i x F) (k : ∀ u, F u → PC (C.set 6 u)) : P3W w asI (.ref (r + j)) (.int i) (.int x) C PC := fun σ hσ => ⟨_, C.set 6 (sI c (j + 1) i.toNatClampNeg x), by refine (congrArg (fun s => asI (.ref (r + j)) (.int i) (.int x) s) (hσ.ovV hw hc)).trans ?_; rw [asI_b hl, if_pos (c := ¬ (i < 0 ∨ _ ≤ i.toNatClampNeg)) h.1, bcV_I], hσ.putV hw hw6 hc (fun k' => ⟨show up2 c.1 (j + 1) i.toNatClampNeg x 0 k' = c.1 0 k' from if_neg (fun q => by omega), rfl⟩), rfl, k _ h.2⟩
theorem pw_LV {n x6 : Nat} {i : Int32} {x : Int64} {F : CT → Prop} (hw6 : w.1[6]? = some (x6, woLay)) (hw : w.1[13]? = some (r, lay)) (hc : C[6]? = some c) (hl : lay[j]? = some (.inl (.long, n))) (h : wrL c (j + 1) n i x F) (k : ∀ u, F u → PC (C.set 6 u)) : P3W w asL (.ref (r + j)) (.int i) (.long x) C PC := fun σ hσ => ⟨_, C.set 6 (sL c (j + 1) i.toNatClampNeg x), by refine (congrArg (fun s => asL (.ref (r + j)) (.int i) (.long x) s) (hσ.ovV hw hc)).trans ?_; rw [asL_b hl, if_pos (c := ¬ (i < 0 ∨ _ ≤ i.toNatClampNeg)) h.1, bcV_L], hσ.putV hw hw6 hc (fun k' => ⟨rfl, show up2 c.2 (j + 1) i.toNatClampNeg x 0 k' = c.2 0 k' from if_neg (fun q => by omega)⟩), rfl, k _ h.2⟩
end Leaf
end KM
def LP1 {A0 : Type} (f : (A0 → Prop) → A0 → Prop) (a0 : A0) : Prop := ∀ R : A0 → Prop, (∀ a0, f R a0 → R a0) → R a0
theorem LP1.ind {A0 : Type} {f : (A0 → Prop) → A0 → Prop} (I : A0 → Prop) (m : A0 → Nat) (h : ∀ (R : A0 → Prop) a0, I a0 → (∀ b0, I b0 → m b0 < m a0 → R b0) → f R a0) {a0} (h0 : I a0) : LP1 f a0 := fun R hR => by
  have key : ∀ n a0, m a0 < n → I a0 → R a0 := by
    intro n
    induction n with
    | zero => intro a0 hm; exact absurd hm (Nat.not_lt_zero _)
    | succ n ih => intro a0 hm hI; exact hR a0 (h R a0 hI fun b0 hb hlt => ih b0 (by omega) hb)
  exact key _ a0 (Nat.lt_succ_self _) h0
def LP2 {A0 A1 : Type} (f : (A0 → A1 → Prop) → A0 → A1 → Prop) (a0 : A0) (a1 : A1) : Prop := ∀ R : A0 → A1 → Prop, (∀ a0 a1, f R a0 a1 → R a0 a1) → R a0 a1
theorem LP2.ind {A0 A1 : Type} {f : (A0 → A1 → Prop) → A0 → A1 → Prop} (I : A0 → A1 → Prop) (m : A0 → A1 → Nat) (h : ∀ (R : A0 → A1 → Prop) a0 a1, I a0 a1 → (∀ b0 b1, I b0 b1 → m b0 b1 < m a0 a1 → R b0 b1) → f R a0 a1) {a0 a1} (h0 : I a0 a1) : LP2 f a0 a1 := fun R hR => by
  have key : ∀ n a0 a1, m a0 a1 < n → I a0 a1 → R a0 a1 := by
    intro n
    induction n with
    | zero => intro a0 a1 hm; exact absurd hm (Nat.not_lt_zero _)
    | succ n ih => intro a0 a1 hm hI; exact hR a0 a1 (h R a0 a1 hI fun b0 b1 hb hlt => ih b0 b1 (by omega) hb)
  exact key _ a0 a1 (Nat.lt_succ_self _) h0
def LP3 {A0 A1 A2 : Type} (f : (A0 → A1 → A2 → Prop) → A0 → A1 → A2 → Prop) (a0 : A0) (a1 : A1) (a2 : A2) : Prop := ∀ R : A0 → A1 → A2 → Prop, (∀ a0 a1 a2, f R a0 a1 a2 → R a0 a1 a2) → R a0 a1 a2
theorem LP3.ind {A0 A1 A2 : Type} {f : (A0 → A1 → A2 → Prop) → A0 → A1 → A2 → Prop} (I : A0 → A1 → A2 → Prop) (m : A0 → A1 → A2 → Nat) (h : ∀ (R : A0 → A1 → A2 → Prop) a0 a1 a2, I a0 a1 a2 → (∀ b0 b1 b2, I b0 b1 b2 → m b0 b1 b2 < m a0 a1 a2 → R b0 b1 b2) → f R a0 a1 a2) {a0 a1 a2} (h0 : I a0 a1 a2) : LP3 f a0 a1 a2 := fun R hR => by
  have key : ∀ n a0 a1 a2, m a0 a1 a2 < n → I a0 a1 a2 → R a0 a1 a2 := by
    intro n
    induction n with
    | zero => intro a0 a1 a2 hm; exact absurd hm (Nat.not_lt_zero _)
    | succ n ih => intro a0 a1 a2 hm hI; exact hR a0 a1 a2 (h R a0 a1 a2 hI fun b0 b1 b2 hb hlt => ih b0 b1 b2 (by omega) hb)
  exact key _ a0 a1 a2 (Nat.lt_succ_self _) h0
def LP4 {A0 A1 A2 A3 : Type} (f : (A0 → A1 → A2 → A3 → Prop) → A0 → A1 → A2 → A3 → Prop) (a0 : A0) (a1 : A1) (a2 : A2) (a3 : A3) : Prop := ∀ R : A0 → A1 → A2 → A3 → Prop, (∀ a0 a1 a2 a3, f R a0 a1 a2 a3 → R a0 a1 a2 a3) → R a0 a1 a2 a3
theorem LP4.ind {A0 A1 A2 A3 : Type} {f : (A0 → A1 → A2 → A3 → Prop) → A0 → A1 → A2 → A3 → Prop} (I : A0 → A1 → A2 → A3 → Prop) (m : A0 → A1 → A2 → A3 → Nat) (h : ∀ (R : A0 → A1 → A2 → A3 → Prop) a0 a1 a2 a3, I a0 a1 a2 a3 → (∀ b0 b1 b2 b3, I b0 b1 b2 b3 → m b0 b1 b2 b3 < m a0 a1 a2 a3 → R b0 b1 b2 b3) → f R a0 a1 a2 a3) {a0 a1 a2 a3} (h0 : I a0 a1 a2 a3) : LP4 f a0 a1 a2 a3 := fun R hR => by
  have key : ∀ n a0 a1 a2 a3, m a0 a1 a2 a3 < n → I a0 a1 a2 a3 → R a0 a1 a2 a3 := by
    intro n
    induction n with
    | zero => intro a0 a1 a2 a3 hm; exact absurd hm (Nat.not_lt_zero _)
    | succ n ih => intro a0 a1 a2 a3 hm hI; exact hR a0 a1 a2 a3 (h R a0 a1 a2 a3 hI fun b0 b1 b2 b3 hb hlt => ih b0 b1 b2 b3 (by omega) hb)
  exact key _ a0 a1 a2 a3 (Nat.lt_succ_self _) h0
def LP5 {A0 A1 A2 A3 A4 : Type} (f : (A0 → A1 → A2 → A3 → A4 → Prop) → A0 → A1 → A2 → A3 → A4 → Prop) (a0 : A0) (a1 : A1) (a2 : A2) (a3 : A3) (a4 : A4) : Prop := ∀ R : A0 → A1 → A2 → A3 → A4 → Prop, (∀ a0 a1 a2 a3 a4, f R a0 a1 a2 a3 a4 → R a0 a1 a2 a3 a4) → R a0 a1 a2 a3 a4
theorem LP5.ind {A0 A1 A2 A3 A4 : Type} {f : (A0 → A1 → A2 → A3 → A4 → Prop) → A0 → A1 → A2 → A3 → A4 → Prop} (I : A0 → A1 → A2 → A3 → A4 → Prop) (m : A0 → A1 → A2 → A3 → A4 → Nat) (h : ∀ (R : A0 → A1 → A2 → A3 → A4 → Prop) a0 a1 a2 a3 a4, I a0 a1 a2 a3 a4 → (∀ b0 b1 b2 b3 b4, I b0 b1 b2 b3 b4 → m b0 b1 b2 b3 b4 < m a0 a1 a2 a3 a4 → R b0 b1 b2 b3 b4) → f R a0 a1 a2 a3 a4) {a0 a1 a2 a3 a4} (h0 : I a0 a1 a2 a3 a4) : LP5 f a0 a1 a2 a3 a4 := fun R hR => by
  have key : ∀ n a0 a1 a2 a3 a4, m a0 a1 a2 a3 a4 < n → I a0 a1 a2 a3 a4 → R a0 a1 a2 a3 a4 := by
    intro n
    induction n with
    | zero => intro a0 a1 a2 a3 a4 hm; exact absurd hm (Nat.not_lt_zero _)
    | succ n ih => intro a0 a1 a2 a3 a4 hm hI; exact hR a0 a1 a2 a3 a4 (h R a0 a1 a2 a3 a4 hI fun b0 b1 b2 b3 b4 hb hlt => ih b0 b1 b2 b3 b4 (by omega) hb)
  exact key _ a0 a1 a2 a3 a4 (Nat.lt_succ_self _) h0
def LP6 {A0 A1 A2 A3 A4 A5 : Type} (f : (A0 → A1 → A2 → A3 → A4 → A5 → Prop) → A0 → A1 → A2 → A3 → A4 → A5 → Prop) (a0 : A0) (a1 : A1) (a2 : A2) (a3 : A3) (a4 : A4) (a5 : A5) : Prop := ∀ R : A0 → A1 → A2 → A3 → A4 → A5 → Prop, (∀ a0 a1 a2 a3 a4 a5, f R a0 a1 a2 a3 a4 a5 → R a0 a1 a2 a3 a4 a5) → R a0 a1 a2 a3 a4 a5
theorem LP6.ind {A0 A1 A2 A3 A4 A5 : Type} {f : (A0 → A1 → A2 → A3 → A4 → A5 → Prop) → A0 → A1 → A2 → A3 → A4 → A5 → Prop} (I : A0 → A1 → A2 → A3 → A4 → A5 → Prop) (m : A0 → A1 → A2 → A3 → A4 → A5 → Nat) (h : ∀ (R : A0 → A1 → A2 → A3 → A4 → A5 → Prop) a0 a1 a2 a3 a4 a5, I a0 a1 a2 a3 a4 a5 → (∀ b0 b1 b2 b3 b4 b5, I b0 b1 b2 b3 b4 b5 → m b0 b1 b2 b3 b4 b5 < m a0 a1 a2 a3 a4 a5 → R b0 b1 b2 b3 b4 b5) → f R a0 a1 a2 a3 a4 a5) {a0 a1 a2 a3 a4 a5} (h0 : I a0 a1 a2 a3 a4 a5) : LP6 f a0 a1 a2 a3 a4 a5 := fun R hR => by
  have key : ∀ n a0 a1 a2 a3 a4 a5, m a0 a1 a2 a3 a4 a5 < n → I a0 a1 a2 a3 a4 a5 → R a0 a1 a2 a3 a4 a5 := by
    intro n
    induction n with
    | zero => intro a0 a1 a2 a3 a4 a5 hm; exact absurd hm (Nat.not_lt_zero _)
    | succ n ih => intro a0 a1 a2 a3 a4 a5 hm hI; exact hR a0 a1 a2 a3 a4 a5 (h R a0 a1 a2 a3 a4 a5 hI fun b0 b1 b2 b3 b4 b5 hb hlt => ih b0 b1 b2 b3 b4 b5 (by omega) hb)
  exact key _ a0 a1 a2 a3 a4 a5 (Nat.lt_succ_self _) h0
def LP7 {A0 A1 A2 A3 A4 A5 A6 : Type} (f : (A0 → A1 → A2 → A3 → A4 → A5 → A6 → Prop) → A0 → A1 → A2 → A3 → A4 → A5 → A6 → Prop) (a0 : A0) (a1 : A1) (a2 : A2) (a3 : A3) (a4 : A4) (a5 : A5) (a6 : A6) : Prop := ∀ R : A0 → A1 → A2 → A3 → A4 → A5 → A6 → Prop, (∀ a0 a1 a2 a3 a4 a5 a6, f R a0 a1 a2 a3 a4 a5 a6 → R a0 a1 a2 a3 a4 a5 a6) → R a0 a1 a2 a3 a4 a5 a6
theorem LP7.ind {A0 A1 A2 A3 A4 A5 A6 : Type} {f : (A0 → A1 → A2 → A3 → A4 → A5 → A6 → Prop) → A0 → A1 → A2 → A3 → A4 → A5 → A6 → Prop} (I : A0 → A1 → A2 → A3 → A4 → A5 → A6 → Prop) (m : A0 → A1 → A2 → A3 → A4 → A5 → A6 → Nat) (h : ∀ (R : A0 → A1 → A2 → A3 → A4 → A5 → A6 → Prop) a0 a1 a2 a3 a4 a5 a6, I a0 a1 a2 a3 a4 a5 a6 → (∀ b0 b1 b2 b3 b4 b5 b6, I b0 b1 b2 b3 b4 b5 b6 → m b0 b1 b2 b3 b4 b5 b6 < m a0 a1 a2 a3 a4 a5 a6 → R b0 b1 b2 b3 b4 b5 b6) → f R a0 a1 a2 a3 a4 a5 a6) {a0 a1 a2 a3 a4 a5 a6} (h0 : I a0 a1 a2 a3 a4 a5 a6) : LP7 f a0 a1 a2 a3 a4 a5 a6 := fun R hR => by
  have key : ∀ n a0 a1 a2 a3 a4 a5 a6, m a0 a1 a2 a3 a4 a5 a6 < n → I a0 a1 a2 a3 a4 a5 a6 → R a0 a1 a2 a3 a4 a5 a6 := by
    intro n
    induction n with
    | zero => intro a0 a1 a2 a3 a4 a5 a6 hm; exact absurd hm (Nat.not_lt_zero _)
    | succ n ih => intro a0 a1 a2 a3 a4 a5 a6 hm hI; exact hR a0 a1 a2 a3 a4 a5 a6 (h R a0 a1 a2 a3 a4 a5 a6 hI fun b0 b1 b2 b3 b4 b5 b6 hb hlt => ih b0 b1 b2 b3 b4 b5 b6 (by omega) hb)
  exact key _ a0 a1 a2 a3 a4 a5 a6 (Nat.lt_succ_self _) h0
def LP8 {A0 A1 A2 A3 A4 A5 A6 A7 : Type} (f : (A0 → A1 → A2 → A3 → A4 → A5 → A6 → A7 → Prop) → A0 → A1 → A2 → A3 → A4 → A5 → A6 → A7 → Prop) (a0 : A0) (a1 : A1) (a2 : A2) (a3 : A3) (a4 : A4) (a5 : A5) (a6 : A6) (a7 : A7) : Prop := ∀ R : A0 → A1 → A2 → A3 → A4 → A5 → A6 → A7 → Prop, (∀ a0 a1 a2 a3 a4 a5 a6 a7, f R a0 a1 a2 a3 a4 a5 a6 a7 → R a0 a1 a2 a3 a4 a5 a6 a7) → R a0 a1 a2 a3 a4 a5 a6 a7
theorem LP8.ind {A0 A1 A2 A3 A4 A5 A6 A7 : Type} {f : (A0 → A1 → A2 → A3 → A4 → A5 → A6 → A7 → Prop) → A0 → A1 → A2 → A3 → A4 → A5 → A6 → A7 → Prop} (I : A0 → A1 → A2 → A3 → A4 → A5 → A6 → A7 → Prop) (m : A0 → A1 → A2 → A3 → A4 → A5 → A6 → A7 → Nat) (h : ∀ (R : A0 → A1 → A2 → A3 → A4 → A5 → A6 → A7 → Prop) a0 a1 a2 a3 a4 a5 a6 a7, I a0 a1 a2 a3 a4 a5 a6 a7 → (∀ b0 b1 b2 b3 b4 b5 b6 b7, I b0 b1 b2 b3 b4 b5 b6 b7 → m b0 b1 b2 b3 b4 b5 b6 b7 < m a0 a1 a2 a3 a4 a5 a6 a7 → R b0 b1 b2 b3 b4 b5 b6 b7) → f R a0 a1 a2 a3 a4 a5 a6 a7) {a0 a1 a2 a3 a4 a5 a6 a7} (h0 : I a0 a1 a2 a3 a4 a5 a6 a7) : LP8 f a0 a1 a2 a3 a4 a5 a6 a7 := fun R hR => by
  have key : ∀ n a0 a1 a2 a3 a4 a5 a6 a7, m a0 a1 a2 a3 a4 a5 a6 a7 < n → I a0 a1 a2 a3 a4 a5 a6 a7 → R a0 a1 a2 a3 a4 a5 a6 a7 := by
    intro n
    induction n with
    | zero => intro a0 a1 a2 a3 a4 a5 a6 a7 hm; exact absurd hm (Nat.not_lt_zero _)
    | succ n ih => intro a0 a1 a2 a3 a4 a5 a6 a7 hm hI; exact hR a0 a1 a2 a3 a4 a5 a6 a7 (h R a0 a1 a2 a3 a4 a5 a6 a7 hI fun b0 b1 b2 b3 b4 b5 b6 b7 hb hlt => ih b0 b1 b2 b3 b4 b5 b6 b7 (by omega) hb)
  exact key _ a0 a1 a2 a3 a4 a5 a6 a7 (Nat.lt_succ_self _) h0
def LP9 {A0 A1 A2 A3 A4 A5 A6 A7 A8 : Type} (f : (A0 → A1 → A2 → A3 → A4 → A5 → A6 → A7 → A8 → Prop) → A0 → A1 → A2 → A3 → A4 → A5 → A6 → A7 → A8 → Prop) (a0 : A0) (a1 : A1) (a2 : A2) (a3 : A3) (a4 : A4) (a5 : A5) (a6 : A6) (a7 : A7) (a8 : A8) : Prop := ∀ R : A0 → A1 → A2 → A3 → A4 → A5 → A6 → A7 → A8 → Prop, (∀ a0 a1 a2 a3 a4 a5 a6 a7 a8, f R a0 a1 a2 a3 a4 a5 a6 a7 a8 → R a0 a1 a2 a3 a4 a5 a6 a7 a8) → R a0 a1 a2 a3 a4 a5 a6 a7 a8
theorem LP9.ind {A0 A1 A2 A3 A4 A5 A6 A7 A8 : Type} {f : (A0 → A1 → A2 → A3 → A4 → A5 → A6 → A7 → A8 → Prop) → A0 → A1 → A2 → A3 → A4 → A5 → A6 → A7 → A8 → Prop} (I : A0 → A1 → A2 → A3 → A4 → A5 → A6 → A7 → A8 → Prop) (m : A0 → A1 → A2 → A3 → A4 → A5 → A6 → A7 → A8 → Nat) (h : ∀ (R : A0 → A1 → A2 → A3 → A4 → A5 → A6 → A7 → A8 → Prop) a0 a1 a2 a3 a4 a5 a6 a7 a8, I a0 a1 a2 a3 a4 a5 a6 a7 a8 → (∀ b0 b1 b2 b3 b4 b5 b6 b7 b8, I b0 b1 b2 b3 b4 b5 b6 b7 b8 → m b0 b1 b2 b3 b4 b5 b6 b7 b8 < m a0 a1 a2 a3 a4 a5 a6 a7 a8 → R b0 b1 b2 b3 b4 b5 b6 b7 b8) → f R a0 a1 a2 a3 a4 a5 a6 a7 a8) {a0 a1 a2 a3 a4 a5 a6 a7 a8} (h0 : I a0 a1 a2 a3 a4 a5 a6 a7 a8) : LP9 f a0 a1 a2 a3 a4 a5 a6 a7 a8 := fun R hR => by
  have key : ∀ n a0 a1 a2 a3 a4 a5 a6 a7 a8, m a0 a1 a2 a3 a4 a5 a6 a7 a8 < n → I a0 a1 a2 a3 a4 a5 a6 a7 a8 → R a0 a1 a2 a3 a4 a5 a6 a7 a8 := by
    intro n
    induction n with
    | zero => intro a0 a1 a2 a3 a4 a5 a6 a7 a8 hm; exact absurd hm (Nat.not_lt_zero _)
    | succ n ih => intro a0 a1 a2 a3 a4 a5 a6 a7 a8 hm hI; exact hR a0 a1 a2 a3 a4 a5 a6 a7 a8 (h R a0 a1 a2 a3 a4 a5 a6 a7 a8 hI fun b0 b1 b2 b3 b4 b5 b6 b7 b8 hb hlt => ih b0 b1 b2 b3 b4 b5 b6 b7 b8 (by omega) hb)
  exact key _ a0 a1 a2 a3 a4 a5 a6 a7 a8 (Nat.lt_succ_self _) h0
def LP10 {A0 A1 A2 A3 A4 A5 A6 A7 A8 A9 : Type} (f : (A0 → A1 → A2 → A3 → A4 → A5 → A6 → A7 → A8 → A9 → Prop) → A0 → A1 → A2 → A3 → A4 → A5 → A6 → A7 → A8 → A9 → Prop) (a0 : A0) (a1 : A1) (a2 : A2) (a3 : A3) (a4 : A4) (a5 : A5) (a6 : A6) (a7 : A7) (a8 : A8) (a9 : A9) : Prop := ∀ R : A0 → A1 → A2 → A3 → A4 → A5 → A6 → A7 → A8 → A9 → Prop, (∀ a0 a1 a2 a3 a4 a5 a6 a7 a8 a9, f R a0 a1 a2 a3 a4 a5 a6 a7 a8 a9 → R a0 a1 a2 a3 a4 a5 a6 a7 a8 a9) → R a0 a1 a2 a3 a4 a5 a6 a7 a8 a9
theorem LP10.ind {A0 A1 A2 A3 A4 A5 A6 A7 A8 A9 : Type} {f : (A0 → A1 → A2 → A3 → A4 → A5 → A6 → A7 → A8 → A9 → Prop) → A0 → A1 → A2 → A3 → A4 → A5 → A6 → A7 → A8 → A9 → Prop} (I : A0 → A1 → A2 → A3 → A4 → A5 → A6 → A7 → A8 → A9 → Prop) (m : A0 → A1 → A2 → A3 → A4 → A5 → A6 → A7 → A8 → A9 → Nat) (h : ∀ (R : A0 → A1 → A2 → A3 → A4 → A5 → A6 → A7 → A8 → A9 → Prop) a0 a1 a2 a3 a4 a5 a6 a7 a8 a9, I a0 a1 a2 a3 a4 a5 a6 a7 a8 a9 → (∀ b0 b1 b2 b3 b4 b5 b6 b7 b8 b9, I b0 b1 b2 b3 b4 b5 b6 b7 b8 b9 → m b0 b1 b2 b3 b4 b5 b6 b7 b8 b9 < m a0 a1 a2 a3 a4 a5 a6 a7 a8 a9 → R b0 b1 b2 b3 b4 b5 b6 b7 b8 b9) → f R a0 a1 a2 a3 a4 a5 a6 a7 a8 a9) {a0 a1 a2 a3 a4 a5 a6 a7 a8 a9} (h0 : I a0 a1 a2 a3 a4 a5 a6 a7 a8 a9) : LP10 f a0 a1 a2 a3 a4 a5 a6 a7 a8 a9 := fun R hR => by
  have key : ∀ n a0 a1 a2 a3 a4 a5 a6 a7 a8 a9, m a0 a1 a2 a3 a4 a5 a6 a7 a8 a9 < n → I a0 a1 a2 a3 a4 a5 a6 a7 a8 a9 → R a0 a1 a2 a3 a4 a5 a6 a7 a8 a9 := by
    intro n
    induction n with
    | zero => intro a0 a1 a2 a3 a4 a5 a6 a7 a8 a9 hm; exact absurd hm (Nat.not_lt_zero _)
    | succ n ih => intro a0 a1 a2 a3 a4 a5 a6 a7 a8 a9 hm hI; exact hR a0 a1 a2 a3 a4 a5 a6 a7 a8 a9 (h R a0 a1 a2 a3 a4 a5 a6 a7 a8 a9 hI fun b0 b1 b2 b3 b4 b5 b6 b7 b8 b9 hb hlt => ih b0 b1 b2 b3 b4 b5 b6 b7 b8 b9 (by omega) hb)
  exact key _ a0 a1 a2 a3 a4 a5 a6 a7 a8 a9 (Nat.lt_succ_self _) h0
