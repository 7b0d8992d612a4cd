/-! ===== working a method's function out by rewriting ===== -/
def fin : Option (XO × List Value × ST) → Option (Option Value × ST)
  | some (.inr v, _, σ) => some (v, σ)
  | _ => none
theorem fin_r {v : Option Value} {L : List Value} {σ : ST} : fin (some (.inr v, L, σ)) = some (v, σ) := rfl
theorem mth_fin {nL : Nat} {body : XS} {as : List Value} {σ : ST} (h : (expA as).length ≤ nL) : mth nL body as σ = fin (body (L0 nL as) σ) := by
  unfold mth
  rw [if_pos h]
  unfold fin
  split <;> split <;> simp_all
theorem sSeq_0 {a b : XS} {L L' : List Value} {σ σ' : ST} (h : a L σ = some (.inl 0, L', σ')) : sSeq a b L σ = b L' σ' := by
  unfold sSeq
  rw [h]
  rfl
theorem sSeq_r {a b : XS} {L L' : List Value} {σ σ' : ST} {v : Option Value} (h : a L σ = some (.inr v, L', σ')) : sSeq a b L σ = some (.inr v, L', σ') := by
  unfold sSeq
  rw [h]
  rfl
theorem sSeq_k {a b : XS} {L L' : List Value} {σ σ' : ST} {k : Nat} (h : a L σ = some (.inl (k + 1), L', σ')) : sSeq a b L σ = some (.inl (k + 1), L', σ') := by
  unfold sSeq
  rw [h]
  rfl
/-- outcome, then what follows -/
def thn (o : Option (XO × List Value × ST)) (b : XS) : Option (XO × List Value × ST) := o.bind fun r => match r.1 with
  | .inl 0 => b r.2.1 r.2.2
  | o => some (o, r.2)
theorem thn_0 {b : XS} {L : List Value} {σ : ST} : thn (some (.inl 0, L, σ)) b = b L σ := rfl
theorem thn_k {b : XS} {L : List Value} {σ : ST} {k : Nat} : thn (some (.inl (k + 1), L, σ)) b = some (.inl (k + 1), L, σ) := rfl
theorem thn_1 {b : XS} {L : List Value} {σ : ST} : thn (some (.inl 1, L, σ)) b = some (.inl 1, L, σ) := rfl
theorem thn_2 {b : XS} {L : List Value} {σ : ST} : thn (some (.inl 2, L, σ)) b = some (.inl 2, L, σ) := rfl
theorem thn_3 {b : XS} {L : List Value} {σ : ST} : thn (some (.inl 3, L, σ)) b = some (.inl 3, L, σ) := rfl
theorem thn_4 {b : XS} {L : List Value} {σ : ST} : thn (some (.inl 4, L, σ)) b = some (.inl 4, L, σ) := rfl
theorem thn_5 {b : XS} {L : List Value} {σ : ST} : thn (some (.inl 5, L, σ)) b = some (.inl 5, L, σ) := rfl
theorem thn_r {b : XS} {L : List Value} {σ : ST} {v : Option Value} : thn (some (.inr v, L, σ)) b = some (.inr v, L, σ) := rfl
theorem thn_n {b : XS} : thn none b = none := rfl
theorem thn_ite {p : Prop} [Decidable p] {x y : Option (XO × List Value × ST)} {b : XS} : thn (if p then x else y) b = if p then thn x b else thn y b := by split <;> rfl
theorem sSeq_t {a b : XS} {L : List Value} {σ : ST} : sSeq a b L σ = thn (a L σ) b := rfl
def dn (o : Option (XO × List Value × ST)) : Option (XO × List Value × ST) := o.map fun r => (dnO r.1, r.2)
theorem sBlk_t {a : XS} {L : List Value} {σ : ST} : sBlk a L σ = dn (a L σ) := rfl
theorem dn_0 {L : List Value} {σ : ST} : dn (some (.inl 0, L, σ)) = some (.inl 0, L, σ) := rfl
theorem dn_1 {L : List Value} {σ : ST} : dn (some (.inl 1, L, σ)) = some (.inl 0, L, σ) := rfl
theorem dn_2 {L : List Value} {σ : ST} : dn (some (.inl 2, L, σ)) = some (.inl 1, L, σ) := rfl
theorem dn_3 {L : List Value} {σ : ST} : dn (some (.inl 3, L, σ)) = some (.inl 2, L, σ) := rfl
theorem dn_4 {L : List Value} {σ : ST} : dn (some (.inl 4, L, σ)) = some (.inl 3, L, σ) := rfl
theorem dn_5 {L : List Value} {σ : ST} : dn (some (.inl 5, L, σ)) = some (.inl 4, L, σ) := rfl
theorem dn_k {L : List Value} {σ : ST} {k : Nat} : dn (some (.inl (k + 1), L, σ)) = some (.inl k, L, σ) := rfl
theorem dn_r {L : List Value} {σ : ST} {v : Option Value} : dn (some (.inr v, L, σ)) = some (.inr v, L, σ) := rfl
theorem dn_n : dn none = none := rfl
theorem dn_ite {p : Prop} [Decidable p] {x y : Option (XO × List Value × ST)} : dn (if p then x else y) = if p then dn x else dn y := by split <;> rfl
theorem fin_ite {p : Prop} [Decidable p] {x y : Option (XO × List Value × ST)} : fin (if p then x else y) = if p then fin x else fin y := by split <;> rfl
theorem bind_ite' {α β : Type} {p : Prop} [Decidable p] {x y : Option α} {f : α → Option β} : (if p then x else y).bind f = if p then x.bind f else y.bind f := by split <;> rfl
theorem map_ite' {α β : Type} {p : Prop} [Decidable p] {x y : Option α} {f : α → β} : (if p then x else y).map f = if p then x.map f else y.map f := by split <;> rfl
theorem thn_6 {b : XS} {L : List Value} {σ : ST} : thn (some (.inl 6, L, σ)) b = some (.inl 6, L, σ) := rfl
theorem dn_6 {L : List Value} {σ : ST} : dn (some (.inl 6, L, σ)) = some (.inl 5, L, σ) := rfl
theorem thn_7 {b : XS} {L : List Value} {σ : ST} : thn (some (.inl 7, L, σ)) b = some (.inl 7, L, σ) := rfl
theorem dn_7 {L : List Value} {σ : ST} : dn (some (.inl 7, L, σ)) = some (.inl 6, L, σ) := rfl
theorem thn_8 {b : XS} {L : List Value} {σ : ST} : thn (some (.inl 8, L, σ)) b = some (.inl 8, L, σ) := rfl
theorem dn_8 {L : List Value} {σ : ST} : dn (some (.inl 8, L, σ)) = some (.inl 7, L, σ) := rfl
theorem thn_9 {b : XS} {L : List Value} {σ : ST} : thn (some (.inl 9, L, σ)) b = some (.inl 9, L, σ) := rfl
theorem dn_9 {L : List Value} {σ : ST} : dn (some (.inl 9, L, σ)) = some (.inl 8, L, σ) := rfl
theorem thn_10 {b : XS} {L : List Value} {σ : ST} : thn (some (.inl 10, L, σ)) b = some (.inl 10, L, σ) := rfl
theorem dn_10 {L : List Value} {σ : ST} : dn (some (.inl 10, L, σ)) = some (.inl 9, L, σ) := rfl
theorem thn_11 {b : XS} {L : List Value} {σ : ST} : thn (some (.inl 11, L, σ)) b = some (.inl 11, L, σ) := rfl
theorem dn_11 {L : List Value} {σ : ST} : dn (some (.inl 11, L, σ)) = some (.inl 10, L, σ) := rfl
theorem thn_12 {b : XS} {L : List Value} {σ : ST} : thn (some (.inl 12, L, σ)) b = some (.inl 12, L, σ) := rfl
theorem dn_12 {L : List Value} {σ : ST} : dn (some (.inl 12, L, σ)) = some (.inl 11, L, σ) := rfl
theorem thn_13 {b : XS} {L : List Value} {σ : ST} : thn (some (.inl 13, L, σ)) b = some (.inl 13, L, σ) := rfl
theorem dn_13 {L : List Value} {σ : ST} : dn (some (.inl 13, L, σ)) = some (.inl 12, L, σ) := rfl
theorem thn_14 {b : XS} {L : List Value} {σ : ST} : thn (some (.inl 14, L, σ)) b = some (.inl 14, L, σ) := rfl
theorem dn_14 {L : List Value} {σ : ST} : dn (some (.inl 14, L, σ)) = some (.inl 13, L, σ) := rfl
theorem thn_15 {b : XS} {L : List Value} {σ : ST} : thn (some (.inl 15, L, σ)) b = some (.inl 15, L, σ) := rfl
theorem dn_15 {L : List Value} {σ : ST} : dn (some (.inl 15, L, σ)) = some (.inl 14, L, σ) := rfl
theorem thn_16 {b : XS} {L : List Value} {σ : ST} : thn (some (.inl 16, L, σ)) b = some (.inl 16, L, σ) := rfl
theorem dn_16 {L : List Value} {σ : ST} : dn (some (.inl 16, L, σ)) = some (.inl 15, L, σ) := rfl
theorem thn_17 {b : XS} {L : List Value} {σ : ST} : thn (some (.inl 17, L, σ)) b = some (.inl 17, L, σ) := rfl
theorem dn_17 {L : List Value} {σ : ST} : dn (some (.inl 17, L, σ)) = some (.inl 16, L, σ) := rfl
theorem sBrIf_t {c : XC} {k : Nat} {L : List Value} {σ : ST} : sBrIf c k L σ = (c L σ).bind fun r => if r.1 = true then some (.inl k, L, r.2) else some (.inl 0, L, r.2) := by
  unfold sBrIf
  cases c L σ with
  | none => rfl
  | some r => obtain ⟨b, s⟩ := r; cases b <;> rfl
theorem eT_t {c : XC} {e1 e2 : XE} {L : List Value} {σ : ST} : eT c e1 e2 L σ = (c L σ).bind fun r => if r.1 = true then e1 L r.2 else e2 L r.2 := rfl
theorem cIf_t {c a b : XC} {L : List Value} {σ : ST} : cIf c a b L σ = (c L σ).bind fun r => if r.1 = true then a L r.2 else b L r.2 := rfl
--
