/-! ===== expressions and statements as functions; what code does them ===== -/
def eK (v : Value) : XE := fun _ σ => some (v, σ)
def eI (i : Nat) : XE := fun L σ => match L[i]? with
  | some (.int x) => some (.int x, σ)
  | _ => none
def eA (i : Nat) : XE := fun L σ => match L[i]? with
  | some (.ref x) => some (.ref x, σ)
  | some .null => some (.null, σ)
  | _ => none
def eL (i : Nat) : XE := fun L σ => match L[i]? with
  | some (.long x) => some (.long x, σ)
  | _ => none
def eU (op : Value → ST → Option Value) (e : XE) : XE := fun L σ => (e L σ).bind fun r => (op r.1 r.2).map fun v => (v, r.2)
def eB (op : Value → Value → ST → Option Value) (e1 e2 : XE) : XE := fun L σ => (e1 L σ).bind fun r => (e2 L r.2).bind fun q => (op r.1 q.1 q.2).map fun v => (v, q.2)
def eT (c : XC) (e1 e2 : XE) : XE := fun L σ => (c L σ).bind fun r => if r.1 then e1 L r.2 else e2 L r.2
def c2 (op : Value → Value → Option Bool) (e1 e2 : XE) : XC := fun L σ => (e1 L σ).bind fun r => (e2 L r.2).bind fun q => (op r.1 q.1).map fun b => (b, q.2)
def c1 (op : Value → Option Bool) (e : XE) : XC := fun L σ => (e L σ).bind fun r => (op r.1).map fun b => (b, r.2)
def cIf (c a b : XC) : XC := fun L σ => (c L σ).bind fun r => if r.1 then a L r.2 else b L r.2
def cT : XC := fun _ σ => some (true, σ)
def cF : XC := fun _ σ => some (false, σ)
def evL : List XE → List Value → ST → Option (List Value × ST)
  | [], _, σ => some ([], σ)
  | e :: es, L, σ => (e L σ).bind fun r => (evL es L r.2).map fun q => (r.1 :: q.1, q.2)
def eC (f : XF) (es : List XE) : XE := fun L σ => (evL es L σ).bind fun r => (f r.1 r.2).bind fun q => q.1.map fun v => (v, q.2)
def fV (ci : Nat) (f : XF) : XF := fun vs σ => match vs with
  | .ref b :: _ => match σ.1 b with
    | some (.inr o) => if o.1 = ci then f vs σ else none
    | _ => none
  | _ => none
def eNew (ci N : Nat) (V : Nat → Value) (f : XF) (es : List XE) : XE := fun L σ => (evL es L (alloc σ (.inr (ci, V)) N)).bind fun r => (f (.ref σ.2.1 :: r.1) r.2).bind fun q => match q.1 with
  | none => some (.ref σ.2.1, q.2)
  | some _ => none
def newA (t : FieldType) (x : Nat → vp_A) : Value → ST → Option (Value × ST) := fun a σ => match a with
  | .int n => if n < 0 ∨ 65536 < n.toNatClampNeg then none else some (.ref σ.2.1, alloc σ (.inl (t, x n.toNatClampNeg)) n.toNatClampNeg)
  | _ => none
def eNA (t : FieldType) (x : Nat → vp_A) (e : XE) : XE := fun L σ => (e L σ).bind fun r => newA t x r.1 r.2
def sStI (i : Nat) (e : XE) : XS := fun L σ => (e L σ).bind fun r => match r.1 with
  | .int x => some (.inl 0, sto1 L i (.int x), r.2)
  | _ => none
def sStA (i : Nat) (e : XE) : XS := fun L σ => (e L σ).bind fun r => match r.1 with
  | .ref x => some (.inl 0, sto1 L i (.ref x), r.2)
  | .null => some (.inl 0, sto1 L i .null, r.2)
  | _ => none
def sStL (i : Nat) (e : XE) : XS := fun L σ => (e L σ).bind fun r => match r.1 with
  | .long x => some (.inl 0, sto2 L i (.long x), r.2)
  | _ => none
def sInc (i : Nat) (n : Int) : XS := fun L σ => match L[i]? with
  | some (.int x) => some (.inl 0, sto1 L i (.int (x + Int32.ofInt n)), σ)
  | _ => none
def sP2 (op : Value → Value → ST → Option ST) (e1 e2 : XE) : XS := fun L σ => (e1 L σ).bind fun r => (e2 L r.2).bind fun q => (op r.1 q.1 q.2).map fun t => (.inl 0, L, t)
def sP3 (op : Value → Value → Value → ST → Option ST) (e1 e2 e3 : XE) : XS := fun L σ => (e1 L σ).bind fun r => (e2 L r.2).bind fun q => (e3 L q.2).bind fun u => (op r.1 q.1 u.1 u.2).map fun t => (.inl 0, L, t)
def sUF (g : Value → ST → Option Value) (o : Value → Value → ST → Option Value) (p : Value → Value → ST → Option ST) (e1 e2 : XE) : XS := fun L σ => (e1 L σ).bind fun r => (g r.1 r.2).bind fun v => (e2 L r.2).bind fun q => (o v q.1 q.2).bind fun w => (p r.1 w q.2).map fun t => (.inl 0, L, t)
def sUA (g : Value → Value → ST → Option Value) (o : Value → Value → ST → Option Value) (p : Value → Value → Value → ST → Option ST) (e1 e2 e3 : XE) : XS := fun L σ => (e1 L σ).bind fun r => (e2 L r.2).bind fun q => (g r.1 q.1 q.2).bind fun v => (e3 L q.2).bind fun u => (o v u.1 u.2).bind fun w => (p r.1 q.1 w u.2).map fun t => (.inl 0, L, t)
def sC (f : XF) (es : List XE) : XS := fun L σ => (evL es L σ).bind fun r => (f r.1 r.2).bind fun q => match q.1 with
  | none => some (.inl 0, L, q.2)
  | some _ => none
def sCp (f : XF) (es : List XE) : XS := fun L σ => (evL es L σ).bind fun r => (f r.1 r.2).bind fun q => match q.1 with
  | none => none
  | some v => if v.category = 1 then some (.inl 0, L, q.2) else none
def sR (e : XE) : XS := fun L σ => (e L σ).map fun r => (.inr (some r.1), L, r.2)
def sR0 : XS := fun L σ => some (.inr none, L, σ)
def sNop : XS := fun L σ => some (.inl 0, L, σ)
def sBr (k : Nat) : XS := fun L σ => some (.inl k, L, σ)
def sBrIf (c : XC) (k : Nat) : XS := fun L σ => (c L σ).map fun r => (.inl (if r.1 then k else 0), L, r.2)
def sSeq (a b : XS) : XS := fun L σ => (a L σ).bind fun r => match r.1 with
  | .inl 0 => b r.2.1 r.2.2
  | o => some (o, r.2)
def dnO : XO → XO
  | .inl 0 => .inl 0
  | .inl (k + 1) => .inl k
  | .inr v => .inr v
def sBlk (s : XS) : XS := fun L σ => (s L σ).map fun r => (dnO r.1, r.2)
def iterN (s : XS) : Nat → XS
  | 0 => fun _ _ => none
  | n + 1 => fun L σ => (s L σ).bind fun r => match r.1 with
    | .inl 0 => iterN s n r.2.1 r.2.2
    | o => some (o, r.2)
noncomputable def sLoop (s : XS) : XS := fun L σ => @dite _ (∃ r, ∃ n, iterN s n L σ = some r) (Classical.propDecidable _) (fun h => some (Classical.choose h)) (fun _ => none)
def swF (lo : Int) (tbl : List Nat) (dk : Nat) (x : Int32) : Nat := if x.toInt < lo ∨ lo + tbl.length ≤ x.toInt then dk else tbl.getD (x.toInt - lo).toNat dk
def sSw (e : XE) (f : Int32 → Nat) : XS := fun L σ => (e L σ).bind fun r => match r.1 with
  | .int x => some (.inl (f x), L, r.2)
  | _ => none
theorem iterN_mono {s : XS} : ∀ {n : Nat} {L : List Value} {σ : ST} {r : XO × List Value × ST}, iterN s n L σ = some r → iterN s (n + 1) L σ = some r := by
  intro n
  induction n with
  | zero => intro L σ r h; cases h
  | succ n ih =>
    intro L σ r h
    unfold iterN at h ⊢
    cases hs : s L σ with
    | none => rw [hs] at h; cases h
    | some q =>
      rw [hs] at h
      obtain ⟨o, L1, σ1⟩ := q
      rw [Option.bind_some] at h ⊢
      dsimp only at h ⊢
      split at h
      · exact ih h
      · exact h
theorem iterN_le {s : XS} {n k : Nat} {L : List Value} {σ : ST} {r : XO × List Value × ST} (h : iterN s n L σ = some r) (hk : n ≤ k) : iterN s k L σ = some r := by
  induction hk with
  | refl => exact h
  | step _ ih => exact iterN_mono ih
theorem iterN_fun {s : XS} {n k : Nat} {L : List Value} {σ : ST} {r q : XO × List Value × ST} (h : iterN s n L σ = some r) (h2 : iterN s k L σ = some q) : r = q := by
  rcases Nat.le_total n k with hk | hk
  · exact Option.some.inj ((iterN_le h hk).symm.trans h2)
  · exact Option.some.inj (h.symm.trans (iterN_le h2 hk))
theorem sLoop_iff {s : XS} {L : List Value} {σ : ST} {r : XO × List Value × ST} : sLoop s L σ = some r ↔ ∃ n, iterN s n L σ = some r := by
  unfold sLoop
  constructor
  · intro h
    split at h
    · rename_i hx
      cases h
      exact Classical.choose_spec hx
    · cases h
  · rintro ⟨n, h⟩
    have hx : ∃ r, ∃ n, iterN s n L σ = some r := ⟨r, n, h⟩
    rw [dif_pos hx]
    obtain ⟨k, hk⟩ := Classical.choose_spec hx
    rw [iterN_fun hk h]
theorem sLoop_eq (s : XS) (L : List Value) (σ : ST) : sLoop s L σ = (s L σ).bind fun r => match r.1 with
    | .inl 0 => sLoop s r.2.1 r.2.2
    | o => some (o, r.2) := by
  apply Option.ext
  intro q
  rw [sLoop_iff]
  cases hs : s L σ with
  | none =>
    constructor
    · rintro ⟨n, h⟩
      cases n with
      | zero => cases h
      | succ n => unfold iterN at h; rw [hs] at h; cases h
    · intro h; cases h
  | some r =>
    obtain ⟨o, L1, σ1⟩ := r
    rw [Option.bind_some]
    dsimp only
    split
    · rw [sLoop_iff]
      constructor
      · rintro ⟨n, h⟩
        cases n with
        | zero => cases h
        | succ n =>
          unfold iterN at h
          rw [hs] at h
          exact ⟨n, h⟩
      · rintro ⟨n, h⟩
        refine ⟨n + 1, ?_⟩
        unfold iterN
        rw [hs]
        exact h
    · rename_i hz
      constructor
      · rintro ⟨n, h⟩
        cases n with
        | zero => cases h
        | succ n =>
          unfold iterN at h
          rw [hs, Option.bind_some] at h
          dsimp only at h
          split at h
          · exact absurd rfl hz
          · exact h
      · intro h
        refine ⟨1, ?_⟩
        unfold iterN
        rw [hs, Option.bind_some]
        dsimp only
        split
        · exact absurd rfl hz
        · exact h
