/-! ===== a new plan: steps on a growing list ===== -/
section Pln
variable {z k sl n N : Nat} {tl : List MC} {h : HP} {V : Nat → Value} {L : List Value}
/-- the plan's object, and the cells behind it -/
def plS (z : Nat) (V : Nat → Value) (tl : List MC) (h : HP) (sl : Nat) : ST := laS z (.inr (6, V) :: tl) h sl
theorem pl_c {ty : FieldType} {v : Value} (hL : L[0]? = some (.ref z)) (hv : vfit ty v = true) : sP2 (pF 6 k ty) (eA 0) (eK v) L (plS z V tl h sl) = some (.inl 0, L, plS z (updV V k v) tl h sl) := by
  unfold sP2 eA eK
  rw [hL, Option.bind_some]
  dsimp only [Option.bind_some]
  rw [show pF 6 k ty (.ref z) v (plS z V tl h sl) = some (plS z (updV V k v) tl h sl) from la_pF (z := z) (i := 0) rfl hv]
  rfl
theorem pl_a {ty ft : FieldType} {x : Nat → vp_A} (hL : L[0]? = some (.ref z)) (hv : ∀ a, vfit ty (.ref a) = true) (n6 : n ≤ 65536) : sP2 (pF 6 k ty) (eA 0) (eNA ft x (eK (.int (Int32.ofNat n)))) L (plS z V tl h sl) = some (.inl 0, L, plS z (updV V k (.ref (z + (tl.length + 1)))) (tl ++ [.inl (ft, x n)]) h (sl + n)) := by
  have en : (Int32.ofNat n).toNatClampNeg = n := nI_clamp (by omega)
  unfold sP2 eA eNA eK newA
  rw [hL, Option.bind_some]
  dsimp only [Option.bind_some]
  rw [if_neg, en]
  · dsimp only [Option.bind_some]
    unfold plS
    rw [la_alloc]
    rw [show pF 6 k ty (.ref z) (.ref (laS z (.inr (6, V) :: tl) h sl).2.1) (laS z (.inr (6, V) :: tl ++ [.inl (ft, x n)]) h (sl + n)) = some (laS z (.inr (6, updV V k (.ref (z + (tl.length + 1)))) :: (tl ++ [.inl (ft, x n)])) h (sl + n)) from la_pF (z := z) (i := 0) rfl (hv _)]
    rfl
  · rw [en]
    rintro (y | y)
    · exact absurd (nI_pos' (show n < 2 ^ 31 by omega)) (Int32.not_le.mpr y)
    · omega
/-- an object with its rows, at address a -/
def blk (ci : Nat) (ss : List CS) (V0 : Nat → Value) (a : Nat) : List MC := .inr (ci, (rnC ss (a + 1) V0).1) :: (rnC ss (a + 1) V0).2.1
theorem pl_o {ci nL : Nat} {ty : FieldType} {ss : List CS} {f : XF} {V0 : Nat → Value} (hL : L[0]? = some (.ref z)) (hv : ∀ a, vfit ty (.ref a) = true) (hf : f = mth nL (sSeq sOI (prC ci ss sR0))) (n1 : Nat.ble 1 nL = true) (ok : ss.all okC = true) : sP2 (pF 6 k ty) (eA 0) (eNew ci N V0 f []) L (plS z V tl h sl) = some (.inl 0, L, plS z (updV V k (.ref (z + (tl.length + 1)))) (tl ++ blk ci ss V0 (z + (tl.length + 1))) h (sl + N + slC ss)) := by
  unfold sP2
  have ea : eA 0 L (plS z V tl h sl) = some (.ref z, plS z V tl h sl) := by
    unfold eA
    rw [hL]
  rw [ea, Option.bind_some]
  dsimp only
  unfold plS
  rw [la_new hf n1 ok, Option.bind_some]
  dsimp only
  rw [show pF 6 k ty (.ref z) (.ref (z + (Sum.inr (6, V) :: tl).length)) (laS z (.inr (6, V) :: tl ++ (.inr (ci, (rnC ss (z + (Sum.inr (6, V) :: tl).length + 1) V0).1) :: (rnC ss (z + (Sum.inr (6, V) :: tl).length + 1) V0).2.1)) h (sl + N + slC ss)) = some (laS z (.inr (6, updV V k (.ref (z + (tl.length + 1)))) :: (tl ++ blk ci ss V0 (z + (tl.length + 1)))) h (sl + N + slC ss)) from la_pF (z := z) (i := 0) rfl (hv _)]
  rfl
/-- objects side by side from address a on, w cells each -/
def bls (ci : Nat) (ss : List CS) (V0 : Nat → Value) (a w : Nat) : Nat → List MC
  | 0 => []
  | i + 1 => bls ci ss V0 a w i ++ blk ci ss V0 (a + w * i)
theorem bls_len {ci a w : Nat} {ss : List CS} {V0 : Nat → Value} (hw : ∀ a, (blk ci ss V0 a).length = w) : ∀ i, (bls ci ss V0 a w i).length = w * i
  | 0 => by rw [Nat.mul_zero]; rfl
  | i + 1 => by
    show (bls ci ss V0 a w i ++ blk ci ss V0 (a + w * i)).length = _
    rw [List.length_append, bls_len hw i, hw, Nat.mul_succ]
/-- a row of objects, filled up to i -/
def rwF (a w i : Nat) : Nat → Option Nat := fun x => if x < i then some (a + w * x) else none
theorem rwF_s {a w i : Nat} : va_up (rwF a w i) i (some (a + w * i)) = rwF a w (i + 1) := by
  funext x
  unfold va_up rwF
  by_cases e : x = i
  · rw [if_pos e, if_pos (by omega), e]
  · rw [if_neg e]
    by_cases q : x < i
    · rw [if_pos q, if_pos (by omega)]
    · rw [if_neg q, if_neg (by omega)]
end Pln
