abbrev XE : Type := List Value → ST → Option (Value × ST)
abbrev XC : Type := List Value → ST → Option (Bool × ST)
abbrev XO : Type := Nat ⊕ Option Value
abbrev XS : Type := List Value → ST → Option (XO × List Value × ST)
abbrev XF : Type := List Value → ST → Option (Option Value × ST)
def wt (stk : List Value) : Nat := (stk.map fun v => v.category).sum
theorem wt_cons (v : Value) (stk : List Value) : wt (v :: stk) ≤ wt stk + 2 := by
  unfold wt
  rw [List.map_cons, List.sum_cons]
  rcases lv_cat v with h | h <;> omega
def R1 (M : MX) (d pc : Nat) (op : Value → ST → Option Value) (pc' : Nat) : Prop := ∀ (X : RX) (L stk : List Value) (σ : ST) (a v : Value), op a σ = some v → G M d X pc' L (v :: stk) σ → G M d X pc L (a :: stk) σ
def R2 (M : MX) (d pc : Nat) (op : Value → Value → ST → Option Value) (pc' : Nat) : Prop := ∀ (X : RX) (L stk : List Value) (σ : ST) (a b v : Value), op a b σ = some v → G M d X pc' L (v :: stk) σ → G M d X pc L (b :: a :: stk) σ
def J1 (M : MX) (d pc : Nat) (op : Value → Option Bool) (pT pF : Nat) : Prop := ∀ (X : RX) (L stk : List Value) (σ : ST) (a : Value) (r : Bool), op a = some r → G M d X (if r then pT else pF) L stk σ → G M d X pc L (a :: stk) σ
def J2 (M : MX) (d pc : Nat) (op : Value → Value → Option Bool) (pT pF : Nat) : Prop := ∀ (X : RX) (L stk : List Value) (σ : ST) (a b : Value) (r : Bool), op a b = some r → G M d X (if r then pT else pF) L stk σ → G M d X pc L (b :: a :: stk) σ
def P2 (M : MX) (d pc : Nat) (op : Value → Value → ST → Option ST) (pc' : Nat) : Prop := ∀ (X : RX) (L stk : List Value) (σ σ' : ST) (a b : Value), op a b σ = some σ' → G M d X pc' L stk σ' → G M d X pc L (b :: a :: stk) σ
def P3 (M : MX) (d pc : Nat) (op : Value → Value → Value → ST → Option ST) (pc' : Nat) : Prop := ∀ (X : RX) (L stk : List Value) (σ σ' : ST) (a b v : Value), op a b v σ = some σ' → G M d X pc' L stk σ' → G M d X pc L (v :: b :: a :: stk) σ
def IE (M : MX) (d w pc : Nat) (e : XE) (pc' : Nat) : Prop := ∀ (X : RX) (L stk : List Value) (σ σ' : ST) (v : Value), wt stk ≤ w → e L σ = some (v, σ') → G M d X pc' L (v :: stk) σ' → G M d X pc L stk σ
def IC (M : MX) (d w pc : Nat) (c : XC) (pT pF : Nat) : Prop := ∀ (X : RX) (L stk : List Value) (σ σ' : ST) (b : Bool), wt stk ≤ w → c L σ = some (b, σ') → G M d X (if b then pT else pF) L stk σ' → G M d X pc L stk σ
def gO (M : MX) (d : Nat) (X : RX) (ex : List Nat) (o : XO) (L : List Value) (σ : ST) : Prop := match o with
  | .inl k => ∃ pc, ex[k]? = some pc ∧ G M d X pc L [] σ
  | .inr v => Sum.inl v = X.2.2.1 ∧ σ = X.2.2.2
def IS (M : MX) (d pc : Nat) (s : XS) (ex : List Nat) : Prop := ∀ (X : RX) (L L' : List Value) (σ σ' : ST) (o : XO), s L σ = some (o, L', σ') → gO M d X ex o L' σ' → G M d X pc L [] σ
section RulesA
variable {M : MX} {d pc : Nat}

def o_iadd : Value → Value → ST → Option Value := fun a b _ => match a, b with
  | .int x, .int y => some (.int (x + y))
  | _, _ => none
theorem r_iadd (h : decode M.2.1 pc = .ok (.iadd, 1)) : R2 M d pc o_iadd (pc + 1) := by
  intro X L stk σ a b v hv k
  unfold o_iadd at hv
  split at hv
  · cases hv
    exact g_pure k fun p l e R s m args below meth c H locs cells slots Q ls C _ _ w => lv_iadd C.1 C.2.1 h w
  · cases hv
def o_isub : Value → Value → ST → Option Value := fun a b _ => match a, b with
  | .int x, .int y => some (.int (x - y))
  | _, _ => none
theorem r_isub (h : decode M.2.1 pc = .ok (.isub, 1)) : R2 M d pc o_isub (pc + 1) := by
  intro X L stk σ a b v hv k
  unfold o_isub at hv
  split at hv
  · cases hv
    exact g_pure k fun p l e R s m args below meth c H locs cells slots Q ls C _ _ w => lv_isub C.1 C.2.1 h w
  · cases hv
def o_imul : Value → Value → ST → Option Value := fun a b _ => match a, b with
  | .int x, .int y => some (.int (x * y))
  | _, _ => none
theorem r_imul (h : decode M.2.1 pc = .ok (.imul, 1)) : R2 M d pc o_imul (pc + 1) := by
  intro X L stk σ a b v hv k
  unfold o_imul at hv
  split at hv
  · cases hv
    exact g_pure k fun p l e R s m args below meth c H locs cells slots Q ls C _ _ w => lv_imul C.1 C.2.1 h w
  · cases hv
def o_iand : Value → Value → ST → Option Value := fun a b _ => match a, b with
  | .int x, .int y => some (.int (x &&& y))
  | _, _ => none
theorem r_iand (h : decode M.2.1 pc = .ok (.iand, 1)) : R2 M d pc o_iand (pc + 1) := by
  intro X L stk σ a b v hv k
  unfold o_iand at hv
  split at hv
  · cases hv
    exact g_pure k fun p l e R s m args below meth c H locs cells slots Q ls C _ _ w => lv_iand C.1 C.2.1 h w
  · cases hv
def o_ior : Value → Value → ST → Option Value := fun a b _ => match a, b with
  | .int x, .int y => some (.int (x ||| y))
  | _, _ => none
theorem r_ior (h : decode M.2.1 pc = .ok (.ior, 1)) : R2 M d pc o_ior (pc + 1) := by
  intro X L stk σ a b v hv k
  unfold o_ior at hv
  split at hv
  · cases hv
    exact g_pure k fun p l e R s m args below meth c H locs cells slots Q ls C _ _ w => lv_ior C.1 C.2.1 h w
  · cases hv
def o_ixor : Value → Value → ST → Option Value := fun a b _ => match a, b with
  | .int x, .int y => some (.int (x ^^^ y))
  | _, _ => none
theorem r_ixor (h : decode M.2.1 pc = .ok (.ixor, 1)) : R2 M d pc o_ixor (pc + 1) := by
  intro X L stk σ a b v hv k
  unfold o_ixor at hv
  split at hv
  · cases hv
    exact g_pure k fun p l e R s m args below meth c H locs cells slots Q ls C _ _ w => lv_ixor C.1 C.2.1 h w
  · cases hv
def o_ishl : Value → Value → ST → Option Value := fun a b _ => match a, b with
  | .int x, .int y => some (.int (x <<< (y &&& 31)))
  | _, _ => none
theorem r_ishl (h : decode M.2.1 pc = .ok (.ishl, 1)) : R2 M d pc o_ishl (pc + 1) := by
  intro X L stk σ a b v hv k
  unfold o_ishl at hv
  split at hv
  · cases hv
    exact g_pure k fun p l e R s m args below meth c H locs cells slots Q ls C _ _ w => lv_ishl C.1 C.2.1 h w
  · cases hv
def o_ishr : Value → Value → ST → Option Value := fun a b _ => match a, b with
  | .int x, .int y => some (.int (x >>> (y &&& 31)))
  | _, _ => none
theorem r_ishr (h : decode M.2.1 pc = .ok (.ishr, 1)) : R2 M d pc o_ishr (pc + 1) := by
  intro X L stk σ a b v hv k
  unfold o_ishr at hv
  split at hv
  · cases hv
    exact g_pure k fun p l e R s m args below meth c H locs cells slots Q ls C _ _ w => lv_ishr C.1 C.2.1 h w
  · cases hv
def o_ladd : Value → Value → ST → Option Value := fun a b _ => match a, b with
  | .long x, .long y => some (.long (x + y))
  | _, _ => none
theorem r_ladd (h : decode M.2.1 pc = .ok (.ladd, 1)) : R2 M d pc o_ladd (pc + 1) := by
  intro X L stk σ a b v hv k
  unfold o_ladd at hv
  split at hv
  · cases hv
    exact g_pure k fun p l e R s m args below meth c H locs cells slots Q ls C _ _ w => lv_ladd C.1 C.2.1 h w
  · cases hv
def o_lsub : Value → Value → ST → Option Value := fun a b _ => match a, b with
  | .long x, .long y => some (.long (x - y))
  | _, _ => none
theorem r_lsub (h : decode M.2.1 pc = .ok (.lsub, 1)) : R2 M d pc o_lsub (pc + 1) := by
  intro X L stk σ a b v hv k
  unfold o_lsub at hv
  split at hv
  · cases hv
    exact g_pure k fun p l e R s m args below meth c H locs cells slots Q ls C _ _ w => lv_lsub C.1 C.2.1 h w
  · cases hv
def o_lmul : Value → Value → ST → Option Value := fun a b _ => match a, b with
  | .long x, .long y => some (.long (x * y))
  | _, _ => none
theorem r_lmul (h : decode M.2.1 pc = .ok (.lmul, 1)) : R2 M d pc o_lmul (pc + 1) := by
  intro X L stk σ a b v hv k
  unfold o_lmul at hv
  split at hv
  · cases hv
    exact g_pure k fun p l e R s m args below meth c H locs cells slots Q ls C _ _ w => lv_lmul C.1 C.2.1 h w
  · cases hv
def o_land : Value → Value → ST → Option Value := fun a b _ => match a, b with
  | .long x, .long y => some (.long (x &&& y))
  | _, _ => none
theorem r_land (h : decode M.2.1 pc = .ok (.land, 1)) : R2 M d pc o_land (pc + 1) := by
  intro X L stk σ a b v hv k
  unfold o_land at hv
  split at hv
  · cases hv
    exact g_pure k fun p l e R s m args below meth c H locs cells slots Q ls C _ _ w => lv_land C.1 C.2.1 h w
  · cases hv
def o_lor : Value → Value → ST → Option Value := fun a b _ => match a, b with
  | .long x, .long y => some (.long (x ||| y))
  | _, _ => none
theorem r_lor (h : decode M.2.1 pc = .ok (.lor, 1)) : R2 M d pc o_lor (pc + 1) := by
  intro X L stk σ a b v hv k
  unfold o_lor at hv
  split at hv
  · cases hv
    exact g_pure k fun p l e R s m args below meth c H locs cells slots Q ls C _ _ w => lv_lor C.1 C.2.1 h w
  · cases hv
def o_iushr : Value → Value → ST → Option Value := fun a b _ => match a, b with
  | .int x, .int y => some (.int (x.toUInt32 >>> (y.toUInt32 &&& Int32.toUInt32 31)).toInt32)
  | _, _ => none
theorem r_iushr (h : decode M.2.1 pc = .ok (.iushr, 1)) : R2 M d pc o_iushr (pc + 1) := by
  intro X L stk σ a b v hv k
  unfold o_iushr at hv
  split at hv
  · cases hv
    exact g_pure k fun p l e R s m args below meth c H locs cells slots Q ls C _ _ w => lv_iushr C.1 C.2.1 h rfl w
  · cases hv
def o_lushr : Value → Value → ST → Option Value := fun a b _ => match a, b with
  | .long x, .int y => some (.long (x.toUInt64 >>> (y.toInt64.toUInt64 &&& Int64.toUInt64 63)).toInt64)
  | _, _ => none
theorem r_lushr (h : decode M.2.1 pc = .ok (.lushr, 1)) : R2 M d pc o_lushr (pc + 1) := by
  intro X L stk σ a b v hv k
  unfold o_lushr at hv
  split at hv
  · cases hv
    exact g_pure k fun p l e R s m args below meth c H locs cells slots Q ls C _ _ w => lv_lushr C.1 C.2.1 h rfl w
  · cases hv
def o_lshl : Value → Value → ST → Option Value := fun a b _ => match a, b with
  | .long x, .int y => some (.long (x <<< (y.toInt64 &&& 63)))
  | _, _ => none
theorem r_lshl (h : decode M.2.1 pc = .ok (.lshl, 1)) : R2 M d pc o_lshl (pc + 1) := by
  intro X L stk σ a b v hv k
  unfold o_lshl at hv
  split at hv
  · cases hv
    exact g_pure k fun p l e R s m args below meth c H locs cells slots Q ls C _ _ w => lv_lshl C.1 C.2.1 h rfl w
  · cases hv
def o_lcmp : Value → Value → ST → Option Value := fun a b _ => match a, b with
  | .long x, .long y => some (.int (lg_cmp x y))
  | _, _ => none
theorem r_lcmp (h : decode M.2.1 pc = .ok (.lcmp, 1)) : R2 M d pc o_lcmp (pc + 1) := by
  intro X L stk σ a b v hv k
  unfold o_lcmp at hv
  split at hv
  · cases hv
    exact g_pure k fun p l e R s m args below meth c H locs cells slots Q ls C _ _ w => W.lcmp C.1 C.2.1 h w
  · cases hv
def o_idiv : Value → Value → ST → Option Value := fun a b _ => match a, b with
  | .int x, .int y => if y = 0 then none else some (.int (x / y))
  | _, _ => none
theorem r_idiv (h : decode M.2.1 pc = .ok (.idiv, 1)) : R2 M d pc o_idiv (pc + 1) := by
  intro X L stk σ a b v hv k
  unfold o_idiv at hv
  split at hv
  · split at hv
    · cases hv
    · rename_i hne
      cases hv
      exact g_pure k fun p l e R s m args below meth c H locs cells slots Q ls C _ _ w => lv_idiv C.1 C.2.1 h hne w
  · cases hv
def o_irem : Value → Value → ST → Option Value := fun a b _ => match a, b with
  | .int x, .int y => if y = 0 then none else some (.int (x - x / y * y))
  | _, _ => none
theorem r_irem (h : decode M.2.1 pc = .ok (.irem, 1)) : R2 M d pc o_irem (pc + 1) := by
  intro X L stk σ a b v hv k
  unfold o_irem at hv
  split at hv
  · split at hv
    · cases hv
    · rename_i hne
      cases hv
      exact g_pure k fun p l e R s m args below meth c H locs cells slots Q ls C _ _ w => lv_irem C.1 C.2.1 h hne w
  · cases hv
def o_ldiv : Value → Value → ST → Option Value := fun a b _ => match a, b with
  | .long x, .long y => if y = 0 then none else some (.long (x / y))
  | _, _ => none
theorem r_ldiv (h : decode M.2.1 pc = .ok (.ldiv, 1)) : R2 M d pc o_ldiv (pc + 1) := by
  intro X L stk σ a b v hv k
  unfold o_ldiv at hv
  split at hv
  · split at hv
    · cases hv
    · rename_i hne
      cases hv
      exact g_pure k fun p l e R s m args below meth c H locs cells slots Q ls C _ _ w => lv_ldiv C.1 C.2.1 h hne w
  · cases hv
def o_ineg : Value → ST → Option Value := fun a _ => match a with
  | .int x => some (.int (-x))
  | _ => none
theorem r_ineg (h : decode M.2.1 pc = .ok (.ineg, 1)) : R1 M d pc o_ineg (pc + 1) := by
  intro X L stk σ a v hv k
  unfold o_ineg at hv
  split at hv
  · cases hv
    exact g_pure k fun p l e R s m args below meth c H locs cells slots Q ls C _ _ w => lv_ineg C.1 C.2.1 h w
  · cases hv
def o_lneg : Value → ST → Option Value := fun a _ => match a with
  | .long x => some (.long (-x))
  | _ => none
theorem r_lneg (h : decode M.2.1 pc = .ok (.lneg, 1)) : R1 M d pc o_lneg (pc + 1) := by
  intro X L stk σ a v hv k
  unfold o_lneg at hv
  split at hv
  · cases hv
    exact g_pure k fun p l e R s m args below meth c H locs cells slots Q ls C _ _ w => lv_lneg C.1 C.2.1 h w
  · cases hv
def o_i2l : Value → ST → Option Value := fun a _ => match a with
  | .int x => some (.long (x.toInt64))
  | _ => none
theorem r_i2l (h : decode M.2.1 pc = .ok (.i2l, 1)) : R1 M d pc o_i2l (pc + 1) := by
  intro X L stk σ a v hv k
  unfold o_i2l at hv
  split at hv
  · cases hv
    exact g_pure k fun p l e R s m args below meth c H locs cells slots Q ls C _ _ w => lv_i2l C.1 C.2.1 h rfl w
  · cases hv
def o_l2i : Value → ST → Option Value := fun a _ => match a with
  | .long x => some (.int (x.toInt32))
  | _ => none
theorem r_l2i (h : decode M.2.1 pc = .ok (.l2i, 1)) : R1 M d pc o_l2i (pc + 1) := by
  intro X L stk σ a v hv k
  unfold o_l2i at hv
  split at hv
  · cases hv
    exact g_pure k fun p l e R s m args below meth c H locs cells slots Q ls C _ _ w => lv_l2i C.1 C.2.1 h rfl w
  · cases hv
def o_i2b : Value → ST → Option Value := fun a _ => match a with
  | .int x => some (.int (x.toInt8.toInt32))
  | _ => none
theorem r_i2b (h : decode M.2.1 pc = .ok (.i2b, 1)) : R1 M d pc o_i2b (pc + 1) := by
  intro X L stk σ a v hv k
  unfold o_i2b at hv
  split at hv
  · cases hv
    exact g_pure k fun p l e R s m args below meth c H locs cells slots Q ls C _ _ w => lv_i2b C.1 C.2.1 h rfl w
  · cases hv
def q_eq : Value → Value → Option Bool := fun a b => match a, b with
  | .int x, .int y => some (decide (x = y))
  | _, _ => none
theorem j_icmp_eq {off : Int} {tgt : Nat} (h : decode M.2.1 pc = .ok (.if_icmp .eq off, 3)) (ht : (pc : Int) + off = (tgt : Int)) : J2 M d pc q_eq tgt (pc + 3) := by
  intro X L stk σ a b r hr k
  unfold q_eq at hr
  split at hr
  · rename_i x y
    cases hr
    exact g_if _ k fun p l e R s m args below meth c H locs cells slots Q ls C w1 w2 => lv_icmp_eq C.1 C.2.1 h ht (fun z => w1 (by first | exact decide_eq_true z | simpa using z)) (fun z => w2 (by first | exact decide_eq_false z | simpa using z))
  · cases hr
def z_eq : Value → Option Bool := fun a => match a with
  | .int x => some (decide (x = 0))
  | _ => none
theorem j_if_eq {off : Int} {tgt : Nat} (h : decode M.2.1 pc = .ok (.ifCond .eq off, 3)) (ht : (pc : Int) + off = (tgt : Int)) : J1 M d pc z_eq tgt (pc + 3) := by
  intro X L stk σ a r hr k
  unfold z_eq at hr
  split at hr
  · rename_i x
    cases hr
    exact g_if _ k fun p l e R s m args below meth c H locs cells slots Q ls C w1 w2 => lv_if_eq C.1 C.2.1 h ht (fun z => w1 (by first | exact decide_eq_true z | simpa using z)) (fun z => w2 (by first | exact decide_eq_false z | simpa using z))
  · cases hr
def q_ne : Value → Value → Option Bool := fun a b => match a, b with
  | .int x, .int y => some (decide (x ≠ y))
  | _, _ => none
theorem j_icmp_ne {off : Int} {tgt : Nat} (h : decode M.2.1 pc = .ok (.if_icmp .ne off, 3)) (ht : (pc : Int) + off = (tgt : Int)) : J2 M d pc q_ne tgt (pc + 3) := by
  intro X L stk σ a b r hr k
  unfold q_ne at hr
  split at hr
  · rename_i x y
    cases hr
    exact g_if _ k fun p l e R s m args below meth c H locs cells slots Q ls C w1 w2 => lv_icmp_ne C.1 C.2.1 h ht (fun z => w1 (by first | exact decide_eq_true z | simpa using z)) (fun z => w2 (by first | exact decide_eq_false z | simpa using z))
  · cases hr
def z_ne : Value → Option Bool := fun a => match a with
  | .int x => some (decide (x ≠ 0))
  | _ => none
theorem j_if_ne {off : Int} {tgt : Nat} (h : decode M.2.1 pc = .ok (.ifCond .ne off, 3)) (ht : (pc : Int) + off = (tgt : Int)) : J1 M d pc z_ne tgt (pc + 3) := by
  intro X L stk σ a r hr k
  unfold z_ne at hr
  split at hr
  · rename_i x
    cases hr
    exact g_if _ k fun p l e R s m args below meth c H locs cells slots Q ls C w1 w2 => lv_if_ne C.1 C.2.1 h ht (fun z => w1 (by first | exact decide_eq_true z | simpa using z)) (fun z => w2 (by first | exact decide_eq_false z | simpa using z))
  · cases hr
def q_lt : Value → Value → Option Bool := fun a b => match a, b with
  | .int x, .int y => some (decide (x < y))
  | _, _ => none
theorem j_icmp_lt {off : Int} {tgt : Nat} (h : decode M.2.1 pc = .ok (.if_icmp .lt off, 3)) (ht : (pc : Int) + off = (tgt : Int)) : J2 M d pc q_lt tgt (pc + 3) := by
  intro X L stk σ a b r hr k
  unfold q_lt at hr
  split at hr
  · rename_i x y
    cases hr
    exact g_if _ k fun p l e R s m args below meth c H locs cells slots Q ls C w1 w2 => lv_icmp_lt C.1 C.2.1 h ht (fun z => w1 (by first | exact decide_eq_true z | simpa using z)) (fun z => w2 (by first | exact decide_eq_false z | simpa using z))
  · cases hr
def z_lt : Value → Option Bool := fun a => match a with
  | .int x => some (decide (x < 0))
  | _ => none
theorem j_if_lt {off : Int} {tgt : Nat} (h : decode M.2.1 pc = .ok (.ifCond .lt off, 3)) (ht : (pc : Int) + off = (tgt : Int)) : J1 M d pc z_lt tgt (pc + 3) := by
  intro X L stk σ a r hr k
  unfold z_lt at hr
  split at hr
  · rename_i x
    cases hr
    exact g_if _ k fun p l e R s m args below meth c H locs cells slots Q ls C w1 w2 => lv_if_lt C.1 C.2.1 h ht (fun z => w1 (by first | exact decide_eq_true z | simpa using z)) (fun z => w2 (by first | exact decide_eq_false z | simpa using z))
  · cases hr
def q_ge : Value → Value → Option Bool := fun a b => match a, b with
  | .int x, .int y => some (decide (y ≤ x))
  | _, _ => none
theorem j_icmp_ge {off : Int} {tgt : Nat} (h : decode M.2.1 pc = .ok (.if_icmp .ge off, 3)) (ht : (pc : Int) + off = (tgt : Int)) : J2 M d pc q_ge tgt (pc + 3) := by
  intro X L stk σ a b r hr k
  unfold q_ge at hr
  split at hr
  · rename_i x y
    cases hr
    exact g_if _ k fun p l e R s m args below meth c H locs cells slots Q ls C w1 w2 => lv_icmp_ge C.1 C.2.1 h ht (fun z => w1 (by first | exact decide_eq_true z | simpa using z)) (fun z => w2 (by first | exact decide_eq_false z | simpa using z))
  · cases hr
def z_ge : Value → Option Bool := fun a => match a with
  | .int x => some (decide (0 ≤ x))
  | _ => none
theorem j_if_ge {off : Int} {tgt : Nat} (h : decode M.2.1 pc = .ok (.ifCond .ge off, 3)) (ht : (pc : Int) + off = (tgt : Int)) : J1 M d pc z_ge tgt (pc + 3) := by
  intro X L stk σ a r hr k
  unfold z_ge at hr
  split at hr
  · rename_i x
    cases hr
    exact g_if _ k fun p l e R s m args below meth c H locs cells slots Q ls C w1 w2 => lv_if_ge C.1 C.2.1 h ht (fun z => w1 (by first | exact decide_eq_true z | simpa using z)) (fun z => w2 (by first | exact decide_eq_false z | simpa using z))
  · cases hr
def q_gt : Value → Value → Option Bool := fun a b => match a, b with
  | .int x, .int y => some (decide (y < x))
  | _, _ => none
theorem j_icmp_gt {off : Int} {tgt : Nat} (h : decode M.2.1 pc = .ok (.if_icmp .gt off, 3)) (ht : (pc : Int) + off = (tgt : Int)) : J2 M d pc q_gt tgt (pc + 3) := by
  intro X L stk σ a b r hr k
  unfold q_gt at hr
  split at hr
  · rename_i x y
    cases hr
    exact g_if _ k fun p l e R s m args below meth c H locs cells slots Q ls C w1 w2 => lv_icmp_gt C.1 C.2.1 h ht (fun z => w1 (by first | exact decide_eq_true z | simpa using z)) (fun z => w2 (by first | exact decide_eq_false z | simpa using z))
  · cases hr
def z_gt : Value → Option Bool := fun a => match a with
  | .int x => some (decide (0 < x))
  | _ => none
theorem j_if_gt {off : Int} {tgt : Nat} (h : decode M.2.1 pc = .ok (.ifCond .gt off, 3)) (ht : (pc : Int) + off = (tgt : Int)) : J1 M d pc z_gt tgt (pc + 3) := by
  intro X L stk σ a r hr k
  unfold z_gt at hr
  split at hr
  · rename_i x
    cases hr
    exact g_if _ k fun p l e R s m args below meth c H locs cells slots Q ls C w1 w2 => lv_if_gt C.1 C.2.1 h ht (fun z => w1 (by first | exact decide_eq_true z | simpa using z)) (fun z => w2 (by first | exact decide_eq_false z | simpa using z))
  · cases hr
def q_le : Value → Value → Option Bool := fun a b => match a, b with
  | .int x, .int y => some (decide (x ≤ y))
  | _, _ => none
theorem j_icmp_le {off : Int} {tgt : Nat} (h : decode M.2.1 pc = .ok (.if_icmp .le off, 3)) (ht : (pc : Int) + off = (tgt : Int)) : J2 M d pc q_le tgt (pc + 3) := by
  intro X L stk σ a b r hr k
  unfold q_le at hr
  split at hr
  · rename_i x y
    cases hr
    exact g_if _ k fun p l e R s m args below meth c H locs cells slots Q ls C w1 w2 => lv_icmp_le C.1 C.2.1 h ht (fun z => w1 (by first | exact decide_eq_true z | simpa using z)) (fun z => w2 (by first | exact decide_eq_false z | simpa using z))
  · cases hr
def z_le : Value → Option Bool := fun a => match a with
  | .int x => some (decide (x ≤ 0))
  | _ => none
theorem j_if_le {off : Int} {tgt : Nat} (h : decode M.2.1 pc = .ok (.ifCond .le off, 3)) (ht : (pc : Int) + off = (tgt : Int)) : J1 M d pc z_le tgt (pc + 3) := by
  intro X L stk σ a r hr k
  unfold z_le at hr
  split at hr
  · rename_i x
    cases hr
    exact g_if _ k fun p l e R s m args below meth c H locs cells slots Q ls C w1 w2 => lv_if_le C.1 C.2.1 h ht (fun z => w1 (by first | exact decide_eq_true z | simpa using z)) (fun z => w2 (by first | exact decide_eq_false z | simpa using z))
  · cases hr
def z_null : Value → Option Bool := fun a => match a with
  | .null => some true
  | .ref _ => some false
  | _ => none
def z_nonnull : Value → Option Bool := fun a => match a with
  | .null => some false
  | .ref _ => some true
  | _ => none
theorem j_ifnull {off : Int} {tgt : Nat} (h : decode M.2.1 pc = .ok (.ifnull off, 3)) (ht : (pc : Int) + off = (tgt : Int)) : J1 M d pc z_null tgt (pc + 3) := by
  intro X L stk σ a r hr k
  unfold z_null at hr
  split at hr
  · cases hr
    exact g_if _ k fun p l e R s m args below meth c H locs cells slots Q ls C w1 w2 => lv_ifnullN C.1 C.2.1 h ht (w1 rfl)
  · cases hr
    exact g_if _ k fun p l e R s m args below meth c H locs cells slots Q ls C w1 w2 => lv_ifnull C.1 C.2.1 h (w2 rfl)
  · cases hr
theorem j_ifnonnull {off : Int} {tgt : Nat} (h : decode M.2.1 pc = .ok (.ifnonnull off, 3)) (ht : (pc : Int) + off = (tgt : Int)) : J1 M d pc z_nonnull tgt (pc + 3) := by
  intro X L stk σ a r hr k
  unfold z_nonnull at hr
  split at hr
  · cases hr
    exact g_if _ k fun p l e R s m args below meth c H locs cells slots Q ls C w1 w2 => lv_ifnonnullN C.1 C.2.1 h (w2 rfl)
  · cases hr
    exact g_if _ k fun p l e R s m args below meth c H locs cells slots Q ls C w1 w2 => lv_ifnonnull C.1 C.2.1 h ht (w1 rfl)
  · cases hr
end RulesA
