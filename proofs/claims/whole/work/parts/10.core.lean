/-! ===== the machine over a map of cells: G, "from here the method comes to its end" ===== -/
abbrev MC : Type := (FieldType × vp_A) ⊕ (Nat × (Nat → Value))
abbrev HP : Type := Nat → Option MC
abbrev ST : Type := HP × Nat × Nat
abbrev MX : Type := String × ByteArray × Nat × Option FieldType × Bool
abbrev RX : Type := (va_G × (FieldType → ClassId) × Nat) × (Nat × Nat) × (Option Value ⊕ Nat) × ST
def arrTys : List FieldType := [.int, .byte, .boolean, .long, .object RX3, .object RX5, .object RX4]
def lwG : List Cond := lw_tbl.filter goodWord
abbrev YX : Type := va_G × (FieldType → ClassId) × Nat
def isNest : Cond → Bool
  | .methodLinkNest _ _ _ _ => true
  | .declares _ => true
  | .castable _ _ => true
  | _ => false
def lwN : List Cond := lw_tbl.filter isNest
def gA (X : YX) : Nat → Prop := fun q => X.2.2 ≤ q
/-- the law's script, written into X beyond the classes -/
def scB (X : YX) : Nat := X.1.2 1000 0
def scN (X : YX) : Nat := X.1.2 1000 1
def scX (X : YX) : Nat → Int32 := fun j => Int32.ofNat (X.1.2 1001 j)
def gC (X : YX) (U : State) : Prop := X.1.2 1000 2 = 1 → scB X < X.2.2 ∧ va_X (scB X) (scN X) (scX X) U U.heap
/-- what throwing and catching want -/
def gE (X : YX) (U : State) : Prop := vx_Zq Bundle.tN "UNASSIGNED_STACK" Bundle.steD (gA X) U U.heap ∧ vx_Zq Bundle.tN "SUPPRESSED_SENTINEL" Bundle.listD (gA X) U U.heap ∧ va_Nc "java/util/NoSuchElementException" "java/lang/IndexOutOfBoundsException" U ∧ va_Zq "jdk/internal/util/Preconditions" "SIOOBE_FORMATTER" "Ljava/util/function/BiFunction;" (gA X) U U.heap
theorem gC.warm {X : YX} {s U : State} {locs : List Loc} (h : gC X s) (hb : X.2.2 ≤ s.heap.size) (hv : s.vm.Alike U.vm) (hH : va_S (gA X) s.heap U.heap locs) : gC X U := fun z => by
  obtain ⟨h1, h2⟩ := h z
  exact ⟨h1, (va_X.moved hv h2).kept (hH.2.1 _ (Nat.lt_of_lt_of_le h1 hb) (Nat.not_le.mpr h1))⟩
theorem gE.warm {X : YX} {s U : State} {locs : List Loc} (h : gE X s) (hv : s.vm.Alike U.vm) (hH : va_S (gA X) s.heap U.heap locs) : gE X U := ⟨(vx_Zq.moved hv h.1).kept hH.2.1, (vx_Zq.moved hv h.2.1).kept hH.2.1, va_Nc.moved hv h.2.2.1, va_Zq.kept (va_Zq.moved hv h.2.2.2) hH.2.1⟩
def adK (X : YX) : Nat → Nat := X.1.2 1002
def adV (X : YX) : Nat → Nat := X.1.2 1003
def gS (X : YX) (U : State) : Prop := vk_R RX7 ixW0 txW0 (adK X 0) U ∧ vk_R RX12 ixW1 txW1 (adK X 1) U ∧ vk_S 2 [lnW0, lnW1] [byW0, byW1] (adK X) (adV X) (gA X) U U.heap ∧ va_Z "java/lang/String" "COMPACT_STRINGS" "Z" (.int 1) (gA X) U U.heap ∧ gE X U ∧ gC X U ∧ X.2.2 ≤ U.heap.size
/-- what the tables say, and what was there before: classes, array classes, links among nest mates, the two texts -/
def gK (X : YX) (U : State) : Prop := va_K X.1 vwCl (arrTys.map fun t => (X.2.1 t, t)) U ∧ (∀ w ∈ lwN, va_Nw w U) ∧ (∀ C ∈ [RX3, RX5, RX4], va_AO C U) ∧ gS X U
theorem gK.warm {X : YX} {s U : State} {locs : List Loc} (h : gK X s) (hW : s.WarmedH U.vm) (hH : va_S (gA X) s.heap U.heap locs) : gK X U := by
  obtain ⟨h1, h2, h3, g1, g2, g3, g4, g5, g6, g7⟩ := h
  refine ⟨va_K.moved hW.alike h1, fun w hw => ?_, fun C hC => (h3 C hC).moved hW.alike, g1.warm hW, g2.warm hW, (g3.moved hW.alike).kept hH.2.1, (g4.moved hW.alike).kept hH.2.1, g5.warm hW.alike hH, g6.warm g7 hW.alike hH, Nat.le_trans g7 hH.1⟩
  have hz := (List.mem_filter.mp hw).2
  unfold isNest at hz
  split at hz
  · exact va_Nw.warmM hW (h2 _ hw)
  · exact va_Nw.warmD hW (h2 _ hw)
  · exact va_Nw.warmC hW (h2 _ hw)
  · cases hz
theorem gK.frame {X : YX} {s U : State} (h : gK X s) (hv : s.vm = U.vm) (hH : U.heap = s.heap) : gK X U := by
  obtain ⟨h1, h2, h3, g1, g2, g3, g4, g5, g6, g7⟩ := h
  have ha : s.vm.Alike U.vm := by rw [hv]; exact Vm.Alike.refl _
  have hq : va_S (gA X) s.heap U.heap [] := by rw [hH]; exact va_S.rf
  refine ⟨va_K.moved ha h1, fun w hw => ?_, fun C hC => (h3 C hC).moved ha, g1.same hv.symm, g2.same hv.symm, by rw [hH]; exact g3.moved ha, by rw [hH]; exact g4.moved ha, g5.warm ha hq, g6.warm g7 ha hq, by rw [hH]; exact g7⟩
  have hz := (List.mem_filter.mp hw).2
  unfold isNest at hz
  split at hz
  · exact va_Nw.same rfl hv (h2 _ hw)
  · exact va_Nw.same rfl hv (h2 _ hw)
  · exact va_Nw.same rfl hv (h2 _ hw)
  · cases hz
def mAt (D : va_G) (AC : FieldType → ClassId) (a : Nat) (c : MC) (H : Heap) : Prop := match c with
  | .inl x => x.1 ∈ arrTys ∧ H[a]? = some (vp_cell (AC x.1) x.2)
  | .inr o => ∃ r : vw_C, vwCl[o.1]? = some r ∧ t_OB a (D.1 o.1) r.2.2 (D.2 o.1) H o.2
def Rep (X : va_G × (FieldType → ClassId) × Nat) (h : HP) (H : Heap) : Prop := ∀ a c, h a = some c → X.2.2 ≤ a ∧ mAt X.1 X.2.1 a c H
/-- the method's table of handlers: none, or that of the law's look -/
def xtOK (M : MX) (c : Code) : Prop := (M.1 ≠ RL → ∀ x ∈ c.exceptionTable.toList, False) ∧ (M.1 = RL → M.2.2.1 = 5 → c.exceptionTable.toList = tableOf [(0, 10, 13, 13), (0, 10, 17, 15)])
def CX (M : MX) (X : va_G × (FieldType → ClassId) × Nat) (p : Program) (l : Launch) (s : State) (m : MethodId) (args : Array Value) (meth : Method) (c : Code) : Prop :=
  p.tables.exec = Jvm.exec ∧ c.code = M.2.1 ∧ meth.sig.returnType = M.2.2.2.1 ∧ c.maxLocals = M.2.2.1 ∧ s.vm.findClass M.1 = some m.cls ∧ (∀ w ∈ lwG, w.before args s = true) ∧ meth.locks = false ∧ gK X s ∧ X.2.2 ≤ s.heap.size ∧ (M.2.2.2.2 = true → meth.name = "<init>") ∧ l.stackTraces = false ∧ xtOK M c
def gQ (X : va_G × (FieldType → ClassId) × Nat) (v : Option Value) (σ : ST) : Array Value → State → Outcome → State → Prop := fun _ st o t => (o = .returned v ∧ Rep X σ.1 t.heap ∧ t.heap.size = σ.2.1) ∧ va_F (gA X) st t
def gP (X : va_G × (FieldType → ClassId) × Nat) (as : List Value) (σ : ST) : Array Value → State → Prop := fun v U => v = as.toArray ∧ Rep X σ.1 U.heap ∧ U.heap.size = σ.2.1 ∧ gK X U ∧ X.2.2 ≤ σ.2.1
def rmD (d mc ms : Nat) : Room := { frames := d, cells := mc, slots := ms, locals := 60 * d }
/-- the locals as a list: what is unknown is a double -/
def UV : Value := .double 0
def isU : Value → Bool
  | .double _ => true
  | _ => false
def lvA (L : List Value) : List (Nat × Value) := (List.range L.length).filterMap fun i => match L[i]? with
  | some v => if isU v then none else some (i, v)
  | none => none
theorem lvA_mem {L : List Value} {q : Nat × Value} : q ∈ lvA L ↔ L[q.1]? = some q.2 ∧ isU q.2 = false := by
  unfold lvA
  rw [List.mem_filterMap]
  constructor
  · rintro ⟨i, hi, h⟩
    cases hL : L[i]? with
    | none => rw [hL] at h; cases h
    | some v =>
      rw [hL] at h
      dsimp only at h
      split at h
      · cases h
      · rename_i hu
        cases h
        exact ⟨hL, by simpa using hu⟩
  · rintro ⟨h1, h2⟩
    refine ⟨q.1, ?_, ?_⟩
    · rw [List.mem_range]
      exact (List.getElem?_eq_some_iff.mp h1).1
    · rw [h1]
      simp [h2]
def LV (ls : Array Slot) (nL : Nat) (L : List Value) : Prop := lv_has ls nL (lvA L)
theorem LV.at {ls : Array Slot} {nL : Nat} {L : List Value} (h : LV ls nL L) {i : Nat} {v : Value} (hi : L[i]? = some v) (hu : isU v = false) : ls[i]? = some (.val v) := h.2.2 (i, v) (lvA_mem.mpr ⟨hi, hu⟩)
theorem LV.sub {ls : Array Slot} {nL : Nat} {L : List Value} {l : List (Nat × Value)} (h : lv_has ls nL l) (hs : ∀ q ∈ lvA L, q ∈ l) : LV ls nL L := ⟨h.1, h.2.1, fun q hq => h.2.2 q (hs q hq)⟩
def clr (L : List Value) (i : Nat) : List Value := match L[i - 1]? with
  | some (.long _) => L.set (i - 1) UV
  | _ => L
def sto1 (L : List Value) (i : Nat) (v : Value) : List Value := (clr L i).set i v
def sto2 (L : List Value) (i : Nat) (v : Value) : List Value := ((clr L i).set i v).set (i + 1) UV
theorem clr_get {L : List Value} {i j : Nat} {v : Value} (h : (clr L i)[j]? = some v) (hu : isU v = false) : L[j]? = some v ∧ ¬ (j + 1 = i ∧ v.category = 2) := by
  unfold clr at h
  split at h
  · rename_i x hx
    by_cases hj : j = i - 1
    · subst hj
      rw [List.getElem?_set_self (List.getElem?_eq_some_iff.mp hx).1] at h
      cases h
      cases hu
    · rw [List.getElem?_set_ne (Ne.symm hj)] at h
      exact ⟨h, fun ⟨a, _⟩ => hj (by omega)⟩
  · rename_i hx
    refine ⟨h, fun ⟨a, b⟩ => ?_⟩
    have e : i - 1 = j := by omega
    rw [e, h] at hx
    cases v with
    | long x => exact hx x rfl
    | double x => cases hu
    | _ => simp [Value.category] at b
theorem LV.st1 {ls : Array Slot} {nL i : Nat} {L : List Value} {v : Value} (h : LV ls nL L) (hi : i < nL) (hc : v.category = 1) : ∃ ls', storeLocals ls i v = some ls' ∧ LV ls' nL (sto1 L i v) := by
  obtain ⟨ls', e, h'⟩ := lv_store1 h hi hc
  refine ⟨ls', e, LV.sub h' fun q hq => ?_⟩
  obtain ⟨h1, h2⟩ := lvA_mem.mp hq
  unfold sto1 at h1
  by_cases hj : i = q.1
  · by_cases hl : i < (clr L i).length
    · rw [← hj, List.getElem?_set_self hl] at h1
      cases h1
      exact List.mem_cons.mpr (Or.inl (Prod.ext hj.symm rfl))
    · rw [List.set_eq_of_length_le (by omega), ← hj, List.getElem?_eq_none (by omega)] at h1
      cases h1
  · rw [List.getElem?_set_ne hj] at h1
    obtain ⟨g1, g2⟩ := clr_get h1 h2
    refine List.mem_cons_of_mem _ (List.mem_filter.mpr ⟨lvA_mem.mpr ⟨g1, h2⟩, ?_⟩)
    simp only [Bool.and_eq_true, Bool.not_eq_true', beq_eq_false_iff_ne, Bool.and_eq_false_imp, beq_iff_eq]
    exact ⟨fun e => hj e.symm, fun e f => g2 ⟨e, f⟩⟩
theorem LV.st2 {ls : Array Slot} {nL i : Nat} {L : List Value} {l' : List (Nat × Value)} {v : Value} {ls' : Array Slot} (h' : lv_has ls' nL l') (hl : ∀ q : Nat × Value, q ∈ lvA L → ¬ (q.1 = i) → ¬ (q.1 = i + 1) → ¬ (q.1 + 1 = i ∧ q.2.category = 2) → q ∈ l') (hv : (i, v) ∈ l') : LV ls' nL (sto2 L i v) := by
  refine LV.sub h' fun q hq => ?_
  obtain ⟨h1, h2⟩ := lvA_mem.mp hq
  unfold sto2 at h1
  by_cases hj2 : i + 1 = q.1
  · by_cases hl2 : i + 1 < ((clr L i).set i v).length
    · rw [← hj2, List.getElem?_set_self hl2] at h1
      have e := Option.some.inj h1
      rw [← e] at h2
      cases h2
    · rw [List.set_eq_of_length_le (by omega), ← hj2, List.getElem?_eq_none (by omega)] at h1
      cases h1
  · rw [List.getElem?_set_ne hj2] at h1
    by_cases hj : i = q.1
    · by_cases hl : i < (clr L i).length
      · rw [← hj, List.getElem?_set_self hl] at h1
        cases h1
        rw [show q = (i, q.2) from Prod.ext hj.symm rfl]
        exact hv
      · rw [List.set_eq_of_length_le (by omega), ← hj, List.getElem?_eq_none (by omega)] at h1
        cases h1
    · rw [List.getElem?_set_ne hj] at h1
      obtain ⟨g1, g2⟩ := clr_get h1 h2
      exact hl q (lvA_mem.mpr ⟨g1, h2⟩) (fun e => hj e.symm) (fun e => hj2 e.symm) g2
def exN (k : Nat) : String := if k = 1 then "java/lang/IndexOutOfBoundsException" else "java/util/NoSuchElementException"
/-- an end by a throw -/
def gT (Y : YX) (k : Nat) (σ : ST) : String → State → State → Prop := fun E st t => E = exN k ∧ Rep Y σ.1 t.heap ∧ t.heap.size = σ.2.1 ∧ va_F (gA Y) st t
def gZ (X : RX) (below : List Frame) (args : Array Value) (s : State) (mc ms : Nat) : State → Prop := match X.2.2.1 with
  | .inl v => MQ below (gQ X.1 v X.2.2.2) args s mc ms (gA X.1)
  | .inr k => vx_MQ below (fun _ _ _ _ => False) (gT X.1 k X.2.2.2) args s mc ms (gA X.1)
/-- from pc, with these locals, this stack and this heap, the method ends with X's answer and X's heap -/
def G (M : MX) (d : Nat) (X : RX) (pc : Nat) (L stk : List Value) (σ : ST) : Prop :=
  X.2.1.1 ≤ σ.2.1 → X.2.1.2 ≤ σ.2.2 → (σ.2.1 ≤ X.2.2.2.2.1 ∧ σ.2.2 ≤ X.2.2.2.2.2) ∧
  ∀ (p : Program) (l : Launch) (e : Env) (s : State) (m : MethodId) (args : Array Value) (below : List Frame) (meth : Method) (c : Code), CX M X.1 p l s m args meth c →
  ∀ (H : Heap) (locs : List Loc) (ls : Array Slot), LV ls M.2.2.1 L → Rep X.1 σ.1 H → H.size = σ.2.1 → va_S (gA X.1) s.heap H locs →
  W p l e (rmD d (X.2.2.2.2.1 - X.2.1.1) (X.2.2.2.2.2 - X.2.1.2)) s m args below meth c H locs (σ.2.1 - X.2.1.1) (σ.2.2 - X.2.1.2) (gZ X below args s (X.2.2.2.2.1 - X.2.1.1) (X.2.2.2.2.2 - X.2.1.2)) (F0 m pc ls stk)
theorem g_pure {M : MX} {d : Nat} {X : RX} {pc pc' : Nat} {L stk stk' : List Value} {σ : ST} (k : G M d X pc' L stk' σ)
    (h : ∀ (p : Program) (l : Launch) (e : Env) (R : Room) (s : State) (m : MethodId) (args : Array Value) (below : List Frame) (meth : Method) (c : Code) (H : Heap) (locs : List Loc) (cells slots : Nat) (Q : State → Prop) (ls : Array Slot), CX M X.1 p l s m args meth c → LV ls M.2.2.1 L → Rep X.1 σ.1 H →
      W p l e R s m args below meth c H locs cells slots Q (F0 m pc' ls stk') → W p l e R s m args below meth c H locs cells slots Q (F0 m pc ls stk)) : G M d X pc L stk σ := by
  intro h1 h2
  obtain ⟨k1, k2⟩ := k h1 h2
  exact ⟨k1, fun p l e s m args below meth c C H locs ls hl hR hz hS => h p l e _ s m args below meth c H locs _ _ _ ls C hl hR (k2 p l e s m args below meth c C H locs ls hl hR hz hS)⟩
theorem g_if {M : MX} {d : Nat} {X : RX} {pc p1 p2 : Nat} {L stk stk' : List Value} {σ : ST} (b : Bool) (k : G M d X (if b then p1 else p2) L stk' σ)
    (h : ∀ (p : Program) (l : Launch) (e : Env) (R : Room) (s : State) (m : MethodId) (args : Array Value) (below : List Frame) (meth : Method) (c : Code) (H : Heap) (locs : List Loc) (cells slots : Nat) (Q : State → Prop) (ls : Array Slot), CX M X.1 p l s m args meth c →
      (b = true → W p l e R s m args below meth c H locs cells slots Q (F0 m p1 ls stk')) → (b = false → W p l e R s m args below meth c H locs cells slots Q (F0 m p2 ls stk')) → W p l e R s m args below meth c H locs cells slots Q (F0 m pc ls stk)) : G M d X pc L stk σ := by
  refine g_pure k fun p l e R s m args below meth c H locs cells slots Q ls C _ _ w => h p l e R s m args below meth c H locs cells slots Q ls C (fun e => ?_) (fun e => ?_)
  · subst e; exact w
  · subst e; exact w
