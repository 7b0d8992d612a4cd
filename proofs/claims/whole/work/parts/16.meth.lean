def Impl (y : MethodName) (cc : ByteArray) (nL : Nat) (rt : Option FieldType) (d : Nat) (f : XF) : Prop := ∀ (as : List Value) (σ σ' : ST) (v : Option Value), f as σ = some (v, σ') → (σ.2.1 ≤ σ'.2.1 ∧ σ.2.2 ≤ σ'.2.2) ∧ ∀ (Y : YX) (l : Launch), l.stackTraces = false → Met l y (.code y cc nL rt :: lwG) (rmD d (σ'.2.1 - σ.2.1) (σ'.2.2 - σ.2.2)) (gP Y as σ) (gQ Y v σ') (σ'.2.1 - σ.2.1) (σ'.2.2 - σ.2.2) (gA Y)
theorem lwG_good {big ws : List Cond} (hb : ∀ w ∈ lwG, w ∈ big) (h : ∀ w ∈ ws, w ∈ lwG) : GoodIn big ws := fun w hw => ⟨hb w (h w hw), good_of_word (List.mem_filter.mp (h w hw)).2⟩
theorem gP_blind (Y : YX) (as : List Value) (σ : ST) : FrameBlind (gP Y as σ) := by
  intro a U g mk h
  obtain ⟨h1, h2, h3, h4, h5⟩ := h
  exact ⟨h1, h2, h3, h4.frame rfl rfl, h5⟩
section Calls9
variable {M : MX} {d w pc : Nat}
theorem g_run {X : RX} {L st0 rest : List Value} {σ σ' : ST} {v : Option Value} {a : Array Value} (hz : σ.2.1 ≤ σ'.2.1) (hs : σ.2.2 ≤ σ'.2.2) (k : G M d X (pc + 3) L (v.toList ++ rest) σ')
    (h : ∀ (p : Program) (l : Launch) (e : Env) (R : Room) (s : State) (m : MethodId) (args : Array Value) (below : List Frame) (meth : Method) (c : Code) (H : Heap) (locs : List Loc) (cells slots : Nat) (ls : Array Slot), CX M X.1 p l s m args meth c → ls.size = M.2.2.1 → Rep X.1 σ.1 H → H.size = σ.2.1 → va_S (gA X.1) s.heap H locs → R.frames = d → R.locals = 60 * d → cells + (σ'.2.1 - σ.2.1) ≤ R.cells ∧ slots + (σ'.2.2 - σ.2.2) ≤ R.slots →
      va_Run p l e R s m args below meth c H locs cells slots (σ'.2.1 - σ.2.1) (σ'.2.2 - σ.2.2) (F0 m pc ls st0) rest (gQ X.1 v σ' a) (gA X.1)) : G M d X pc L st0 σ := by
  intro z1 z2
  obtain ⟨k1, k2⟩ := k (Nat.le_trans z1 hz) (Nat.le_trans z2 hs)
  refine ⟨⟨Nat.le_trans hz k1.1, Nat.le_trans hs k1.2⟩, fun p l e s m args below meth c C H locs ls hl hR hsz hS => ?_⟩
  have hrun := h p l e (rmD d (X.2.2.2.2.1 - X.2.1.1) (X.2.2.2.2.2 - X.2.1.2)) s m args below meth c H locs (σ.2.1 - X.2.1.1) (σ.2.2 - X.2.1.2) ls C hl.1 hR hsz hS rfl rfl ⟨by show _ ≤ X.2.2.2.2.1 - X.2.1.1; omega, by show _ ≤ X.2.2.2.2.2 - X.2.1.2; omega⟩
  intro T hT X'
  obtain ⟨v', st₀, t, T', L', h0, X'', hL, e1, e2, ⟨⟨hv, hR1, hz1⟩, hF⟩, st⟩ := hrun T hT X'
  cases hv
  have hF2 : va_S (gA X.1) s.heap T'.heap (locs ++ L') := by
    refine ⟨Nat.le_trans hS.1 (by rw [e1, ← h0]; exact hF.1), fun q h1 h2 => ?_, fun q hq => ?_⟩
    · rw [e1, hF.2 q (by rw [h0]; exact Nat.lt_of_lt_of_le h1 hS.1) h2, h0]
      exact hS.2.1 q h1 h2
    · rcases List.mem_append.mp hq with h | h
      · exact hS.2.2 q h
      · exact hL q h
  have kk := k2 p l e s m args below meth c C T'.heap (locs ++ L') ls hl (by rw [e1]; exact hR1) (by rw [e1]; exact hz1) hF2
  rw [show σ'.2.1 - X.2.1.1 = (σ.2.1 - X.2.1.1) + (σ'.2.1 - σ.2.1) by omega, show σ'.2.2 - X.2.1.2 = (σ.2.2 - X.2.1.2) + (σ'.2.2 - σ.2.2) by omega] at kk
  obtain ⟨t2, a1, b1⟩ := kk T' rfl X''
  exact ⟨t2, st t2 a1, b1⟩
/-- what a callee's own words say of it -/
def CeeV (y : MethodName) (C : String) (cc : ByteArray) (nL : Nat) (rt : Option FieldType) (n : Nat) : Prop := Cond.instanceMethod y ∈ lwG ∧ Cond.selects C y y ∈ lwG ∧ Cond.initialized C ∈ lwG ∧ Cond.code y cc nL rt ∈ lwG ∧ (y.cls = C ∧ y.cls ≠ "java/lang/invoke/MethodHandle" ∧ y.cls ≠ "java/lang/invoke/VarHandle" ∧ (parseMethodDescriptor y.desc).map (fun d => d.parameters.length) = some n) ∧ nL ≤ 33
def CeeS (y : MethodName) (cc : ByteArray) (nL : Nat) (rt : Option FieldType) (n : Nat) : Prop := Cond.static y ∈ lwG ∧ Cond.initialized y.cls ∈ lwG ∧ Cond.code y cc nL rt ∈ lwG ∧ (y.cls ≠ "java/lang/invoke/MethodHandle" ∧ y.cls ≠ "java/lang/invoke/VarHandle" ∧ (parseMethodDescriptor y.desc).map (fun d => d.parameters.length) = some n) ∧ nL ≤ 41
def CeeI (y : MethodName) (cc : ByteArray) (nL n : Nat) : Prop := Cond.instanceMethod y ∈ lwG ∧ Cond.initialized y.cls ∈ lwG ∧ Cond.code y cc nL none ∈ lwG ∧ (y.cls ≠ "java/lang/invoke/MethodHandle" ∧ y.cls ≠ "java/lang/invoke/VarHandle" ∧ (parseMethodDescriptor y.desc).map (fun d => d.parameters.length) = some n) ∧ nL ≤ 41 ∧ y.name = "<init>"
theorem wt_room {m : MethodId} {ls : Array Slot} {st stk : List Value} {pc : Nat} (h : wt stk ≤ w) (hw : w ≤ 8) : 2 * (F0 m pc ls st).monitorRoom + (stk.map fun v => v.category).sum ≤ 8 := by
  show 2 * 0 + wt stk ≤ 8
  omega
theorem run_V {p : Program} {l : Launch} {e : Env} {R : Room} {s : State} {m : MethodId} {args : Array Value} {below : List Frame} {meth : Method} {c : Code} {H : Heap} {locs : List Loc} {cells slots : Nat} {y : MethodName} {bytes cc : ByteArray} {maxL nL mc ms n index : Nat} {ret : Option FieldType} {ws : List Cond} {rm : Room} {Pc : Array Value → State → Prop} {Qc : Array Value → State → Outcome → State → Prop} {free : Addr → Prop} {own C : String} {b : Addr} {As rest : List Value} {g : JFrame}
    (hx : p.tables.exec = Jvm.exec) (hb : c.code = cc) (hml : c.maxLocals = nL) (ho : s.vm.findClass own = some m.cls) (hM : Met l y ws rm Pc Qc mc ms free) (hrc : rm.cells = mc) (hrs : rm.slots = ms) (hfr : rm.frames + 1 ≤ R.frames) (hlo : 16 + (maxL + 11) + rm.locals ≤ R.locals) (hws : ∀ w ∈ ws, ∀ (a' : Array Value) (U : State), s.WarmedH U.vm → w.before a' U = true) (hcw : Cond.code y bytes maxL ret ∈ ws) (hcode : (Cond.code y bytes maxL ret).before args s = true) (hini : (Cond.initialized y.cls).before args s = true) (hy : y.cls ≠ "java/lang/invoke/MethodHandle" ∧ y.cls ≠ "java/lang/invoke/VarHandle") (hlen : ∀ sig, parseMethodDescriptor y.desc = some sig → n = sig.parameters.length) (hl : (Cond.methodLink own index y).before args s = true) (hin : (Cond.instanceMethod y).before args s = true) (hse : (Cond.selects C y y).before args s = true) (hp : PreV s H C b Pc As)
    (hg : g.method = m) (hn : As.length = n) (hsize : g.locals.size = nL) (hstack : g.stack = As.reverse ++ .ref b :: rest) (hW : 2 * g.monitorRoom + (rest.map fun v => v.category).sum ≤ 16) (hdg : decode cc g.pc = .ok (.invokevirtual index, 3)) (hf : cells + mc ≤ R.cells ∧ slots + ms ≤ R.slots) :
    va_Run p l e R s m args below meth c H locs cells slots mc ms g rest (Qc (Value.ref b :: As).toArray) (free) := by
  have hK : Back l R p e below s args y 3 16 (PreOf R mc ms Pc) (PostOf Qc mc ms free) := back_of (bytes := bytes) (maxL := maxL) (ret := ret) hM hp.1 hrc hrs hfr hlo hws hcw (fun a' U hW => word_at hW (Or.inl rfl) hini)
  obtain ⟨-, ⟨cellB, h1, h2, h3⟩, hPc⟩ := hp
  intro T hT X
  obtain ⟨v, vm₁, ⟨U', l2, c2, s2⟩, hW₁, X', ⟨g', mk, t, L, e1, e2, hq, q1, hL, q2, q3⟩, st⟩ := callV X hx (C := C) (bytes := bytes) (maxL := maxL) (ret := ret) ho hl hin hse hcode hy hK (by rw [hT]; exact h1) h2 h3 hg (hsize.trans hml.symm) (argsL := As) (rest := rest) (fun sig h => hn.trans (hlen sig h)) hstack hW (by rw [hb]; exact hdg) (fun vm₁ hW₁ => ⟨hf.1, hf.2, hPc (T.setVm vm₁) hT hW₁⟩)
  dsimp only [Pt.U, Pt.locs, Pt.cells, Pt.slots] at X' e1 e2 q1 q2 q3 st
  subst q1; subst q2; subst q3
  exact ⟨v, (T.setVm vm₁).calling g' mk (Value.ref b :: As).toArray, t, U', L, hT, X', hL, e1, e2, hq, st⟩
theorem wt_room16 {m : MethodId} {ls : Array Slot} {st stk : List Value} {pc : Nat} (h : wt stk ≤ w) (hw : w ≤ 16) : 2 * (F0 m pc ls st).monitorRoom + (stk.map fun v => v.category).sum ≤ 16 := by
  show 2 * 0 + wt stk ≤ 16
  omega
theorem call_V {y : MethodName} {C : String} {cc : ByteArray} {nL n d' index ci N : Nat} {rt : Option FieldType} {T : u_T} {f : XF} (hI : Impl y cc nL rt d' f) (K : CeeV y C cc nL rt n) (hc : vwCl[ci]? = some (C, T, N)) (hd : decode M.2.1 pc = .ok (.invokevirtual index, 3)) (hl : Cond.methodLink M.1 index y ∈ lwG) (hlt : d' < d) (hw : w ≤ 16) : CALL M d w pc (n + 1) (fV ci f) (pc + 3) := by
  intro X L stk σ σ' vs v hn hwt he k
  unfold fV at he
  split at he
  · rename_i b As
    split at he
    · rename_i o ho
      split at he
      · rename_i hoc
        obtain ⟨⟨hz, hs⟩, hM⟩ := hI _ _ _ _ he
        obtain ⟨K1, K2, K3, K4, K5, K6⟩ := K
        refine g_run (a := (Value.ref b :: As).toArray) (σ' := σ') (v := v) (rest := stk) hz hs k fun p l e R s m args below meth c H locs cells slots ls CC hls hR hsz hS hfr hlo hroom => ?_
        obtain ⟨hx, hb, -, hml, hown, hts, -, hK, hB, -, htr, -⟩ := CC
        have hG : GoodIn lwG (Cond.code y cc nL rt :: lwG) := lwG_good (fun _ h => h) fun w hw => by
          rcases List.mem_cons.mp hw with rfl | h
          · exact K4
          · exact h
        refine run_V (As := As) (n := n) (nL := M.2.2.1) (bytes := cc) (maxL := nL) (ret := rt) (C := C) hx hb hml hown (hM X.1 l htr) rfl rfl (by rw [hfr]; exact hlt) (by rw [hlo]; show 16 + (nL + 11) + 60 * d' ≤ 60 * d; omega) (pay_in hts hG) List.mem_cons_self (hts _ K4) (by rw [K5.1]; exact hts _ K3) ⟨K5.2.1, K5.2.2.1⟩ (fun sig h => ?_) (hts _ hl) (hts _ K1) (hts _ K2) ⟨gP_blind _ _ _, ?_, fun U hU hW => ⟨rfl, by rw [hU]; exact hR, by rw [hU]; exact hsz, hK.warm hW (by rw [hU]; exact hS), by rw [← hsz]; exact Nat.le_trans hB hS.1⟩⟩ rfl (by simpa using hn) hls (by simp) (wt_room16 hwt hw) hd hroom
        · have h2 := K5.2.2.2
          rw [h] at h2
          exact (Option.some.inj h2).symm
        · obtain ⟨-, rr, h1, cell, q1, q2, q3, -⟩ := hR b _ ho
          rw [hoc] at h1 q2
          have hr : rr = (C, T, N) := Option.some.inj (h1.symm.trans hc)
          exact ⟨cell, q1, by rw [q3]; rfl, by rw [q2]; exact (hK.1.1 ci _ hc).2.1⟩
      · cases he
    · cases he
  · cases he
theorem call_S {y : MethodName} {cc : ByteArray} {nL n d' index : Nat} {rt : Option FieldType} {f : XF} (hI : Impl y cc nL rt d' f) (K : CeeS y cc nL rt n) (hd : decode M.2.1 pc = .ok (.invokestatic index, 3)) (hl : Cond.methodLink M.1 index y ∈ lwG) (hlt : d' < d) (hw : w ≤ 8) : CALL M d w pc n f (pc + 3) := by
  intro X L stk σ σ' vs v hn hwt he k
  obtain ⟨⟨hz, hs⟩, hM⟩ := hI _ _ _ _ he
  obtain ⟨K1, K2, K3, K4, K5⟩ := K
  refine g_run (a := vs.toArray) (σ' := σ') (v := v) (rest := stk) hz hs k fun p l e R s m args below meth c H locs cells slots ls CC hls hR hsz hS hfr hlo hroom => ?_
  obtain ⟨hx, hb, -, hml, hown, hts, -, hK, hB, -, htr, -⟩ := CC
  refine va_runS (As := vs) (n := n) (nL := M.2.2.1) (Ts := lwG) ⟨hx, hb, hml, hown, hts⟩ (hM X.1 l htr) ⟨callB_of n hts (lwG_good (fun _ h => h) fun w hw => ?_) rfl rfl rfl (hts _ K2) (hts _ hl) K4 ⟨by rw [hfr]; exact hlt, by rw [hlo]; show 8 + (nL + 11) + 60 * d' ≤ 60 * d; omega⟩, hts _ K1⟩ ⟨gP_blind _ _ _, fun U hU hW => ⟨rfl, by rw [hU]; exact hR, by rw [hU]; exact hsz, hK.warm hW (by rw [hU]; exact hS), by rw [← hsz]; exact Nat.le_trans hB hS.1⟩⟩ rfl hn hls rfl (wt_room hwt hw) hd hroom
  rcases List.mem_cons.mp hw with rfl | h
  · exact K3
  · exact h
theorem call_I {y : MethodName} {cc : ByteArray} {nL n d' index : Nat} {f : XF} (hI : Impl y cc nL none d' f) (K : CeeI y cc nL n) (hd : decode M.2.1 pc = .ok (.invokespecial index, 3)) (hl : Cond.methodLink M.1 index y ∈ lwG ∨ ∃ host, Cond.methodLinkNest M.1 index y host ∈ lwN) (hlt : d' < d) (hw : w ≤ 8) {X : RX} {L stk : List Value} {σ σ' : ST} {b : Nat} {As : List Value} {v : Option Value} (hn : As.length = n) (hwt : wt stk ≤ w) (he : f (.ref b :: As) σ = some (v, σ')) (k : G M d X (pc + 3) L (v.toList ++ stk) σ') : G M d X pc L (As.reverse ++ .ref b :: stk) σ := by
  obtain ⟨⟨hz, hs⟩, hM⟩ := hI _ _ _ _ he
  obtain ⟨K1, K2, K3, K4, K5, K6⟩ := K
  refine g_run (a := (Value.ref b :: As).toArray) (σ' := σ') (v := v) (rest := stk) hz hs k fun p l e R s m args below meth c H locs cells slots ls CC hls hR hsz hS hfr hlo hroom => ?_
  obtain ⟨hx, hb, -, hml, hown, hts, -, hK, hB, -, htr, -⟩ := CC
  have hG : GoodIn lwG (Cond.code y cc nL none :: lwG) := lwG_good (fun _ h => h) fun w hw => by
    rcases List.mem_cons.mp hw with rfl | h
    · exact K3
    · exact h
  have hrm : (rmD d' (σ'.2.1 - σ.2.1) (σ'.2.2 - σ.2.2)).frames + 1 ≤ R.frames ∧ 8 + (nL + 11) + (rmD d' (σ'.2.1 - σ.2.1) (σ'.2.2 - σ.2.2)).locals ≤ R.locals := ⟨by rw [hfr]; exact hlt, by rw [hlo]; show 8 + (nL + 11) + 60 * d' ≤ 60 * d; omega⟩
  rcases hl with hl | ⟨host, hl⟩
  · exact va_runI (As := As) (n := n) (nL := M.2.2.1) (Ts := lwG) ⟨hx, hb, hml, hown, hts⟩ (hM X.1 l htr) (cwI n hts hG rfl rfl rfl (hts _ K2) (hts _ hl) (hts _ K1) K6 K4 hrm) ⟨gP_blind _ _ _, fun U hU hW => ⟨rfl, by rw [hU]; exact hR, by rw [hU]; exact hsz, hK.warm hW (by rw [hU]; exact hS), by rw [← hsz]; exact Nat.le_trans hB hS.1⟩⟩ rfl hn hls rfl (wt_room hwt hw) hd hroom
  · exact va_runIN (As := As) (n := n) (nL := M.2.2.1) (Ts := lwG) ⟨hx, hb, hml, hown, hts⟩ (hM X.1 l htr) ⟨va_cnB n hts hG rfl rfl rfl (hK.2.1 _ hl) (hts _ K2) K4 hrm, K6, hts _ K1⟩ ⟨gP_blind _ _ _, fun U hU hW => ⟨rfl, by rw [hU]; exact hR, by rw [hU]; exact hsz, hK.warm hW (by rw [hU]; exact hS), by rw [← hsz]; exact Nat.le_trans hB hS.1⟩⟩ rfl hn hls rfl (wt_room hwt hw) hd hroom
/-! new cells -/
theorem g_alloc {X : RX} {pc' : Nat} {L stk stk' : List Value} {σ : ST} {cl : MC} {n : Nat} (k : G M d X pc' L stk' (alloc σ cl n))
    (h : ∀ (p : Program) (l : Launch) (e : Env) (R : Room) (s : State) (m : MethodId) (args : Array Value) (below : List Frame) (meth : Method) (c : Code) (H : Heap) (locs : List Loc) (cells slots : Nat) (Q : State → Prop) (ls : Array Slot), CX M X.1 p l s m args meth c → H.size = σ.2.1 → cells + 1 ≤ R.cells → slots + n ≤ R.slots →
      (∀ H1 : Heap, H1.size = H.size + 1 → (∀ q, q < H.size → H1[q]? = H[q]?) → mAt X.1.1 X.1.2.1 H.size cl H1 → W p l e R s m args below meth c H1 locs (cells + 1) (slots + n) Q (F0 m pc' ls stk')) → W p l e R s m args below meth c H locs cells slots Q (F0 m pc ls stk)) : G M d X pc L stk σ := by
  intro z1 z2
  obtain ⟨k1, k2⟩ := k (Nat.le_succ_of_le z1) (Nat.le_trans z2 (Nat.le_add_right _ _))
  have k1a : σ.2.1 + 1 ≤ X.2.2.2.2.1 := k1.1
  have k1b : σ.2.2 + n ≤ X.2.2.2.2.2 := k1.2
  refine ⟨⟨by omega, by omega⟩, fun p l e s m args below meth c C H locs ls hl hR hsz hS => ?_⟩
  refine h p l e _ s m args below meth c H locs _ _ _ ls C hsz (by show _ ≤ X.2.2.2.2.1 - X.2.1.1; omega) (by show _ ≤ X.2.2.2.2.2 - X.2.1.2; omega) fun H1 hz1 ho hm => ?_
  have hR1 : Rep X.1 (alloc σ cl n).1 H1 := by
    have := hR.add (Nat.le_trans C.2.2.2.2.2.2.2.2.1 hS.1) hm ho
    rw [hsz] at this
    exact this
  have kk := k2 p l e s m args below meth c C H1 locs ls hl hR1 (by rw [hz1, hsz]; rfl) ⟨Nat.le_trans hS.1 (by omega), fun x h1 h2 => (ho x (Nat.lt_of_lt_of_le h1 hS.1)).trans (hS.2.1 x h1 h2), hS.2.2⟩
  have ea : (alloc σ cl n).2.1 - X.2.1.1 = σ.2.1 - X.2.1.1 + 1 := by show σ.2.1 + 1 - X.2.1.1 = _; omega
  have eb : (alloc σ cl n).2.2 - X.2.1.2 = σ.2.2 - X.2.1.2 + n := by show σ.2.2 + n - X.2.1.2 = _; omega
  rw [ea, eb] at kk
  exact kk
theorem ie_new {ci N index idx2 d' nL n : Nat} {C : String} {T : u_T} {ty : Nat → FieldType} {V : Nat → Value} {y : MethodName} {cc : ByteArray} {f : XF} {es : List XE} {p1 : Nat} (K : ClsOK ci C T N ty) (hd : decode M.2.1 pc = .ok (.new index, 3)) (hcl : Cond.classLink M.1 index C ∈ lwG) (hin : Cond.instantiable C N ∈ lwG) (hini : Cond.initialized C ∈ lwG) (hV : ∀ j, j < N → defaultValue (ty j) = V j) (hd2 : decode M.2.1 (pc + 3) = .ok (.dup, 1)) (h1 : IA M d (w + 4) (pc + 4) es p1)
    (hI : Impl y cc nL none d' f) (KI : CeeI y cc nL n) (hn : es.length = n) (hd3 : decode M.2.1 p1 = .ok (.invokespecial idx2, 3)) (hl : Cond.methodLink M.1 idx2 y ∈ lwG ∨ ∃ host, Cond.methodLinkNest M.1 idx2 y host ∈ lwN) (hlt : d' < d) (hw : w ≤ 6) : IE M d w pc (eNew ci N V f es) (p1 + 3) := by
  intro X L stk σ σ' v hwt he k
  unfold eNew at he
  obtain ⟨⟨vs, σ1⟩, g1, he⟩ := Option.bind_eq_some_iff.mp he
  obtain ⟨⟨vo, σ2⟩, g2, he⟩ := Option.bind_eq_some_iff.mp he
  dsimp only at he
  split at he
  · cases he
    refine g_alloc (pc' := pc + 3) (stk' := .ref σ.2.1 :: stk) (cl := .inr (ci, V)) (n := N) ?_ fun p l e R s m args below meth c H locs cells slots Q ls C0 hsz hc hs w => ?_
    · refine g_pure (pc' := pc + 4) (stk' := .ref σ.2.1 :: .ref σ.2.1 :: stk) ?_ fun p l e R s m args below meth c H locs cells slots Q ls C _ _ w => lv_dup C.1 C.2.1 hd2 rfl w
      refine h1 X L _ _ σ1 vs (wt_le (wt_le hwt)) g1 ?_
      exact call_I (w := w + 2) hI KI hd3 hl hlt (by omega) ((evL_len g1).trans hn) (wt_le hwt) g2 k
    · obtain ⟨hx, hb, -, hml, hown, hts, -, hK, hB, -⟩ := C0
      have hKn := hK.1.1 ci _ K.1
      rw [← hsz] at w
      refine W.newcK hx hb hown (hts _ hcl) (hts _ hin) (hts _ hini) rfl hd hc hs hKn.2.1 rfl fun H1 kC hkC e1 z1 o1 => ?_
      exact w H1 z1 o1 ⟨_, K.1, (u_born ty hts K.2.1 hKn hkC e1 K.2.2.1).to hV⟩
  · cases he
theorem ie_newa {atype : ArrayType} {t : FieldType} {x : Nat → vp_A} {e : XE} {p1 : Nat} (h1 : IE M d w pc e p1) (hd : decode M.2.1 p1 = .ok (.newarray atype, 2)) (hty : newarray.typeOf atype = t) (ht : t ∈ arrTys) (hra : ∀ (U : State) (c : ClassId), va_RA U c t → U.vm.findClass ("[" ++ t.toString) = some c) (hx : ∀ n c, vp_cell c (x n) = arrV c n (fun _ => defaultValue t)) (hbt : componentBytes t ≤ 8) (harr : Cond.arrayClass t ∈ lwG) : IE M d w pc (eNA t x e) (p1 + 2) := by
  intro X L stk σ σ' v hwt he k
  unfold eNA at he
  obtain ⟨⟨a, σ1⟩, g1, he⟩ := Option.bind_eq_some_iff.mp he
  unfold newA at he
  dsimp only at he
  split at he
  · rename_i n
    split at he
    · cases he
    · rename_i hnn
      cases he
      refine h1 X L stk σ σ1 _ hwt g1 ?_
      refine g_alloc (pc' := p1 + 2) (stk' := .ref σ1.2.1 :: stk) (cl := .inl (t, x n.toNatClampNeg)) (n := n.toNatClampNeg) k fun p l e R s m args below meth c H locs cells slots Q ls C0 hsz hc hs w => ?_
      obtain ⟨hx0, hb, -, hml, hown, hts, -, hK, hB, -⟩ := C0
      have hRA := hra s _ (hK.arr ht).2
      subst hty
      rw [← hsz] at w
      refine va_newaK hx0 hb (hts _ harr) rfl hd rfl (fun h => hnn (Or.inl h)) rfl ?_ hc hs rfl fun H1 cA e1 z1 o1 hAr hNm => ?_
      · have h8 : n.toNatClampNeg ≤ 65536 := Nat.not_lt.mp fun h => hnn (Or.inr h)
        exact Nat.le_trans (Nat.mul_le_mul h8 hbt) (by decide)
      · refine w H1 z1 o1 ⟨ht, ?_⟩
        have hcA : cA = X.1.2.1 (newarray.typeOf atype) := Option.some.inj (hNm.symm.trans hRA)
        rw [e1, hcA]
        dsimp only
        rw [hx]
  · cases he
theorem ie_newq {index : Nat} {C : String} {e : XE} {p1 : Nat} (h1 : IE M d w pc e p1) (hd : decode M.2.1 p1 = .ok (.anewarray index, 3)) (ht : FieldType.object C ∈ arrTys) (hC : C ∈ [RX3, RX5, RX4]) (hcl : Cond.classLink M.1 index C ∈ lwG) : IE M d w pc (eNA (.object C) (fun n => (n, .inr (.inr (.inr (.inr fun _ => none))))) e) (p1 + 3) := by
  intro X L stk σ σ' v hwt he k
  unfold eNA at he
  obtain ⟨⟨a, σ1⟩, g1, he⟩ := Option.bind_eq_some_iff.mp he
  unfold newA at he
  dsimp only at he
  split at he
  · rename_i n
    split at he
    · cases he
    · rename_i hnn
      cases he
      refine h1 X L stk σ σ1 _ hwt g1 ?_
      refine g_alloc (pc' := p1 + 3) (stk' := .ref σ1.2.1 :: stk) (n := n.toNatClampNeg) k fun p l e R s m args below meth c H locs cells slots Q ls C0 hsz hc hs w => ?_
      obtain ⟨hx0, hb, -, hml, hown, hts, -, hK, hB, -⟩ := C0
      obtain ⟨kA0, comp0, -, -, -, hRA⟩ := (hK.arr ht).2
      rw [← hsz] at w
      have h8 : n.toNatClampNeg ≤ 65536 := Nat.not_lt.mp fun h => hnn (Or.inr h)
      refine W.anew hx0 hb hown (hts _ hcl) (va_AO.use (hK.2.2.1 C hC)) rfl hd rfl (fun h => hnn (Or.inl h)) (Nat.le_trans (Nat.mul_le_mul_right 4 h8) (by decide)) hc hs fun cA kA comp f1 f2 f3 f4 => ?_
      generalize hH1 : H.push ({ cls := cA, slots := Array.replicate n.toNatClampNeg .null, vm := .none } : Cell) = H1
      have z1 : H1.size = H.size + 1 := by rw [← hH1, Array.size_push]
      have e1 : H1[H.size]? = some (arrV cA n.toNatClampNeg (fun _ => .null)) := by rw [← hH1, Array.getElem?_push_size, ← arrV_new]
      have o1 : ∀ q, q < H.size → H1[q]? = H[q]? := by
        intro q hq
        rw [← hH1, Array.getElem?_push, if_neg (Nat.ne_of_lt hq)]
      refine w H1 z1 o1 ⟨ht, ?_⟩
      have hcA : cA = X.1.2.1 (.object C) := Option.some.inj (f1.symm.trans hRA)
      rw [e1, hcA]
      rfl
  · cases he
end Calls9
