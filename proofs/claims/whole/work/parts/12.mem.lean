/-! ===== memory: fields, arrays, new cells ===== -/
def updH (σ : ST) (r : Nat) (c : MC) : ST := (fun a => if a = r then some c else σ.1 a, σ.2.1, σ.2.2)
def alloc (σ : ST) (c : MC) (n : Nat) : ST := (fun a => if a = σ.2.1 then some c else σ.1 a, σ.2.1 + 1, σ.2.2 + n)
theorem mAt.lt {D : va_G} {AC : FieldType → ClassId} {a : Nat} {c : MC} {H : Heap} (h : mAt D AC a c H) : a < H.size := by
  cases c with
  | inl x => exact (Array.getElem?_eq_some_iff.mp h.2).1
  | inr o =>
    obtain ⟨r, h1, cell, h2, -⟩ := h
    exact (Array.getElem?_eq_some_iff.mp h2).1
theorem mAt.kept {D : va_G} {AC : FieldType → ClassId} {a : Nat} {c : MC} {H H1 : Heap} (h : mAt D AC a c H) (hq : H1[a]? = H[a]?) : mAt D AC a c H1 := by
  cases c with
  | inl x => exact ⟨h.1, hq.trans h.2⟩
  | inr o =>
    obtain ⟨r, h1, h2⟩ := h
    exact ⟨r, h1, h2.kept hq⟩
theorem Rep.set {X : va_G × (FieldType → ClassId) × Nat} {h : HP} {H H1 : Heap} {r : Nat} {c0 c : MC} (hR : Rep X h H) (h0 : h r = some c0) (hc : mAt X.1 X.2.1 r c H1) (hq : ∀ q, q ≠ r → H1[q]? = H[q]?) : Rep X (fun a => if a = r then some c else h a) H1 := by
  intro a c' ha
  dsimp only at ha
  split at ha
  · rename_i e
    subst e
    cases ha
    exact ⟨(hR a c0 h0).1, hc⟩
  · rename_i e
    exact ⟨(hR a c' ha).1, (hR a c' ha).2.kept (hq a e)⟩
theorem Rep.add {X : va_G × (FieldType → ClassId) × Nat} {h : HP} {H H1 : Heap} {c : MC} (hR : Rep X h H) (hB : X.2.2 ≤ H.size) (hc : mAt X.1 X.2.1 H.size c H1) (hq : ∀ q, q < H.size → H1[q]? = H[q]?) : Rep X (fun a => if a = H.size then some c else h a) H1 := by
  intro a c' ha
  dsimp only at ha
  split at ha
  · rename_i e
    subst e
    cases ha
    exact ⟨hB, hc⟩
  · exact ⟨(hR a c' ha).1, (hR a c' ha).2.kept (hq a (hR a c' ha).2.lt)⟩
def ClsOK (ci : Nat) (C : String) (T : u_T) (N : Nat) (ty : Nat → FieldType) : Prop := vwCl[ci]? = some (C, T, N) ∧ (∀ w ∈ u_ws C T N, w ∈ lwG) ∧ (∀ k, k < N → parseFieldDescriptor (T k).2.2.1 = some (ty k)) ∧ (∀ a, a < N → ∀ b, b < N → a ≠ b → (T a).2.1 ≠ (T b).2.1)
def gF (ci k : Nat) : Value → ST → Option Value := fun a σ => match a with
  | .ref r => match σ.1 r with
    | some (.inr o) => if o.1 = ci then some (o.2 k) else none
    | _ => none
  | _ => none
def vfit : FieldType → Value → Bool
  | .int, .int _ => true
  | .boolean, .int x => decide (x = 0 ∨ x = 1)
  | .long, .long _ => true
  | .object _, .ref _ => true
  | .object _, .null => true
  | .array _, .ref _ => true
  | .array _, .null => true
  | _, _ => false
theorem vfit_ok {ty : FieldType} {v : Value} (h : vfit ty v = true) : narrow ty v = v ∧ fits ty v = true := by
  unfold vfit at h
  split at h <;> first | (exact ⟨rfl, rfl⟩) | skip
  · rename_i x
    have hx : x = 0 ∨ x = 1 := of_decide_eq_true h
    rcases hx with rfl | rfl <;> exact ⟨by decide, by decide⟩
  · cases h
def pF (ci k : Nat) (ty : FieldType) : Value → Value → ST → Option ST := fun a b σ => match a with
  | .ref r => match σ.1 r with
    | some (.inr o) => if o.1 = ci ∧ vfit ty b = true then some (updH σ r (.inr (ci, updV o.2 k b))) else none
    | _ => none
  | _ => none
def arrOK (j : Int32) (n : Nat) : Prop := ¬ (j < 0 ∨ n ≤ j.toNatClampNeg)
section Mem
variable {M : MX} {d pc : Nat}
theorem r_getf {ci k N index : Nat} {C : String} {T : u_T} {ty : Nat → FieldType} (h : decode M.2.1 pc = .ok (.getfield index, 3)) (K : ClsOK ci C T N ty) (hk : k < N) (hd : (T k).1 = C) (hl : Cond.fieldLink M.1 index C (T k).2.1 (T k).2.2.1 ∈ lwG) : R1 M d pc (gF ci k) (pc + 3) := by
  intro X L stk σ a v hv kk
  unfold gF at hv
  split at hv
  · rename_i r
    split at hv
    · rename_i o ho
      split at hv
      · rename_i e
        cases hv
        refine g_pure kk fun p l e' R s m args below meth c H locs cells slots Q ls CC _ hR w => ?_
        obtain ⟨hx, hb, -, -, hown, hts, -, hK, -, -⟩ := CC
        obtain ⟨-, rr, h1, cell, q1, q2, q3, q4⟩ := hR r _ ho
        try dsimp only at h1 q2 q4
        rw [e] at h1 q2 q4
        have hr : rr = (C, T, N) := Option.some.inj (h1.symm.trans K.1)
        subst hr
        obtain ⟨hS, hfc, kC, hkC, hkind⟩ := hK.1.1 ci _ K.1
        obtain ⟨cf, kf, fi, f, hi, hsl⟩ := hS k hk
        refine W.getf hx hb hown (hts _ hl) (ref := C) (by rw [hd] at hi; exact hi) (u_facts hfc hkC (u_lays hts K.2.1 hk) hi).1 q1 (by rw [q3]; exact fun h => by cases h) (v := o.2 k) ?_ rfl rfl h w
        rw [hsl, q4 k hk]
      · cases hv
    · cases hv
  · cases hv
theorem g_heap {X : RX} {pc' : Nat} {L stk stk' : List Value} {σ σ' : ST} (k : G M d X pc' L stk' σ') (hz : σ'.2.1 = σ.2.1) (hs : σ'.2.2 = σ.2.2)
    (h : ∀ (p : Program) (l : Launch) (e : Env) (R : Room) (s : State) (m : MethodId) (args : Array Value) (below : List Frame) (meth : Method) (c : Code) (H : Heap) (locs : List Loc) (cells slots : Nat) (Q : State → Prop) (ls : Array Slot), CX M X.1 p l s m args meth c → Rep X.1 σ.1 H →
      (∀ (H1 : Heap) (a j : Nat), gA X.1 a → Rep X.1 σ'.1 H1 → H1.size = H.size → (∀ q, q ≠ a → H1[q]? = H[q]?) → W p l e R s m args below meth c H1 (locs ++ [⟨a, j⟩]) cells slots Q (F0 m pc' ls stk')) → W p l e R s m args below meth c H locs cells slots Q (F0 m pc ls stk)) : G M d X pc L stk σ := by
  intro h1 h2
  obtain ⟨k1, k2⟩ := k (by rw [hz]; exact h1) (by rw [hs]; exact h2)
  rw [hz, hs] at k1
  refine ⟨k1, fun p l e s m args below meth c C H locs ls hl hR hsz hS => h p l e _ s m args below meth c H locs _ _ _ ls C hR fun H1 a j ha hR1 hz1 ho => ?_⟩
  have := k2 p l e s m args below meth c C H1 (locs ++ [⟨a, j⟩]) ls hl hR1 (by rw [hz1, hsz, hz]) (hS.put hz1 ho ha)
  rw [hz, hs] at this
  exact this
theorem p_putf {ci k N index : Nat} {C : String} {T : u_T} {ty : Nat → FieldType} (h : decode M.2.1 pc = .ok (.putfield index, 3)) (K : ClsOK ci C T N ty) (hk : k < N) (hd : (T k).1 = C) (hl : Cond.fieldLink M.1 index C (T k).2.1 (T k).2.2.1 ∈ lwG) (hf : (T k).2.2.2 = false ∨ ((T k).2.2.2 = true ∧ M.2.2.2.2 = true ∧ C = M.1)) : P2 M d pc (pF ci k (ty k)) (pc + 3) := by
  intro X L stk σ σ' a b hv kk
  unfold pF at hv
  split at hv
  · rename_i r
    split at hv
    · rename_i o ho
      split at hv
      · rename_i e
        obtain ⟨e, ef⟩ := e
        cases hv
        refine g_heap kk rfl rfl fun p l e' R s m args below meth c H locs cells slots Q ls CC hR w => ?_
        obtain ⟨hx, hb, -, -, hown, hts, -, hK, -, hini, -⟩ := CC
        obtain ⟨hB, rr, h1, cell, q1, q2, q3, q4⟩ := hR r _ ho
        try dsimp only at h1 q2 q4
        rw [e] at h1 q2 q4
        have hr : rr = (C, T, N) := Option.some.inj (h1.symm.trans K.1)
        subst hr
        obtain ⟨hn, hfit⟩ := vfit_ok ef
        have hap := va_apart (own := M.1) hts K.2.1 ty K.2.2.1 K.2.2.2 hK.1 K.1
        obtain ⟨hS, hfc, kC, hkC, hkind⟩ := hK.1.1 ci _ K.1
        obtain ⟨cf, kf, fi, f, hi, hsl⟩ := hS k hk
        have hst := (u_facts hfc hkC (u_lays hts K.2.1 hk) hi).1
        have hlay := hts _ (K.2.1 _ (u_in_lay hk))
        unfold u_lay at hlay
        have hpd := K.2.2.1 k hk
        rcases hf with hf | ⟨hf, hi1, hi2⟩
        · rw [if_neg (by rw [hf]; decide)] at hlay
          have h6 := u_store hfc hkC hkind hlay hi hpd hn hfit
          refine W.putK hx hb (f := f) ⟨hown, hts _ hl, ⟨_, _, _, by rw [hd] at hi; exact hi⟩, hst⟩ (by rw [q2]; exact h6) q1 q3 (by rw [hsl]; exact k2_hasslot (q4 k hk)) rfl rfl h fun H' e1 e2 e3 => ?_
          rw [hsl] at e1 ⊢
          refine w H' r _ hB (hR.set ho ?_ e3) e2 e3
          exact ⟨_, K.1, t_OB.to (V := updV o.2 k b) ⟨_, e1, q2, q3, t_set q4 hap hk b⟩ (fun j _ => rfl)⟩
        · rw [if_pos hf] at hlay
          have hcf : m.cls = cf := by
            obtain ⟨_, _, c', _, _, _, -, -, hf', -, -, -, hown2, -⟩ := Cond.laysFinal_spec hlay
            have e1 : c' = cf := by have := hi.symm.trans hf'; simp at this; exact this.1.symm
            rw [hd, hi2] at hown2
            rw [← e1]; exact Option.some.inj (hown.symm.trans hown2)
          have h6 := u_fits hfc hkC hkind (Or.inr hlay) hi hpd hn hfit
          refine W.putFinK hx hb hown (hts _ hl) (by rw [hd] at hi; exact hi) hst hcf (hini hi1) (by rw [q2]; exact h6) q1 q3 (by rw [hsl]; exact k2_hasslot (q4 k hk)) rfl rfl h fun H' e1 e2 e3 => ?_
          rw [hsl] at e1 ⊢
          refine w H' r _ hB (hR.set ho ?_ e3) e2 e3
          exact ⟨_, K.1, t_OB.to (V := updV o.2 k b) ⟨_, e1, q2, q3, t_set q4 hap hk b⟩ (fun j _ => rfl)⟩
      · cases hv
    · cases hv
  · cases hv
end Mem
/-! arrays -/
def arI (t : FieldType) : Value → Value → ST → Option Value := fun a i σ => match a, i with
  | .ref r, .int j => match σ.1 r with
    | some (.inl (t', n, .inl f)) => if t' = t ∧ ¬ (j < 0 ∨ n ≤ j.toNatClampNeg) then some (.int (f j.toNatClampNeg)) else none
    | _ => none
  | _, _ => none
def arZ : Value → Value → ST → Option Value := fun a i σ => match a, i with
  | .ref r, .int j => match σ.1 r with
    | some (.inl (t', n, .inl f)) => if (t' = .byte ∨ t' = .boolean) ∧ ¬ (j < 0 ∨ n ≤ j.toNatClampNeg) then some (.int (f j.toNatClampNeg)) else none
    | _ => none
  | _, _ => none
def arL : Value → Value → ST → Option Value := fun a i σ => match a, i with
  | .ref r, .int j => match σ.1 r with
    | some (.inl (t', n, .inr (.inl f))) => if t' = .long ∧ ¬ (j < 0 ∨ n ≤ j.toNatClampNeg) then some (.long (f j.toNatClampNeg)) else none
    | _ => none
  | _, _ => none
def arR (C : String) : Value → Value → ST → Option Value := fun a i σ => match a, i with
  | .ref r, .int j => match σ.1 r with
    | some (.inl (t', n, .inr (.inr (.inr (.inr f))))) => if t' = .object C ∧ ¬ (j < 0 ∨ n ≤ j.toNatClampNeg) then some (va_rf (f j.toNatClampNeg)) else none
    | _ => none
  | _, _ => none
def arN : Value → ST → Option Value := fun a σ => match a with
  | .ref r => match σ.1 r with
    | some (.inl (_, n, _)) => some (.int (Int32.ofNat n))
    | _ => none
  | _ => none
def asI : Value → Value → Value → ST → Option ST := fun a i v σ => match a, i, v with
  | .ref r, .int j, .int x => match σ.1 r with
    | some (.inl (t', n, .inl f)) => if t' = .int ∧ ¬ (j < 0 ∨ n ≤ j.toNatClampNeg) then some (updH σ r (.inl (.int, n, .inl (upd f j.toNatClampNeg x)))) else none
    | _ => none
  | _, _, _ => none
def asZ : Value → Value → Value → ST → Option ST := fun a i v σ => match a, i, v with
  | .ref r, .int j, .int x => match σ.1 r with
    | some (.inl (t', n, .inl f)) => if (t' = .byte ∨ t' = .boolean) ∧ ¬ (j < 0 ∨ n ≤ j.toNatClampNeg) then some (updH σ r (.inl (t', n, .inl (upd f j.toNatClampNeg (vp_nar t' x))))) else none
    | _ => none
  | _, _, _ => none
def asL : Value → Value → Value → ST → Option ST := fun a i v σ => match a, i, v with
  | .ref r, .int j, .long x => match σ.1 r with
    | some (.inl (t', n, .inr (.inl f))) => if t' = .long ∧ ¬ (j < 0 ∨ n ≤ j.toNatClampNeg) then some (updH σ r (.inl (.long, n, .inr (.inl (vp_updL f j.toNatClampNeg x))))) else none
    | _ => none
  | _, _, _ => none
def asR (ci : Nat) (C : String) : Value → Value → Value → ST → Option ST := fun a i v σ => match a, i, v with
  | .ref r, .int j, .ref q => match σ.1 r, σ.1 q with
    | some (.inl (t', n, .inr (.inr (.inr (.inr f))))), some (.inr o) => if (t' = .object C ∧ o.1 = ci) ∧ ¬ (j < 0 ∨ n ≤ j.toNatClampNeg) then some (updH σ r (.inl (.object C, n, .inr (.inr (.inr (.inr (va_up f j.toNatClampNeg (some q)))))))) else none
    | _, _ => none
  | _, _, _ => none
theorem gK.arr {X : YX} {U : State} (h : gK X U) {t : FieldType} (ht : t ∈ arrTys) : ArrOfT U (X.2.1 t) t ∧ va_RA U (X.2.1 t) t := by
  obtain ⟨i, hi⟩ := List.getElem?_of_mem ht
  exact h.1.2 i (X.2.1 t, t) (by rw [List.getElem?_map, hi]; rfl)
section Arr
variable {M : MX} {d pc : Nat}
theorem r_iaload (h : decode M.2.1 pc = .ok (.iaload, 1)) : R2 M d pc (arI .int) (pc + 1) := by
  intro X L stk σ a b v hv kk
  unfold arI at hv
  split at hv
  · rename_i r j
    split at hv
    · rename_i t' n f ho
      split at hv
      · rename_i hc
        obtain ⟨rfl, hin⟩ := hc
        cases hv
        refine g_pure kk fun p l e R s m args below meth c H locs cells slots Q ls CC _ hR w => ?_
        have hm := (hR r _ ho).2
        have hlt : j.toNatClampNeg < n := Nat.not_le.mp fun q => hin (Or.inr q)
        exact W.iald (v := .int (f j.toNatClampNeg)) CC.1 CC.2.1 hm.2 ((CC.2.2.2.2.2.2.2.1.arr hm.1).1 n (fun j => .int (f j))) (fun q => by cases q) (by show ¬ (j < 0 ∨ (arrV _ _ _).slots.size ≤ _); rw [arrV_size]; exact hin) (by show (arrV _ _ _).slots[_]? = _; rw [arrV_read _ _ hlt]) rfl rfl h w
      · cases hv
    · cases hv
  · cases hv
theorem r_baload (h : decode M.2.1 pc = .ok (.baload, 1)) : R2 M d pc arZ (pc + 1) := by
  intro X L stk σ a b v hv kk
  unfold arZ at hv
  split at hv
  · rename_i r j
    split at hv
    · rename_i t' n f ho
      split at hv
      · rename_i hc
        obtain ⟨ht, hin⟩ := hc
        cases hv
        refine g_pure kk fun p l e R s m args below meth c H locs cells slots Q ls CC _ hR w => ?_
        have hm := (hR r _ ho).2
        have hlt : j.toNatClampNeg < n := Nat.not_le.mp fun q => hin (Or.inr q)
        rcases ht with rfl | rfl
        · exact W.bald (v := .int (f j.toNatClampNeg)) CC.1 CC.2.1 hm.2 ((CC.2.2.2.2.2.2.2.1.arr hm.1).1 n (fun j => .int (f j))) (fun q => by cases q) (by show ¬ (j < 0 ∨ (arrV _ _ _).slots.size ≤ _); rw [arrV_size]; exact hin) (by show (arrV _ _ _).slots[_]? = _; rw [arrV_read _ _ hlt]) rfl rfl h w
        · exact W.zald (v := .int (f j.toNatClampNeg)) CC.1 CC.2.1 hm.2 ((CC.2.2.2.2.2.2.2.1.arr hm.1).1 n (fun j => .int (f j))) (fun q => by cases q) (by show ¬ (j < 0 ∨ (arrV _ _ _).slots.size ≤ _); rw [arrV_size]; exact hin) (by show (arrV _ _ _).slots[_]? = _; rw [arrV_read _ _ hlt]) rfl rfl h w
      · cases hv
    · cases hv
  · cases hv
theorem r_laload (h : decode M.2.1 pc = .ok (.laload, 1)) : R2 M d pc arL (pc + 1) := by
  intro X L stk σ a b v hv kk
  unfold arL at hv
  split at hv
  · rename_i r j
    split at hv
    · rename_i t' n f ho
      split at hv
      · rename_i hc
        obtain ⟨rfl, hin⟩ := hc
        cases hv
        refine g_pure kk fun p l e R s m args below meth c H locs cells slots Q ls CC _ hR w => ?_
        have hm := (hR r _ ho).2
        have hlt : j.toNatClampNeg < n := Nat.not_le.mp fun q => hin (Or.inr q)
        exact W.lald (v := .long (f j.toNatClampNeg)) CC.1 CC.2.1 hm.2 ((CC.2.2.2.2.2.2.2.1.arr hm.1).1 n (fun j => .long (f j))) (fun q => by cases q) (by show ¬ (j < 0 ∨ (arrV _ _ _).slots.size ≤ _); rw [arrV_size]; exact hin) (by show (arrV _ _ _).slots[_]? = _; rw [arrV_read _ _ hlt]) rfl rfl h w
      · cases hv
    · cases hv
  · cases hv
theorem r_aaload {C : String} (h : decode M.2.1 pc = .ok (.aaload, 1)) : R2 M d pc (arR C) (pc + 1) := by
  intro X L stk σ a b v hv kk
  unfold arR at hv
  split at hv
  · rename_i r j
    split at hv
    · rename_i t' n f ho
      split at hv
      · rename_i hc
        obtain ⟨rfl, hin⟩ := hc
        cases hv
        refine g_pure kk fun p l e R s m args below meth c H locs cells slots Q ls CC _ hR w => ?_
        have hm := (hR r _ ho).2
        have hlt : j.toNatClampNeg < n := Nat.not_le.mp fun q => hin (Or.inr q)
        exact W.aald (v := va_rf (f j.toNatClampNeg)) (ty := .object C) CC.1 CC.2.1 hm.2 ((CC.2.2.2.2.2.2.2.1.arr hm.1).1 n (fun j => va_rf (f j))) rfl (fun q => by cases q) (by show ¬ (j < 0 ∨ (arrV _ _ _).slots.size ≤ _); rw [arrV_size]; exact hin) (by show (arrV _ _ _).slots[_]? = _; rw [arrV_read _ _ hlt]) rfl rfl h w
      · cases hv
    · cases hv
  · cases hv
theorem vp_cell_len (cA : ClassId) (x : vp_A) : (vp_cell cA x).slots.size = x.1 := by
  obtain ⟨n, f⟩ := x
  rcases f with f | f | f | f | f <;> exact arrV_size _ _ _
theorem vp_cell_ty {U : State} {cA : ClassId} {t : FieldType} (h : ArrOfT U cA t) (x : vp_A) : U.isArrayOf (vp_cell cA x) t := by
  obtain ⟨n, f⟩ := x
  rcases f with f | f | f | f | f <;> exact h n _
theorem r_alen (h : decode M.2.1 pc = .ok (.arraylength, 1)) : R1 M d pc arN (pc + 1) := by
  intro X L stk σ a v hv kk
  unfold arN at hv
  split at hv
  · rename_i r
    split at hv
    · rename_i t n f ho
      cases hv
      refine g_pure kk fun p l e R s m args below meth c H locs cells slots Q ls CC _ hR w => ?_
      have hm := (hR r _ ho).2
      exact W.alen (n := Int32.ofNat n) CC.1 CC.2.1 hm.2 (vp_cell_ty (CC.2.2.2.2.2.2.2.1.arr hm.1).1 _) (by rw [vp_cell_len] <;> rfl) rfl rfl h w
    · cases hv
  · cases hv
theorem p_iastore (h : decode M.2.1 pc = .ok (.iastore, 1)) : P3 M d pc asI (pc + 1) := by
  intro X L stk σ σ' a b v hv kk
  unfold asI at hv
  split at hv
  · rename_i r j x
    split at hv
    · rename_i t' n f ho
      split at hv
      · rename_i hc
        obtain ⟨rfl, hin⟩ := hc
        cases hv
        refine g_heap kk rfl rfl fun p l e R s m args below meth c H locs cells slots Q ls CC hR w => ?_
        have hm := (hR r _ ho).2
        refine W.iast CC.1 CC.2.1 hm.2 ((CC.2.2.2.2.2.2.2.1.arr hm.1).1 n (fun j => .int (f j))) (fun q => by cases q) (by show ¬ (j < 0 ∨ (arrV _ _ _).slots.size ≤ _); rw [arrV_size]; exact hin) rfl rfl h fun H1 e1 z oq => ?_
        refine w H1 r _ (hR r _ ho).1 (hR.set ho ⟨hm.1, ?_⟩ oq) z oq
        rw [e1]
        dsimp only
        rw [vp_cell_i, vp_cell_i, arrV_store]
        congr 2
        funext q
        by_cases hq : q = j.toNatClampNeg
        · subst hq
          simp [updV, upd]
        · simp [updV, upd, hq]
      · cases hv
    · cases hv
  · cases hv
theorem p_bastore (h : decode M.2.1 pc = .ok (.bastore, 1)) : P3 M d pc asZ (pc + 1) := by
  intro X L stk σ σ' a b v hv kk
  unfold asZ at hv
  split at hv
  · rename_i r j x
    split at hv
    · rename_i t' n f ho
      split at hv
      · rename_i hc
        obtain ⟨ht, hin⟩ := hc
        cases hv
        refine g_heap kk rfl rfl fun p l e R s m args below meth c H locs cells slots Q ls CC hR w => ?_
        have hm := (hR r _ ho).2
        rcases ht with rfl | rfl
        · refine W.bast CC.1 CC.2.1 hm.2 ((CC.2.2.2.2.2.2.2.1.arr hm.1).1 n (fun j => .int (f j))) (fun q => by cases q) (by show ¬ (j < 0 ∨ (arrV _ _ _).slots.size ≤ _); rw [arrV_size]; exact hin) rfl rfl h fun H1 e1 z oq => ?_
          refine w H1 r _ (hR r _ ho).1 (hR.set ho ⟨hm.1, ?_⟩ oq) z oq
          rw [e1]
          dsimp only
          rw [vp_cell_i, vp_cell_i, arrV_store]
          congr 2
          funext q
          by_cases hq : q = j.toNatClampNeg
          · subst hq
            simp [updV, upd, vp_nar]
            try rfl
          · simp [updV, upd, hq]
        · refine W.zast CC.1 CC.2.1 hm.2 ((CC.2.2.2.2.2.2.2.1.arr hm.1).1 n (fun j => .int (f j))) (fun q => by cases q) (by show ¬ (j < 0 ∨ (arrV _ _ _).slots.size ≤ _); rw [arrV_size]; exact hin) rfl rfl h fun H1 e1 z oq => ?_
          refine w H1 r _ (hR r _ ho).1 (hR.set ho ⟨hm.1, ?_⟩ oq) z oq
          rw [e1]
          dsimp only
          rw [vp_cell_i, vp_cell_i, arrV_store]
          congr 2
          funext q
          by_cases hq : q = j.toNatClampNeg
          · subst hq
            simp [updV, upd, vp_nar]
            try rfl
          · simp [updV, upd, hq]
      · cases hv
    · cases hv
  · cases hv
theorem p_lastore (h : decode M.2.1 pc = .ok (.lastore, 1)) : P3 M d pc asL (pc + 1) := by
  intro X L stk σ σ' a b v hv kk
  unfold asL at hv
  split at hv
  · rename_i r j x
    split at hv
    · rename_i t' n f ho
      split at hv
      · rename_i hc
        obtain ⟨rfl, hin⟩ := hc
        cases hv
        refine g_heap kk rfl rfl fun p l e R s m args below meth c H locs cells slots Q ls CC hR w => ?_
        have hm := (hR r _ ho).2
        refine W.last CC.1 CC.2.1 hm.2 ((CC.2.2.2.2.2.2.2.1.arr hm.1).1 n (fun j => .long (f j))) (fun q => by cases q) (by show ¬ (j < 0 ∨ (arrV _ _ _).slots.size ≤ _); rw [arrV_size]; exact hin) rfl rfl h fun H1 e1 z oq => ?_
        refine w H1 r _ (hR r _ ho).1 (hR.set ho ⟨hm.1, ?_⟩ oq) z oq
        rw [e1]
        dsimp only
        rw [vp_cell_l, vp_cell_l, arrV_store]
        congr 2
        funext q
        by_cases hq : q = j.toNatClampNeg
        · subst hq
          simp [updV, vp_updL]
        · simp [updV, vp_updL, hq]
      · cases hv
    · cases hv
  · cases hv
theorem p_aastore {ci : Nat} {C : String} {T : u_T} {N : Nat} (hci : vwCl[ci]? = some (C, T, N)) (h : decode M.2.1 pc = .ok (.aastore, 1)) : P3 M d pc (asR ci C) (pc + 1) := by
  intro X L stk σ σ' a b v hv kk
  unfold asR at hv
  split at hv
  · rename_i r j q9
    split at hv
    · rename_i t' n f o ho hq9
      split at hv
      · rename_i hc
        obtain ⟨⟨rfl, hoc⟩, hin⟩ := hc
        cases hv
        refine g_heap kk rfl rfl fun p l e R s m args below meth c H locs cells slots Q ls CC hR w => ?_
        have hm := (hR r _ ho).2
        have hK := CC.2.2.2.2.2.2.2.1
        obtain ⟨rr, hr', cellV, g1, g2, g3, -⟩ := (hR q9 _ hq9).2
        rw [hoc] at g2
        have hcls := (hK.1.1 ci _ hci).2
        obtain ⟨kA, comp, k1, k2, k3, -⟩ := (hK.arr hm.1).2
        have hcomp : comp = X.1.1.1 ci := Option.some.inj (k3.symm.trans hcls.1)
        subst hcomp
        obtain ⟨kC, hkC, -⟩ := hcls.2
        have hlt : j.toNatClampNeg < n := Nat.not_le.mp fun q => hin (Or.inr q)
        have h0 : ¬ j < 0 := fun q => hin (Or.inl q)
        refine W.aast CC.1 CC.2.1 hm.2 (fun q h => by cases h) (fun h => by cases h) k1 k2 rfl hkC ⟨h0, by show _ < (arrV _ _ _).slots.size; rw [arrV_size]; exact hlt⟩ g1 (fun q h => by rw [g3] at h; cases h) (by rw [g2]; exact hkC) (by rw [g2]; exact va_assign hcls) rfl rfl h fun H1 e1 z oq => ?_
        refine w H1 r _ (hR r _ ho).1 (hR.set ho ⟨hm.1, ?_⟩ oq) z oq
        rw [e1]
        dsimp only
        rw [vp_cell_q, vp_cell_q, arrV_store]
        congr 2
        funext q
        by_cases hq : q = j.toNatClampNeg
        · subst hq
          simp [updV, va_up, va_rf]
        · simp [updV, va_up, hq]
      · cases hv
    · cases hv
  · cases hv
end Arr
