def expA (as : List Value) : List Value := as.flatMap fun v => if v.category = 2 then [v, UV] else [v]
def L0 (nL : Nat) (as : List Value) : List Value := expA as ++ List.replicate (nL - (expA as).length) UV
def mth (nL : Nat) (body : XS) : XF := fun as σ => if (expA as).length ≤ nL then (match body (L0 nL as) σ with
  | some (.inr v, _, σ') => some (v, σ')
  | _ => none) else none
theorem expA_cons (v : Value) (as : List Value) : expA (v :: as) = (if v.category = 2 then [v, UV] else [v]) ++ expA as := by simp [expA]
theorem expA_sl (as : List Value) : (lg_sl as).length = (expA as).length := by
  induction as with
  | nil => rfl
  | cons v as ih =>
    rw [expA_cons]
    have : lg_sl (v :: as) = (if v.category = 2 then [Slot.val v, Slot.second] else [Slot.val v]) ++ lg_sl as := by simp [lg_sl]
    rw [this, List.length_append, List.length_append, ih]
    split <;> rfl
theorem L0_in {n : Nat} : ∀ (as : List Value) (i j : Nat) (v : Value), (expA as ++ List.replicate n UV)[j]? = some v → isU v = false → (i + j, v) ∈ lv_args i as := by
  intro as
  induction as with
  | nil =>
    intro i j v h hu
    have hm := List.mem_of_getElem? h
    simp [expA] at hm
    rw [hm.2] at hu
    cases hu
  | cons a as ih =>
    intro i j v h hu
    rw [expA_cons] at h
    rcases lv_cat a with hc | hc
    · rw [if_neg (by omega)] at h
      unfold lv_args
      rw [hc]
      cases j with
      | zero => cases h; exact List.mem_cons_self
      | succ j =>
        have := ih (i + 1) j v (by simpa using h) hu
        rw [show i + (j + 1) = i + 1 + j by omega]
        exact List.mem_cons_of_mem _ this
    · rw [if_pos hc] at h
      unfold lv_args
      rw [hc]
      cases j with
      | zero => cases h; exact List.mem_cons_self
      | succ j =>
        cases j with
        | zero =>
          have e : UV = v := by simpa using h
          rw [← e] at hu
          cases hu
        | succ j =>
          have := ih (i + 2) j v (by simpa using h) hu
          rw [show i + (j + 1 + 1) = i + 2 + j by omega]
          exact List.mem_cons_of_mem _ this
theorem impl_of {own : String} {y : MethodName} {cc : ByteArray} {nL d : Nat} {rt : Option FieldType} {ini : Bool} {body : XS} (hy : y.cls = own) (hpl : plainName y.cls = true) (hini : ini = true → y.name = "<init>") {ex : List Nat} (h : IS (own, cc, nL, rt, ini) d 0 body ex) (hne : own ≠ RL := by decide +kernel) : Impl y cc nL rt d (mth nL body) := by
  intro as σ σ' v he
  unfold mth at he
  split at he
  · rename_i hlen
    split at he
    · rename_i v1 L1 σ1 hbody
      cases he
      have hG : ∀ Y : YX, G (own, cc, nL, rt, ini) d (Y, (σ.2.1, σ.2.2), .inl v, σ') 0 (L0 nL as) [] σ := fun Y => h (Y, (σ.2.1, σ.2.2), .inl v, σ') _ _ σ σ' _ hbody ⟨rfl, rfl⟩
      refine ⟨?_, fun Y l htr => ?_⟩
      · exact (hG ((fun _ => (0 : Nat), fun _ _ => 0), fun _ => (0 : Nat), 0) (Nat.le_refl _) (Nat.le_refl _)).1
      · refine Met.ofW (cc := cc) (maxL := nL) (ret := rt) hpl rfl ?_
        intro p e s m args below meth c s₁ B hml hv
        obtain ⟨rfl, hR, hsz, hK, hB⟩ := hv
        have hts := atoms_spec (ws := Cond.code y cc nL rt :: lwG) B.pre
        have hown : s.vm.findClass own = some m.cls := by rw [← hy]; exact findClass_of_methodNamed B.named
        have hl := lv_entry as (n := nL) (by rw [expA_sl]; exact hlen)
        rw [lg_entry_eq]
        have hxt : ∀ x ∈ c.exceptionTable.toList, False := by
          obtain ⟨meth9, c9, h1, h2, -, -, -, -, h7, -⟩ := Cond.code_spec B.named (hts _ List.mem_cons_self)
          cases Option.some.inj (h1.symm.trans B.method)
          cases Option.some.inj (h2.symm.trans (Stand.of_body B).code)
          intro x hx
          rw [Array.isEmpty_iff.mp h7] at hx
          cases hx
        have := (hG Y (Nat.le_refl _) (Nat.le_refl _)).2 p l e s m as.toArray below meth c ⟨B.exec, B.bytes, B.returns, hml, hown, fun w hw => hts w (List.mem_cons_of_mem _ hw), B.notSynchronized, hK, by rw [hsz]; exact hB, fun q => by rw [← hini q]; exact (name_of_methodNamed B.named B.method).1, htr, fun _ => hxt, fun h => absurd h hne⟩ s.heap [] _ (LV.sub hl fun q hq => ?_) hR hsz va_S.rf
        · dsimp only at this
          rw [Nat.sub_self, Nat.sub_self] at this
          exact this
        · obtain ⟨g1, g2⟩ := lvA_mem.mp hq
          have := L0_in as 0 q.1 q.2 g1 g2
          rw [Nat.zero_add] at this
          exact this
    · cases he
  · cases he
def sOI : XS := fun (L : List Value) σ => match (L[(0 : Nat)]? : Option Value) with
  | some (.ref _) => some (.inl 0, L, σ)
  | _ => none
theorem is_OI {M : MX} {d pc index : Nat} {ex : List Nat} (hd1 : decode M.2.1 pc = .ok (.aload_n 0, 1)) (hd2 : decode M.2.1 (pc + 1) = .ok (.invokespecial index, 3)) (h1 : Cond.methodLink M.1 index objectInit ∈ lwG) (h2 : Cond.instanceMethod objectInit ∈ lwG) (h3 : Cond.code objectInit ⟨#[0xb1]⟩ 1 none ∈ lwG) (hdp : 1 ≤ d) : IS M d pc sOI ((pc + 4) :: ex) := by
  intro X L L' σ σ' o he k
  unfold sOI at he
  split at he
  · rename_i a ha
    cases he
    obtain ⟨q, hq, k⟩ := k
    cases hq
    intro z1 z2
    obtain ⟨k1, k2⟩ := k z1 z2
    refine ⟨k1, fun p l e s m args below meth c C H locs ls hl hR hz hS => ?_⟩
    refine lv_aload_n C.1 C.2.1 hd1 rfl (hl.at ha rfl) ?_
    refine W.objInit C.1 C.2.1 C.2.2.2.2.1 (C.2.2.2.2.2.1 _ h1) (C.2.2.2.2.2.1 _ h2) (C.2.2.2.2.2.1 _ h3) rfl (hl.1.trans C.2.2.2.1.symm) rfl hd2 hdp ?_ (k2 p l e s m args below meth c C H locs ls hl hR hz hS)
    show 2 * 0 + 0 + 12 ≤ 60 * d
    omega
  · cases he
def zI (n : Nat) : vp_A := (n, .inl fun _ => 0)
def zL (n : Nat) : vp_A := (n, .inr (.inl fun _ => 0))
def zQ (n : Nat) : vp_A := (n, .inr (.inr (.inr (.inr fun _ => none))))
theorem inG_t {w : Cond} (i : Nat) (h : tables_1[i]? = some w) (hg : goodWord w = true) : w ∈ lwG := List.mem_filter.mpr ⟨List.mem_append_right _ (List.mem_of_getElem? h), hg⟩
theorem inG_s {w : Cond} (i : Nat) (h : (k2_sels lw_privs)[i]? = some w) (hg : goodWord w = true) : w ∈ lwG := List.mem_filter.mpr ⟨List.mem_append_left _ (List.mem_of_getElem? h), hg⟩
theorem inN_t {w : Cond} (i : Nat) (h : tables_1[i]? = some w) (hg : isNest w = true) : w ∈ lwN := List.mem_filter.mpr ⟨List.mem_append_right _ (List.mem_of_getElem? h), hg⟩
section NewA
variable {M : MX} {d w pc p1 : Nat} {e : XE}
theorem ie_newI (h1 : IE M d w pc e p1) (hd : decode M.2.1 p1 = .ok (.newarray .int, 2)) (harr : Cond.arrayClass .int ∈ lwG) : IE M d w pc (eNA .int zI e) (p1 + 2) := ie_newa h1 hd rfl (by decide +kernel) (fun _ _ h => h) (fun _ _ => rfl) (by decide) harr
theorem ie_newB (h1 : IE M d w pc e p1) (hd : decode M.2.1 p1 = .ok (.newarray .byte, 2)) (harr : Cond.arrayClass .byte ∈ lwG) : IE M d w pc (eNA .byte zI e) (p1 + 2) := ie_newa h1 hd rfl (by decide +kernel) (fun _ _ h => h) (fun _ _ => rfl) (by decide) harr
theorem ie_newZ (h1 : IE M d w pc e p1) (hd : decode M.2.1 p1 = .ok (.newarray .boolean, 2)) (harr : Cond.arrayClass .boolean ∈ lwG) : IE M d w pc (eNA .boolean zI e) (p1 + 2) := ie_newa h1 hd rfl (by decide +kernel) (fun _ _ h => h) (fun _ _ => rfl) (by decide) harr
theorem ie_newL (h1 : IE M d w pc e p1) (hd : decode M.2.1 p1 = .ok (.newarray .long, 2)) (harr : Cond.arrayClass .long ∈ lwG) : IE M d w pc (eNA .long zL e) (p1 + 2) := ie_newa h1 hd rfl (by decide +kernel) (fun _ _ h => h) (fun _ _ => rfl) (by decide) harr
theorem ie_newQ {index : Nat} {C : String} (h1 : IE M d w pc e p1) (hd : decode M.2.1 p1 = .ok (.anewarray index, 3)) (ht : FieldType.object C ∈ arrTys) (hC : C ∈ [RX3, RX5, RX4]) (hcl : Cond.classLink M.1 index C ∈ lwG) : IE M d w pc (eNA (.object C) zQ e) (p1 + 3) := ie_newq h1 hd ht hC hcl
end NewA
