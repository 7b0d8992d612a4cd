section ImplB
variable {M : MX} {d w pc : Nat}
theorem gF_cat {ci k : Nat} {a v : Value} {σ : ST} (h : gF ci k a σ = some v) : a.category = 1 := by
  unfold gF at h
  split at h
  · rfl
  · cases h
theorem is_UF {ci k : Nat} {o : Value → Value → ST → Option Value} {p : Value → Value → ST → Option ST} {e1 e2 : XE} {p1 p2 p3 p4 p5 : Nat} {ex : List Nat} (h1 : IE M d 0 pc e1 p1) (hd : decode M.2.1 p1 = .ok (.dup, 1)) (hg : R1 M d (p1 + 1) (gF ci k) p2) (h2 : IE M d 4 p2 e2 p3) (ho : R2 M d p3 o p4) (hp : P2 M d p4 p p5) : IS M d pc (sUF (gF ci k) o p e1 e2) (p5 :: ex) := by
  intro X L L' σ σ' oo he kk
  unfold sUF at he
  obtain ⟨⟨a, σ1⟩, g1, he⟩ := Option.bind_eq_some_iff.mp he
  obtain ⟨v, g2, he⟩ := Option.bind_eq_some_iff.mp he
  obtain ⟨⟨b, σ2⟩, g3, he⟩ := Option.bind_eq_some_iff.mp he
  obtain ⟨w, g4, he⟩ := Option.bind_eq_some_iff.mp he
  obtain ⟨t, g5, he⟩ := Option.map_eq_some_iff.mp he
  cases he
  obtain ⟨q, hq, kk⟩ := kk
  cases hq
  refine h1 X L [] σ σ1 a (Nat.le_refl 0) g1 ?_
  refine g_pure (pc' := p1 + 1) (stk' := [a, a]) ?_ fun p l e R s m args below meth c H locs cells slots Q ls C _ _ w => lv_dup C.1 C.2.1 hd (gF_cat g2) w
  exact hg X L [a] σ1 a v g2 (h2 X L [v, a] σ1 σ2 b (wt_le (wt_le (Nat.le_refl 0))) g3 (ho X L [a] σ2 v b w g4 (hp X L [] σ2 _ a w g5 kk)))
theorem is_UA {g : Value → Value → ST → Option Value} {o : Value → Value → ST → Option Value} {p : Value → Value → Value → ST → Option ST} {e1 e2 e3 : XE} {p1 p2 p3 p4 p5 p6 : Nat} {ex : List Nat} (hcat : ∀ a b σ v, g a b σ = some v → a.category = 1 ∧ b.category = 1) (h1 : IE M d 0 pc e1 p1) (h2 : IE M d 2 p1 e2 p2) (hd : decode M.2.1 p2 = .ok (.dup2, 1)) (hg : R2 M d (p2 + 1) g p3) (h3 : IE M d 6 p3 e3 p4) (ho : R2 M d p4 o p5) (hp : P3 M d p5 p p6) : IS M d pc (sUA g o p e1 e2 e3) (p6 :: ex) := by
  intro X L L' σ σ' oo he kk
  unfold sUA at he
  obtain ⟨⟨a, σ1⟩, g1, he⟩ := Option.bind_eq_some_iff.mp he
  obtain ⟨⟨b, σ2⟩, g2, he⟩ := Option.bind_eq_some_iff.mp he
  obtain ⟨v, g3, he⟩ := Option.bind_eq_some_iff.mp he
  obtain ⟨⟨u, σ3⟩, g4, he⟩ := Option.bind_eq_some_iff.mp he
  obtain ⟨w, g5, he⟩ := Option.bind_eq_some_iff.mp he
  obtain ⟨t, g6, he⟩ := Option.map_eq_some_iff.mp he
  cases he
  obtain ⟨q, hq, kk⟩ := kk
  cases hq
  refine h1 X L [] σ σ1 a (Nat.le_refl 0) g1 ?_
  refine h2 X L [a] σ1 σ2 b (wt_le (Nat.le_refl 0)) g2 ?_
  refine g_pure (pc' := p2 + 1) (stk' := [b, a, b, a]) ?_ fun p l e R s m args below meth c H locs cells slots Q ls C _ _ w => lv_dup2_11 C.1 C.2.1 hd (hcat _ _ _ _ g3).2 (hcat _ _ _ _ g3).1 w
  exact hg X L [b, a] σ2 a b v g3 (h3 X L [v, b, a] σ2 σ3 u (wt_le (wt_le (wt_le (Nat.le_refl 0)))) g4 (ho X L [b, a] σ3 v u w g5 (hp X L [] σ3 _ a b w g6 kk)))
theorem cat_arI {t : FieldType} (a b : Value) (σ : ST) (v : Value) (h : arI t a b σ = some v) : a.category = 1 ∧ b.category = 1 := by
  unfold arI at h
  split at h
  · exact ⟨rfl, rfl⟩
  · cases h
theorem cat_arL (a b : Value) (σ : ST) (v : Value) (h : arL a b σ = some v) : a.category = 1 ∧ b.category = 1 := by
  unfold arL at h
  split at h
  · exact ⟨rfl, rfl⟩
  · cases h
/-! ends -/
def sRI (e : XE) : XS := fun L σ => (e L σ).bind fun r => match r.1 with
  | .int x => some (.inr (some (.int x)), L, r.2)
  | _ => none
def sRZ (e : XE) : XS := fun L σ => (e L σ).bind fun r => match r.1 with
  | .int x => if x = 0 ∨ x = 1 then some (.inr (some (.int x)), L, r.2) else none
  | _ => none
def sRL (e : XE) : XS := fun L σ => (e L σ).bind fun r => match r.1 with
  | .long x => some (.inr (some (.long x)), L, r.2)
  | _ => none
def sRA (e : XE) : XS := fun L σ => (e L σ).bind fun r => match r.1 with
  | .ref x => some (.inr (some (.ref x)), L, r.2)
  | _ => none
theorem g_end {X : RX} {L stk : List Value} {σ : ST} {v : Option Value} (hk : Sum.inl v = X.2.2.1 ∧ σ = X.2.2.2)
    (h : ∀ (p : Program) (l : Launch) (e : Env) (R : Room) (s : State) (m : MethodId) (args : Array Value) (below : List Frame) (meth : Method) (c : Code) (H : Heap) (locs : List Loc) (cells slots : Nat) (ls : Array Slot), CX M X.1 p l s m args meth c → (∀ t : State, t.heap = H → s.WarmedH t.vm → gQ X.1 v X.2.2.2 args s (.returned v) t) → (∀ q ∈ locs, gA X.1 q.base) →
      W p l e R s m args below meth c H locs cells slots (MQ below (gQ X.1 v X.2.2.2) args s cells slots (gA X.1)) (F0 m pc ls stk)) : G M d X pc L stk σ := by
  intro z1 z2
  obtain ⟨hv, hσ⟩ := hk
  subst hσ
  refine ⟨⟨Nat.le_refl _, Nat.le_refl _⟩, fun p l e s m args below meth c C H locs ls hl hR hz hS => ?_⟩
  have := h p l e (rmD d (X.2.2.2.2.1 - X.2.1.1) (X.2.2.2.2.2 - X.2.1.2)) s m args below meth c H locs (X.2.2.2.2.1 - X.2.1.1) (X.2.2.2.2.2 - X.2.1.2) ls C (fun t ht hW => ⟨⟨rfl, by rw [ht]; exact hR, by rw [ht]; exact hz⟩, hS.F ht⟩) hS.2.2
  unfold gZ
  rw [← hv]
  exact this
theorem is_RI {e : XE} {p1 : Nat} {ex : List Nat} (h1 : IE M d 0 pc e p1) (hd : decode M.2.1 p1 = .ok (.ireturn, 1)) (hr : M.2.2.2.1 = some .int) : IS M d pc (sRI e) ex := by
  intro X L L' σ σ' o he k
  unfold sRI at he
  obtain ⟨⟨a, σ1⟩, g1, g2⟩ := Option.bind_eq_some_iff.mp he
  dsimp only at g2
  split at g2
  · cases g2
    refine h1 X L [] σ _ _ (Nat.le_refl 0) g1 (g_end k fun p l e R s m args below meth c H locs cells slots ls C hq hf => ?_)
    exact W.iret C.1 C.2.1 (C.2.2.1.trans hr) hq hf hd C.2.2.2.2.2.2.1
  · cases g2
theorem is_RZ {e : XE} {p1 : Nat} {ex : List Nat} (h1 : IE M d 0 pc e p1) (hd : decode M.2.1 p1 = .ok (.ireturn, 1)) (hr : M.2.2.2.1 = some .boolean) : IS M d pc (sRZ e) ex := by
  intro X L L' σ σ' o he k
  unfold sRZ at he
  obtain ⟨⟨a, σ1⟩, g1, g2⟩ := Option.bind_eq_some_iff.mp he
  dsimp only at g2
  split at g2
  · split at g2
    · rename_i hx
      cases g2
      refine h1 X L [] σ _ _ (Nat.le_refl 0) g1 (g_end k fun p l e R s m args below meth c H locs cells slots ls C hq hf => ?_)
      exact W.zret (ty := .boolean) C.1 C.2.1 (C.2.2.1.trans hr) (by rcases hx with rfl | rfl <;> decide) hq hf hd C.2.2.2.2.2.2.1
    · cases g2
  · cases g2
theorem is_RL {e : XE} {p1 : Nat} {ex : List Nat} (h1 : IE M d 0 pc e p1) (hd : decode M.2.1 p1 = .ok (.lreturn, 1)) (hr : M.2.2.2.1 = some .long) : IS M d pc (sRL e) ex := by
  intro X L L' σ σ' o he k
  unfold sRL at he
  obtain ⟨⟨a, σ1⟩, g1, g2⟩ := Option.bind_eq_some_iff.mp he
  dsimp only at g2
  split at g2
  · cases g2
    refine h1 X L [] σ _ _ (Nat.le_refl 0) g1 (g_end k fun p l e R s m args below meth c H locs cells slots ls C hq hf => ?_)
    exact W.lret C.1 C.2.1 (C.2.2.1.trans hr) hq hf hd C.2.2.2.2.2.2.1
  · cases g2
theorem is_RA {e : XE} {p1 : Nat} {ex : List Nat} {n : String} (h1 : IE M d 0 pc e p1) (hd : decode M.2.1 p1 = .ok (.areturn, 1)) (hr : M.2.2.2.1 = some (.object n)) : IS M d pc (sRA e) ex := by
  intro X L L' σ σ' o he k
  unfold sRA at he
  obtain ⟨⟨a, σ1⟩, g1, g2⟩ := Option.bind_eq_some_iff.mp he
  dsimp only at g2
  split at g2
  · cases g2
    refine h1 X L [] σ _ _ (Nat.le_refl 0) g1 (g_end k fun p l e R s m args below meth c H locs cells slots ls C hq hf => ?_)
    exact W.aret C.1 C.2.1 (C.2.2.1.trans hr) (Or.inl ⟨_, rfl⟩) (Or.inr ⟨_, rfl⟩) hq hf hd C.2.2.2.2.2.2.1
  · cases g2
theorem is_R0 {ex : List Nat} (hd : decode M.2.1 pc = .ok (.return_, 1)) (hr : M.2.2.2.1 = none) : IS M d pc sR0 ex := by
  intro X L L' σ σ' o he k
  cases he
  refine g_end k fun p l e R s m args below meth c H locs cells slots ls C hq hf => ?_
  exact W.vret C.1 C.2.1 (C.2.2.1.trans hr) hq hf hd C.2.2.2.2.2.2.1
/-! control -/
theorem is_nop {p0 : Nat} {ex : List Nat} (h : JP M d pc p0) : IS M d pc sNop (p0 :: ex) := by
  intro X L L' σ σ' o he k
  cases he
  obtain ⟨q, hq, k⟩ := k
  cases hq
  exact h X L [] σ k
theorem is_br {j p1 : Nat} {ex : List Nat} (h : JP M d pc p1) (hj : ex[j]? = some p1) : IS M d pc (sBr j) ex := by
  intro X L L' σ σ' o he k
  cases he
  obtain ⟨q, hq, k⟩ := k
  cases hj.symm.trans hq
  exact h X L [] σ k
theorem is_brIf {c : XC} {j p0 p1 : Nat} {ex : List Nat} (h : IC M d 0 pc c p1 p0) (hj : (p0 :: ex)[j]? = some p1) : IS M d pc (sBrIf c j) (p0 :: ex) := by
  intro X L L' σ σ' o he k
  unfold sBrIf at he
  obtain ⟨⟨b, σ1⟩, g1, g2⟩ := Option.map_eq_some_iff.mp he
  cases g2
  obtain ⟨q, hq, k⟩ := k
  refine h X L [] σ _ b (Nat.le_refl 0) g1 ?_
  cases b with
  | true => cases hj.symm.trans hq; exact k
  | false => cases hq; exact k
theorem is_seq {a b : XS} {p0 p1 : Nat} {ex : List Nat} (ha : IS M d pc a (p1 :: ex)) (hb : IS M d p1 b (p0 :: ex)) : IS M d pc (sSeq a b) (p0 :: ex) := by
  intro X L L' σ σ' o he k
  unfold sSeq at he
  obtain ⟨⟨oa, L1, σ1⟩, g1, g2⟩ := Option.bind_eq_some_iff.mp he
  refine ha X L L1 σ σ1 oa g1 ?_
  dsimp only at g2
  split at g2
  · exact ⟨p1, rfl, hb X L1 L' σ1 σ' o g2 k⟩
  · rename_i hn
    cases g2
    cases o with
    | inr v => exact k
    | inl j =>
      cases j with
      | zero => exact absurd rfl hn
      | succ j => exact k
theorem is_blk {s : XS} {p0 : Nat} {ex : List Nat} (h : IS M d pc s (p0 :: p0 :: ex)) : IS M d pc (sBlk s) (p0 :: ex) := by
  intro X L L' σ σ' o he k
  unfold sBlk at he
  obtain ⟨⟨o1, L1, σ1⟩, g1, g2⟩ := Option.map_eq_some_iff.mp he
  cases g2
  refine h X L _ σ _ o1 g1 ?_
  cases o1 with
  | inr v => exact k
  | inl j =>
    cases j with
    | zero => exact k
    | succ j =>
      obtain ⟨q, hq, k⟩ := k
      exact ⟨q, hq, k⟩
theorem is_loop {s : XS} {p0 : Nat} {ex : List Nat} (h : IS M d pc s (pc :: ex)) : IS M d pc (sLoop s) (p0 :: ex) := by
  intro X L L' σ σ' o he k
  obtain ⟨n, hn⟩ := sLoop_iff.mp he
  have key : ∀ (n : Nat) (L : List Value) (σ : ST), iterN s n L σ = some (o, L', σ') → (gO M d X (p0 :: ex) o L' σ' ∧ G M d X pc L [] σ) := by
    intro n
    induction n with
    | zero => intro L σ h; cases h
    | succ n ih =>
      intro L σ hn
      unfold iterN at hn
      obtain ⟨⟨o1, L1, σ1⟩, g1, g2⟩ := Option.bind_eq_some_iff.mp hn
      refine ⟨k, h X L L1 σ σ1 o1 g1 ?_⟩
      dsimp only at g2
      split at g2
      · exact ⟨pc, rfl, (ih L1 σ1 g2).2⟩
      · rename_i hz
        cases g2
        cases o with
        | inr v => exact k
        | inl j =>
          cases j with
          | zero => exact absurd rfl hz
          | succ j => exact k
  exact (key n L σ hn).2
theorem is_tsw {e : XE} {p1 len dk : Nat} {dflt lo hi : Int} {offs : Array Int} {tbl : List Nat} {ex : List Nat} (h1 : IE M d 0 pc e p1) (hd : decode M.2.1 p1 = .ok (.tableswitch dflt lo hi offs, len)) (hhi : hi + 1 = lo + tbl.length)
    (hdk : ∃ q, ex[dk]? = some q ∧ (p1 : Int) + dflt = (q : Int)) (ht : ∀ i, i < tbl.length → ∃ q off, ex[tbl.getD i dk]? = some q ∧ offs[i]? = some off ∧ (p1 : Int) + off = (q : Int)) : IS M d pc (sSw e (swF lo tbl dk)) ex := by
  intro X L L' σ σ' o he k
  unfold sSw at he
  obtain ⟨⟨a, σ1⟩, g1, g2⟩ := Option.bind_eq_some_iff.mp he
  dsimp only at g2
  split at g2
  · rename_i x
    cases g2
    obtain ⟨q, hq, k⟩ := k
    refine h1 X L [] σ _ _ (Nat.le_refl 0) g1 ?_
    refine g_pure k fun p l e R s m args below meth c H locs cells slots Q ls C _ _ w => ?_
    unfold swF at hq
    split at hq
    · rename_i hx
      obtain ⟨q2, h2, h3⟩ := hdk
      cases hq.symm.trans h2
      exact lv_tableOut C.1 C.2.1 hd (by omega) h3 w
    · rename_i hx
      obtain ⟨q2, off, h2, h3, h4⟩ := ht (x.toInt - lo).toNat (by omega)
      cases hq.symm.trans h2
      exact lv_tableIn C.1 C.2.1 hd (by omega) (by omega) h3 h4 w
  · cases g2
def lkF : List (Int × Nat) → Nat → Int32 → Nat
  | [], dk, _ => dk
  | (a, l) :: r, dk, x => if a = x.toInt then l else lkF r dk x
def exAt (ex : List Nat) (k : Nat) (z : Int) : Bool := match ex[k]? with
  | some q => decide (z = (q : Int))
  | none => false
theorem exAt_ok {ex : List Nat} {k : Nat} {z : Int} (h : exAt ex k z = true) : ∃ q, ex[k]? = some q ∧ z = (q : Int) := by
  unfold exAt at h
  split at h
  · rename_i q hq
    exact ⟨q, hq, of_decide_eq_true h⟩
  · cases h
def tsC (p1 : Nat) (ex : List Nat) (tbl : List Nat) (dk : Nat) (offs : Array Int) : Bool := (List.range tbl.length).all fun i => match offs[i]? with
  | some off => exAt ex (tbl.getD i dk) ((p1 : Int) + off)
  | none => false
theorem tsw_ck {p1 dk : Nat} {ex tbl : List Nat} {offs : Array Int} (h : tsC p1 ex tbl dk offs = true) : ∀ i, i < tbl.length → ∃ q off, ex[tbl.getD i dk]? = some q ∧ offs[i]? = some off ∧ (p1 : Int) + off = (q : Int) := by
  intro i hi
  have h1 := List.all_eq_true.mp h i (List.mem_range.mpr hi)
  split at h1
  · rename_i off ho
    obtain ⟨q, g1, g2⟩ := exAt_ok h1
    exact ⟨q, off, g1, ho, g2⟩
  · cases h1
def lsC (p1 : Nat) (ex : List Nat) (dk : Nat) (dflt : Int) : List (Int × Nat) → List (Int × Int) → Bool
  | [], [] => exAt ex dk ((p1 : Int) + dflt)
  | (a, l) :: r, (b, o) :: r' => decide (a = b) && (exAt ex l ((p1 : Int) + o) && lsC p1 ex dk dflt r r')
  | _, _ => false
theorem lsw_ck {p1 dk : Nat} {ex : List Nat} {dflt : Int} : ∀ {tbl : List (Int × Nat)} {ps : List (Int × Int)}, lsC p1 ex dk dflt tbl ps = true → ∀ x : Int32, ∃ q, ex[lkF tbl dk x]? = some q ∧ (p1 : Int) + Op.lookupswitch.offset ps dflt x.toInt = (q : Int)
  | [], [], h, x => exAt_ok h
  | (a, l) :: r, (b, o) :: r', h, x => by
    unfold lsC at h
    simp only [Bool.and_eq_true, decide_eq_true_eq] at h
    obtain ⟨h1, h2, h3⟩ := h
    subst h1
    unfold lkF
    rw [Op.lookupswitch.offset_cons]
    split
    · exact exAt_ok h2
    · exact lsw_ck h3 x
  | [], _ :: _, h, x => by cases h
  | _ :: _, [], h, x => by cases h
theorem is_lsw {e : XE} {p1 len dk : Nat} {dflt : Int} {ps : Array (Int × Int)} {tbl : List (Int × Nat)} {ex : List Nat} (h1 : IE M d 0 pc e p1) (hd : decode M.2.1 p1 = .ok (.lookupswitch dflt ps, len)) (hp : (ps.toList.zip (ps.toList.drop 1)).all (fun (a, next) => a.1 < next.1) = true)
    (ht : ∀ x : Int32, ∃ q, ex[lkF tbl dk x]? = some q ∧ (p1 : Int) + Op.lookupswitch.offset ps.toList dflt x.toInt = (q : Int)) : IS M d pc (sSw e (lkF tbl dk)) ex := by
  intro X L L' σ σ' o he k
  unfold sSw at he
  obtain ⟨⟨a, σ1⟩, g1, g2⟩ := Option.bind_eq_some_iff.mp he
  dsimp only at g2
  split at g2
  · rename_i x
    cases g2
    obtain ⟨q, hq, k⟩ := k
    refine h1 X L [] σ _ _ (Nat.le_refl 0) g1 ?_
    refine g_pure k fun p l e R s m args below meth c H locs cells slots Q ls C _ _ w => ?_
    obtain ⟨q2, h2, h3⟩ := ht x
    cases hq.symm.trans h2
    exact lv_lookup C.1 C.2.1 hd hp rfl h3 w
  · cases g2
/-! calls -/
def IA (M : MX) (d w pc : Nat) (es : List XE) (pc' : Nat) : Prop := ∀ (X : RX) (L stk : List Value) (σ σ' : ST) (vs : List Value), wt stk ≤ w → evL es L σ = some (vs, σ') → G M d X pc' L (vs.reverse ++ stk) σ' → G M d X pc L stk σ
theorem ia_0 : IA M d w pc [] pc := by
  intro X L stk σ σ' vs _ h k
  cases h
  exact k
theorem ia_1 {e : XE} {es : List XE} {p1 p2 : Nat} (h1 : IE M d w pc e p1) (h2 : IA M d (w + 2) p1 es p2) : IA M d w pc (e :: es) p2 := by
  intro X L stk σ σ' vs hw h k
  unfold evL at h
  obtain ⟨⟨a, σ1⟩, g1, g2⟩ := Option.bind_eq_some_iff.mp h
  obtain ⟨⟨vs', σ2⟩, g3, g4⟩ := Option.map_eq_some_iff.mp g2
  cases g4
  refine h1 X L stk σ σ1 a hw g1 (h2 X L (a :: stk) σ1 _ vs' (wt_le hw) g3 ?_)
  simpa using k
theorem evL_len {es : List XE} : ∀ {L : List Value} {σ σ' : ST} {vs : List Value}, evL es L σ = some (vs, σ') → vs.length = es.length := by
  induction es with
  | nil => intro L σ σ' vs h; cases h; rfl
  | cons e es ih =>
    intro L σ σ' vs h
    unfold evL at h
    obtain ⟨⟨a, σ1⟩, g1, g2⟩ := Option.bind_eq_some_iff.mp h
    obtain ⟨⟨vs', σ2⟩, g3, g4⟩ := Option.map_eq_some_iff.mp g2
    cases g4
    simp [ih g3]
def CALL (M : MX) (d w pc n : Nat) (f : XF) (pc' : Nat) : Prop := ∀ (X : RX) (L stk : List Value) (σ σ' : ST) (vs : List Value) (v : Option Value), vs.length = n → wt stk ≤ w → f vs σ = some (v, σ') → G M d X pc' L (v.toList ++ stk) σ' → G M d X pc L (vs.reverse ++ stk) σ
theorem ie_C {f : XF} {es : List XE} {p1 p2 n : Nat} (h1 : IA M d w pc es p1) (hn : es.length = n) (h2 : CALL M d w p1 n f p2) : IE M d w pc (eC f es) p2 := by
  intro X L stk σ σ' v hw he k
  unfold eC at he
  obtain ⟨⟨vs, σ1⟩, g1, he⟩ := Option.bind_eq_some_iff.mp he
  obtain ⟨⟨vo, σ2⟩, g2, he⟩ := Option.bind_eq_some_iff.mp he
  obtain ⟨v2, g3, g4⟩ := Option.map_eq_some_iff.mp he
  cases g4
  dsimp only at g3
  subst g3
  exact h1 X L stk σ σ1 vs hw g1 (h2 X L stk σ1 _ vs _ ((evL_len g1).trans hn) hw g2 k)
theorem is_C {f : XF} {es : List XE} {p1 p2 n : Nat} {ex : List Nat} (h1 : IA M d 0 pc es p1) (hn : es.length = n) (h2 : CALL M d 0 p1 n f p2) : IS M d pc (sC f es) (p2 :: ex) := by
  intro X L L' σ σ' o he k
  unfold sC at he
  obtain ⟨⟨vs, σ1⟩, g1, he⟩ := Option.bind_eq_some_iff.mp he
  obtain ⟨⟨vo, σ2⟩, g2, he⟩ := Option.bind_eq_some_iff.mp he
  dsimp only at he
  split at he
  · cases he
    obtain ⟨q, hq, k⟩ := k
    cases hq
    exact h1 X L [] σ σ1 vs (Nat.le_refl 0) g1 (h2 X L [] σ1 _ vs _ ((evL_len g1).trans hn) (Nat.le_refl 0) g2 k)
  · cases he
theorem is_Cp {f : XF} {es : List XE} {p1 p2 n : Nat} {ex : List Nat} (h1 : IA M d 0 pc es p1) (hn : es.length = n) (h2 : CALL M d 0 p1 n f p2) (hd : decode M.2.1 p2 = .ok (.pop, 1)) : IS M d pc (sCp f es) ((p2 + 1) :: ex) := by
  intro X L L' σ σ' o he k
  unfold sCp at he
  obtain ⟨⟨vs, σ1⟩, g1, he⟩ := Option.bind_eq_some_iff.mp he
  obtain ⟨⟨vo, σ2⟩, g2, he⟩ := Option.bind_eq_some_iff.mp he
  dsimp only at he
  split at he
  · cases he
  · split at he
    · rename_i hcat
      cases he
      obtain ⟨q, hq, k⟩ := k
      cases hq
      refine h1 X L [] σ σ1 vs (Nat.le_refl 0) g1 (h2 X L [] σ1 _ vs _ ((evL_len g1).trans hn) (Nat.le_refl 0) g2 ?_)
      exact g_pure k fun p l e R s m args below meth c H locs cells slots Q ls C _ _ w => lv_pop C.1 C.2.1 hd hcat w
    · cases he
end ImplB
