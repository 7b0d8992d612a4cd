section ImplA
variable {M : MX} {d w pc : Nat}
theorem ie_iconst {n : Int} {v : Int32} (h : decode M.2.1 pc = .ok (.iconst n, 1)) (hv : Int32.ofInt n = v) : IE M d w pc (eK (.int v)) (pc + 1) := by
  intro X L stk σ σ' v' _ he k
  cases he
  exact g_pure k fun p l e R s m args below meth c H locs cells slots Q ls C _ _ w => lv_iconst C.1 C.2.1 h hv w
theorem ie_bipush {n : Int} {v : Int32} (h : decode M.2.1 pc = .ok (.bipush n, 2)) (hv : (Int8.ofInt n).toInt32 = v) : IE M d w pc (eK (.int v)) (pc + 2) := by
  intro X L stk σ σ' v' _ he k
  cases he
  exact g_pure k fun p l e R s m args below meth c H locs cells slots Q ls C _ _ w => lv_bipush C.1 C.2.1 h hv w
theorem ie_sipush {n : Int} {v : Int32} (h : decode M.2.1 pc = .ok (.sipush n, 3)) (hv : (Int16.ofInt n).toInt32 = v) : IE M d w pc (eK (.int v)) (pc + 3) := by
  intro X L stk σ σ' v' _ he k
  cases he
  exact g_pure k fun p l e R s m args below meth c H locs cells slots Q ls C _ _ w => lv_sipush C.1 C.2.1 h hv w
theorem ie_lconst {n : Fin 2} {v : Int64} (h : decode M.2.1 pc = .ok (.lconst n, 1)) (hv : Int64.ofNat (n : Nat) = v) : IE M d w pc (eK (.long v)) (pc + 1) := by
  intro X L stk σ σ' v' _ he k
  cases he
  exact g_pure k fun p l e R s m args below meth c H locs cells slots Q ls C _ _ w => lv_lconst C.1 C.2.1 h hv w
theorem ie_null (h : decode M.2.1 pc = .ok (.aconst_null, 1)) : IE M d w pc (eK .null) (pc + 1) := by
  intro X L stk σ σ' v' _ he k
  cases he
  exact g_pure k fun p l e R s m args below meth c H locs cells slots Q ls C _ _ w => lv_null C.1 C.2.1 h w
theorem ie_ldc {index : Nat} {v : Int32} (h : decode M.2.1 pc = .ok (.ldc index, 2)) (hl : Cond.constant M.1 index v ∈ lwG) : IE M d w pc (eK (.int v)) (pc + 2) := by
  intro X L stk σ σ' v' _ he k
  cases he
  exact g_pure k fun p l e R s m args below meth c H locs cells slots Q ls C _ _ w => lv_ldc C.1 C.2.1 C.2.2.2.2.1 (C.2.2.2.2.2.1 _ hl) h w
theorem ie_ldcw {index : Nat} {v : Int32} (h : decode M.2.1 pc = .ok (.ldc_w index, 3)) (hl : Cond.constant M.1 index v ∈ lwG) : IE M d w pc (eK (.int v)) (pc + 3) := by
  intro X L stk σ σ' v' _ he k
  cases he
  exact g_pure k fun p l e R s m args below meth c H locs cells slots Q ls C _ _ w => lv_ldcw C.1 C.2.1 C.2.2.2.2.1 (C.2.2.2.2.2.1 _ hl) h w
theorem ie_ldc2 {index : Nat} {v : Int64} (h : decode M.2.1 pc = .ok (.ldc2_w index, 3)) (hl : Cond.constantLong M.1 index v ∈ lwG) : IE M d w pc (eK (.long v)) (pc + 3) := by
  intro X L stk σ σ' v' _ he k
  cases he
  exact g_pure k fun p l e R s m args below meth c H locs cells slots Q ls C _ _ w => lv_ldc2 C.1 C.2.1 C.2.2.2.2.1 (C.2.2.2.2.2.1 _ hl) h w
theorem ie_iload {i : Nat} (h : decode M.2.1 pc = .ok (.iload i, 2)) : IE M d w pc (eI i) (pc + 2) := by
  intro X L stk σ σ' v' _ he k
  unfold eI at he
  split at he
  · rename_i x hx
    cases he
    exact g_pure k fun p l e R s m args below meth c H locs cells slots Q ls C hl _ w => lv_iload C.1 C.2.1 h (hl.at hx rfl) w
  · cases he
theorem ie_iload_n {i : Nat} {n : Fin 4} (h : decode M.2.1 pc = .ok (.iload_n n, 1)) (hi : (n : Nat) = i) : IE M d w pc (eI i) (pc + 1) := by
  intro X L stk σ σ' v' _ he k
  unfold eI at he
  split at he
  · rename_i x hx
    cases he
    exact g_pure k fun p l e R s m args below meth c H locs cells slots Q ls C hl _ w => lv_iload_n C.1 C.2.1 h hi (hl.at hx rfl) w
  · cases he
theorem ie_lload {i : Nat} (h : decode M.2.1 pc = .ok (.lload i, 2)) : IE M d w pc (eL i) (pc + 2) := by
  intro X L stk σ σ' v' _ he k
  unfold eL at he
  split at he
  · rename_i x hx
    cases he
    exact g_pure k fun p l e R s m args below meth c H locs cells slots Q ls C hl _ w => lv_lload C.1 C.2.1 h (hl.at hx rfl) w
  · cases he
theorem ie_lload_n {i : Nat} {n : Fin 4} (h : decode M.2.1 pc = .ok (.lload_n n, 1)) (hi : (n : Nat) = i) : IE M d w pc (eL i) (pc + 1) := by
  intro X L stk σ σ' v' _ he k
  unfold eL at he
  split at he
  · rename_i x hx
    cases he
    exact g_pure k fun p l e R s m args below meth c H locs cells slots Q ls C hl _ w => lv_lload_n C.1 C.2.1 h hi (hl.at hx rfl) w
  · cases he
theorem ie_aload {i : Nat} (h : decode M.2.1 pc = .ok (.aload i, 2)) : IE M d w pc (eA i) (pc + 2) := by
  intro X L stk σ σ' v' _ he k
  unfold eA at he
  split at he
  · rename_i x hx
    cases he
    exact g_pure k fun p l e R s m args below meth c H locs cells slots Q ls C hl _ w => lv_aload C.1 C.2.1 h (hl.at hx rfl) w
  · rename_i hx
    cases he
    exact g_pure k fun p l e R s m args below meth c H locs cells slots Q ls C hl _ w => lv_aloadN C.1 C.2.1 h (hl.at hx rfl) w
  · cases he
theorem ie_aload_n {i : Nat} {n : Fin 4} (h : decode M.2.1 pc = .ok (.aload_n n, 1)) (hi : (n : Nat) = i) : IE M d w pc (eA i) (pc + 1) := by
  intro X L stk σ σ' v' _ he k
  unfold eA at he
  split at he
  · rename_i x hx
    cases he
    exact g_pure k fun p l e R s m args below meth c H locs cells slots Q ls C hl _ w => lv_aload_n C.1 C.2.1 h hi (hl.at hx rfl) w
  · rename_i hx
    cases he
    exact g_pure k fun p l e R s m args below meth c H locs cells slots Q ls C hl _ w => lv_aload_nN C.1 C.2.1 h hi (hl.at hx rfl) w
  · cases he
theorem ie_U {e : XE} {op : Value → ST → Option Value} {p1 p2 : Nat} (h1 : IE M d w pc e p1) (h2 : R1 M d p1 op p2) : IE M d w pc (eU op e) p2 := by
  intro X L stk σ σ' v hw he k
  unfold eU at he
  obtain ⟨⟨a, σ1⟩, g1, g2⟩ := Option.bind_eq_some_iff.mp he
  obtain ⟨b, g3, g4⟩ := Option.map_eq_some_iff.mp g2
  cases g4
  exact h1 X L stk σ _ a hw g1 (h2 X L stk _ a _ g3 k)
theorem wt_le {v : Value} {stk : List Value} {w : Nat} (h : wt stk ≤ w) : wt (v :: stk) ≤ w + 2 := Nat.le_trans (wt_cons v stk) (by omega)
theorem ie_B {e1 e2 : XE} {op : Value → Value → ST → Option Value} {p1 p2 p3 : Nat} (h1 : IE M d w pc e1 p1) (h2 : IE M d (w + 2) p1 e2 p2) (h3 : R2 M d p2 op p3) : IE M d w pc (eB op e1 e2) p3 := by
  intro X L stk σ σ' v hw he k
  unfold eB at he
  obtain ⟨⟨a, σ1⟩, g1, g2⟩ := Option.bind_eq_some_iff.mp he
  obtain ⟨⟨b, σ2⟩, g3, g4⟩ := Option.bind_eq_some_iff.mp g2
  obtain ⟨c, g5, g6⟩ := Option.map_eq_some_iff.mp g4
  cases g6
  exact h1 X L stk σ σ1 a hw g1 (h2 X L (a :: stk) σ1 _ b (wt_le hw) g3 (h3 X L stk _ a b _ g5 k))
theorem ic_1 {e : XE} {op : Value → Option Bool} {p1 pT pF : Nat} (h1 : IE M d w pc e p1) (h2 : J1 M d p1 op pT pF) : IC M d w pc (c1 op e) pT pF := by
  intro X L stk σ σ' b hw he k
  unfold c1 at he
  obtain ⟨⟨a, σ1⟩, g1, g2⟩ := Option.bind_eq_some_iff.mp he
  obtain ⟨r, g3, g4⟩ := Option.map_eq_some_iff.mp g2
  cases g4
  exact h1 X L stk σ _ a hw g1 (h2 X L stk _ a _ g3 k)
theorem ic_2 {e1 e2 : XE} {op : Value → Value → Option Bool} {p1 p2 pT pF : Nat} (h1 : IE M d w pc e1 p1) (h2 : IE M d (w + 2) p1 e2 p2) (h3 : J2 M d p2 op pT pF) : IC M d w pc (c2 op e1 e2) pT pF := by
  intro X L stk σ σ' v hw he k
  unfold c2 at he
  obtain ⟨⟨a, σ1⟩, g1, g2⟩ := Option.bind_eq_some_iff.mp he
  obtain ⟨⟨b, σ2⟩, g3, g4⟩ := Option.bind_eq_some_iff.mp g2
  obtain ⟨c, g5, g6⟩ := Option.map_eq_some_iff.mp g4
  cases g6
  exact h1 X L stk σ σ1 a hw g1 (h2 X L (a :: stk) σ1 _ b (wt_le hw) g3 (h3 X L stk _ a b _ g5 k))
theorem ic_T {pT pF : Nat} : IC M d w pT cT pT pF := by
  intro X L stk σ σ' b hw he k
  cases he
  exact k
theorem ic_F {pT pF : Nat} : IC M d w pF cF pT pF := by
  intro X L stk σ σ' b hw he k
  cases he
  exact k
theorem ic_If {c a b : XC} {p1 p2 pT pF : Nat} (h : IC M d w pc c p1 p2) (ha : IC M d w p1 a pT pF) (hb : IC M d w p2 b pT pF) : IC M d w pc (cIf c a b) pT pF := by
  intro X L stk σ σ' v hw he k
  unfold cIf at he
  obtain ⟨⟨r, σ1⟩, g1, g2⟩ := Option.bind_eq_some_iff.mp he
  refine h X L stk σ σ1 r hw g1 ?_
  cases r with
  | true => exact ha X L stk σ1 σ' v hw g2 k
  | false => exact hb X L stk σ1 σ' v hw g2 k
/-- a jump on the way -/
def JP (M : MX) (d pc pc' : Nat) : Prop := ∀ (X : RX) (L stk : List Value) (σ : ST), G M d X pc' L stk σ → G M d X pc L stk σ
theorem jp_0 : JP M d pc pc := fun _ _ _ _ h => h
theorem jp_go {off : Int} {tgt : Nat} (h : decode M.2.1 pc = .ok (.goto off, 3)) (ht : (pc : Int) + off = (tgt : Int)) : JP M d pc tgt :=
  fun _ _ _ _ k => g_pure k fun p l e R s m args below meth c H locs cells slots Q ls C _ _ w => lv_goto C.1 C.2.1 h ht w
theorem ie_T {c : XC} {e1 e2 : XE} {pT pF p1 p2 : Nat} {p3 : Nat} (h : IC M d w pc c pT pF) (h1 : IE M d w pT e1 p1) (hj : JP M d p1 p3) (h2 : IE M d w pF e2 p2) (hj2 : JP M d p2 p3) : IE M d w pc (eT c e1 e2) p3 := by
  intro X L stk σ σ' v hw he k
  unfold eT at he
  obtain ⟨⟨r, σ1⟩, g1, g2⟩ := Option.bind_eq_some_iff.mp he
  refine h X L stk σ σ1 r hw g1 ?_
  cases r with
  | true => exact h1 X L stk σ1 σ' v hw g2 (hj _ _ _ _ k)
  | false => exact h2 X L stk σ1 σ' v hw g2 (hj2 _ _ _ _ k)
/-! statements -/
theorem is_stI {i : Nat} {e : XE} {p1 : Nat} {ex : List Nat} {len : Nat} (h1 : IE M d 0 pc e p1) (hd : (decode M.2.1 p1 = .ok (.istore i, 2) ∧ len = 2) ∨ (∃ n : Fin 4, decode M.2.1 p1 = .ok (.istore_n n, 1) ∧ (n : Nat) = i ∧ len = 1)) (hi : i < M.2.2.1) : IS M d pc (sStI i e) ((p1 + len) :: ex) := by
  intro X L L' σ σ' o he k
  unfold sStI at he
  obtain ⟨⟨a, σ1⟩, g1, g2⟩ := Option.bind_eq_some_iff.mp he
  dsimp only at g2
  split at g2
  · cases g2
    obtain ⟨q, hq, k⟩ := k
    cases hq
    refine h1 X L [] σ _ _ (Nat.le_refl 0) g1 ?_
    intro z1 z2
    obtain ⟨k1, k2⟩ := k z1 z2
    refine ⟨k1, fun p l e s m args below meth c C H locs ls hl hR hz hS => ?_⟩
    obtain ⟨ls', e1, hl'⟩ := hl.st1 (v := .int _) hi rfl
    have kk := k2 p l e s m args below meth c C H locs ls' hl' hR hz hS
    intro T hT X'
    obtain ⟨t, a1, b1⟩ := kk T hT X'
    refine ⟨t, ?_, b1⟩
    rcases hd with ⟨hd, rfl⟩ | ⟨n, hd, rfl, rfl⟩
    · jvm_step X'.here [X'.here.top, C.1, C.2.1, hd, e1]
      exact a1
    · jvm_step X'.here [X'.here.top, C.1, C.2.1, hd, e1]
      exact a1
  · cases g2
theorem is_stA {i : Nat} {e : XE} {p1 : Nat} {ex : List Nat} {len : Nat} (h1 : IE M d 0 pc e p1) (hd : (decode M.2.1 p1 = .ok (.astore i, 2) ∧ len = 2) ∨ (∃ n : Fin 4, decode M.2.1 p1 = .ok (.astore_n n, 1) ∧ (n : Nat) = i ∧ len = 1)) (hi : i < M.2.2.1) : IS M d pc (sStA i e) ((p1 + len) :: ex) := by
  have key : ∀ (X : RX) (L : List Value) (σ1 : ST) (v : Value), (v = .null ∨ ∃ x, v = .ref x) → G M d X (p1 + len) (sto1 L i v) [] σ1 → G M d X p1 L [v] σ1 := by
    intro X L σ1 v hv k z1 z2
    obtain ⟨k1, k2⟩ := k z1 z2
    refine ⟨k1, fun p l e s m args below meth c C H locs ls hl hR hz hS => ?_⟩
    obtain ⟨ls', e1, hl'⟩ := hl.st1 (v := v) hi (by rcases hv with rfl | ⟨x, rfl⟩ <;> rfl)
    have kk := k2 p l e s m args below meth c C H locs ls' hl' hR hz hS
    intro T hT X'
    obtain ⟨t, a1, b1⟩ := kk T hT X'
    refine ⟨t, ?_, b1⟩
    rcases hv with rfl | ⟨x, rfl⟩ <;> rcases hd with ⟨hd, rfl⟩ | ⟨n, hd, rfl, rfl⟩ <;>
    · jvm_step X'.here [X'.here.top, C.1, C.2.1, hd, e1]
      exact ⟨rfl, a1⟩
  intro X L L' σ σ' o he k
  unfold sStA at he
  obtain ⟨⟨a, σ1⟩, g1, g2⟩ := Option.bind_eq_some_iff.mp he
  dsimp only at g2
  split at g2
  · cases g2
    obtain ⟨q, hq, k⟩ := k
    cases hq
    exact h1 X L [] σ _ _ (Nat.le_refl 0) g1 (key X L _ _ (Or.inr ⟨_, rfl⟩) k)
  · cases g2
    obtain ⟨q, hq, k⟩ := k
    cases hq
    exact h1 X L [] σ _ _ (Nat.le_refl 0) g1 (key X L _ _ (Or.inl rfl) k)
  · cases g2
theorem is_stL {i : Nat} {e : XE} {p1 : Nat} {ex : List Nat} {len : Nat} (h1 : IE M d 0 pc e p1) (hd : (decode M.2.1 p1 = .ok (.lstore i, 2) ∧ len = 2) ∨ (∃ n : Fin 4, decode M.2.1 p1 = .ok (.lstore_n n, 1) ∧ (n : Nat) = i ∧ len = 1)) (hi : i + 1 < M.2.2.1) : IS M d pc (sStL i e) ((p1 + len) :: ex) := by
  intro X L L' σ σ' o he k
  unfold sStL at he
  obtain ⟨⟨a, σ1⟩, g1, g2⟩ := Option.bind_eq_some_iff.mp he
  dsimp only at g2
  split at g2
  · rename_i x
    cases g2
    obtain ⟨q, hq, k⟩ := k
    cases hq
    refine h1 X L [] σ _ _ (Nat.le_refl 0) g1 ?_
    intro z1 z2
    obtain ⟨k1, k2⟩ := k z1 z2
    refine ⟨k1, fun p l e s m args below meth c C H locs ls hl hR hz hS => ?_⟩
    have fin : ∀ ls' : Array Slot, lv_has ls' M.2.2.1 ((i, Value.long x) :: (lvA L).filter (fun q => !(q.1 == i) && (!(q.1 == i + 1) && !(q.1 + 1 == i && q.2.category == 2)))) → LV ls' M.2.2.1 (sto2 L i (.long x)) := by
      intro ls' h'
      refine LV.st2 (ls := ls) h' (fun q hq a1 a2 a3 => ?_) List.mem_cons_self
      refine List.mem_cons_of_mem _ (List.mem_filter.mpr ⟨hq, ?_⟩)
      simp only [Bool.and_eq_true, Bool.not_eq_true', beq_eq_false_iff_ne, Bool.and_eq_false_imp, beq_iff_eq]
      exact ⟨a1, a2, fun u v => a3 ⟨u, v⟩⟩
    rcases hd with ⟨hd, rfl⟩ | ⟨n, hd, hn, rfl⟩
    · exact lv_lstore C.1 C.2.1 hd hl hi rfl fun ls' h' => k2 p l e s m args below meth c C H locs ls' (fin ls' h') hR hz hS
    · exact lv_lstore_n C.1 C.2.1 hd hn hl hi rfl fun ls' h' => k2 p l e s m args below meth c C H locs ls' (fin ls' h') hR hz hS
  · cases g2
theorem is_inc {i : Nat} {n : Int} {ex : List Nat} (hd : decode M.2.1 pc = .ok (.iinc i n, 3)) (hi : i < M.2.2.1) : IS M d pc (sInc i n) ((pc + 3) :: ex) := by
  intro X L L' σ σ' o he k
  unfold sInc at he
  split at he
  · rename_i x hx
    cases he
    obtain ⟨q, hq, k⟩ := k
    cases hq
    intro z1 z2
    obtain ⟨k1, k2⟩ := k z1 z2
    refine ⟨k1, fun p l e s m args below meth c C H locs ls hl hR hz hS => ?_⟩
    obtain ⟨ls', e1, hl'⟩ := hl.st1 (v := .int (x + Int32.ofInt n)) hi rfl
    have kk := k2 p l e s m args below meth c C H locs ls' hl' hR hz hS
    have hg := hl.at hx rfl
    intro T hT X'
    obtain ⟨t, a1, b1⟩ := kk T hT X'
    refine ⟨t, ?_, b1⟩
    jvm_step X'.here [X'.here.top, ↓top_set X'.here.top, C.1, C.2.1, hd, hg, e1]
    exact a1
  · cases he
theorem is_P2 {op : Value → Value → ST → Option ST} {e1 e2 : XE} {p1 p2 p3 : Nat} {ex : List Nat} (h1 : IE M d 0 pc e1 p1) (h2 : IE M d 2 p1 e2 p2) (h3 : P2 M d p2 op p3) : IS M d pc (sP2 op e1 e2) (p3 :: ex) := by
  intro X L L' σ σ' o he k
  unfold sP2 at he
  obtain ⟨⟨a, σ1⟩, g1, g2⟩ := Option.bind_eq_some_iff.mp he
  obtain ⟨⟨b, σ2⟩, g3, g4⟩ := Option.bind_eq_some_iff.mp g2
  obtain ⟨c, g5, g6⟩ := Option.map_eq_some_iff.mp g4
  cases g6
  obtain ⟨q, hq, k⟩ := k
  cases hq
  exact h1 X L [] σ σ1 a (Nat.le_refl 0) g1 (h2 X L [a] σ1 σ2 b (wt_le (Nat.le_refl 0)) g3 (h3 X L [] σ2 _ a b g5 k))
theorem is_P3 {op : Value → Value → Value → ST → Option ST} {e1 e2 e3 : XE} {p1 p2 p3 p4 : Nat} {ex : List Nat} (h1 : IE M d 0 pc e1 p1) (h2 : IE M d 2 p1 e2 p2) (h3 : IE M d 4 p2 e3 p3) (h4 : P3 M d p3 op p4) : IS M d pc (sP3 op e1 e2 e3) (p4 :: ex) := by
  intro X L L' σ σ' o he k
  unfold sP3 at he
  obtain ⟨⟨a, σ1⟩, g1, g2⟩ := Option.bind_eq_some_iff.mp he
  obtain ⟨⟨b, σ2⟩, g3, g4⟩ := Option.bind_eq_some_iff.mp g2
  obtain ⟨⟨c, σ3⟩, g5, g6⟩ := Option.bind_eq_some_iff.mp g4
  obtain ⟨t, g7, g8⟩ := Option.map_eq_some_iff.mp g6
  cases g8
  obtain ⟨q, hq, k⟩ := k
  cases hq
  exact h1 X L [] σ σ1 a (Nat.le_refl 0) g1 (h2 X L [a] σ1 σ2 b (wt_le (Nat.le_refl 0)) g3 (h3 X L [b, a] σ2 σ3 c (wt_le (wt_le (Nat.le_refl 0))) g5 (h4 X L [] σ3 _ a b c g7 k)))
end ImplA
