/-! ===== new blocks, references set anew; constructors as lists of steps ===== -/
def upRf (f : Nat → Nat → Nat → Option Nat) (b j k : Nat) (x : Option Nat) : Nat → Nat → Nat → Option Nat := fun b' => if b' = b then up2 (f b') j k x else f b'
section NewB
variable {w w' : WR} {C : List CT} {σ : ST} {b r j k a ci sl : Nat} {lay : LY} {ks : List Nat} {c : CT}
theorem Hd.refs (h : Hd w C σ) (e1 : w'.1 = w.1) (e2 : ∀ b q, w.1[b]? = some q → q.2 ≠ [] → w'.2 b = w.2 b) : Hd w' C σ := by
  obtain ⟨h1, h2, h3, h4⟩ := h
  have ne : ∀ {q : Nat × LY} {j : Nat}, j < q.2.length → q.2 ≠ [] := fun hj e => by
    rw [e] at hj
    exact absurd hj (Nat.not_lt_zero _)
  refine ⟨by rw [e1]; exact h1, by rw [e1]; exact h2, fun b q c b3 hq hc j hj => ?_, fun q c hq hc j hj => ?_⟩
  · rw [e1] at hq
    have e : bc w' b c = bc w b c := by
      unfold bc
      rw [e2 b q hq (ne hj)]
    rw [e]
    exact h3 b q c b3 hq hc j hj
  · rw [e1] at hq
    have e : bcV w' c = bcV w c := by
      unfold bcV
      rw [e2 13 q hq (ne hj)]
    rw [e]
    exact h4 q c hq hc j hj
theorem set_some {l : List (Nat × LY)} {b' : Nat} {q : Nat × LY} {x : Nat × LY} (h : (l.set b x)[b']? = some q) : (b' = b ∧ q = x) ∨ (b' ≠ b ∧ l[b']? = some q) := by
  by_cases e : b = b'
  · subst e
    have hb : b < l.length := by
      rcases Nat.lt_or_ge b l.length with z | z
      · exact z
      · rw [List.getElem?_eq_none (by rw [List.length_set]; exact z)] at h
        exact absurd h (by simp)
    rw [List.getElem?_set_self hb] at h
    exact Or.inl ⟨rfl, (Option.some.inj h).symm⟩
  · rw [List.getElem?_set_ne e] at h
    exact Or.inr ⟨fun z => e z.symm, h⟩
/-- a block at the heap's end -/
theorem Hd.new (h : Hd w C σ) (b3 : b < 13) (hc : C[b]? = some c) : Hd (w.1.set b (σ.2.1, lay), w.2) C (bOv σ.2.1 lay (bc w b c) σ.1, σ.2.1 + lay.length, sl) := by
  obtain ⟨h1, h2, h3, h4⟩ := h
  refine ⟨fun b1 b2 q1 q2 e1 e2 ne => ?_, fun b1 q1 e1 => ?_, fun b1 q1 c1 b13 e1 ec j hj => ?_, fun q1 c1 e1 ec j hj => ?_⟩
  · rcases set_some e1 with ⟨y1, z1⟩ | ⟨n1, f1⟩ <;> rcases set_some e2 with ⟨y2, z2⟩ | ⟨n2, f2⟩
    · exact absurd (y1.trans y2.symm) ne
    · rw [z1]
      exact Or.inr (h2 _ _ f2)
    · rw [z2]
      exact Or.inl (h2 _ _ f1)
    · exact h1 _ _ _ _ f1 f2 ne
  · show q1.1 + q1.2.length ≤ σ.2.1 + lay.length
    rcases set_some e1 with ⟨rfl, rfl⟩ | ⟨n1, e1⟩
    · exact Nat.le_refl _
    · have := h2 _ _ e1
      omega
  · show bOv σ.2.1 lay (bc w b c) σ.1 (q1.1 + j) = bCell q1.1 q1.2 (bc w b1 c1) j
    rcases set_some e1 with ⟨rfl, rfl⟩ | ⟨n1, e1⟩
    · rw [hc] at ec
      cases ec
      exact bOv_at hj
    · have := h2 _ _ e1
      rw [bOv_out (by omega)]
      exact h3 _ _ _ b13 e1 ec j hj
  · show bOv σ.2.1 lay (bc w b c) σ.1 (q1.1 + j) = bCell q1.1 q1.2 (bcV w c1) j
    rcases set_some e1 with ⟨z, -⟩ | ⟨n1, e1⟩
    · omega
    · have := h2 _ _ e1
      rw [bOv_out (by omega)]
      exact h4 _ _ e1 ec j hj
theorem Hd.newV (h : Hd w C σ) (hc : C[6]? = some c) : Hd (w.1.set 13 (σ.2.1, lay), w.2) C (bOv σ.2.1 lay (bcV w c) σ.1, σ.2.1 + lay.length, sl) := by
  obtain ⟨h1, h2, h3, h4⟩ := h
  refine ⟨fun b1 b2 q1 q2 e1 e2 ne => ?_, fun b1 q1 e1 => ?_, fun b1 q1 c1 b13 e1 ec j hj => ?_, fun q1 c1 e1 ec j hj => ?_⟩
  · rcases set_some e1 with ⟨y1, z1⟩ | ⟨n1, f1⟩ <;> rcases set_some e2 with ⟨y2, z2⟩ | ⟨n2, f2⟩
    · exact absurd (y1.trans y2.symm) ne
    · rw [z1]
      exact Or.inr (h2 _ _ f2)
    · rw [z2]
      exact Or.inl (h2 _ _ f1)
    · exact h1 _ _ _ _ f1 f2 ne
  · show q1.1 + q1.2.length ≤ σ.2.1 + lay.length
    rcases set_some e1 with ⟨rfl, rfl⟩ | ⟨n1, e1⟩
    · exact Nat.le_refl _
    · have := h2 _ _ e1
      omega
  · show bOv σ.2.1 lay (bcV w c) σ.1 (q1.1 + j) = bCell q1.1 q1.2 (bc w b1 c1) j
    rcases set_some e1 with ⟨z, -⟩ | ⟨n1, e1⟩
    · omega
    · have := h2 _ _ e1
      rw [bOv_out (by omega)]
      exact h3 _ _ _ b13 e1 ec j hj
  · show bOv σ.2.1 lay (bcV w c) σ.1 (q1.1 + j) = bCell q1.1 q1.2 (bcV w c1) j
    rcases set_some e1 with ⟨-, rfl⟩ | ⟨n1, e1⟩
    · rw [hc] at ec
      cases ec
      exact bOv_at hj
    · have := h2 _ _ e1
      exact absurd rfl n1
/-- a block's content and references change alone -/
theorem Hd.put2 {x : Nat → Nat → Option Nat} {c' : CT} (h : Hd w C σ) (b3 : b < 13) (hw : w.1[b]? = some (r, lay)) (hc : C[b]? = some c) (b6 : b = 6 → ∀ j k, c'.1 (j + 1) k = c.1 (j + 1) k ∧ c'.2 (j + 1) k = c.2 (j + 1) k) : Hd (w.1, fun b' => if b' = b then x else w.2 b') (C.set b c') (bOv r lay (c'.1, c'.2, x) σ.1, σ.2) := by
  obtain ⟨h1, h2, h3, h4⟩ := h
  have hb : b < C.length := (List.getElem?_eq_some_iff.mp hc).1
  refine ⟨h1, h2, fun b' q d b3' hq hd j hj => ?_, fun q d hq hd j hj => ?_⟩
  · show bOv r lay (c'.1, c'.2, x) σ.1 (q.1 + j) = _
    by_cases e : b = b'
    · subst e
      rw [List.getElem?_set_self hb] at hd
      cases hd
      rw [hw] at hq
      cases hq
      rw [bOv_at hj]
      unfold bc
      dsimp only
      rw [if_pos rfl]
    · rw [List.getElem?_set_ne e] at hd
      rw [bOv_out]
      · rw [h3 b' q d b3' hq hd j hj]
        unfold bc
        dsimp only
        rw [if_neg (fun z => e z.symm)]
      · have := h1 b b' _ _ hw hq e
        dsimp only at this
        omega
  · show bOv r lay (c'.1, c'.2, x) σ.1 (q.1 + j) = _
    have n13 : (if (13 : Nat) = b then x else w.2 13) = w.2 13 := if_neg (by omega)
    rw [bOv_out]
    · by_cases e : b = 6
      · subst e
        rw [List.getElem?_set_self hb] at hd
        cases hd
        have e2 : bcV (w.1, fun b' => if b' = 6 then x else w.2 b') c' = bcV w c := by
          unfold bcV
          refine Prod.ext (funext fun j => funext fun k => (b6 rfl j k).1) (Prod.ext (funext fun j => funext fun k => (b6 rfl j k).2) n13)
        rw [e2]
        exact h4 q c hq hc j hj
      · rw [List.getElem?_set_ne e] at hd
        have e2 : bcV (w.1, fun b' => if b' = b then x else w.2 b') d = bcV w d := by
          unfold bcV
          exact Prod.ext rfl (Prod.ext rfl n13)
        rw [e2]
        exact h4 q d hq hd j hj
    · have := h1 b 13 _ _ hw hq (by omega)
      dsimp only at this
      omega
/-- a reference field is set -/
theorem Hd.stR {ty : FieldType} (h : Hd w C σ) (b3 : b < 13) (hw : w.1[b]? = some (r, lay)) (hc : C[b]? = some c) (hl : lay[j]? = some (.inr (ci, ks))) (hk : ks.getD k 0 = 1) (hv : vfit ty (.ref a) = true) : ∃ σ', pF ci k ty (.ref (r + j)) (.ref a) σ = some σ' ∧ Hd (w.1, upRf w.2 b j k (some a)) C σ' ∧ σ'.2 = σ.2 := by
  refine ⟨(bOv r lay (setR (bc w b c) j k (some a)) σ.1, σ.2), ?_, ?_, rfl⟩
  · refine (congrArg (fun s => pF ci k ty (.ref (r + j)) (.ref a) s) (h.ov b3 hw hc)).trans ?_
    exact pF_r (x := some a) hl hk hv
  · have q := h.put2 (x := up2 (w.2 b) j k (some a)) (c' := c) b3 hw hc (fun _ _ _ => ⟨rfl, rfl⟩)
    have e1 : C.set b c = C := by
      refine List.ext_getElem? fun i => ?_
      by_cases e : b = i
      · subst e
        rw [List.getElem?_set_self (List.getElem?_eq_some_iff.mp hc).1, hc]
      · rw [List.getElem?_set_ne e]
    have e2 : (fun b' => if b' = b then up2 (w.2 b) j k (some a) else w.2 b') = upRf w.2 b j k (some a) := by
      funext b'
      unfold upRf
      by_cases e : b' = b
      · rw [if_pos e, if_pos e, e]
      · rw [if_neg e, if_neg e]
    rw [e1, e2] at q
    exact q
end NewB
/-! constructors: a list of steps -/
abbrev CS : Type := Nat × FieldType × (Value ⊕ (FieldType × (Nat → vp_A) × Nat))
def stC (ci : Nat) (s : CS) : XS := match s.2.2 with
  | .inl v => sP2 (pF ci s.1 s.2.1) (eA 0) (eK v)
  | .inr q => sP2 (pF ci s.1 s.2.1) (eA 0) (eNA q.1 q.2.1 (eK (.int (Int32.ofNat q.2.2))))
def prC (ci : Nat) : List CS → XS → XS
  | [], t => t
  | s :: r, t => sSeq (stC ci s) (prC ci r t)
/-- fields, new cells (from z on), slots -/
def rnC : List CS → Nat → (Nat → Value) → (Nat → Value) × List MC × Nat
  | [], _, V => (V, [], 0)
  | s :: r, z, V => match s.2.2 with
    | .inl v => rnC r z (updV V s.1 v)
    | .inr q => ((rnC r (z + 1) (updV V s.1 (.ref z))).1, .inl (q.1, q.2.1 q.2.2) :: (rnC r (z + 1) (updV V s.1 (.ref z))).2.1, q.2.2 + (rnC r (z + 1) (updV V s.1 (.ref z))).2.2)
def okC (s : CS) : Bool := match s.2.2 with
  | .inl v => vfit s.2.1 v
  | .inr q => vfit s.2.1 (.ref 0) && Nat.ble q.2.2 65536
def laC (z : Nat) (cs : List MC) (h : HP) : HP := fun a => if z ≤ a ∧ a < z + cs.length then cs[a - z]? else h a
theorem vfit_r {ty : FieldType} {a b : Nat} : vfit ty (.ref a) = vfit ty (.ref b) := by
  unfold vfit
  cases ty <;> rfl
theorem prC_run {ci r : Nat} {L : List Value} {t : XS} (hL : L[0]? = some (.ref r)) : ∀ (ss : List CS) (V : Nat → Value) (h : HP) (z sl : Nat), r < z → ss.all okC = true → prC ci ss t L (fun a => if a = r then some (.inr (ci, V)) else h a, z, sl) = t L (fun a => if a = r then some (.inr (ci, (rnC ss z V).1)) else laC z (rnC ss z V).2.1 h a, z + (rnC ss z V).2.1.length, sl + (rnC ss z V).2.2)
  | [], V, h, z, sl, hz, ok => by
    have e : laC z [] h = h := by
      funext a
      unfold laC
      exact if_neg (by show ¬ (z ≤ a ∧ a < z + 0); omega)
    show t L _ = t L _
    show t L (fun a => if a = r then some (.inr (ci, V)) else h a, z, sl) = t L (fun a => if a = r then some (.inr (ci, V)) else laC z [] h a, z + 0, sl + 0)
    rw [e]
    rfl
  | (k, ty, .inl v) :: ss, V, h, z, sl, hz, ok => by
    rw [List.all_cons, Bool.and_eq_true] at ok
    have ok1 : vfit ty v = true := ok.1
    have ih := prC_run (ci := ci) (t := t) hL ss (updV V k v) h z sl hz ok.2
    show sSeq (sP2 (pF ci k ty) (eA 0) (eK v)) (prC ci ss t) L _ = _
    have e : sP2 (pF ci k ty) (eA 0) (eK v) L (fun a => if a = r then some (.inr (ci, V)) else h a, z, sl) = some (.inl 0, L, (fun a => if a = r then some (.inr (ci, updV V k v)) else h a, z, sl)) := by
      unfold sP2 eA eK
      rw [hL]
      dsimp only [Option.bind_some]
      unfold pF
      dsimp only
      rw [if_pos rfl]
      dsimp only
      rw [if_pos ⟨rfl, ok1⟩]
      show some (_, L, updH _ _ _) = _
      unfold updH
      refine congrArg some (congrArg (Prod.mk _) (congrArg (Prod.mk _) (Prod.ext ?_ rfl)))
      funext a
      show (if a = r then some (.inr (ci, updV V k v)) else (if a = r then some (.inr (ci, V)) else h a)) = _
      dsimp only
      by_cases q : a = r
      · rw [if_pos q, if_pos q]
      · rw [if_neg q, if_neg q, if_neg q]
    unfold sSeq
    rw [e, Option.bind_some]
    exact ih
  | (k, ty, .inr (ft, x, n)) :: ss, V, h, z, sl, hz, ok => by
    rw [List.all_cons, Bool.and_eq_true] at ok
    have ok0 : (vfit ty (.ref 0) && Nat.ble n 65536) = true := ok.1
    rw [Bool.and_eq_true] at ok0
    have ok1 : vfit ty (.ref z) = true := (vfit_r (b := 0)).trans ok0.1
    have n6 : n ≤ 65536 := Nat.le_of_ble_eq_true ok0.2
    have ih := prC_run (ci := ci) (t := t) hL ss (updV V k (.ref z)) (fun a => if a = z then some (.inl (ft, x n)) else h a) (z + 1) (sl + n) (by omega) ok.2
    show sSeq (sP2 (pF ci k ty) (eA 0) (eNA ft x (eK (.int (Int32.ofNat n))))) (prC ci ss t) L _ = _
    have en : (Int32.ofNat n).toNatClampNeg = n := nI_clamp (by omega)
    have e : sP2 (pF ci k ty) (eA 0) (eNA ft x (eK (.int (Int32.ofNat n)))) L (fun a => if a = r then some (.inr (ci, V)) else h a, z, sl) = some (.inl 0, L, (fun a => if a = r then some (.inr (ci, updV V k (.ref z))) else (if a = z then some (.inl (ft, x n)) else h a), z + 1, sl + n)) := by
      unfold sP2 eA eNA eK
      rw [hL]
      dsimp only [Option.bind_some]
      unfold newA
      dsimp only
      rw [if_neg]
      · dsimp only [Option.bind_some]
        unfold pF alloc
        dsimp only
        rw [if_neg (by omega), if_pos rfl]
        dsimp only
        rw [if_pos ⟨rfl, ok1⟩]
        show some (_, L, updH _ _ _) = _
        unfold updH
        refine congrArg some (congrArg (Prod.mk _) (congrArg (Prod.mk _) (Prod.ext ?_ ?_)))
        · funext a
          show (if a = r then some (.inr (ci, updV V k (.ref z))) else (if a = z then some (.inl (ft, x (Int32.ofNat n).toNatClampNeg)) else (if a = r then some (.inr (ci, V)) else h a))) = _
          rw [en]
          dsimp only
          by_cases q : a = r
          · rw [if_pos q, if_pos q]
          · rw [if_neg q, if_neg q, if_neg q]
        · show (z + 1, sl + (Int32.ofNat n).toNatClampNeg) = (z + 1, sl + n)
          rw [en]
      · rw [en]
        rintro (y | y)
        · exact absurd (nI_pos' (show n < 2 ^ 31 by omega)) (Int32.not_le.mpr y)
        · omega
    unfold sSeq
    rw [e, Option.bind_some]
    refine Eq.trans ih ?_
    show t L _ = t L _
    have e3 : (rnC ((k, ty, .inr (ft, x, n)) :: ss) z V) = ((rnC ss (z + 1) (updV V k (.ref z))).1, .inl (ft, x n) :: (rnC ss (z + 1) (updV V k (.ref z))).2.1, n + (rnC ss (z + 1) (updV V k (.ref z))).2.2) := rfl
    rw [e3]
    refine congrArg (t L) (Prod.ext ?_ ?_)
    · funext a
      dsimp only
      by_cases q : a = r
      · rw [if_pos q, if_pos q]
      · rw [if_neg q, if_neg q]
        unfold laC
        rw [List.length_cons]
        dsimp only
        by_cases q2 : a = z
        · rw [if_neg (by omega), if_pos q2, if_pos (by omega), q2, Nat.sub_self]
          rfl
        · by_cases q3 : z + 1 ≤ a ∧ a < z + 1 + (rnC ss (z + 1) (updV V k (.ref z))).2.1.length
          · rw [if_pos q3, if_pos (by omega)]
            obtain ⟨m, hm⟩ : ∃ m, a - z = m + 1 := ⟨a - z - 1, by omega⟩
            rw [hm, List.getElem?_cons_succ, show a - (z + 1) = m by omega]
          · rw [if_neg q3, if_neg q2, if_neg (by omega)]
    · show (z + 1 + _, sl + n + _) = (z + (_ + 1), sl + (n + _))
      refine Prod.ext ?_ ?_
      · show z + 1 + (rnC ss (z + 1) (updV V k (.ref z))).2.1.length = z + ((rnC ss (z + 1) (updV V k (.ref z))).2.1.length + 1)
        omega
      · show sl + n + (rnC ss (z + 1) (updV V k (.ref z))).2.2 = sl + (n + (rnC ss (z + 1) (updV V k (.ref z))).2.2)
        omega
