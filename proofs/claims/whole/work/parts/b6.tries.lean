/-! ===== the reference gathers its tries ===== -/
theorem LP3.one {A0 A1 A2 : Type} {f : (A0 → A1 → A2 → Prop) → A0 → A1 → A2 → Prop} {a0 : A0} {a1 : A1} {a2 : A2} (h : ∀ R, f R a0 a1 a2) : LP3 f a0 a1 a2 := fun R hR => hR _ _ _ (h R)
theorem fnd_m1 {g : Nat → Int32} {fr : Nat} {x : Int32} : ∀ {l k : Nat}, k + l < 2 ^ 31 → (fnd g fr x l k = -1 ↔ ∀ i, k ≤ i → i < k + l → g (fr + i) ≠ x)
  | 0, k, _ => by
    rw [fnd_0]
    exact ⟨fun _ i h1 h2 => absurd h2 (by omega), fun _ => rfl⟩
  | l + 1, k, h => by
    rw [fnd_s]
    by_cases e : g (fr + k) = x
    · rw [if_pos e, m1_ne (by omega)]
      exact ⟨False.elim, fun q => q k (by omega) (by omega) e⟩
    · rw [if_neg e, fnd_m1 (by omega)]
      constructor
      · intro q i h1 h2
        by_cases ei : i = k
        · subst ei
          exact e
        · exact q i (by omega) (by omega)
      · intro q i h1 h2
        exact q i (by omega) (by omega)
/-- the first setting of each mask -/
noncomputable def fsl (ms : Nat → Nat) : Nat → List Nat
  | 0 => []
  | n + 1 => @ite _ (ms n ≠ 0 ∧ ∀ k, k < n → ms k ≠ ms n) (Classical.propDecidable _) (fsl ms n ++ [n]) (fsl ms n)
section Fsl
variable {ms cd : Nat → Nat}
theorem fsl_y {n : Nat} (h : ms n ≠ 0 ∧ ∀ k, k < n → ms k ≠ ms n) : fsl ms (n + 1) = fsl ms n ++ [n] := by
  show @ite _ _ (Classical.propDecidable _) _ _ = _
  exact if_pos h
theorem fsl_n {n : Nat} (h : ms n = 0 ∨ ∃ k, k < n ∧ ms k = ms n) : fsl ms (n + 1) = fsl ms n := by
  show @ite _ _ (Classical.propDecidable _) _ _ = _
  refine if_neg fun q => ?_
  rcases h with h | ⟨k, h1, h2⟩
  · exact q.1 h
  · exact q.2 k h1 h2
theorem fsl_or {n : Nat} : (ms n ≠ 0 ∧ ∀ k, k < n → ms k ≠ ms n) ∨ (ms n = 0 ∨ ∃ k, k < n ∧ ms k = ms n) := by
  by_cases h : ms n = 0
  · exact Or.inr (Or.inl h)
  · by_cases q : ∃ k, k < n ∧ ms k = ms n
    · exact Or.inr (Or.inr q)
    · exact Or.inl ⟨h, fun k hk e => q ⟨k, hk, e⟩⟩
theorem fsl_lt : ∀ n, ∀ x ∈ fsl ms n, x < n ∧ ms x ≠ 0
  | 0 => fun x h => by cases h
  | n + 1 => by
    intro x hx
    rcases fsl_or (ms := ms) (n := n) with h | h
    · rw [fsl_y h] at hx
      rcases List.mem_append.mp hx with h1 | h1
      · have := fsl_lt n x h1
        exact ⟨by omega, this.2⟩
      · have e := List.mem_singleton.mp h1
        subst e
        exact ⟨by omega, h.1⟩
    · rw [fsl_n h] at hx
      have := fsl_lt n x hx
      exact ⟨by omega, this.2⟩
theorem fsl_has : ∀ n k, k < n → ms k ≠ 0 → ∃ x ∈ fsl ms n, ms x = ms k
  | 0, k, h, _ => absurd h (by omega)
  | n + 1, k, h, h0 => by
    rcases fsl_or (ms := ms) (n := n) with q | q
    · rw [fsl_y q]
      by_cases e : k = n
      · subst e
        exact ⟨k, List.mem_append.mpr (Or.inr (List.mem_singleton.mpr rfl)), rfl⟩
      · obtain ⟨x, x1, x2⟩ := fsl_has n k (by omega) h0
        exact ⟨x, List.mem_append.mpr (Or.inl x1), x2⟩
    · rw [fsl_n q]
      by_cases e : k = n
      · subst e
        rcases q with q | ⟨k', q1, q2⟩
        · exact absurd q h0
        · obtain ⟨x, x1, x2⟩ := fsl_has k k' q1 (by rw [q2]; exact h0)
          exact ⟨x, x1, x2.trans q2⟩
      · exact fsl_has n k (by omega) h0
theorem fsl_len : ∀ n, (fsl ms n).length ≤ n
  | 0 => Nat.le_refl _
  | n + 1 => by
    have ih := fsl_len n
    rcases fsl_or (ms := ms) (n := n) with q | q
    · rw [fsl_y q, List.length_append, List.length_singleton]
      omega
    · rw [fsl_n q]
      omega
theorem getD_mem {r : List Nat} {j : Nat} (h : j < r.length) : r.getD j 0 ∈ r := by
  rw [List.getD_eq_getElem?_getD, List.getElem?_eq_getElem h]
  exact List.getElem_mem h
theorem mem_getD {r : List Nat} {x : Nat} (h : x ∈ r) : ∃ j, j < r.length ∧ r.getD j 0 = x := by
  obtain ⟨j, h1, h2⟩ := List.getElem_of_mem h
  refine ⟨j, h1, ?_⟩
  rw [List.getD_eq_getElem?_getD, List.getElem?_eq_getElem h1]
  exact h2
theorem getD_last {r : List Nat} {x : Nat} : (r ++ [x]).getD r.length 0 = x := by
  rw [List.getD_eq_getElem?_getD, List.getElem?_concat_length]
  rfl
theorem getD_init {r : List Nat} {x j : Nat} (h : j < r.length) : (r ++ [x]).getD j 0 = r.getD j 0 := by
  rw [List.getD_eq_getElem?_getD, List.getElem?_append_left h, ← List.getD_eq_getElem?_getD]
def TRY (c : CT) (ms cd : Nat → Nat) (r : List Nat) : Prop := c.1 0 73 = nI r.length ∧ ∀ j, j < r.length → c.1 33 j = nI (ms (r.getD j 0)) ∧ c.1 34 j = nI (cd (r.getD j 0))
def GR (M : CT) (ms cd : Nat → Nat) (i : Nat) (s : Int32) (c : CT) : Prop := s = nI (orN ms i) ∧ (∀ j k, j ≠ 33 → j ≠ 34 → ¬ (j = 0 ∧ k = 73) → c.1 j k = M.1 j k) ∧ TRY c ms cd (fsl ms i)
theorem GR.z {M c : CT} {i : Nat} {s : Int32} (g : GR M ms cd i s c) (h : ms i = 0) : GR M ms cd (i + 1) s c := by
  obtain ⟨g1, g2, g3⟩ := g
  refine ⟨?_, g2, by rw [fsl_n (Or.inl h)]; exact g3⟩
  rw [g1]
  show _ = nI (orN ms i ||| ms i)
  rw [h, Nat.or_zero]
theorem GR.zs {M c : CT} {s : Int32} {a : Nat} : ∀ {b : Nat}, a ≤ b → (∀ i, a ≤ i → i < b → ms i = 0) → GR M ms cd a s c → GR M ms cd b s c
  | 0, h, _, g => by rw [show a = 0 by omega] at g; exact g
  | b + 1, h, hz, g => by
    by_cases e : a = b + 1
    · rw [← e]
      exact g
    · exact (GR.zs (b := b) (by omega) (fun i h1 h2 => hz i h1 (by omega)) g).z (hz b (by omega) (by omega))
/-- one mask that isn't empty -/
theorem GR.s {M c : CT} {i : Nat} {s cv : Int32} {Q : Int32 → CT → Prop} (g : GR M ms cd i s c) (h : ms i ≠ 0) (hm : ∀ k, ms k < 4096) (hi : i < 756) (hc : cv = nI (cd i)) (hQ : ∀ s' c', GR M ms cd (i + 1) s' c' → Q s' c') :
    k_X12_found c 33 756 (0 : Int32) (c.1 0 73) (nI (ms i)) (fun t98 => (if t98 = (-1 : Int32) then wrI c 33 756 (c.1 0 73) (nI (ms i)) (fun c99 => wrI c99 34 756 (c99.1 0 73) cv (fun c100 => wrF c100 0 73 ((c100.1 0 73) + (1 : Int32)) (fun c101 => Q (s ||| nI (ms i)) c101))) else Q s c)) := by
  obtain ⟨g1, g2, g3, g4⟩ := g
  have fl := fsl_len (ms := ms) i
  rw [g3]
  refine found_ok (fr := 0) (by omega) (by omega) ?_
  refine ite_b (fun z => ?_) fun z => ?_
  · rw [fnd_m1 (by omega)] at z
    have new : ms i ≠ 0 ∧ ∀ k, k < i → ms k ≠ ms i := ⟨h, fun k hk e => by
      obtain ⟨x, x1, x2⟩ := fsl_has (ms := ms) i k hk (by rw [e]; exact h)
      obtain ⟨j, j1, j2⟩ := mem_getD x1
      refine z j (by omega) (by omega) ?_
      rw [Nat.zero_add, (g4 j j1).1, j2, x2, e]⟩
    rw [wrI_n (by omega) (by omega), sI_ne (by omega), g3, wrI_n (by omega) (by omega), sI_ne (by omega), sI_ne (by omega), g3, nI_1, wrF_eq]
    refine hQ _ _ ⟨?_, fun j k h1 h2 h3 => ?_, ?_⟩
    · rw [g1, or_n]
      rfl
    · rw [sI_ne h3, sI_ne (by omega), sI_ne (by omega)]
      exact g2 j k h1 h2 h3
    · rw [fsl_y new]
      refine ⟨?_, fun j hj => ?_⟩
      · rw [sI_same, List.length_append, List.length_singleton]
      · rw [List.length_append, List.length_singleton] at hj
        rw [show (sI (sI (sI c 33 (fsl ms i).length (nI (ms i))) 34 (fsl ms i).length cv) 0 73 (nI ((fsl ms i).length + 1))).1 33 j = (sI c 33 (fsl ms i).length (nI (ms i))).1 33 j from (sI_ne (by omega)).trans (sI_ne (by omega)), show (sI (sI (sI c 33 (fsl ms i).length (nI (ms i))) 34 (fsl ms i).length cv) 0 73 (nI ((fsl ms i).length + 1))).1 34 j = (sI (sI c 33 (fsl ms i).length (nI (ms i))) 34 (fsl ms i).length cv).1 34 j from sI_ne (by omega)]
        by_cases e : j = (fsl ms i).length
        · subst e
          rw [sI_same, sI_same, getD_last]
          exact ⟨rfl, hc⟩
        · rw [sI_ne (by omega), sI_ne (by omega), sI_ne (by omega), getD_init (by omega)]
          exact g4 j (by omega)
  · rw [fnd_m1 (by omega)] at z
    have old : ∃ k, k < i ∧ ms k = ms i := by
      by_cases q : ∃ k, k < i ∧ ms k = ms i
      · exact q
      · exfalso
        apply z
        intro j _ hj e
        apply q
        have m1 := fsl_lt i _ (getD_mem (r := fsl ms i) (j := j) (by omega))
        rw [Nat.zero_add, (g4 j (by omega)).1] at e
        exact ⟨_, m1.1, (nI_eq (by have := hm ((fsl ms i).getD j 0); omega) (by have := hm i; omega)).mp e⟩
    refine hQ _ _ ⟨?_, g2, by rw [fsl_n (Or.inr old)]; exact ⟨g3, g4⟩⟩
    obtain ⟨k, k1, k2⟩ := old
    rw [g1]
    show _ = nI (orN ms i ||| ms i)
    congr 1
    apply Nat.eq_of_testBit_eq
    intro b
    rw [Nat.testBit_or]
    cases e : (ms i).testBit b with
    | false => rw [Bool.or_false]
    | true =>
      rw [Bool.or_true]
      exact or_bit.mpr ⟨k, k1, by rw [k2]; exact e⟩
end Fsl
theorem PVw.mv {M M' : CT} {V : VW} {l q : Nat} (g : PVw M V l q) (h : ∀ j x, 2 ≤ j → j ≤ 32 → M'.1 j x = M.1 j x) (h34 : M'.1 0 34 = M.1 0 34) (h35 : M'.1 0 35 = M.1 0 35) : PVw M' V l q := ⟨fun j x h1 h2 h3 => (h j x h1 h2).trans (g.1 j x h1 h2 h3), h34.trans g.2.1, h35.trans g.2.2⟩
theorem ms_cv {V : VW} {l f tools t c d : Nat} {held : Bool} (hc : c < nv (V 8 f)) (h1 : 1 ≤ d) (h9 : d ≤ 9) : msS V l f tools held ((t * nv (V 8 f) + c) * 9 + (d - 1)) = if tools.testBit t = true then (cvS V l f t c d held).getD 0 else 0 := by
  obtain ⟨e1, e2, e3⟩ := ix_div (t := t) (e := d - 1) hc (by omega)
  unfold msS
  rw [e1, e2, e3, Nat.sub_add_cancel h1]
theorem gathers_ok {P M : CT} {V : VW} {l q f tools : Nat} {held : Bool} {a3 : Int32} {Q : Int32 → CT → Prop} (hM : PVw M V l q) (T : TLS P.1 V l q) (g : PFro P.1 V f) (hf : f < 5) (ht7 : tools < 128) (h3 : (a3 ≠ 0) ↔ held = true) (hQ : ∀ s c, GR M (msS V l f tools held) (codeS V f) (cntS V l q f) s c → Q s c) : k_X12_gathers M (nI f) (nI tools) a3 Q := by
  have l4 := T.1.1
  have q3 := T.1.2.1
  have ml := fun i => ms_lt (l := l) (tools := tools) (held := held) (i := i) g
  obtain ⟨-, w, u, p, b, s, hw, -, hp, -, -, ⟨e8, -⟩, -⟩ := id g
  have ew : nv (V 8 f) = w := by rw [e8, nv_n (by omega)]
  have pv : ∀ {i s c}, GR M (msS V l f tools held) (codeS V f) i s c → PVw c V l q := fun h => hM.mv (fun j x h1 h2 => h.2.1 j x (by omega) (by omega) (by omega)) (h.2.1 0 34 (by omega) (by omega) (by omega)) (h.2.1 0 35 (by omega) (by omega) (by omega))
  rw [← cnt_eq] at hQ
  unfold k_X12_gathers
  rw [wrF_eq]
  refine upl3 (N := l + q) (a := 0) (s := (0 : Int32)) (by omega) (fun t s c => GR M (msS V l f tools held) (codeS V f) ((t * nv (V 8 f)) * 9) s c) ?_ ?_ (by omega) ?_
  · intro R t s c _ ht hi ih
    rw [(pv hi).2.1, (pv hi).2.2, nI_add, if_neg (nI_ge ht (by omega))]
    by_cases hb : tools.testBit t = true
    · refine upl3 (N := nv (V 8 f)) (a := 0) (by omega) (fun k s c => GR M (msS V l f tools held) (codeS V f) ((t * nv (V 8 f) + k) * 9) s c) ?_ ?_ (by omega) hi
      · intro R2 k s c _ hk hi2 ih2
        have m8 : c.1 8 f = nI (nv (V 8 f)) := by rw [ew]; exact ((pv hi2).1 8 f (by omega) (by omega) (show f < 5 from hf)).trans e8
        rw [rdI_n (by omega) (by omega), m8, if_neg (nI_ge hk (by omega)), bit_n (by omega) (by omega), if_pos hb, if_neg (fun z => z rfl)]
        refine upl3 (N := 10) (a := 1) (by omega) (fun d s c => GR M (msS V l f tools held) (codeS V f) ((t * nv (V 8 f) + k) * 9 + (d - 1)) s c) ?_ ?_ (by omega) hi2
        · intro R3 d s c h1 h10 hi3 ih3
          have bd : (t + 1) * nv (V 8 f) ≤ 7 * 12 := Nat.mul_le_mul (by omega) (by omega)
          rw [Nat.add_mul, Nat.one_mul] at bd
          have ed : (t * nv (V 8 f) + k) * 9 + (d + 1 - 1) = (t * nv (V 8 f) + k) * 9 + (d - 1) + 1 := by omega
          obtain ⟨x1, x2, x3⟩ := ix_div (t := t) (e := d - 1) hk (by omega)
          have cde : codeS V f ((t * nv (V 8 f) + k) * 9 + (d - 1)) = t + 16 * k + 256 * d := by
            unfold codeS
            rw [x1, x2, x3, Nat.sub_add_cancel h1]
          have mc := ms_cv (l := l) (f := f) (tools := tools) (t := t) (held := held) hk h1 (show d ≤ 9 by omega)
          rw [if_pos hb] at mc
          have mi := ml ((t * nv (V 8 f) + k) * 9 + (d - 1))
          rw [li_9, if_neg (by rw [nI_lt' (by omega) (by omega)]; omega)]
          refine coversOf_ok (pv hi3) T g hf ht hk h1 (by omega) h3 ?_
          rw [nI_1]
          cases hcv : cvS V l f t k d held with
          | none =>
            rw [hcv] at mc
            show (if (-1 : Int32) ≤ 0 then _ else _)
            rw [if_pos (by decide)]
            refine ih3 _ _ ?_
            rw [ed]
            exact hi3.z mc
          | some y =>
            rw [hcv] at mc
            have mc : msS V l f tools held ((t * nv (V 8 f) + k) * 9 + (d - 1)) = y := mc
            show (if nI y ≤ 0 then _ else _)
            by_cases yz : y = 0
            · rw [yz, if_pos (show nI 0 ≤ 0 from Int32.le_refl _)]
              refine ih3 _ _ ?_
              rw [ed]
              exact hi3.z (mc.trans yz)
            · rw [li_0, if_neg (by rw [nI_le' (by omega) (by omega)]; omega), ← li_0, ← mc]
              have fin := hi3.s (cv := (nI t + ((16 : Int32) * nI k)) + ((256 : Int32) * nI d)) (Q := fun s' c' => R3 s' (nI (d + 1)) c') (by rw [mc]; exact yz) ml (by omega) (by rw [cde, li_16, li_256, pk_mul, pk_mul, nI_add, nI_add]) (fun s' c' h => ih3 s' c' (by rw [ed]; exact h))
              have e2 : ∀ (K : Int32 → CT → Prop) (x : Int32), (fun c101 => vK x (fun v102 => K v102 c101)) = fun c101 => K x c101 := fun K x => by
                funext c101
                rw [vK_eq]
              rw [e2 (fun s' c' => R3 s' (nI (d + 1)) c')]
              exact fin
        · intro R3 s c hi3
          rw [li_9, if_pos (by rw [nI_lt' (by omega) (by omega)]; omega), nI_1]
          refine ih2 _ _ ?_
          have ed : (t * nv (V 8 f) + (k + 1)) * 9 = (t * nv (V 8 f) + k) * 9 + (10 - 1) := by omega
          rw [ed]
          exact hi3
      · intro R2 s c hi2
        have m8 : c.1 8 f = nI (nv (V 8 f)) := by rw [ew]; exact ((pv hi2).1 8 f (by omega) (by omega) (show f < 5 from hf)).trans e8
        rw [rdI_n (by omega) (by omega), m8, if_pos (Int32.le_refl _), nI_1]
        refine ih _ _ ?_
        rw [Nat.add_mul, Nat.one_mul]
        exact hi2
    · refine LP3.one fun R2 => ?_
      have m8 : c.1 8 f = nI (nv (V 8 f)) := by rw [ew]; exact ((pv hi).1 8 f (by omega) (by omega) (show f < 5 from hf)).trans e8
      rw [li_0, rdI_n (by omega) (by omega), m8, if_neg (nI_ge (show 0 < nv (V 8 f) by omega) (by omega)), bit_n (by omega) (by omega), if_neg hb, if_pos (by decide), nI_1]
      refine ih _ _ (hi.zs ?_ fun i h1 h2 => ?_)
      · rw [Nat.add_mul, Nat.one_mul]
        omega
      · unfold msS
        rw [Nat.add_mul, Nat.one_mul] at h2
        have et : i / (9 * nv (V 8 f)) = t := by
          apply Nat.div_eq_of_lt_le
          · rw [Nat.mul_comm 9, ← Nat.mul_assoc]
            exact h1
          · rw [Nat.mul_comm 9, ← Nat.mul_assoc, Nat.add_mul, Nat.one_mul]
            exact h2
        rw [et, if_neg hb]
  · intro R s c hi
    rw [(pv hi).2.1, (pv hi).2.2, nI_add, if_pos (Int32.le_refl _)]
    exact hQ s c hi
  · rw [Nat.zero_mul, Nat.zero_mul]
    exact ⟨rfl, fun j k h1 h2 h3 => sI_ne h3, sI_same, fun j hj => absurd hj (by show ¬ j < 0; omega)⟩
