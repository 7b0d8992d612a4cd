/-! ===== the reference's table and its row ===== -/
def TBL (c : CT) (fam : Nat → Prop) (A : Nat) : Prop := ∀ s, s < 4096 → sbs s A → c.1 35 s = nI (lst fam s)
theorem bit_of {s : Nat} (z : s ≠ 0) : ∃ b, s.testBit b = true := by
  by_cases q : ∃ b, s.testBit b = true
  · exact q
  · exfalso
    apply z
    apply Nat.eq_of_testBit_eq
    intro k
    rw [Nat.zero_testBit]
    cases e : s.testBit k with
    | false => rfl
    | true => exact absurd ⟨k, e⟩ q
theorem and_nz {s a b : Nat} (h1 : s.testBit b = true) (h2 : a.testBit b = true) : s &&& a ≠ 0 := fun z => by
  have := congrArg (fun x => x.testBit b) z
  rw [Nat.testBit_and, h1, h2, Nat.zero_testBit] at this
  cases this
section Tbl
variable {ms cd : Nat → Nat} {N : Nat}
/-- one set of the table -/
theorem table_step {c0 : CT} {s : Nat} {Q : CT → Prop} (hA : orN ms N < 2 ^ 12) (hN : N ≤ 756) (hm : ∀ i, ms i < 4096) (hs : 1 ≤ s) (h4 : s < 4096) (hsA : sbs s (orN ms N)) (t : TRY c0 ms cd (fsl ms N)) (tb : ∀ x, x < s → sbs x (orN ms N) → c0.1 35 x = nI (lst (famN ms N) x)) (h99 : c0.1 35 s = 99)
    (hQ : ∀ c, (∀ j k, ¬ (j = 35 ∧ k = s) → c.1 j k = c0.1 j k) → c.1 35 s = nI (lst (famN ms N) s) → Q c) : LP2 (fun R83 (v81 : Int32) (c82 : CT) => (if (c82.1 0 73) ≤ v81 then Q c82 else rdI c82 33 756 v81 (fun t96 => (if (t96 &&& nI s) = (0 : Int32) then R83 (v81 + 1) c82 else rdI c82 35 4096 (nI s) (fun t98 => rdI c82 33 756 v81 (fun t100 => rdI c82 35 4096 (nI s &&& (t100 ^^^ (-1 : Int32))) (fun t102 => wrI c82 35 4096 (nI s) (mnI t98 ((1 : Int32) + t102)) (fun c104 => R83 (v81 + 1) c104)))))))) (0 : Int32) c0 := by
  obtain ⟨m, m12, m1, m2⟩ := lstB hsA hA
  have fl := fsl_len (ms := ms) N
  refine upl2 (N := (fsl ms N).length) (a := 0) (by omega) (fun k c => (∀ j x, ¬ (j = 35 ∧ x = s) → c.1 j x = c0.1 j x) ∧ ∃ x, c.1 35 s = nI x ∧ x ≤ 99 ∧ m ≤ x ∧ ∀ j, j < k → s &&& ms ((fsl ms N).getD j 0) ≠ 0 → x ≤ lst (famN ms N) (dif s (ms ((fsl ms N).getD j 0))) + 1) ?_ ?_ (by omega) ⟨fun _ _ _ => rfl, 99, h99, by omega, by omega, fun j h => absurd h (by omega)⟩
  · rintro R k c - hk ⟨c1, x, x1, x2, x3, x4⟩ ih
    have r73 : c.1 0 73 = nI (fsl ms N).length := (c1 0 73 (by omega)).trans t.1
    have r33 : c.1 33 k = nI (ms ((fsl ms N).getD k 0)) := (c1 33 k (by omega)).trans (t.2 k hk).1
    have mi := hm ((fsl ms N).getD k 0)
    obtain ⟨il, inz⟩ := fsl_lt N _ (getD_mem hk)
    have al : s &&& ms ((fsl ms N).getD k 0) < 4096 := Nat.lt_of_le_of_lt Nat.and_le_left h4
    rw [r73, if_neg (nI_ge hk (by omega)), rdI_n (by omega) (by omega), r33, and_n (by omega) (by omega), nI_1]
    by_cases hz : s &&& ms ((fsl ms N).getD k 0) = 0
    · rw [Nat.and_comm, hz, if_pos (show nI 0 = 0 from rfl)]
      refine ih _ ⟨c1, x, x1, x2, x3, fun j hj hn => ?_⟩
      by_cases e : j = k
      · subst e
        exact absurd hz hn
      · exact x4 j (by omega) hn
    · have dl := dif_less hz
      have ds : sbs (dif s (ms ((fsl ms N).getD k 0))) (orN ms N) := (sbs_dif _ _).trans hsA
      obtain ⟨v, v12, v1, v2⟩ := lstB ds hA
      rw [Nat.and_comm, if_neg (show ¬ nI _ = 0 from fun z => hz ((nI_eq (b := 0) (by omega) (by omega)).mp z)), rdI_n (by omega) (by omega), x1, rdI_n (by omega) (by omega), r33, dif_n (by omega) (by omega), rdI_n (by omega) (by omega), c1 35 _ (by omega), tb _ dl ds, v2, li_1, nI_add, mnI_n (by omega) (by omega), wrI_n (by omega) (by omega)]
      have low := (m1.less ⟨_, il, rfl, inz⟩ v1).1
      refine ih _ ⟨fun j y h => ?_, if 1 + v < x then 1 + v else x, sI_same, ?_, ?_, fun j hj hn => ?_⟩
      · rw [sI_ne h]
        exact c1 j y h
      · split <;> omega
      · split <;> omega
      · by_cases e : j = k
        · subst e
          rw [v2]
          split <;> omega
        · have := x4 j (by omega) hn
          split <;> omega
  · rintro R c ⟨c1, x, x1, x2, x3, x4⟩
    have r73 : c.1 0 73 = nI (fsl ms N).length := (c1 0 73 (by omega)).trans t.1
    rw [r73, if_pos (Int32.le_refl _)]
    refine hQ c c1 ?_
    obtain ⟨b, hb⟩ := bit_of (show s ≠ 0 by omega)
    obtain ⟨a, m', ⟨i, i1, i2, i3⟩, a2, a3, a4⟩ := m1.bit hb
    obtain ⟨y, y1, y2⟩ := fsl_has (ms := ms) N i i1 (by rw [i2]; exact i3)
    obtain ⟨j, j1, j2⟩ := mem_getD y1
    have q := x4 j j1 (by rw [j2, y2, i2]; exact and_nz hb a2)
    rw [j2, y2, i2, IsL.lst a3] at q
    rw [x1, m2, show x = m by omega]
theorem table_ok {c0 : CT} {Q : CT → Prop} (hA : orN ms N < 2 ^ 12) (hN : N ≤ 756) (hm : ∀ i, ms i < 4096) (t : TRY c0 ms cd (fsl ms N)) (hQ : ∀ c, (∀ j k, j ≠ 35 → c.1 j k = c0.1 j k) → TBL c (famN ms N) (orN ms N) → Q c) : wrI c0 35 4096 (0 : Int32) (0 : Int32) (fun c3 => LP2 (fun R21 (v18 : Int32) (c20 : CT) => (if (4096 : Int32) ≤ v18 then Q c20 else wrI c20 35 4096 v18 (99 : Int32) (fun c37 => (if (v18 &&& (nI (orN ms N) ^^^ (-1 : Int32))) = (0 : Int32) then LP2 (fun R83 (v81 : Int32) (c82 : CT) => (if (c82.1 0 73) ≤ v81 then R21 (v18 + 1) c82 else rdI c82 33 756 v81 (fun t96 => (if (t96 &&& v18) = (0 : Int32) then R83 (v81 + 1) c82 else rdI c82 35 4096 v18 (fun t98 => rdI c82 33 756 v81 (fun t100 => rdI c82 35 4096 (v18 &&& (t100 ^^^ (-1 : Int32))) (fun t102 => wrI c82 35 4096 v18 (mnI t98 ((1 : Int32) + t102)) (fun c104 => R83 (v81 + 1) c104)))))))) (0 : Int32) c37 else R21 (v18 + 1) c37)))) (1 : Int32) c3) := by
  rw [li_0, wrI_n (by omega) (by omega), ← li_0]
  refine upl2 (N := 4096) (a := 1) (by omega) (fun i c => (∀ j k, j ≠ 35 → c.1 j k = c0.1 j k) ∧ ∀ x, x < i → sbs x (orN ms N) → c.1 35 x = nI (lst (famN ms N) x)) ?_ ?_ (by omega) ⟨fun j k h => sI_ne (by omega), fun x hx _ => ?_⟩
  · rintro R s c h1 h4 ⟨i1, i2⟩ ih
    have dl : dif s (orN ms N) < 2 ^ 12 := dif_lt (n := 12) h4
    rw [li_4096, if_neg (nI_ge h4 (by omega)), wrI_n (by omega) (by omega), dif_n (by omega) (by omega), nI_1]
    by_cases hs : sbs s (orN ms N)
    · rw [dif_0.mpr hs, if_pos (show nI 0 = 0 from rfl)]
      refine table_step (cd := cd) hA hN hm h1 h4 hs ⟨(sI_ne (by omega)).trans ((i1 0 73 (by omega)).trans t.1), fun j hj => ?_⟩ (fun x hx hxs => (sI_ne (by omega)).trans (i2 x hx hxs)) sI_same fun c' c1 c2 => ih _ ⟨fun j k h => ?_, fun x hx hxs => ?_⟩
      · rw [sI_ne (by omega), sI_ne (by omega), i1 33 j (by omega), i1 34 j (by omega)]
        exact t.2 j hj
      · rw [c1 j k (by omega), sI_ne (by omega)]
        exact i1 j k h
      · by_cases e : x = s
        · subst e
          exact c2
        · rw [c1 35 x (by omega), sI_ne (by omega)]
          exact i2 x (by omega) hxs
    · rw [if_neg (show ¬ nI _ = 0 from fun z => hs (dif_0.mp ((nI_eq (b := 0) (by omega) (by omega)).mp z)))]
      refine ih _ ⟨fun j k h => ?_, fun x hx hxs => ?_⟩
      · rw [sI_ne (by omega)]
        exact i1 j k h
      · by_cases e : x = s
        · subst e
          exact absurd hxs hs
        · rw [sI_ne (by omega)]
          exact i2 x (by omega) hxs
  · rintro R c ⟨i1, i2⟩
    rw [li_4096, if_pos (Int32.le_refl _)]
    exact hQ c i1 i2
  · rw [show x = 0 by omega, sI_same, lst_0]
    rfl
theorem fsl_asc : ∀ n a b, a < b → b < (fsl ms n).length → (fsl ms n).getD a 0 < (fsl ms n).getD b 0
  | 0, a, b, _, h => absurd h (by show ¬ b < 0; omega)
  | n + 1, a, b, h1, h2 => by
    rcases fsl_or (ms := ms) (n := n) with q | q
    · rw [fsl_y q] at h2 ⊢
      rw [List.length_append, List.length_singleton] at h2
      by_cases e : b = (fsl ms n).length
      · subst e
        rw [getD_last, getD_init h1]
        exact (fsl_lt n _ (getD_mem h1)).1
      · rw [getD_init (by omega), getD_init (by omega)]
        exact fsl_asc n a b h1 (by omega)
    · rw [fsl_n q] at h2 ⊢
      exact fsl_asc n a b h1 h2
theorem fsl_mem : ∀ n i, i < n → (ms i ≠ 0 ∧ ∀ k, k < i → ms k ≠ ms i) → i ∈ fsl ms n
  | 0, i, h, _ => absurd h (by omega)
  | n + 1, i, h, hi => by
    by_cases e : i = n
    · subst e
      rw [fsl_y hi]
      exact List.mem_append.mpr (Or.inr (List.mem_singleton.mpr rfl))
    · have ih := fsl_mem n i (by omega) hi
      rcases fsl_or (ms := ms) (n := n) with q | q
      · rw [fsl_y q]
        exact List.mem_append.mpr (Or.inl ih)
      · rw [fsl_n q]
        exact ih
theorem fsl_gap {k i : Nat} (h1 : k = 0 ∨ (k - 1 < (fsl ms N).length ∧ (fsl ms N).getD (k - 1) 0 < i)) (h2 : k < (fsl ms N).length → i < (fsl ms N).getD k 0) (h3 : i < N) : ms i = 0 ∨ ∃ i', i' < i ∧ ms i' = ms i := by
  rcases fsl_or (ms := ms) (n := i) with q | q
  · exfalso
    obtain ⟨j, j1, j2⟩ := mem_getD (fsl_mem N i h3 q)
    have c1 : k ≤ j := by
      rcases h1 with h | ⟨ha, hb⟩
      · omega
      · apply Nat.le_of_not_lt
        intro z
        by_cases e : j = k - 1
        · subst e
          omega
        · have := fsl_asc N j (k - 1) (by omega) ha
          omega
    by_cases e : j = k
    · subst e
      have := h2 j1
      omega
    · have := fsl_asc N k j (by omega) j1
      have := h2 (by omega)
      omega
  · exact q
/-- where the k-th try stands; behind the last: the end -/
noncomputable def ixT (ms : Nat → Nat) (N k : Nat) : Nat := if k < (fsl ms N).length then (fsl ms N).getD k 0 else N
noncomputable def grT (ms : Nat → Nat) (N k : Nat) : Nat × List Nat := grS ms (famN ms N) (orN ms N) (ixT ms N k)
theorem ixT_le (k : Nat) : ixT ms N k ≤ N := by
  unfold ixT
  split
  · rename_i h
    exact Nat.le_of_lt (fsl_lt N _ (getD_mem h)).1
  · exact Nat.le_refl _
theorem grT_0 (hA : orN ms N < 2 ^ 12) : grT ms N 0 = (orN ms N, []) := by
  unfold grT
  rw [gr_skip hA (a := 0) _ (by omega) (ixT_le 0) fun i h1 h2 => fsl_gap (ms := ms) (N := N) (k := 0) (Or.inl rfl) (fun h => by unfold ixT at h2; rw [if_pos h] at h2; exact h2) (by have := ixT_le (ms := ms) (N := N) 0; omega)]
  rfl
theorem grT_s (hA : orN ms N < 2 ^ 12) {k : Nat} (hk : k < (fsl ms N).length) : grT ms N (k + 1) = grS ms (famN ms N) (orN ms N) ((fsl ms N).getD k 0 + 1) := by
  unfold grT
  have l1 := (fsl_lt N _ (getD_mem hk)).1
  have le : (fsl ms N).getD k 0 + 1 ≤ ixT ms N (k + 1) := by
    unfold ixT
    split
    · rename_i h
      exact fsl_asc N k (k + 1) (by omega) h
    · exact l1
  exact gr_skip hA _ le (ixT_le _) fun i h1 h2 => fsl_gap (ms := ms) (N := N) (k := k + 1) (Or.inr ⟨hk, by rw [Nat.add_sub_cancel]; omega⟩) (fun h => by unfold ixT at h2; rw [if_pos h] at h2; exact h2) (by have := ixT_le (ms := ms) (N := N) (k + 1); omega)
theorem grT_end : grT ms N (fsl ms N).length = grS ms (famN ms N) (orN ms N) N := by
  unfold grT ixT
  rw [if_neg (by omega)]
theorem gr_stop {fam : Nat → Prop} {A a : Nat} (h : (grS ms fam A a).1 = 0) : ∀ b, a ≤ b → grS ms fam A b = grS ms fam A a
  | 0, hb => by rw [show a = 0 by omega]
  | b + 1, hb => by
    by_cases e : a = b + 1
    · rw [e]
    · have ih := gr_stop h b (by omega)
      rw [← ih]
      apply gr_n
      rintro ⟨z, -⟩
      rw [ih, h, Nat.zero_and] at z
      exact z rfl
theorem goesOn_ok (hA : orN ms N < 2 ^ 12) (hN : N ≤ 756) (hm : ∀ i, ms i < 4096) : ∀ (n : Nat) {M : CT} {k : Nat} {Q : Int32 → CT → Prop}, k ≤ (fsl ms N).length → TRY M ms cd (fsl ms N) → TBL M (famN ms N) (orN ms N) → M.1 0 76 = nI (lst (famN ms N) (orN ms N)) → (∀ j, j < (grT ms N k).2.length → M.1 36 j = nI (cd ((grT ms N k).2.getD j 0))) → lst (famN ms N) (grT ms N k).1 < n →
    (∀ M', (∀ j x, j ≠ 36 → M'.1 j x = M.1 j x) → (∀ j, j < (grS ms (famN ms N) (orN ms N) N).2.length → M'.1 36 j = nI (cd ((grS ms (famN ms N) (orN ms N) N).2.getD j 0))) → Q 1 M') → k_X12_goesOn n M (nI (grT ms N k).2.length) (nI k) (nI (grT ms N k).1) Q := by
  intro n
  induction n with
  | zero => intro M k Q _ _ _ _ _ h; exact absurd h (by omega)
  | succ n ihn =>
    intro M k Q hk t tb r76 rows hl hQ
    have fl := fsl_len (ms := ms) N
    have sub : sbs (grT ms N k).1 (orN ms N) := gr_sub _
    have len : (grT ms N k).2.length + lst (famN ms N) (grT ms N k).1 = lst (famN ms N) (orN ms N) := gr_len _
    obtain ⟨K, K12, K1, K2⟩ := lstB (ms := ms) (N := N) (sbs.refl (orN ms N)) hA
    obtain ⟨m, m12, m1, m2⟩ := lstB sub hA
    have ll : (grT ms N k).1 < 2 ^ 12 := sbs_lt sub hA
    rw [K2, m2] at len
    rw [K2] at r76
    unfold k_X12_goesOn
    by_cases z : (grT ms N k).1 = 0
    · rw [z, if_neg (fun q => q rfl)]
      have e : grS ms (famN ms N) (orN ms N) N = grT ms N k := gr_stop z N (ixT_le k)
      refine hQ M (fun _ _ _ => rfl) ?_
      rw [e]
      exact rows
    · rw [if_pos (show nI _ ≠ 0 from fun y => z ((nI_eq (b := 0) (by omega) (by omega)).mp y))]
      have mp : 1 ≤ m := m1.pos z
      refine upl2 (N := (fsl ms N).length) (a := k) (by omega) (fun k' c => c = M ∧ grT ms N k' = grT ms N k) ?_ ?_ hk ⟨rfl, rfl⟩
      · rintro R k' c h1 h2 ⟨rfl, e⟩ ih
        obtain ⟨i1, i2⟩ := fsl_lt N _ (getD_mem h2)
        have mi := hm ((fsl ms N).getD k' 0)
        have ds : sbs (dif (grT ms N k).1 (ms ((fsl ms N).getD k' 0))) (orN ms N) := (sbs_dif _ _).trans sub
        have dl : dif (grT ms N k).1 (ms ((fsl ms N).getD k' 0)) < 2 ^ 12 := sbs_lt ds hA
        obtain ⟨m', x12, x1, x2⟩ := lstB ds hA
        have low := m1.less ⟨_, i1, rfl, i2⟩ x1
        have e0 : grS ms (famN ms N) (orN ms N) ((fsl ms N).getD k' 0) = grT ms N k := by
          rw [← e]
          unfold grT ixT
          rw [if_pos h2]
        have no : ¬ redS ms (famN ms N) (grT ms N k).1 ((fsl ms N).getD k' 0) → grT ms N (k' + 1) = grT ms N k := fun hn => by
          rw [grT_s hA h2, gr_n (by rw [e0]; exact hn), e0]
        rw [t.1, if_neg (nI_ge h2 (by omega)), r76, if_neg (by rw [nI_le' (by omega) (by omega)]; omega), rdI_n (by omega) (by omega), (t.2 k' h2).1, dif_n (by omega) (by omega), vK_eq, nI_1]
        by_cases q : dif (grT ms N k).1 (ms ((fsl ms N).getD k' 0)) = (grT ms N k).1
        · rw [q, if_pos rfl]
          exact ih _ ⟨rfl, no fun r => r.1 (dif_self_iff.mp q)⟩
        · rw [if_neg (fun y => q ((nI_eq (by omega) (by omega)).mp y)), rdI_n (by omega) (by omega), tb _ (by omega) ds, x2, pk_sub (by omega), li_1, pk_sub (by omega)]
          by_cases y : m' + 1 = m
          · have red : redS ms (famN ms N) (grT ms N k).1 ((fsl ms N).getD k' 0) := ⟨fun y => q (dif_self_iff.mpr y), by rw [x2, m2]; exact y⟩
            have eG : grT ms N (k' + 1) = (dif (grT ms N k).1 (ms ((fsl ms N).getD k' 0)), (grT ms N k).2 ++ [(fsl ms N).getD k' 0]) := by
              rw [grT_s hA h2, gr_y (by rw [e0]; exact red), e0]
            rw [if_pos (nI_le (by omega) (by omega)), rdI_n (by omega) (by omega), (t.2 k' h2).2, wrI_n (by omega) (by omega), nI_add]
            have ih2 := ihn (M := sI c 36 (grT ms N k).2.length (nI (cd ((fsl ms N).getD k' 0)))) (k := k' + 1) (Q := fun t118 c117 => (if t118 = (0 : Int32) then R (nI (k' + 1)) c117 else Q (1 : Int32) c117)) (by omega) ⟨(sI_ne (by omega)).trans t.1, fun j hj => by rw [sI_ne (by omega), sI_ne (by omega)]; exact t.2 j hj⟩ (fun s s1 s2 => (sI_ne (by omega)).trans (tb s s1 s2)) (by rw [sI_ne (by omega), K2]; exact r76) (by
              rw [eG]
              dsimp only
              intro j hj
              rw [List.length_append, List.length_singleton] at hj
              by_cases ej : j = (grT ms N k).2.length
              · subst ej
                rw [sI_same, getD_last]
              · rw [sI_ne (by omega), getD_init (by omega)]
                exact rows j (by omega)) (by rw [eG]; dsimp only; rw [x2]; omega) (fun M' a1 a2 => by
              rw [if_neg (by decide)]
              exact hQ M' (fun j x hj => (a1 j x hj).trans (sI_ne (by omega))) a2)
            rw [eG] at ih2
            dsimp only at ih2
            rw [List.length_append, List.length_singleton] at ih2
            exact ih2
          · rw [if_neg (by rw [nI_le' (by omega) (by omega)]; omega)]
            exact ih _ ⟨rfl, no fun r => y (by have := r.2; rw [x2, m2] at this; exact this)⟩
      · rintro R c ⟨rfl, e⟩
        exfalso
        rw [grT_end] at e
        exact z (by rw [← e]; exact gr_end hA)
end Tbl
/-- what the reference leaves of a front -/
def RF (M c : CT) (V : VW) (l q f tools : Nat) (held : Bool) : Prop := (∀ j k, ¬ (33 ≤ j ∧ j ≤ 36) → ¬ (j = 0 ∧ (k = 73 ∨ k = 76)) → c.1 j k = M.1 j k) ∧ c.1 0 76 = nI (rowS V l q f tools held).length ∧ ∀ j, j < (rowS V l q f tools held).length → c.1 36 j = nI (codeS V f ((rowS V l q f tools held).getD j 0))
theorem cnt_le {P : CT} {V : VW} {l q f : Nat} (T : TLS P.1 V l q) (g : PFro P.1 V f) : cntS V l q f ≤ 756 := by
  have l4 := T.1.1
  have q3 := T.1.2.1
  obtain ⟨-, w, u, p, b, s, hw, -, hp, -, -, ⟨e8, -⟩, -⟩ := g
  rw [← cnt_eq, e8, nv_n (by omega)]
  have : (l + q) * w ≤ 7 * 12 := Nat.mul_le_mul (by omega) (by omega)
  omega
theorem fewestFor_ok {P M : CT} {V : VW} {l q f tools : Nat} {held : Bool} {a3 : Int32} {Q : Int32 → CT → Prop} (hM : PVw M V l q) (T : TLS P.1 V l q) (g : PFro P.1 V f) (hf : f < 5) (ht7 : tools < 128) (h3 : (a3 ≠ 0) ↔ held = true) (hQ : ∀ c, RF M c V l q f tools held → Q (nI (allS V l q f tools held)) c) : k_X12_fewestFor M (nI f) (nI tools) a3 Q := by
  have ml := fun i => ms_lt (l := l) (tools := tools) (held := held) (i := i) g
  have hA : orN (msS V l f tools held) (cntS V l q f) < 2 ^ 12 := or_lt (n := 12) ml _
  have hN := cnt_le T g
  unfold k_X12_fewestFor
  refine gathers_ok hM T g hf ht7 h3 fun s c gr => ?_
  obtain ⟨rfl, g2, g3⟩ := gr
  refine table_ok (cd := codeS V f) hA hN ml g3 fun c2 y1 y2 => ?_
  obtain ⟨K, K12, K1, K2⟩ := lstB (ms := msS V l f tools held) (N := cntS V l q f) (sbs.refl _) hA
  rw [rdI_n (by omega) (by omega), y2 _ (by omega) (sbs.refl _), wrF_eq]
  have go := goesOn_ok (cd := codeS V f) hA hN ml 14 (M := sI c2 0 76 (nI (lst (famN (msS V l f tools held) (cntS V l q f)) (orN (msS V l f tools held) (cntS V l q f))))) (k := 0) (Q := fun _ c33 => Q (nI (allS V l q f tools held)) c33) (by omega) ⟨(sI_ne (by omega)).trans ((y1 0 73 (by omega)).trans g3.1), fun j hj => by rw [sI_ne (by omega), sI_ne (by omega), y1 33 j (by omega), y1 34 j (by omega)]; exact g3.2 j hj⟩ (fun s s1 s2 => (sI_ne (by omega)).trans (y2 s s1 s2)) sI_same (by rw [grT_0 hA]; intro j hj; exact absurd hj (by show ¬ j < 0; omega)) (by rw [grT_0 hA]; dsimp only; rw [K2]; omega) (fun M' a1 a2 => hQ M' ⟨fun j k h1 h2 => ?_, ?_, ?_⟩)
  · rw [grT_0 hA] at go
    exact go
  · rw [a1 j k (by omega), sI_ne (by omega), y1 j k (by omega)]
    exact g2 j k (by omega) (by omega) (by omega)
  · rw [a1 0 76 (by omega), sI_same, rowS_eq, gr_endlen hA]
  · rw [rowS_eq]
    exact a2
