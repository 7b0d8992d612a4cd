/-! ===== class and reference, a day later ===== -/
theorem getD_lt {α : Type} {L : List α} {x : Nat} {d : α} (h : x < L.length) : L.getD x d = L[x] := by
  rw [List.getD_eq_getElem?_getD, List.getElem?_eq_getElem h]
  rfl
theorem map_range_getD {L : List (Nat × Nat)} {g : Nat → Nat × Nat} (h : ∀ x, x < L.length → g x = L.getD x (0, 0)) : (List.range L.length).map g = L := by
  apply List.ext_getElem
  · rw [List.length_map, List.length_range]
  · intro i h1 h2
    rw [List.getElem_map, List.getElem_range, h i h2, getD_lt h2]
theorem CO.day {H P K I M K2 M2 : CT} {l q f m h D n : Nat} {B : VW} {L : List (Nat × Nat)} (g : CO H P K I M l q f m h D n) (hD : D < 200) (gK : KBr K K2 B L h D) (gM : MBr M M2 B L h D) (gd : DI B L h m D) (h1 : ∀ i, i < h → B 1 i = K.1 1 i) : CO H P (sI K2 0 0 (nI (D + 1))) I (sI M2 0 77 (nI (D + 1))) l q f m h (D + 1) n := by
  obtain ⟨⟨tt, g1, g2, g3, g4⟩, g5, g6, ⟨g7, g8, g9, g10⟩, g11, g12⟩ := g
  have h9 := g6.1.1
  obtain ⟨k1, k2, k3, k4, k5⟩ := gK
  obtain ⟨m1, ⟨m2, m3⟩, m4, m5⟩ := gM
  generalize eK : sI K2 0 0 (nI (D + 1)) = K'
  generalize eM : sI M2 0 77 (nI (D + 1)) = M'
  have fr : ∀ j x, RV j x → ¬ (j = 0 ∧ x = 77) → ¬ ((37 ≤ j ∧ j ≤ 44) ∧ x < 10) → ¬ (j = 45 ∧ x < 300) → ¬ (j = 46 ∧ x = D) → ¬ ((j = 47 ∨ j = 48) ∧ 10 * D ≤ x ∧ x < 10 * D + 10) → M'.1 j x = M.1 j x := by
    intro j x r q0 q1 q2 q3 q4
    rw [← eM, sI_ne q0]
    exact m5 j x r q1 q2 q3 q4
  have mo : ∀ j x, ¬ (j = 0 ∧ x = 77) → M'.1 j x = M2.1 j x := fun j x q => by rw [← eM, sI_ne q]
  have ko : ∀ j x, ¬ (j = 0 ∧ x = 0) → K'.1 j x = K2.1 j x := fun j x q => by rw [← eK, sI_ne q]
  have kL : K'.2 = K2.2 := by rw [← eK]; rfl
  have rw0 : ∀ x, (x = 2 ∨ (34 ≤ x ∧ x ≤ 45) ∨ x = 68 ∨ x = 69 ∨ x = 78 ∨ (93 ≤ x ∧ x ≤ 95)) → M'.1 0 x = M.1 0 x := fun x hx => fr 0 x (Or.inl ⟨rfl, by omega⟩) (by omega) (by omega) (by omega) (by omega) (by omega)
  have rwp : ∀ j x, 2 ≤ j → j ≤ 32 → x < half j → M'.1 j x = M.1 j x := fun j x q1 q2 q3 => fr j x (Or.inr (Or.inr (Or.inl ⟨q1, q2, q3⟩))) (by omega) (by omega) (by omega) (by omega) (by omega)
  have rwr : ∀ j x, 37 ≤ j → j ≤ 50 → ¬ ((37 ≤ j ∧ j ≤ 44) ∧ x < 10) → ¬ (j = 45 ∧ x < 300) → ¬ (j = 46 ∧ x = D) → ¬ ((j = 47 ∨ j = 48) ∧ 10 * D ≤ x ∧ x < 10 * D + 10) → M'.1 j x = M.1 j x := fun j x q1 q2 => fr j x (Or.inr (Or.inr (Or.inr (Or.inl ⟨q1, q2⟩)))) (by omega)
  have e1 : M'.1 1 = M.1 1 := funext fun x => fr 1 x (Or.inr (Or.inl rfl)) (by omega) (by omega) (by omega) (by omega) (by omega)
  have hcl : clV M' = clV M := by
    funext j x
    unfold clV
    split
    · rename_i r
      rcases r with ⟨rfl, r⟩ | r
      · exact rw0 x (by omega)
      · exact rwp j x r.1 r.2.1 r.2.2
    · rfl
  have kr : ∀ i j, i < h → 1 ≤ j → j ≤ 8 → K'.1 j i = B j i := fun i j q1 q2 q3 => (ko j i (by omega)).trans (k1 i j q1 q2 q3)
  have mrr : ∀ i j, i < h → 1 ≤ j → j ≤ 8 → M'.1 (mr j) i = B j i := fun i j q1 q2 q3 => by
    have := mr_in ⟨q2, q3⟩
    exact (mo _ i (by omega)).trans (m1 i j q1 q2 q3)
  -- lists of other days
  have dl : ∀ u d, (u = false → d < D) → (u = true → d < D) → (∃ x : Nat, x ≤ 10 ∧ M.1 46 (oD u + d) = nI x) → dayL M' u d = dayL M u d ∧ M'.1 46 (oD u + d) = M.1 46 (oD u + d) ∧ ∀ x, x < 10 → M'.1 47 (oH u + 10 * d + x) = M.1 47 (oH u + 10 * d + x) ∧ M'.1 48 (oH u + 10 * d + x) = M.1 48 (oH u + 10 * d + x) := by
    intro u d q1 q2 ⟨x, hx, ex⟩
    have hod : ¬ (oD u + d = D) := by
      cases u with
      | false => have := q1 rfl; show ¬ 0 + d = D; omega
      | true => show ¬ 200 + d = D; omega
    have hoh : ∀ y, y < 10 → ¬ (10 * D ≤ oH u + 10 * d + y ∧ oH u + 10 * d + y < 10 * D + 10) := by
      intro y hy
      cases u with
      | false => have := q1 rfl; show ¬ (10 * D ≤ 0 + 10 * d + y ∧ 0 + 10 * d + y < 10 * D + 10); omega
      | true => show ¬ (10 * D ≤ 2000 + 10 * d + y ∧ 2000 + 10 * d + y < 10 * D + 10); omega
    have a1 := rwr 46 (oD u + d) (by omega) (by omega) (by omega) (by omega) (by omega) (by omega)
    have a2 : ∀ y, y < 10 → M'.1 47 (oH u + 10 * d + y) = M.1 47 (oH u + 10 * d + y) ∧ M'.1 48 (oH u + 10 * d + y) = M.1 48 (oH u + 10 * d + y) := fun y hy => ⟨rwr 47 _ (by omega) (by omega) (by omega) (by omega) (by omega) (fun z => hoh y hy z.2), rwr 48 _ (by omega) (by omega) (by omega) (by omega) (by omega) (fun z => hoh y hy z.2)⟩
    refine ⟨?_, a1, a2⟩
    unfold dayL
    rw [a1]
    refine List.map_congr_left fun y hy => ?_
    rw [List.mem_range, ex, nv_n (by omega)] at hy
    rw [(a2 y (by omega)).1, (a2 y (by omega)).2]
  have dD : dayL M' false D = L := by
    unfold dayL
    have hl := gd.len
    rw [show oD false + D = D from Nat.zero_add D, mo 46 D (by omega), m2, nv_n (by omega)]
    refine map_range_getD fun x hx => ?_
    have q := gd.2.1 (L.getD x (0, 0)) (by rw [getD_lt hx]; exact List.getElem_mem hx)
    rw [show oH false + 10 * D + x = 10 * D + x by show 0 + 10 * D + x = _; omega, mo 47 _ (by omega), mo 48 _ (by omega), (m3 x hx).1, (m3 x hx).2, nv_n (by omega), nv_n (by omega)]
  refine ⟨⟨tt, g1, g2, by rw [rw0 2 (by omega)]; exact g3, by rw [e1]; exact g4⟩, by rw [rw0 68 (by omega), rw0 69 (by omega)]; exact g5, g6.mv (fun x q1 q2 => rw0 x (by omega)) rwp, ⟨?_, by rw [← eM, sI_same], by rw [rw0 78 (by omega)]; exact g9, fun i hi => ?_⟩, ?_, fun i hi => ?_⟩
  · obtain ⟨⟨b1, b2, b3, b4⟩, b5, b6, b7, b8, b9⟩ := g7
    refine ⟨⟨by omega, b2, by rw [← eK, sI_same], by rw [ko 0 1 (by omega), k4 0 1 (Or.inl rfl) (by omega)]; exact b4⟩, fun i hi => ?_, fun d hd => ?_, fun i hi => ?_, fun i hi => ?_, fun i hi hne => ?_⟩
    · obtain ⟨⟨a, ha, ea⟩, ⟨d, t, p, q1, q2, q3, q4, q5, q6⟩, z6⟩ := gd.1 i hi
      unfold BHou
      rw [show oT false + i = i from Nat.zero_add i, kr i 1 hi (by omega) (by omega), kr i 2 hi (by omega) (by omega), kr i 3 hi (by omega) (by omega), kr i 4 hi (by omega) (by omega), kr i 5 hi (by omega) (by omega), kr i 6 hi (by omega) (by omega), kr i 7 hi (by omega) (by omega), kr i 8 hi (by omega) (by omega)]
      exact ⟨⟨(mrr i 1 hi (by omega) (by omega)).symm, a, ha, ea⟩, ⟨(mrr i 2 hi (by omega) (by omega)).symm, (mrr i 3 hi (by omega) (by omega)).symm, d, t, p, q1, q2, q3, q4, q5, q6⟩, (mrr i 4 hi (by omega) (by omega)).symm, (mrr i 5 hi (by omega) (by omega)).symm, ⟨(mrr i 6 hi (by omega) (by omega)).symm, z6⟩, (mrr i 7 hi (by omega) (by omega)).symm, (mrr i 8 hi (by omega) (by omega)).symm⟩
    · by_cases e : d = D
      · subst e
        have hl := gd.len
        refine ⟨⟨L.length, by omega, by rw [show oD false + d = d from Nat.zero_add d, mo 46 d (by omega)]; exact m2, fun x hx => ?_⟩, ?_, ?_, fun b hb => ?_⟩
        · have q := gd.2.1 (L.getD x (0, 0)) (by rw [getD_lt hx]; exact List.getElem_mem hx)
          refine ⟨_, _, q.1, q.2, ?_, ?_⟩
          · rw [show oH false + 10 * d + x = 10 * d + x by show 0 + 10 * d + x = _; omega, mo 47 _ (by omega)]
            exact (m3 x hx).1
          · rw [show oH false + 10 * d + x = 10 * d + x by show 0 + 10 * d + x = _; omega, mo 48 _ (by omega)]
            exact (m3 x hx).2
        · rw [dD]; exact gd.2.2.1
        · rw [dD, ko 9 d (by omega)]; exact k2
        · rw [dD, kL]; exact k3 b hb
      · obtain ⟨⟨x, hx, ex, gx⟩, c2, c3, c4⟩ := b6 d (by omega)
        obtain ⟨d1, d2, d3⟩ := dl false d (fun _ => by omega) (fun z => Bool.noConfusion z) ⟨x, hx, ex⟩
        refine ⟨⟨x, hx, d2.trans ex, fun y hy => ?_⟩, by rw [d1]; exact c2, by rw [d1, ko 9 d (by omega), k4 9 d (Or.inr (by omega)) (by omega)]; exact c3, fun b hb => ?_⟩
        · rw [(d3 y (by omega)).1, (d3 y (by omega)).2]
          exact gx y hy
        · rw [d1, kL, k5 10 _ (by omega)]
          exact c4 b hb
    · obtain ⟨w1, w2⟩ := b7 i hi
      obtain ⟨-, ⟨d, t, p, q1, q2, q3, q4, q5, q6⟩, -⟩ := gd.1 i hi
      obtain ⟨-, ⟨-, e3, dd, t0, pp, s1, s2, s3, s4, s5, s6⟩, -⟩ := b5 i hi
      rw [show oT false + i = i from Nat.zero_add i] at e3
      have hwl : (wipL M false D i).length = t0 := by
        have hl : (wipL M false D i).length ≤ D := by
          unfold wipL
          exact Nat.le_trans (List.length_filter_le _ _) (by rw [List.length_range]; exact Nat.le_refl _)
        rw [s5] at w1
        exact ((nI_eq (by omega) (by omega)).mp w1).symm
      obtain ⟨x1, x2, x3⟩ := m4 i t0 hi (e3.symm.trans s5) (by omega)
      have hw : wipL M' false (D + 1) i = wipL M false D i ++ (if i ∈ L.map Prod.fst then [D] else []) := by
        unfold wipL
        rw [List.range_succ, List.filter_append]
        congr 1
        · refine List.filter_congr fun d hd => ?_
          rw [List.mem_range] at hd
          obtain ⟨⟨x, hx, ex, -⟩, -⟩ := b6 d hd
          rw [(dl false d (fun _ => hd) (fun z => Bool.noConfusion z) ⟨x, hx, ex⟩).1]
        · rw [List.filter_cons, List.filter_nil, dD]
          by_cases e : i ∈ L.map Prod.fst
          · rw [if_pos e, if_pos (by simpa using e)]
          · rw [if_neg e, if_neg (by simpa using e)]
      rw [hw, kr i 3 hi (by omega) (by omega)]
      have b3 : B 3 i = M2.1 38 i := (m1 i 3 hi (by omega) (by omega)).symm
      rw [b3]
      by_cases e : i ∈ L.map Prod.fst
      · rw [if_pos e, List.length_append, hwl, List.length_singleton]
        refine ⟨(x2 e).1, fun x hx => ?_⟩
        rw [show oW false + 30 * i + x = 30 * i + x by show 0 + 30 * i + x = _; omega, mo 45 _ (by omega)]
        by_cases ex : x = t0
        · rw [ex, (x2 e).2, List.getD_eq_getElem?_getD, List.getElem?_append_right (by omega), hwl, Nat.sub_self]
          rfl
        · rw [x1 x (by omega), List.getD_eq_getElem?_getD, List.getElem?_append_left (by omega), ← List.getD_eq_getElem?_getD]
          have := w2 x (by omega)
          rw [show oW false + 30 * i + x = 30 * i + x by show 0 + 30 * i + x = _; omega] at this
          exact this
      · rw [if_neg e, List.append_nil, hwl]
        refine ⟨x3 e, fun x hx => ?_⟩
        have := w2 x (by omega)
        rw [show oW false + 30 * i + x = 30 * i + x by show 0 + 30 * i + x = _; omega] at this ⊢
        rw [mo 45 _ (by omega), x1 x hx]
        exact this
    · have := b8 i hi
      rw [ko 11 i (by omega), ko 12 i (by omega), ko 13 i (by omega), k4 11 i (by omega) (by omega), k4 12 i (by omega) (by omega), k4 13 i (by omega) (by omega), rwr 49 _ (by omega) (by omega) (by omega) (by omega) (by omega) (by omega), rwr 50 _ (by omega) (by omega) (by omega) (by omega) (by omega) (by omega)]
      exact this
    · rw [rwr 49 _ (by omega) (by omega) (by omega) (by omega) (by omega) (by omega)] at hne
      rw [rwr 50 _ (by omega) (by omega) (by omega) (by omega) (by omega) (by omega)]
      exact b9 i hi hne
  · have e44 : M'.1 44 i = B 1 i := mrr i 1 hi (by omega) (by omega)
    have k1i : K.1 1 i = M.1 44 i := by
      have := (g7.2.1 i hi).1.1
      rw [show oT false + i = i from Nat.zero_add i] at this
      exact this
    rw [e44, h1 i hi, k1i, rwp 21 i (by omega) (by omega) (show i < 10 by omega)]
    exact g10 i hi
  · rw [rw0 93 (by omega), rw0 94 (by omega), rw0 95 (by omega)]
    rcases g11 with g | ⟨a, b, D', n', c1, c2, ⟨b1, b5, b6, b7, b8, b9⟩, c4⟩
    · exact Or.inl g
    · refine Or.inr ⟨a, b, D', n', by omega, c2, ⟨b1, fun i hi => ?_, fun d hd => ?_, fun i hi => ?_, fun i hi => ?_, fun i hi hne => ?_⟩, c4⟩
      · have := b5 i hi
        unfold BHou at this ⊢
        rw [show oT true + i = 10 + i from rfl] at this ⊢
        rw [rwr 44 _ (by omega) (by omega) (by omega) (by omega) (by omega) (by omega), rwr 37 _ (by omega) (by omega) (by omega) (by omega) (by omega) (by omega), rwr 38 _ (by omega) (by omega) (by omega) (by omega) (by omega) (by omega), rwr 39 _ (by omega) (by omega) (by omega) (by omega) (by omega) (by omega), rwr 40 _ (by omega) (by omega) (by omega) (by omega) (by omega) (by omega), rwr 41 _ (by omega) (by omega) (by omega) (by omega) (by omega) (by omega), rwr 42 _ (by omega) (by omega) (by omega) (by omega) (by omega) (by omega), rwr 43 _ (by omega) (by omega) (by omega) (by omega) (by omega) (by omega)]
        exact this
      · obtain ⟨⟨x, hx, ex, gx⟩, c2, c3, c4⟩ := b6 d hd
        obtain ⟨d1, d2, d3⟩ := dl true d (fun z => Bool.noConfusion z) (fun _ => by omega) ⟨x, hx, ex⟩
        refine ⟨⟨x, hx, d2.trans ex, fun y hy => ?_⟩, by rw [d1]; exact c2, by rw [d1, ko 9 d (by omega), k4 9 d (Or.inr (by omega)) (by omega)]; exact c3, fun b hb => ?_⟩
        · rw [(d3 y (by omega)).1, (d3 y (by omega)).2]
          exact gx y hy
        · rw [d1, kL, k5 10 _ (by omega)]
          exact c4 b hb
      · have hw : wipL M' true D' i = wipL M true D' i := by
          unfold wipL
          refine List.filter_congr fun d hd => ?_
          rw [List.mem_range] at hd
          obtain ⟨⟨x, hx, ex, -⟩, -⟩ := b6 d hd
          rw [(dl true d (fun z => Bool.noConfusion z) (fun _ => by omega) ⟨x, hx, ex⟩).1]
        rw [hw]
        refine ⟨(b7 i hi).1, fun x hx => ?_⟩
        have := (b7 i hi).2 x hx
        rw [show oW true + 30 * i + x = 300 + 30 * i + x from rfl] at this ⊢
        rw [rwr 45 _ (by omega) (by omega) (by omega) (by omega) (by omega) (by omega)]
        exact this
      · have := b8 i hi
        rw [ko 11 i (by omega), ko 12 i (by omega), ko 13 i (by omega), k4 11 i (by omega) (by omega), k4 12 i (by omega) (by omega), k4 13 i (by omega) (by omega), rwr 49 _ (by omega) (by omega) (by omega) (by omega) (by omega) (by omega), rwr 50 _ (by omega) (by omega) (by omega) (by omega) (by omega) (by omega)]
        exact this
      · rw [rwr 49 _ (by omega) (by omega) (by omega) (by omega) (by omega) (by omega)] at hne
        rw [rwr 50 _ (by omega) (by omega) (by omega) (by omega) (by omega) (by omega)]
        exact b9 i hi hne
  · rw [fr 52 i (Or.inr (Or.inr (Or.inr (Or.inr rfl)))) (by omega) (by omega) (by omega) (by omega) (by omega), hcl]
    exact g12 i hi
