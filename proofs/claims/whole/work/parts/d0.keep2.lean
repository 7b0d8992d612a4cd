/-! ===== keep and back: both sides agree ===== -/
def ofs (u : Bool) (j : Nat) : Nat := if u = true then hfN j else 0
theorem ofs_T (u : Bool) : oT u = ofs u 44 ∧ oT u = ofs u 37 ∧ oT u = ofs u 38 ∧ oT u = ofs u 39 ∧ oT u = ofs u 40 ∧ oT u = ofs u 41 ∧ oT u = ofs u 42 ∧ oT u = ofs u 43 := by cases u <;> decide
theorem ofs_D (u : Bool) : oD u = ofs u 46 ∧ oH u = ofs u 47 ∧ oH u = ofs u 48 ∧ oW u = ofs u 45 ∧ oN u = ofs u 49 ∧ oN u = ofs u 50 := by cases u <;> decide
theorem BRel.sh {B : VW} {K M M' : CT} {u u' : Bool} {m h D n : Nat} (g : BRel B K M u m h D n) (h9 : h ≤ 10) (e : ∀ j k, 37 ≤ j → j ≤ 50 → k < hfN j → M'.1 j (ofs u' j + k) = M.1 j (ofs u j + k)) : BRel B K M' u' m h D n := by
  obtain ⟨⟨g1, g1', g1a, g1b⟩, g2, g3, g4, g5, g6⟩ := g
  obtain ⟨a44, a37, a38, a39, a40, a41, a42, a43⟩ := ofs_T u
  obtain ⟨b44, b37, b38, b39, b40, b41, b42, b43⟩ := ofs_T u'
  obtain ⟨a46, a47, a48, a45, a49, a50⟩ := ofs_D u
  obtain ⟨b46, b47, b48, b45, b49, b50⟩ := ofs_D u'
  have e46 : ∀ d, d < 200 → M'.1 46 (oD u' + d) = M.1 46 (oD u + d) := fun d hd => by rw [a46, b46]; exact e 46 d (by omega) (by omega) (show d < 200 from hd)
  have e47 : ∀ d k, d < 200 → k < 10 → M'.1 47 (oH u' + 10 * d + k) = M.1 47 (oH u + 10 * d + k) ∧ M'.1 48 (oH u' + 10 * d + k) = M.1 48 (oH u + 10 * d + k) := fun d k hd hk => by
    have x1 := e 47 (10 * d + k) (by omega) (by omega) (show 10 * d + k < 2000 by omega)
    have x2 := e 48 (10 * d + k) (by omega) (by omega) (show 10 * d + k < 2000 by omega)
    rw [← a47, ← b47, ← Nat.add_assoc, ← Nat.add_assoc] at x1
    rw [← a48, ← b48, ← Nat.add_assoc, ← Nat.add_assoc] at x2
    exact ⟨x1, x2⟩
  have dl : ∀ d, d < D → dayL M' u' d = dayL M u d := fun d hd => by
    obtain ⟨⟨nn, n1, n2, -⟩, -⟩ := g3 d hd
    unfold dayL
    rw [e46 d (by omega), n2, nv_n (by omega)]
    refine List.map_congr_left fun k hk => ?_
    have hk := List.mem_range.mp hk
    rw [(e47 d k (by omega) (by omega)).1, (e47 d k (by omega) (by omega)).2]
  have wl : ∀ i, wipL M' u' D i = wipL M u D i := fun i => by
    unfold wipL
    refine List.filter_congr fun d hd => ?_
    rw [dl d (List.mem_range.mp hd)]
  refine ⟨⟨g1, g1', g1a, g1b⟩, fun i hi => ?_, fun d hd => ?_, fun i hi => ?_, fun i hi => ?_, fun i hi hn => ?_⟩
  · have b := g2 i hi
    unfold BHou at *
    have x := fun j (h1 : 37 ≤ j) (h2 : j ≤ 44) => e j i h1 (by omega) (by show i < hfN j; unfold hfN; rw [if_pos h2]; omega)
    have y44 := x 44 (by omega) (by omega)
    have y37 := x 37 (by omega) (by omega)
    have y38 := x 38 (by omega) (by omega)
    have y39 := x 39 (by omega) (by omega)
    have y40 := x 40 (by omega) (by omega)
    have y41 := x 41 (by omega) (by omega)
    have y42 := x 42 (by omega) (by omega)
    have y43 := x 43 (by omega) (by omega)
    rw [← a44, ← b44] at y44
    rw [← a37, ← b37] at y37
    rw [← a38, ← b38] at y38
    rw [← a39, ← b39] at y39
    rw [← a40, ← b40] at y40
    rw [← a41, ← b41] at y41
    rw [← a42, ← b42] at y42
    rw [← a43, ← b43] at y43
    rw [y44, y37, y38, y39, y40, y41, y42, y43]
    exact b
  · have b := g3 d hd
    unfold BDay at *
    rw [dl d hd, e46 d (by omega)]
    obtain ⟨⟨nn, n1, n2, n3⟩, n4⟩ := b
    refine ⟨⟨nn, n1, n2, fun k hk => ?_⟩, n4⟩
    rw [(e47 d k (by omega) (by omega)).1, (e47 d k (by omega) (by omega)).2]
    exact n3 k hk
  · rw [wl]
    refine ⟨(g4 i hi).1, fun k hk => ?_⟩
    have t29 : (wipL M u D i).length ≤ 29 := by
      obtain ⟨-, ⟨-, -, d, t, p, -, ⟨-, t9⟩, -, -, b3, -⟩, -⟩ := g2 i hi
      have x := (g4 i hi).1
      rw [b3] at x
      have wle : (wipL M u D i).length ≤ 200 := by
        unfold wipL
        have := List.length_filter_le (fun d => decide (i ∈ (dayL M u d).map Prod.fst)) (List.range D)
        rw [List.length_range] at this
        omega
      have := (nI_eq (by omega) (by omega)).mp x
      omega
    have x := e 45 (30 * i + k) (by omega) (by omega) (show 30 * i + k < 300 by omega)
    rw [← a45, ← b45, ← Nat.add_assoc, ← Nat.add_assoc] at x
    rw [x]
    exact (g4 i hi).2 k hk
  · have x1 := e 49 i (by omega) (by omega) (show i < 60 by omega)
    have x2 := e 50 i (by omega) (by omega) (show i < 60 by omega)
    rw [← a49, ← b49] at x1
    rw [← a50, ← b50] at x2
    rw [x1, x2]
    exact g5 i hi
  · have x1 := e 49 i (by omega) (by omega) (show i < 60 by omega)
    have x2 := e 50 i (by omega) (by omega) (show i < 60 by omega)
    rw [← a49, ← b49] at x1
    rw [← a50, ← b50] at x2
    rw [x1] at hn
    rw [x2]
    exact g6 i hi hn
section Kp
variable {H P K I M T F : CT} {l q f m h D n : Nat}
theorem g_keep (g : CO H P K I M l q f m h D n) (hF : FOK F (clV M) l q f) : k_X11_keep H K I fun x H' I' => k_X12_keep M fun y M' => x = y ∧ CO H' P K I' M' l q f m h D n ∧ clV M' = clV M ∧ (∀ x, M'.1 44 x = M.1 44 x ∨ 10 ≤ x) ∧ H' = sI H 0 7 1 := by
  have h9 := g.2.2.1.1.1.2.2.2.2
  obtain ⟨⟨t, g1, g2, g3, g4⟩, g5, g6, ⟨g7, g8, g9, g10⟩, g11, g12⟩ := g
  unfold k_X11_keep
  rw [jn_eq]
  refine copyIK_ok h9 (fun k hk => (g7.2.1 k hk).2.2.2.2.1.2) fun I' cp => ?_
  rw [wrF_eq]
  unfold k_X12_keep
  try dsimp only
  rw [wrF_eq]
  refine all0 fun c uc => ?_
  rw [wrF_eq, wrF_eq, wrF_eq]
  obtain ⟨u1, u2⟩ := uc
  have at_ : ∀ j k, ¬ (37 ≤ j ∧ j ≤ 50) → ¬ (j = 0 ∧ (k = 0 ∨ (93 ≤ k ∧ k ≤ 95))) → (sI (sI (sI c 0 93 1) 0 94 ((sI c 0 93 1).1 0 77)) 0 95 ((sI (sI c 0 93 1) 0 94 ((sI c 0 93 1).1 0 77)).1 0 78)).1 j k = M.1 j k := fun j k h1 h2 => by
    rw [sI_ne (by omega), sI_ne (by omega), sI_ne (by omega), u1 j k (by omega), sI_ne (by omega)]
  have up : ∀ j k, 37 ≤ j → j ≤ 50 → k < hfN j → (sI (sI (sI c 0 93 1) 0 94 ((sI c 0 93 1).1 0 77)) 0 95 ((sI (sI c 0 93 1) 0 94 ((sI c 0 93 1).1 0 77)).1 0 78)).1 j k = M.1 j k ∧ (sI (sI (sI c 0 93 1) 0 94 ((sI c 0 93 1).1 0 77)) 0 95 ((sI (sI c 0 93 1) 0 94 ((sI c 0 93 1).1 0 77)).1 0 78)).1 j (hfN j + k) = M.1 j k := fun j k h1 h2 h3 => by
    obtain ⟨a, b⟩ := u2 j k h1 (by omega) h3
    constructor
    · rw [sI_ne (by omega), sI_ne (by omega), sI_ne (by omega), a, sI_ne (by omega)]
    · rw [sI_ne (by omega), sI_ne (by omega), sI_ne (by omega), b, sI_ne (by omega)]
  have c77 : (sI c 0 93 1).1 0 77 = nI D := by rw [sI_ne (by omega), u1 0 77 (by omega), sI_ne (by omega)]; exact g8
  have c78 : ∀ x, (sI (sI c 0 93 1) 0 94 x).1 0 78 = nI n := fun x => by rw [sI_ne (by omega), sI_ne (by omega), u1 0 78 (by omega), sI_ne (by omega)]; exact g9
  generalize hM' : sI (sI (sI c 0 93 1) 0 94 ((sI c 0 93 1).1 0 77)) 0 95 ((sI (sI c 0 93 1) 0 94 ((sI c 0 93 1).1 0 77)).1 0 78) = M' at at_ up
  have cl : clV M' = clV M := by
    funext j k
    unfold clV
    split
    · exact at_ j k (by omega) (by omega)
    · rfl
  refine ⟨?_, ⟨⟨t, g1, (sI_ne (by omega)).trans g2, (at_ 0 2 (by omega) (by omega)).trans g3, ?_⟩, ⟨(sI_ne (by omega)).trans (g5.1.trans (at_ 0 68 (by omega) (by omega)).symm), (sI_ne (by omega)).trans (g5.2.trans (at_ 0 69 (by omega) (by omega)).symm)⟩, g6.mv (fun k h1 h2 => at_ 0 k (by omega) (by omega)) (fun j k h1 h2 hk => at_ j k (by omega) (by omega)), ⟨?_, (at_ 0 77 (by omega) (by omega)).trans g8, (at_ 0 78 (by omega) (by omega)).trans g9, fun i hi => ?_⟩, Or.inr ⟨sI_same, ?_, D, n, Nat.le_refl _, Nat.le_refl _, ?_, ?_, ?_⟩, fun i hi => ?_⟩, cl, fun x => ?_, rfl⟩
  · rw [g7.1.2.2.1, at_ 0 77 (by omega) (by omega), g8]
  · have e1 : M'.1 1 = M.1 1 := by
      funext k
      exact at_ 1 k (by omega) (by omega)
    have e2 : (sI H 0 7 1).1 1 = H.1 1 := by
      funext k
      exact sI_ne (by omega)
    rw [e1, e2]
    exact g4
  · exact g7.sh h9 fun j k h1 h2 h3 => by
      show M'.1 j (0 + k) = M.1 j (0 + k)
      rw [Nat.zero_add]
      exact (up j k h1 h2 h3).1
  · rw [at_ 21 i (by omega) (by omega), (up 44 i (by omega) (by omega) (show i < 10 by omega)).1]
    exact g10 i hi
  · rw [← hM', sI_ne (by omega), sI_ne (by omega), sI_same]
  · exact BRel.mvB (g7.sh (u' := true) h9 fun j k h1 h2 h3 => by
      show M'.1 j (hfN j + k) = M.1 j (0 + k)
      rw [Nat.zero_add]
      exact (up j k h1 h2 h3).2) (fun k hk => cp.1 k hk) (fun j i h1 h2 h3 => cp.2.1 j i h1 h2 h3) (fun _ _ => rfl) (fun _ _ _ _ => rfl) (fun _ _ _ _ _ => rfl)
  · rw [← hM', sI_ne (by omega), sI_same]
    exact c77
  · rw [← hM', sI_same]
    exact c78 _
  · rw [at_ 52 i (by omega) (by omega), cl]
    exact g12 i hi
  · by_cases hx : x < 10
    · exact Or.inl (up 44 x (by omega) (by omega) hx).1
    · exact Or.inr (by omega)
theorem g_back (g : CO H P K I M l q f m h D n) (hF : FOK F (clV M) l q f) : k_X11_back H K T I fun x K' T' => k_X12_back M fun y M' => x = y ∧ (∃ D' n', CO H P K' I M' l q f m h D' n') ∧ FOK F (clV M') l q f ∧ (∀ j k, j ≠ 21 → clV M' j k = clV M j k) ∧ ((T' = T ∧ MA M M' ∧ K' = K) ∨ T' = sI T 0 10 (-1)) := by
  have h9 := g.2.2.1.1.1.2.2.2.2
  have v38 := g.2.2.1.1.2.2.2.2.2.2
  have g0 := g
  obtain ⟨⟨t, g1, g2, g3, g4⟩, g5, g6, ⟨g7, g8, g9, g10⟩, g11, g12⟩ := g
  unfold k_X11_back
  rcases g11 with ⟨z1, z2⟩ | ⟨z1, z2, D', n', c1, c2, c3, c4, c5⟩
  · rw [if_pos z1]
    unfold k_X12_back
    try dsimp only
    rw [wrF_eq, th_at (by omega), z2, if_neg (fun z => z rfl)]
    exact ⟨rfl, ⟨D, n, g0.mv MA.th⟩, by rw [clV.mv MA.th]; exact hF, fun j k _ => by rw [clV.mv MA.th], Or.inl ⟨rfl, MA.th, rfl⟩⟩
  · rw [z1, if_neg (by decide)]
    refine copyKI_ok h9 (fun k hk => (c3.2.1 k hk).2.2.2.2.1.2) fun K' cp => ?_
    unfold k_X11_walker k_X9_forgetSwap
    rw [wrF_eq]
    unfold k_X12_back
    try dsimp only
    rw [wrF_eq, th_at (by omega), z2, if_pos (by decide)]
    refine all1 fun c uc => ?_
    rw [wrF_eq, wrF_eq]
    obtain ⟨u1, u2⟩ := uc
    have c94 : c.1 0 94 = nI D' := by rw [u1 0 94 (by omega), sI_ne (by omega)]; exact c4
    have c95 : ∀ x, (sI c 0 77 x).1 0 95 = nI n' := fun x => by rw [sI_ne (by omega), u1 0 95 (by omega), sI_ne (by omega)]; exact c5
    rw [c94, c95]
    have at_ : ∀ j k, ¬ (37 ≤ j ∧ j ≤ 50) → ¬ (j = 0 ∧ (k = 0 ∨ (77 ≤ k ∧ k ≤ 78))) → (sI (sI c 0 77 (nI D')) 0 78 (nI n')).1 j k = M.1 j k := fun j k h1 h2 => by
      rw [sI_ne (by omega), sI_ne (by omega), u1 j k (by omega), sI_ne (by omega)]
    have up : ∀ j k, 37 ≤ j → j ≤ 50 → k < hfN j → (sI (sI c 0 77 (nI D')) 0 78 (nI n')).1 j k = M.1 j (hfN j + k) ∧ (sI (sI c 0 77 (nI D')) 0 78 (nI n')).1 j (hfN j + k) = M.1 j (hfN j + k) := fun j k h1 h2 h3 => by
      obtain ⟨a, b⟩ := u2 j k h1 (by omega) h3
      constructor
      · rw [sI_ne (by omega), sI_ne (by omega), a, sI_ne (by omega)]
      · rw [sI_ne (by omega), sI_ne (by omega), b, sI_ne (by omega)]
    have q77 : (sI (sI c 0 77 (nI D')) 0 78 (nI n')).1 0 77 = nI D' := by rw [sI_ne (by omega), sI_same]
    have q78 : (sI (sI c 0 77 (nI D')) 0 78 (nI n')).1 0 78 = nI n' := sI_same
    generalize sI (sI c 0 77 (nI D')) 0 78 (nI n') = N at at_ up q77 q78
    refine upl2 (N := h) (a := 0) (by omega) (fun i c' => (∀ j k, j ≠ 21 → c'.1 j k = N.1 j k) ∧ ∀ k, k < i → c'.1 21 k = N.1 44 k) ?_ ?_ (by omega) ⟨fun _ _ _ => rfl, fun k hk => absurd hk (by omega)⟩
    · rintro R i c' - hi ⟨d1, d2⟩ ih
      rw [d1 0 38 (by omega), at_ 0 38 (by omega) (by omega), v38, if_neg (nI_ge hi (by omega)), rdI_n (by omega) (by omega), d1 44 i (by omega), wrI_n (by omega) (by omega), nI_1]
      refine ih _ ⟨fun j k hj => (sI_ne (by omega)).trans (d1 j k hj), fun k hk => ?_⟩
      by_cases e : k = i
      · subst e
        rw [sI_same]
      · rw [sI_ne (by omega)]
        exact d2 k (by omega)
    · rintro R c' ⟨d1, d2⟩
      rw [d1 0 38 (by omega), at_ 0 38 (by omega) (by omega), v38, if_pos (Int32.le_refl _)]
      have bt : ∀ j k, j ≠ 21 → ¬ (37 ≤ j ∧ j ≤ 50) → ¬ (j = 0 ∧ (k = 0 ∨ (77 ≤ k ∧ k ≤ 78))) → c'.1 j k = M.1 j k := fun j k h1 h2 h3 => (d1 j k h1).trans (at_ j k h2 h3)
      have cl : ∀ j k, j ≠ 21 → clV c' j k = clV M j k := fun j k hj => by
        unfold clV
        split
        · exact bt j k hj (by omega) (by omega)
        · rfl
      refine ⟨?_, ⟨D', n', ⟨t, g1, g2, (bt 0 2 (by omega) (by omega) (by omega)).trans g3, ?_⟩, ⟨g5.1.trans (bt 0 68 (by omega) (by omega) (by omega)).symm, g5.2.trans (bt 0 69 (by omega) (by omega) (by omega)).symm⟩, g6.mv2 (fun k h1 h2 => bt 0 k (by omega) (by omega) (by omega)) (fun j k h1 h2 h3 hk => bt j k h3 (by omega) (by omega)), ⟨?_, (d1 0 77 (by omega)).trans q77, (d1 0 78 (by omega)).trans q78, fun i hi => ?_⟩, Or.inr ⟨z1, (bt 0 93 (by omega) (by omega) (by omega)).trans z2, D', n', Nat.le_refl _, Nat.le_refl _, ?_, (bt 0 94 (by omega) (by omega) (by omega)).trans c4, (bt 0 95 (by omega) (by omega) (by omega)).trans c5⟩, fun i hi => ?_⟩, hF.cg cl, cl, Or.inr rfl⟩
      · rw [cp.1 0 (by omega), c3.1.2.2.1, d1 0 77 (by omega), q77]
      · have e1 : c'.1 1 = M.1 1 := by
          funext k
          exact bt 1 k (by omega) (by omega) (by omega)
        rw [e1]
        exact g4
      · exact BRel.mvB (K := K) (c3.sh (u' := false) h9 fun j k h1 h2 h3 => by
          show c'.1 j (0 + k) = M.1 j (hfN j + k)
          rw [Nat.zero_add, d1 j k (by omega)]
          exact (up j k h1 h2 h3).1) (fun k hk => cp.1 k hk) (fun j i h1 h2 h3 => cp.2.1 j i h1 h2 h3) (fun d hd => cp.2.2.1 9 d (by omega)) (fun d b hd hb => by rw [cp.2.2.2]) (fun j i h1 h2 h3 => cp.2.2.1 j i (by omega))
      · rw [d2 i hi, d1 44 i (by omega)]
      · exact BRel.mvB (K := K) (c3.sh (u' := true) h9 fun j k h1 h2 h3 => by
          show c'.1 j (hfN j + k) = M.1 j (hfN j + k)
          rw [d1 j _ (by omega)]
          exact (up j k h1 h2 h3).2) (fun _ _ => rfl) (fun _ _ _ _ _ => rfl) (fun d hd => cp.2.2.1 9 d (by omega)) (fun d b hd hb => by rw [cp.2.2.2]) (fun j i h1 h2 h3 => cp.2.2.1 j i (by omega))
      · rw [bt 52 i (by omega) (by omega) (by omega), minS_cg cl]
        exact g12 i hi
end Kp
