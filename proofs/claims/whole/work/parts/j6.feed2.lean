/-! ===== feed on both sides ===== -/
theorem rem4 : ∀ i : Fin 20, nI i.val - nI i.val / 4 * 4 = nI (i.val % 4) ∧ (((24 : Int32) - ((8 : Int32) * nI (i.val % 4))) &&& 31) = (nI (24 - 8 * (i.val % 4)) &&& 31) := by decide
section Feed2
variable {H P K I M : CT} {l q f m h D n t : Nat} {a1 a2 a3 a4 a5 : Int32}
/-- the tape alone grew -/
theorem CO.fd {H' M' : CT} (g : CO H P K I M l q f m h D n) (e : ∀ j k, RV j k → ¬ (j = 0 ∧ k = 2) → j ≠ 1 → M'.1 j k = M.1 j k) (tp : ∃ t : Nat, t ≤ 900 ∧ H'.1 0 1 = nI t ∧ M'.1 0 2 = nI t ∧ TR (H'.1 1) (M'.1 1) t) (h7 : ∀ k, k = 7 ∨ k = 11 ∨ k = 12 → H'.1 0 k = H.1 0 k) : CO H' P K I M' l q f m h D n ∧ clV M' = clV M := by
  obtain ⟨-, ⟨g4, g5⟩, g6, ⟨g7, g8, g9, g10⟩, g11, g12⟩ := g
  have b := g6.1.1
  have at0 : ∀ k, (34 ≤ k ∧ k ≤ 45) ∨ k = 68 ∨ k = 69 ∨ k = 77 ∨ k = 78 ∨ (93 ≤ k ∧ k ≤ 95) → M'.1 0 k = M.1 0 k := fun k hk => e 0 k (Or.inl ⟨rfl, by omega⟩) (by omega) (by omega)
  have low : ∀ j k, 2 ≤ j → j ≤ 32 → k < half j → M'.1 j k = M.1 j k := fun j k a1 a2 a3 => e j k (Or.inr (Or.inr (Or.inl ⟨a1, a2, a3⟩))) (by omega) (by omega)
  have book : ∀ j k, 37 ≤ j → j ≤ 50 → M'.1 j k = M.1 j k := fun j k a1 a2 => e j k (Or.inr (Or.inr (Or.inr (Or.inl ⟨a1, a2⟩)))) (by omega) (by omega)
  have clv : clV M' = clV M := by
    funext j k
    unfold clV
    by_cases z : (j = 0 ∧ 34 ≤ k ∧ k ≤ 45) ∨ (2 ≤ j ∧ j ≤ 32 ∧ k < half j)
    · rw [if_pos z, if_pos z]
      rcases z with ⟨rfl, z⟩ | ⟨z1, z2, z3⟩
      · exact at0 k (by omega)
      · exact low j k z1 z2 z3
    · rw [if_neg z, if_neg z]
  refine ⟨⟨tp, ⟨?_, ?_⟩, g6.mv (fun k a1 a2 => at0 k (by omega)) low, ⟨g7.mv44 (fun j k a1 a2 _ => book j k a1 a2) (fun i hi => book 44 _ (by omega) (by omega)), (at0 77 (by omega)).trans g8, (at0 78 (by omega)).trans g9, fun i hi => ?_⟩, ?_, fun i hi => ?_⟩, clv⟩
  · rw [h7 11 (by omega), at0 68 (by omega)]
    exact g4
  · rw [h7 12 (by omega), at0 69 (by omega)]
    exact g5
  · rw [low 21 i (by omega) (by omega) (show i < 10 by omega), book 44 i (by omega) (by omega)]
    exact g10 i hi
  · rw [h7 7 (by omega), at0 93 (by omega), at0 94 (by omega), at0 95 (by omega)]
    rcases g11 with z | ⟨z1, z2, D', n', z3, z4, z5, z6⟩
    · exact Or.inl z
    · exact Or.inr ⟨z1, z2, D', n', z3, z4, z5.mv44 (fun j k a1 a2 _ => book j k a1 a2) (fun i hi => book 44 _ (by omega) (by omega)), z6⟩
  · rw [clv, e 52 i (Or.inr (Or.inr (Or.inr (Or.inr rfl)))) (by omega) (by omega)]
    exact g12 i hi
theorem feedR_ok {Q : Int32 → CT → Prop} (ht : M.1 0 2 = nI t) (t9 : t ≤ 880) (hQ : ∀ M' : CT, M'.1 0 2 = nI (t + 20) → (∀ i, i < 20 → M'.1 1 (t + i) = fdB a1 a2 a3 a4 a5 i) → (∀ j k, ¬ (j = 0 ∧ (k = 0 ∨ k = 2)) → ¬ (j = 1 ∧ t ≤ k ∧ k < t + 20) → M'.1 j k = M.1 j k) → Q (nI (t + 20)) M') : k_X12_feed M a1 a2 a3 a4 a5 Q := by
  unfold k_X12_feed
  rw [wrF_eq, sI_ne (by omega), ht, if_pos (by rw [show (880 : Int32) = nI 880 from rfl, nI_le' (by omega) (by omega)]; exact t9)]
  refine upl2 (N := 20) (a := 0) (by omega) (fun i c => (∀ j k, ¬ (j = 0 ∧ k = 0) → ¬ (j = 1 ∧ t ≤ k ∧ k < t + i) → c.1 j k = M.1 j k) ∧ ∀ x, x < i → c.1 1 (t + x) = fdB a1 a2 a3 a4 a5 x) (fun R i c _ hi hI ih => ?_) (fun R c hI => ?_) (by omega) ⟨fun j k z _ => sI_ne z, fun x hx => absurd hx (Nat.not_lt_zero _)⟩
  · obtain ⟨i1, i2⟩ := hI
    have e2 : c.1 0 2 = nI t := (i1 0 2 (by omega) (by omega)).trans ht
    have body : ∀ w : Int32, w = (if i < 4 then a1 else if i < 8 then a2 else if i < 12 then a3 else if i < 16 then a4 else a5) → rmI (nI i) (4 : Int32) (fun t85 => wrI c 1 900 ((c.1 0 2) + nI i) ((w >>> (((24 : Int32) - ((8 : Int32) * t85)) &&& 31)) &&& (255 : Int32)) (fun c87 => R (nI i + 1) c87)) := fun w ew => by
      have r := rem4 ⟨i, hi⟩
      rw [rmI_eq (by decide), r.1, r.2, e2, nI_add, wrI_n (by omega) (by omega), inc_n]
      refine ih _ ⟨fun j k z1 z2 => ?_, fun x hx => ?_⟩
      · rw [sI_ne (by omega)]
        exact i1 j k z1 (by omega)
      · by_cases e : x = i
        · subst e
          rw [sI_same]
          unfold fdB byI
          rw [ew]
        · rw [sI_ne (by omega)]
          exact i2 x (by omega)
    rw [if_neg (by rw [show (20 : Int32) = nI 20 from rfl, nI_le' (by omega) (by omega)]; omega)]
    simp only [jn_eq]
    refine ite_b (fun z => ?_) fun z => ?_
    · rw [show (4 : Int32) = nI 4 from rfl, nI_le' (by omega) (by omega)] at z
      refine ite_b (fun z2 => ?_) fun z2 => ?_
      · rw [show (8 : Int32) = nI 8 from rfl, nI_le' (by omega) (by omega)] at z2
        refine ite_b (fun z3 => ?_) fun z3 => ?_
        · rw [show (12 : Int32) = nI 12 from rfl, nI_le' (by omega) (by omega)] at z3
          refine body _ ?_
          rw [if_neg (c := i < 4) (by omega), if_neg (c := i < 8) (by omega), if_neg (c := i < 12) (by omega)]
          by_cases z4 : i < 16
          · rw [if_pos z4, if_pos (by rw [show (16 : Int32) = nI 16 from rfl, nI_le' (by omega) (by omega)]; omega)]
          · rw [if_neg z4, if_neg (by rw [show (16 : Int32) = nI 16 from rfl, nI_le' (by omega) (by omega)]; omega)]
        · rw [show (12 : Int32) = nI 12 from rfl, nI_le' (by omega) (by omega)] at z3
          exact body _ (by rw [if_neg (c := i < 4) (by omega), if_neg (c := i < 8) (by omega), if_pos (c := i < 12) (by omega)])
      · rw [show (8 : Int32) = nI 8 from rfl, nI_le' (by omega) (by omega)] at z2
        exact body _ (by rw [if_neg (c := i < 4) (by omega), if_pos (c := i < 8) (by omega)])
    · rw [show (4 : Int32) = nI 4 from rfl, nI_le' (by omega) (by omega)] at z
      exact body _ (by rw [if_pos (c := i < 4) (by omega)])
  · obtain ⟨i1, i2⟩ := hI
    have e2 : c.1 0 2 = nI t := (i1 0 2 (by omega) (by omega)).trans ht
    rw [if_pos (by decide), wrF_eq, e2, show nI t + 20 = nI (t + 20) from nI_add t 20, sI_same]
    refine hQ _ sI_same (fun x hx => ?_) fun j k z1 z2 => ?_
    · rw [sI_ne (by omega)]
      exact i2 x hx
    · rw [sI_ne (by omega)]
      exact i1 j k (by omega) z2
theorem g_feed (g : CO H P K I M l q f m h D n) : k_X11_feed H a1 a2 a3 a4 a5 fun x H' => k_X12_feed M a1 a2 a3 a4 a5 fun y M' => x = y ∧ CO H' P K I M' l q f m h D n ∧ clV M' = clV M := by
  have gg := g
  obtain ⟨⟨t, t9, ht, mt, tr⟩, -⟩ := g
  unfold k_X11_feed
  rw [ht, show nI t + 20 = nI (t + 20) from nI_add t 20]
  refine ite_b (fun z => ?_) fun z => ?_
  · rw [show (900 : Int32) = nI 900 from rfl, nI_le' (by omega) (by omega)] at z
    refine lay_ok ht (by omega) fun H1 p1 w1 s1 => ?_
    refine lay_ok p1 (by omega) fun H2 p2 w2 s2 => ?_
    refine lay_ok p2 (by omega) fun H3 p3 w3 s3 => ?_
    refine lay_ok p3 (by omega) fun H4 p4 w4 s4 => ?_
    refine lay_ok p4 (by omega) fun H5 p5 w5 s5 => ?_
    refine feedR_ok mt (by omega) fun M' m1 m2 m3 => ?_
    refine ⟨p5, gg.fd (fun j k r n1 n2 => m3 j k (by unfold RV at r; omega) (by omega)) ⟨t + 20, by omega, p5, m1, fun x hx => ?_⟩ fun k hk => ?_⟩
    · by_cases hx0 : x < t
      · rw [s5 1 x (by omega) (by omega), s4 1 x (by omega) (by omega), s3 1 x (by omega) (by omega), s2 1 x (by omega) (by omega), s1 1 x (by omega) (by omega), m3 1 x (by omega) (by omega)]
        exact tr x hx0
      · obtain ⟨y, rfl⟩ : ∃ y, x = t + y := ⟨x - t, by omega⟩
        have hy : y < 20 := by omega
        rw [m2 y hy]
        have rr := byI_r (if y < 4 then a1 else if y < 8 then a2 else if y < 12 then a3 else if y < 16 then a4 else a5) (y % 4)
        refine ⟨rr.1, rr.2, ?_⟩
        unfold fdB
        by_cases y1 : y < 4
        · rw [if_pos y1, Nat.mod_eq_of_lt y1, s5 1 _ (by omega) (by omega), s4 1 _ (by omega) (by omega), s3 1 _ (by omega) (by omega), s2 1 _ (by omega) (by omega)]
          exact w1 y y1
        rw [if_neg y1]
        by_cases y2 : y < 8
        · rw [if_pos y2, s5 1 _ (by omega) (by omega), s4 1 _ (by omega) (by omega), s3 1 _ (by omega) (by omega), show t + y = t + 4 + (y - 4) by omega, show y % 4 = y - 4 by omega]
          exact w2 (y - 4) (by omega)
        rw [if_neg y2]
        by_cases y3 : y < 12
        · rw [if_pos y3, s5 1 _ (by omega) (by omega), s4 1 _ (by omega) (by omega), show t + y = t + 4 + 4 + (y - 8) by omega, show y % 4 = y - 8 by omega]
          exact w3 (y - 8) (by omega)
        rw [if_neg y3]
        by_cases y4 : y < 16
        · rw [if_pos y4, s5 1 _ (by omega) (by omega), show t + y = t + 4 + 4 + 4 + (y - 12) by omega, show y % 4 = y - 12 by omega]
          exact w4 (y - 12) (by omega)
        rw [if_neg y4, show t + y = t + 4 + 4 + 4 + 4 + (y - 16) by omega, show y % 4 = y - 16 by omega]
        exact w5 (y - 16) (by omega)
    · rw [s5 0 k (by omega) (by omega), s4 0 k (by omega) (by omega), s3 0 k (by omega) (by omega), s2 0 k (by omega) (by omega), s1 0 k (by omega) (by omega)]
  · rw [show (900 : Int32) = nI 900 from rfl, nI_le' (by omega) (by omega)] at z
    dsimp only
    unfold k_X12_feed
    rw [wrF_eq, sI_ne (by omega), mt, if_neg (by rw [show (880 : Int32) = nI 880 from rfl, nI_le' (by omega) (by omega)]; omega)]
    have ma : MA M (sI M 0 0 0) := fun j k r => sI_ne (by rintro ⟨rfl, rfl⟩; unfold RV at r; omega)
    exact ⟨rfl, gg.mv ma, clV.mv ma⟩
end Feed2
