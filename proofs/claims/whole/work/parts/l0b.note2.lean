/-! ===== strike, pay, feed: what else they leave ===== -/
section Note2
variable {H P K I M : CT} {l q f m h D n : Nat} {a1 a2 a3 a4 a5 : Int32}
theorem and_asc {a b c : Prop} (h : a ∧ b) (k : c) : a ∧ b ∧ c := ⟨h.1, h.2, k⟩
theorem cl_note {x y : Int32} {k : Nat} : clV (sI (sI (sI (sI M 0 0 0) 49 k x) 50 k y) 0 78 (nI (k + 1))) = clV M := by
  funext j i
  unfold clV
  split
  · rw [sI_ne (by omega), sI_ne (by omega), sI_ne (by omega), sI_ne (by omega)]
  · rfl
theorem g_strike2 (g : CO H P K I M l q f m h D n) : k_X11_strike H K a1 fun x K' => k_X12_strike M a1 fun y M' => x = y ∧ (∃ n', CO H P K' I M' l q f m h D n') ∧ clV M' = clV M ∧ ∀ x, K'.1 1 x = K.1 1 x := by
  have g' := g
  obtain ⟨-, -, -, ⟨⟨⟨-, n6, k0, k1⟩, -⟩, -, d2, -⟩, -⟩ := g
  have v78 : (sI M 0 0 0).1 0 78 = nI n := (th_at (by omega)).trans d2
  have no : ¬ (∃ i, i < n ∧ a1 = nI i) → k_X12_strike M a1 fun y M' => -1 = y ∧ (∃ n', CO H P K I M' l q f m h D n') ∧ clV M' = clV M ∧ ∀ x, K.1 1 x = K.1 1 x := by
    intro c
    unfold k_X12_strike
    rw [wrF_eq, v78]
    rcases i32_cases a1 with z | ⟨i, hi, rfl⟩
    · rw [if_pos z]
      exact ⟨rfl, ⟨n, g'.mv MA.th⟩, clV.mv MA.th, fun _ => rfl⟩
    · rw [if_neg (nI_pos hi), if_pos (nI_le (Nat.le_of_not_lt fun q => c ⟨i, q, rfl⟩) hi)]
      exact ⟨rfl, ⟨n, g'.mv MA.th⟩, clV.mv MA.th, fun _ => rfl⟩
  unfold k_X11_strike
  rw [k1]
  by_cases c : ∃ i, i < n ∧ a1 = nI i
  · obtain ⟨i, hi, rfl⟩ := c
    rw [if_neg (nI_pos (by omega)), if_pos (nI_lt hi (by omega))]
    refine addNote_ok k1 n6 ?_
    have hm : ¬ nI i < 0 := nI_pos (by omega)
    by_cases e : n = 60
    · rw [if_pos e]
      show k_X12_strike _ _ _
      unfold k_X12_strike
      rw [wrF_eq, v78, if_neg hm, if_neg (nI_ge hi (by omega)), if_neg (by rw [e]; exact fun z => z rfl)]
      exact ⟨rfl, ⟨n, g'.mv MA.th⟩, clV.mv MA.th, fun _ => rfl⟩
    · rw [if_neg e]
      show k_X12_strike _ _ _
      unfold k_X12_strike
      rw [wrF_eq, v78, if_neg hm, if_neg (nI_ge hi (by omega)), if_pos (by rw [li_60]; intro z; rw [nI_eq (by omega) (by omega)] at z; exact e z)]
      simp (disch := omega) only [wrI_n, wrF_eq, sI_ne, sI_same, d2, nI_1, nI_pred]
      exact ⟨trivial, ⟨n + 1, g'.note (x := -1) (y := nI i) (s := 0) (t := nI i) (by omega) (fun _ => ⟨rfl, i, hi, rfl⟩) (fun z => absurd rfl z) rfl rfl⟩, cl_note, fun _ => trivial⟩
  · rcases i32_cases a1 with z | ⟨i, hi, rfl⟩
    · rw [if_pos z]
      exact no c
    · rw [if_neg (nI_pos hi), if_neg (nI_nlt (Nat.le_of_not_lt fun q => c ⟨i, q, rfl⟩) hi)]
      exact no c
theorem g_pay2 (g : CO H P K I M l q f m h D n) : k_X11_pay H P K a1 a2 a3 fun x K' => k_X12_pay M a1 a2 a3 fun y M' => x = y ∧ (∃ n', CO H P K' I M' l q f m h D n') ∧ clV M' = clV M ∧ ∀ x, K'.1 1 x = K.1 1 x := by
  have g' := g
  obtain ⟨-, -, ⟨⟨b, bp, bv⟩, -⟩, ⟨⟨⟨-, n6, k0, k1⟩, -⟩, -, d2, -⟩, -⟩ := g
  have v78 : (sI M 0 0 0).1 0 78 = nI n := (th_at (by omega)).trans d2
  have v38 : (sI M 0 0 0).1 0 38 = nI h := (th_at (by omega)).trans bv.2.2.2.2
  have fin : (fun (y : Int32) M' => -1 = y ∧ (∃ n', CO H P K I M' l q f m h D n') ∧ clV M' = clV M ∧ ∀ x, K.1 1 x = K.1 1 x) (-1) (sI M 0 0 0) := ⟨rfl, ⟨n, g'.mv MA.th⟩, clV.mv MA.th, fun _ => rfl⟩
  unfold k_X11_pay
  by_cases c1 : ∃ i, i < h ∧ a1 = nI i
  · obtain ⟨i, hi, rfl⟩ := c1
    rw [hasHouse_y bp.2.2.2.2 (by omega) hi, if_neg (by decide)]
    refine ite_b (fun z1 => ?_) fun z1 => ite_b (fun z2 => ?_) fun z2 => ite_b (fun z3 => ?_) fun z3 => ite_b (fun z4 => ?_) fun z4 => ?_
    · show k_X12_pay _ _ _ _ _
      unfold k_X12_pay
      rw [wrF_eq, isHouse_y v38 (by omega) hi, if_neg (by decide), if_pos z1]
      exact fin
    · show k_X12_pay _ _ _ _ _
      unfold k_X12_pay
      rw [wrF_eq, isHouse_y v38 (by omega) hi, if_neg (by decide), if_neg z1, if_pos z2]
      exact fin
    · show k_X12_pay _ _ _ _ _
      unfold k_X12_pay
      rw [wrF_eq, isHouse_y v38 (by omega) hi, if_neg (by decide), if_neg z1, if_neg z2, if_pos z3]
      exact fin
    · obtain ⟨s, hs, rfl⟩ := nI_of z3
      have hs9 : s ≤ 9999 := by rw [li_9999, nI_le' hs (by omega)] at z4; exact z4
      refine addNote_ok k1 n6 ?_
      have z5 : ¬ (9999 : Int32) < nI s := by rw [li_9999, nI_lt' (by omega) hs]; omega
      by_cases e : n = 60
      · rw [if_pos e]
        show k_X12_pay _ _ _ _ _
        unfold k_X12_pay
        rw [wrF_eq, isHouse_y v38 (by omega) hi, if_neg (by decide), if_neg z1, if_neg z2, if_neg z3, if_neg z5, v78, if_neg (by rw [e]; exact fun z => z rfl)]
        exact fin
      · rw [if_neg e]
        show k_X12_pay _ _ _ _ _
        unfold k_X12_pay
        rw [wrF_eq, isHouse_y v38 (by omega) hi, if_neg (by decide), if_neg z1, if_neg z2, if_neg z3, if_neg z5, v78, if_pos (by rw [li_60]; intro z; rw [nI_eq (by omega) (by omega)] at z; exact e z)]
        simp (disch := omega) only [wrI_n, wrF_eq, sI_ne, sI_same, d2, nI_1, nI_pred]
        exact ⟨trivial, ⟨n + 1, g'.note (x := nI i) (y := nI s) (s := nI s) (t := -1) (by omega) (fun z => by rw [m1_ne (by omega)] at z; exact z.elim) (fun _ => ⟨rfl, rfl, s, hs9, rfl⟩) rfl rfl⟩, cl_note, fun _ => trivial⟩
    · show k_X12_pay _ _ _ _ _
      unfold k_X12_pay
      rw [wrF_eq, isHouse_y v38 (by omega) hi, if_neg (by decide), if_neg z1, if_neg z2, if_neg z3, if_pos (Int32.not_le.mp z4)]
      exact fin
  · rw [hasHouse_n bp.2.2.2.2 (by omega) c1, if_pos rfl]
    show k_X12_pay _ _ _ _ _
    unfold k_X12_pay
    rw [wrF_eq, isHouse_n v38 (by omega) c1, if_pos rfl]
    exact fin
theorem g_feed2 (g : CO H P K I M l q f m h D n) : k_X11_feed H a1 a2 a3 a4 a5 fun x H' => k_X12_feed M a1 a2 a3 a4 a5 fun y M' => x = y ∧ CO H' P K I M' l q f m h D n ∧ clV M' = clV M ∧ H'.1 0 7 = H.1 0 7 := by
  have gg := g
  obtain ⟨⟨t, t9, ht, mt, tr⟩, -⟩ := g
  unfold k_X11_feed
  rw [ht, show nI t + 20 = nI (t + 20) from nI_add t 20]
  refine ite_b (fun z => ?_) fun z => ?_
  · rw [show (900 : Int32) = nI 900 from rfl, nI_le' (by omega) (by omega)] at z
    refine lay_ok ht (by omega) fun H1 p1 w1 s1 => ?_
    refine lay_ok p1 (by omega) fun H2 p2 w2 s2 => ?_
    refine lay_ok p2 (by omega) fun H3 p3 w3 s3 => ?_
    refine lay_ok p3 (by omega) fun H4 p4 w4 s4 => ?_
    refine lay_ok p4 (by omega) fun H5 p5 w5 s5 => ?_
    refine feedR_ok mt (by omega) fun M' m1 m2 m3 => ?_
    have s7 : ∀ k, k ≠ 1 → H5.1 0 k = H.1 0 k := fun k hk => by
      rw [s5 0 k (by omega) (by omega), s4 0 k (by omega) (by omega), s3 0 k (by omega) (by omega), s2 0 k (by omega) (by omega), s1 0 k (by omega) (by omega)]
    refine ⟨p5, and_asc (gg.fd (fun j k r n1 n2 => m3 j k (by unfold RV at r; omega) (by omega)) ⟨t + 20, by omega, p5, m1, fun x hx => ?_⟩ fun k hk => ?_) (s7 7 (by decide))⟩
    · by_cases hx0 : x < t
      · rw [s5 1 x (by omega) (by omega), s4 1 x (by omega) (by omega), s3 1 x (by omega) (by omega), s2 1 x (by omega) (by omega), s1 1 x (by omega) (by omega), m3 1 x (by omega) (by omega)]
        exact tr x hx0
      · obtain ⟨y, rfl⟩ : ∃ y, x = t + y := ⟨x - t, by omega⟩
        have hy : y < 20 := by omega
        rw [m2 y hy]
        have rr := byI_r (if y < 4 then a1 else if y < 8 then a2 else if y < 12 then a3 else if y < 16 then a4 else a5) (y % 4)
        refine ⟨rr.1, rr.2, ?_⟩
        unfold fdB
        by_cases y1 : y < 4
        · rw [if_pos y1, Nat.mod_eq_of_lt y1, s5 1 _ (by omega) (by omega), s4 1 _ (by omega) (by omega), s3 1 _ (by omega) (by omega), s2 1 _ (by omega) (by omega)]
          exact w1 y y1
        rw [if_neg y1]
        by_cases y2 : y < 8
        · rw [if_pos y2, s5 1 _ (by omega) (by omega), s4 1 _ (by omega) (by omega), s3 1 _ (by omega) (by omega), show t + y = t + 4 + (y - 4) by omega, show y % 4 = y - 4 by omega]
          exact w2 (y - 4) (by omega)
        rw [if_neg y2]
        by_cases y3 : y < 12
        · rw [if_pos y3, s5 1 _ (by omega) (by omega), s4 1 _ (by omega) (by omega), show t + y = t + 4 + 4 + (y - 8) by omega, show y % 4 = y - 8 by omega]
          exact w3 (y - 8) (by omega)
        rw [if_neg y3]
        by_cases y4 : y < 16
        · rw [if_pos y4, s5 1 _ (by omega) (by omega), show t + y = t + 4 + 4 + 4 + (y - 12) by omega, show y % 4 = y - 12 by omega]
          exact w4 (y - 12) (by omega)
        rw [if_neg y4, show t + y = t + 4 + 4 + 4 + 4 + (y - 16) by omega, show y % 4 = y - 16 by omega]
        exact w5 (y - 16) (by omega)
    · rw [s5 0 k (by omega) (by omega), s4 0 k (by omega) (by omega), s3 0 k (by omega) (by omega), s2 0 k (by omega) (by omega), s1 0 k (by omega) (by omega)]
  · rw [show (900 : Int32) = nI 900 from rfl, nI_le' (by omega) (by omega)] at z
    dsimp only
    unfold k_X12_feed
    rw [wrF_eq, sI_ne (by omega), mt, if_neg (by rw [show (880 : Int32) = nI 880 from rfl, nI_le' (by omega) (by omega)]; omega)]
    have ma : MA M (sI M 0 0 0) := fun j k r => sI_ne (by rintro ⟨rfl, rfl⟩; unfold RV at r; omega)
    exact ⟨rfl, gg.mv ma, clV.mv ma, rfl⟩
end Note2
