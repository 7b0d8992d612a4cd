/-! ===== the reference's day whole ===== -/
section DayU
variable {P M : CT} {V : VW} {kn tk N49 N50 : Nat → Int32} {f m h D a n b k nn : Nat}
def rowsM (M : CT) : VW := fun j i => M.1 (mr j) i
theorem passes_ok {B0 : VW} {Q : CT → Prop} (E : ENV P V kn f m h a n b k) (R0 : RE M V kn tk N49 N50 nn D m h a n b k) (hD : D < 200) (hB : ∀ i j, i < h → 1 ≤ j → j ≤ 8 → M.1 (mr j) i = B0 j i) (g : DI B0 [] h m D)
    (hQ : ∀ M', MBr M M' (dyB V kn tk D a n b k h m B0) (dyL V kn tk D b k h m B0).2 h D → Q (sI M' 0 77 (nI (D + 1)))) : k_X12_passes M Q := by
  have gL := dyL_DI (tk := tk) E hD g
  have gM := dmB_DI (tk := tk) E hD g
  have E' := E
  obtain ⟨⟨h9, m3, p2, p3⟩, gm, gh, ⟨n11, r11⟩, ⟨n13, r13⟩, gw, hk⟩ := E
  have n64 := r11.1
  have an64 := r11.2.1
  have h38 : ∀ i, i < h → ∃ t : Nat, t < 30 ∧ M.1 38 i = nI t := fun i hi => by
    obtain ⟨-, ⟨d, t, p, q1, q2, q3, q4, q5, q6⟩, -⟩ := g.1 i hi
    exact ⟨t, by omega, (hB i 3 hi (by omega) (by omega)).trans q5⟩
  unfold k_X12_passes
  rw [R0.2.1.1, wrI_n (by omega) (by omega)]
  have st : MBr M (sI M 46 D 0) B0 [] h D := by
    refine ⟨fun i j q1 q2 q3 => ?_, ⟨sI_same, fun x hx => absurd hx (Nat.not_lt_zero x)⟩, fun i t q1 q2 q3 => ⟨fun x _ => sI_ne (by omega), fun q => (by simp at q), fun _ => (sI_ne (by omega)).trans q2⟩, fun j x r q1 q2 q3 q4 => sI_ne q3⟩
    have := mr_in ⟨q2, q3⟩
    exact (sI_ne (by omega)).trans (hB i j q1 q2 q3)
  refine jn_of (fun J => ∀ c, MBr M c (dyL V kn tk D b k h m B0).1 (dyL V kn tk D b k h m B0).2 h D → J c) ?_ ?_
  · intro c0 hc0
    refine LP2.ind (fun v c => ∃ i, i ≤ h ∧ v = nI i ∧ MBr M c (cmB V kn D a n (dyL V kn tk D b k h m B0).1 i) (dyL V kn tk D b k h m B0).2 h D) (fun v _ => h - v.toNatClampNeg) ?_ ⟨0, by omega, rfl, hc0⟩
    rintro R v c ⟨i, hi, rfl, hc⟩ ih
    have Rc := R0.mv hc.2.2.2
    obtain ⟨⟨c1, c0'⟩, ⟨c77, -, -, -⟩, -, -, ⟨v37, v38, v39, v40, -, -⟩⟩ := R0.mv hc.2.2.2
    rw [c0' 38 (by omega) (by omega), v38]
    by_cases hin : i < h
    · have nb := (cmB_DI (V := V) (kn := kn) (a := a) (n := n) gL i).1 i hin
      have nx : ∀ c', MBr M c' (cmB V kn D a n (dyL V kn tk D b k h m B0).1 (i + 1)) (dyL V kn tk D b k h m B0).2 h D → R (nI (i + 1)) c' := fun c' q1 => ih _ _ ⟨i + 1, by omega, rfl, q1⟩ (by rw [nI_clamp (by omega), nI_clamp (by omega)]; omega)
      rw [cmB_s] at nx
      have e2 : c.1 37 i = cmB V kn D a n (dyL V kn tk D b k h m B0).1 i 2 i := hc.1 i 2 hin (by omega) (by omega)
      have e6 : c.1 41 i = cmB V kn D a n (dyL V kn tk D b k h m B0).1 i 6 i := hc.1 i 6 hin (by omega) (by omega)
      rw [if_neg (nI_ge hin (by omega)), rdI_n (by omega) (by omega), e2, c77, rdI_n (by omega) (by omega), e6, nI_1, c0' 39 (by omega) (by omega), c0' 40 (by omega) (by omega), v39, v40]
      refine ite_b (fun z1 => ?_) fun z1 => ite_b (fun z2 => ?_) fun z2 => ite_b (fun z3 => ?_) fun z3 => ?_
      · rw [if_neg (fun y => Int32.lt_irrefl (Int32.lt_of_lt_of_le z1 y.2.1))] at nx
        exact nx c hc
      · rw [if_neg (fun y => by rw [y.2.2.1] at z2; exact absurd z2 (by decide))] at nx
        exact nx c hc
      · rw [nI_eq (by omega) (by omega)] at z3
        rw [if_neg (fun y => by omega)] at nx
        exact nx c hc
      · have n0 : 0 < n := Nat.pos_of_ne_zero fun e => z3 (by rw [e]; rfl)
        have z0 : cmB V kn D a n (dyL V kn tk D b k h m B0).1 i 6 i = 0 := nb.2.2.resolve_right z2
        refine ruledR Rc hc hin h9 r11 n0 fun M' hM' => ⟨fun hr => ?_, fun hr => ?_⟩
        · rw [if_pos ⟨n0, Int32.not_lt.mp z1, z0, hr⟩] at nx
          have hc' := hc.mv hM'.MA
          rw [if_pos (by decide), wrI_n (by omega) (by omega), rdI_n (by omega) (by omega), sI_ne (by omega), show M'.1 40 i = cmB V kn D a n (dyL V kn tk D b k h m B0).1 i 5 i from hc'.1 i 5 hin (by omega) (by omega), wrI_n (by omega) (by omega)]
          exact nx _ ((hc'.up (j := 6) (i := i) (x := 1) (by omega) (by decide) (by omega)).up (j := 5) (i := i) (x := cmB V kn D a n (dyL V kn tk D b k h m B0).1 i 5 i + 1) (by omega) (by decide) (by omega))
        · rw [if_neg (fun y => hr y.2.2.2)] at nx
          rw [if_neg (by decide)]
          exact nx _ (hc.mv hM'.MA)
    · have e : i = h := by omega
      subst e
      rw [if_pos (Int32.le_refl _), wrF_eq, c77, nI_1]
      exact hQ c hc
  intro J hJ
  unfold dyL at hJ
  refine LP2.ind (fun v c => ∃ mn, mn ≤ m ∧ v = nI mn ∧ (V 30 D ≠ 0 → mn = 0) ∧ MBr M c (dmB V kn tk D b k h B0 mn).1 (dmB V kn tk D b k h B0 mn).2 h D) (fun v _ => m - v.toNatClampNeg) ?_ ⟨0, by omega, rfl, fun _ => rfl, st⟩
  rintro R v c ⟨mn, hmn, rfl, hwt, hc⟩ ih
  obtain ⟨⟨c1, c0'⟩, ⟨c77, -, -, -⟩, -, -, ⟨v37, -⟩⟩ := R0.mv hc.2.2.2
  rw [c0' 37 (by omega) (by omega), v37]
  by_cases hin : mn < m
  · rw [if_neg (nI_ge hin (by omega)), c77, rdI_n (by omega) (by omega), c1 30 D (by omega) (by omega) (show D < 200 from hD), nI_1]
    refine ite_b (fun z => ?_) fun z => ?_
    · have e := hwt z
      subst e
      rw [if_pos z] at hJ
      exact hJ c hc
    · have ig := gM mn hmn
      obtain ⟨t1, t2⟩ := lsB_T (V := V) (kn := kn) (D := D) (man := mn) (b := b) (k := k) (B0 := (dmB V kn tk D b k h B0 mn).1) h
      have row := lsB_row (V := V) (kn := kn) (D := D) (man := mn) (b := b) (k := k) (B0 := (dmB V kn tk D b k h B0 mn).1) h
      refine lists_ok E' R0 hD hc fun M2 hM2 hL2 => ?_
      refine goesRound_ok (tk := tk) E' R0 hD (by omega) hin (lsB_DI ig) (fun x hx => ⟨(t2 x hx).1, by rw [row 2 _ (by decide)]; exact (t2 x hx).2.2⟩) (lsB_inj h) h38 hM2 hL2 fun M3 hM3 => ?_
      exact ih _ _ ⟨mn + 1, by omega, rfl, fun y => absurd y z, hM3⟩ (by rw [nI_clamp (by omega), nI_clamp (by omega)]; omega)
  · have e : mn = m := by omega
    subst e
    rw [if_pos (Int32.le_refl _)]
    by_cases z : V 30 D ≠ 0
    · have e := hwt z
      rw [if_pos z] at hJ
      rw [e] at hc
      exact hJ c hc
    · rw [if_neg z] at hJ
      exact hJ c hc
end DayU
