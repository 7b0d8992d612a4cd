/-! ===== the reference's wipes and round ===== -/
def rwE (M : CT) (B : VW) (h : Nat) : Prop := ∀ i j, i < h → 1 ≤ j → j ≤ 8 → M.1 (mr j) i = B j i
theorem rwE.up {M : CT} {B : VW} {h j i : Nat} {x : Int32} (g : rwE M B h) (hj : 1 ≤ j ∧ j ≤ 8) : rwE (sI M (mr j) i x) (up2 B j i x) h := fun i' j' a b c => by
  rw [sI_at, up2_at]
  by_cases e : j' = j ∧ i' = i
  · rw [if_pos e, if_pos ⟨by rw [e.1], e.2⟩]
  · rw [if_neg e, if_neg (fun q => e ⟨mr_inj ⟨b, c⟩ hj q.1, q.2⟩)]
    exact g i' j' a b c
theorem rwE.ot {M : CT} {B : VW} {h j i : Nat} {x : Int32} (g : rwE M B h) (hj : j < 37 ∨ 44 < j) : rwE (sI M j i x) B h := fun i' j' a b c => by
  have := mr_in ⟨b, c⟩
  rw [sI_ne (by omega)]
  exact g i' j' a b c
theorem up2_cm {B : VW} {j k j' k' : Nat} {x y : Int32} (h : j ≠ j') : up2 (up2 B j k x) j' k' y = up2 (up2 B j' k' y) j k x := by
  funext a c
  rw [up2_at, up2_at, up2_at, up2_at]
  by_cases e : a = j' ∧ c = k'
  · rw [if_pos e, if_neg (by omega), if_pos e]
  · rw [if_neg e, if_neg e]
section DayT
variable {P M0 M : CT} {V B : VW} {L : List (Nat × Nat)} {kn tk N49 N50 : Nat → Int32} {f m h D a n b k nn : Nat}
theorem wipesR_ok {i man : Nat} {Q : CT → Prop} (E : ENV P V kn f m h a n b k) (R0 : RE M0 V kn tk N49 N50 nn D m h a n b k) (hD : D < 200) (g : MBr M0 M B L h D) (gd : DI B L h m D) (hi : i < h) (hm : man < m) (hdue : B 2 i ≤ nI D) (h0 : ∀ i, i < h → ∃ t : Nat, t < 30 ∧ M0.1 38 i = nI t)
    (hQ : ∀ M', MBr M0 M' (wpB V B kn D i) (L ++ [(i, man)]) h D → (∀ x, M'.1 54 x = M.1 54 x) → M'.1 0 101 = M.1 0 101 → Q M') : k_X12_wipes M (nI man) (nI i) Q := by
  obtain ⟨⟨h9, m3, -, -⟩, -, gh, -, -, -, hk⟩ := E
  have hni : i ∉ L.map Prod.fst := fun q => gd.2.2.2 i q hdue
  have hlen : L.length < 10 := by
    have := nodup_le h (i :: L.map Prod.fst) (List.nodup_cons.mpr ⟨hni, gd.2.2.1⟩) (fun a ha => by
      rcases List.mem_cons.mp ha with e | e
      · rw [e]; exact hi
      · exact gd.lt a e)
    rw [List.length_cons, List.length_map] at this
    omega
  obtain ⟨g1, ⟨g2, g3⟩, g4, g5⟩ := g
  have Rm := R0.mv g5
  obtain ⟨⟨c1, c0⟩, ⟨c77, c78, c49, c50⟩, -, ⟨n6, aim, hkn⟩, -⟩ := Rm
  obtain ⟨t, ht, et0⟩ := h0 i hi
  have e38 : M.1 38 i = nI t := (g4 i t hi et0 ht).2.2 hni
  have e3 : B 3 i = nI t := (g1 i 3 hi (by omega) (by omega)).symm.trans e38
  have e8 : M.1 43 i = B 8 i := g1 i 8 hi (by omega) (by omega)
  have e24 := c1 24 i (by omega) (by omega) (show i < 10 by omega)
  unfold k_X12_wipes
  rw [rdI_n (by omega) (by omega), e38, li_30, pk_mul, nI_add, wrI_n (by omega) (by omega), c77]
  simp (disch := omega) only [rdI_n, wrI_n, sI_ne, sI_same, e38, nI_1, e24, c77, g2, li_10, pk_mul, nI_add, vK_eq]
  generalize hc : sI (sI (sI (sI (sI (sI (sI (sI M 45 (30 * i + t) (nI D)) 38 i (nI (t + 1))) 37 i (nI D + 7 * V 24 i)) 41 i 0) 42 i (nI D)) 47 (10 * D + L.length) (nI i)) 48 (10 * D + L.length) (nI man)) 46 D (nI (L.length + 1)) = c
  have co : ∀ j x, ¬ (j = 45 ∧ x = 30 * i + t) → ¬ ((j = 38 ∨ j = 37 ∨ j = 41 ∨ j = 42) ∧ x = i) → ¬ ((j = 47 ∨ j = 48) ∧ x = 10 * D + L.length) → ¬ (j = 46 ∧ x = D) → c.1 j x = M.1 j x := by
    intro j x q1 q2 q3 q4
    rw [← hc]
    simp (disch := omega) only [sI_ne]
  have gB : MBr M0 c (up2 (up2 (up2 (up2 B 3 i (B 3 i + 1)) 7 i (nI D)) 2 i (nI D + 7 * V 24 i)) 6 i 0) (L ++ [(i, man)]) h D := by
    refine ⟨?_, ⟨?_, fun x hx => ?_⟩, fun i' t' a b c' => ?_, fun j x r q1 q2 q3 q4 => ?_⟩
    · have r0 : rwE M B h := g1
      have r1 := (((((((r0.ot (j := 45) (i := 30 * i + t) (x := nI D) (by omega)).up (j := 3) (i := i) (x := nI (t + 1)) (by omega)).up (j := 2) (i := i) (x := nI D + 7 * V 24 i) (by omega)).up (j := 6) (i := i) (x := 0) (by omega)).up (j := 7) (i := i) (x := nI D) (by omega)).ot (j := 47) (i := 10 * D + L.length) (x := nI i) (by omega)).ot (j := 48) (i := 10 * D + L.length) (x := nI man) (by omega)).ot (j := 46) (i := D) (x := nI (L.length + 1)) (by omega)
      have r2 : rwE c (up2 (up2 (up2 (up2 B 3 i (nI (t + 1))) 2 i (nI D + 7 * V 24 i)) 6 i 0) 7 i (nI D)) h := by
        rw [← hc]
        exact r1
      rw [up2_cm (j := 6) (j' := 7) (by decide), up2_cm (j := 2) (j' := 7) (by decide)] at r2
      rw [e3, nI_1]
      exact r2
    · rw [List.length_append, List.length_singleton, ← hc, sI_same]
    · rw [List.length_append, List.length_singleton] at hx
      by_cases e : x = L.length
      · subst e
        rw [← hc]
        simp (disch := omega) only [sI_ne, sI_same]
        rw [List.getD_eq_getElem?_getD, List.getElem?_append_right (Nat.le_refl _), Nat.sub_self]
        exact ⟨rfl, rfl⟩
      · rw [co 47 _ (by omega) (by omega) (by omega) (by omega), co 48 _ (by omega) (by omega) (by omega) (by omega), List.getD_eq_getElem?_getD, List.getElem?_append_left (by omega), ← List.getD_eq_getElem?_getD]
        exact g3 x (by omega)
    · rw [List.map_append, List.map_cons, List.map_nil]
      by_cases e : i' = i
      · subst e
        have tt : t' = t := by rw [et0, nI_eq (by omega) (by omega)] at b; exact b.symm
        subst tt
        refine ⟨fun x hx => ?_, fun _ => ⟨?_, ?_⟩, fun q => absurd (List.mem_append_right _ List.mem_cons_self) q⟩
        · rw [co 45 _ (by omega) (by omega) (by omega) (by omega)]
          exact (g4 i' t' a b c').1 x hx
        · rw [← hc]
          simp (disch := omega) only [sI_ne, sI_same]
        · rw [← hc]
          simp (disch := omega) only [sI_ne, sI_same]
      · obtain ⟨w1, w2, w3⟩ := g4 i' t' a b c'
        refine ⟨fun x hx => ?_, fun q => ?_, fun q => ?_⟩
        · rw [co 45 _ (by omega) (by omega) (by omega) (by omega)]
          exact w1 x hx
        · rw [co 38 _ (by omega) (by omega) (by omega) (by omega), co 45 _ (by omega) (by omega) (by omega) (by omega)]
          refine w2 ?_
          rcases List.mem_append.mp q with y | y
          · exact y
          · simp at y
            exact absurd y e
        · rw [co 38 _ (by omega) (by omega) (by omega) (by omega)]
          exact w3 fun y => q (List.mem_append_left _ y)
    · rw [co j x (by omega) (by omega) (by omega) (by omega)]
      exact g5 j x r q1 q2 q3 q4
  have Rc := R0.mv gB.2.2.2
  rw [isOpenR Rc (gh i hi) hi h9 hD]
  have s78 : c.1 0 78 = nI nn := (co 0 78 (by omega) (by omega) (by omega) (by omega)).trans c78
  have s43 : c.1 43 i = B 8 i := (co 43 i (by omega) (by omega) (by omega) (by omega)).trans e8
  unfold wpB at hQ
  refine ite_b (fun z => ?_) fun z => ?_
  · rw [it10] at z
    dsimp only at hQ
    rw [if_neg z] at hQ
    exact hQ c gB (fun x => co 54 x (by omega) (by omega) (by omega) (by omega)) (co 0 101 (by omega) (by omega) (by omega) (by omega))
  · rw [it10, Classical.not_not] at z
    dsimp only at hQ
    rw [if_pos z] at hQ
    have f49 : c.1 49 = N49 := by rw [← c49]; funext x; exact co 49 x (by omega) (by omega) (by omega) (by omega)
    have f50 : c.1 50 = N50 := by rw [← c50]; funext x; exact co 50 x (by omega) (by omega) (by omega) (by omega)
    rw [c78, e8]
    refine balanceOf_ok n6 (by omega) (by rw [f49, f50]; exact aim) fun M' h1 h2 => ?_
    have eb : balS c nn i = (B 3 i + 1) * V 26 i - (B 8 i + kn i) := by
      unfold balS knS
      rw [f49, f50, ← hkn i hi, s43, (co 26 i (by omega) (by omega) (by omega) (by omega)).trans (c1 26 i (by omega) (by omega) (show i < 10 by omega)), show c.1 38 i = nI (t + 1) from by rw [← hc]; simp (disch := omega) only [sI_ne, sI_same], e3, nI_1]
    rw [eb]
    exact hQ _ ((gB.mv (MA.of51 h2)).up (j := 8) (by omega) (by decide) (by omega)) (fun x => (sI_ne (by omega)).trans ((h2 54 x (by decide)).trans (co 54 x (by omega) (by omega) (by omega) (by omega)))) ((sI_ne (by omega)).trans ((h2 0 101 (by decide)).trans (co 0 101 (by omega) (by omega) (by omega) (by omega))))
theorem fromHomeR {man i : Nat} {Q : Int32 → Prop} (R : RE M V kn tk N49 N50 nn D m h a n b k) (hm : man < 3) (hi : i < 10) : k_X12_fromHome M (nI man) (nI i) Q = Q (hmS V man i) := by
  obtain ⟨⟨c1, -⟩, -⟩ := R
  unfold k_X12_fromHome k_X12_apart hmS
  rw [rdI_n (by omega) (by omega), rdI_n (by omega) (by omega), rdI_n (by omega) (by omega), rdI_n (by omega) (by omega), c1 16 man (by omega) (by omega) (show man < 3 by omega), c1 17 man (by omega) (by omega) (show man < 3 by omega), c1 22 i (by omega) (by omega) (show i < 10 by omega), c1 23 i (by omega) (by omega) (show i < 10 by omega)]
theorem betweenR {y i : Nat} {Q : Int32 → Prop} (R : RE M V kn tk N49 N50 nn D m h a n b k) (hy : y < 10) (hi : i < 10) : k_X12_between M (nI y) (nI i) Q = Q (btS V y i) := by
  obtain ⟨⟨c1, -⟩, -⟩ := R
  unfold k_X12_between k_X12_apart btS
  rw [rdI_n (by omega) (by omega), rdI_n (by omega) (by omega), rdI_n (by omega) (by omega), rdI_n (by omega) (by omega), c1 22 y (by omega) (by omega) (show y < 10 by omega), c1 23 y (by omega) (by omega) (show y < 10 by omega), c1 22 i (by omega) (by omega) (show i < 10 by omega), c1 23 i (by omega) (by omega) (show i < 10 by omega)]
theorem goesRound_ok {man tn : Nat} {T : Nat → Nat} {B0 : VW} {L0 : List (Nat × Nat)} {Q : CT → Prop} (E : ENV P V kn f m h a n b k) (R0 : RE M0 V kn tk N49 N50 nn D m h a n b k) (hD : D < 200) (t9 : tn ≤ 10) (hm : man < m) (g : DI B0 L0 h m D) (hT : ∀ x, x < tn → T x < h ∧ B0 2 (T x) ≤ nI D) (hinj : ∀ x y, x < y → y < tn → T x ≠ T y) (h0 : ∀ i, i < h → ∃ t : Nat, t < 30 ∧ M0.1 38 i = nI t) (gc : MBr M0 M B0 L0 h D) (gl : MLr M tn T)
    (hQ : ∀ M', MBr M0 M' (goB V kn tk D man T (V 18 man, -1, B0, L0) tn).2.2.1 (goB V kn tk D man T (V 18 man, -1, B0, L0) tn).2.2.2 h D → Q M') : k_X12_goesRound M (nI man) Q := by
  have E' := E
  obtain ⟨⟨h9, m3, -, -⟩, -, gh, -, -, -, hk⟩ := E
  have inv := goB_DI (tk := tk) (lf := V 18 man) hD h9 m3 g gh hm hk hT hinj
  have Rm := R0.mv gc.2.2.2
  unfold k_X12_goesRound
  rw [rdI_n (by omega) (by omega), Rm.1.1 18 man (by omega) (by omega) (show man < 3 by omega)]
  refine LP4.ind (fun lf wh v c => ∃ j, j ≤ tn ∧ v = nI j ∧ lf = (goB V kn tk D man T (V 18 man, -1, B0, L0) j).1 ∧ wh = (goB V kn tk D man T (V 18 man, -1, B0, L0) j).2.1 ∧ MBr M0 c (goB V kn tk D man T (V 18 man, -1, B0, L0) j).2.2.1 (goB V kn tk D man T (V 18 man, -1, B0, L0) j).2.2.2 h D ∧ MLr c tn T) (fun _ _ v _ => tn - v.toNatClampNeg) ?_ ⟨0, by omega, rfl, rfl, rfl, gc, gl⟩
  rintro R lf wh v c ⟨j, hj, rfl, rfl, rfl, gcj, glj⟩ ih
  obtain ⟨d1, d2, d3⟩ := inv j hj
  have Rc := R0.mv gcj.2.2.2
  rw [glj.1]
  by_cases hjt : j < tn
  · obtain ⟨hTh, -⟩ := hT j hjt
    obtain ⟨y, hy, ey, ey2⟩ := Rc.2.2.1 (T j) hTh
    have nx : ∀ lf' wh' c', lf' = (goB V kn tk D man T (V 18 man, -1, B0, L0) (j + 1)).1 → wh' = (goB V kn tk D man T (V 18 man, -1, B0, L0) (j + 1)).2.1 → MBr M0 c' (goB V kn tk D man T (V 18 man, -1, B0, L0) (j + 1)).2.2.1 (goB V kn tk D man T (V 18 man, -1, B0, L0) (j + 1)).2.2.2 h D → MLr c' tn T → R lf' wh' (nI (j + 1)) c' := fun lf' wh' c' q1 q2 q3 q4 => ih _ _ _ _ ⟨j + 1, by omega, rfl, q1, q2, q3, q4⟩ (by rw [nI_clamp (by omega), nI_clamp (by omega)]; omega)
    rw [goB_s] at nx
    rw [if_neg (nI_ge hjt (by omega)), rdI_n (by omega) (by omega), glj.2 j hjt, jn_eq, nI_1]
    have e20 : c.1 20 (T j) = nI y := (Rc.1.1 20 _ (by omega) (by omega) (show T j < 10 by omega)).trans ey
    have J : ∀ wk : Int32, wk = wkS V man (T j) (goB V kn tk D man T (V 18 man, -1, B0, L0) j).2.1 → rdI c 20 20 (nI (T j)) (fun t54 => rdI c 52 5 t54 (fun t56 => k_X12_fromHome c (nI man) (nI (T j)) (fun t58 => (if ((wk + t56) + t58) ≤ (goB V kn tk D man T (V 18 man, -1, B0, L0) j).1 then rdI c 20 20 (nI (T j)) (fun t59 => rdI c 52 5 t59 (fun t61 => vK ((goB V kn tk D man T (V 18 man, -1, B0, L0) j).1 - (wk + t61)) (fun v63 => k_X12_wipes c (nI man) (nI (T j)) (fun c64 => R v63 (nI (T j)) (nI (j + 1)) c64)))) else R (goB V kn tk D man T (V 18 man, -1, B0, L0) j).1 (goB V kn tk D man T (V 18 man, -1, B0, L0) j).2.1 (nI (j + 1)) c)))) := by
      intro wk hwk
      subst hwk
      simp (disch := omega) only [rdI_n, e20, ey2, fromHomeR Rc, vK_eq]
      refine ite_b (fun z => ?_) fun z => ?_
      · rw [if_pos z] at nx
        refine wipesR_ok E' R0 hD gcj d1 hTh hm (d3 j (Nat.le_refl j) hjt) h0 fun M' hM' q1 q2 => ?_
        exact nx _ _ _ rfl rfl hM' ⟨q2.trans glj.1, fun x hx => (q1 x).trans (glj.2 x hx)⟩
      · rw [if_neg z] at nx
        exact nx _ _ _ rfl rfl gcj glj
    refine ite_b (fun z => ?_) fun z => ?_
    · rcases d2 with e | ⟨y', hy', e⟩
      · exact absurd e z
      · have hw : wkS V man (T j) (goB V kn tk D man T (V 18 man, -1, B0, L0) j).2.1 = btS V y' (T j) := by
          unfold wkS
          rw [if_neg z, e, nv_n (by omega)]
        rw [e, betweenR Rc (by omega) (by omega), ← e]
        exact J _ hw.symm
    · have z' := Classical.not_not.mp z
      have hw : wkS V man (T j) (goB V kn tk D man T (V 18 man, -1, B0, L0) j).2.1 = hmS V man (T j) := by
        unfold wkS
        rw [if_pos z']
      rw [fromHomeR Rc (by omega) (by omega)]
      exact J _ hw.symm
  · have e : j = tn := by omega
    subst e
    rw [if_pos (Int32.le_refl _)]
    exact hQ _ gcj
end DayT
