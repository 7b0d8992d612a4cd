/-! ===== way and tanks: both sides agree ===== -/
section W3
variable {H P K I M F W T : CT} {V : VW} {l q f m h D n d b : Nat} {a1 a2 a3 : Int32}
def PV (M : CT) (V : VW) : Prop := ∀ j x, 2 ≤ j → j ≤ 32 → x < half j → M.1 j x = V j x
theorem fromHomeV {man i : Nat} {Q : Int32 → Prop} (c1 : PV M V) (hm : man < 3) (hi : i < 10) : k_X12_fromHome M (nI man) (nI i) Q = Q (hmS V man i) := by
  unfold k_X12_fromHome k_X12_apart hmS
  rw [rdI_n (by omega) (by omega), rdI_n (by omega) (by omega), rdI_n (by omega) (by omega), rdI_n (by omega) (by omega), c1 16 man (by omega) (by omega) (show man < 3 by omega), c1 17 man (by omega) (by omega) (show man < 3 by omega), c1 22 i (by omega) (by omega) (show i < 10 by omega), c1 23 i (by omega) (by omega) (show i < 10 by omega)]
theorem betweenV {y i : Nat} {Q : Int32 → Prop} (c1 : PV M V) (hy : y < 10) (hi : i < 10) : k_X12_between M (nI y) (nI i) Q = Q (btS V y i) := by
  unfold k_X12_between k_X12_apart btS
  rw [rdI_n (by omega) (by omega), rdI_n (by omega) (by omega), rdI_n (by omega) (by omega), rdI_n (by omega) (by omega), c1 22 y (by omega) (by omega) (show y < 10 by omega), c1 23 y (by omega) (by omega) (show y < 10 by omega), c1 22 i (by omega) (by omega) (show i < 10 by omega), c1 23 i (by omega) (by omega) (show i < 10 by omega)]
/-- a walk by the houses of a list, up to the k-th -/
def wlk (V : VW) (man : Nat) (r : List Nat) : Nat → Int32
  | 0 => 0
  | k + 1 => wlk V man r k + (if k = 0 then hmS V man (r.getD 0 0) else btS V (r.getD (k - 1) 0) (r.getD k 0))
def walkS (V : VW) (man : Nat) (r : List Nat) : Int32 := wlk V man r r.length + (if r.length = 0 then 0 else hmS V man (r.getD (r.length - 1) 0))
theorem wayWalk_ok {r : List Nat} {Q : Int32 → Prop} (gm : PMan P.1 V b) (gh : ∀ i, i < h → PHou P.1 V f m i) (h9 : h ≤ 10) (hd : d < 200) (hb : b < 3) (hK : K.2 10 (3 * d + b) = lN (encL r)) (hl : r.length ≤ 10) (ha : ∀ a ∈ r, a < h) (hQ : Q (walkS V b r)) : k_X9_wayWalk P K T (nI b) (nI d) Q := by
  have ha2 : ∀ a ∈ r, a < 16 := fun a h => by have := ha a h; omega
  unfold k_X9_wayWalk
  refine LP3.ind (fun s wh v => ∃ i, i ≤ r.length ∧ v = nI i ∧ s = wlk V b r i ∧ wh = (if i = 0 then -1 else nI (r.getD (i - 1) 0))) (fun _ _ v => r.length - v.toNatClampNeg) ?_ ⟨0, by omega, rfl, rfl, rfl⟩
  rintro R s wh v ⟨i, hi, rfl, rfl, rfl⟩ ih
  rw [wayLength_ok hd hb hK hl ha2]
  by_cases hin : i < r.length
  · have hx := ha _ (getD_mem hin)
    rw [if_neg (nI_ge hin (by omega)), wayHouse_ok hd hb hK hl ha2 hin]
    have hwh : (if i = 0 then (-1 : Int32) else nI (r.getD (i - 1) 0)) = -1 ∨ ∃ a : Nat, a < h ∧ (if i = 0 then (-1 : Int32) else nI (r.getD (i - 1) 0)) = nI a := by
      by_cases e : i = 0
      · exact Or.inl (if_pos e)
      · exact Or.inr ⟨_, ha _ (getD_mem (r := r) (j := i - 1) (by omega)), if_neg e⟩
    rw [onward_ok gm gh hb hx h9 hwh, vK_eq, nI_1]
    refine ih _ _ _ ⟨i + 1, by omega, rfl, ?_, by rw [if_neg (by omega), Nat.add_sub_cancel]⟩ (by rw [nI_clamp (by omega), nI_clamp (by omega)]; omega)
    show _ = wlk V b r i + _
    congr 1
    unfold wkS
    by_cases e : i = 0
    · subst e
      rw [if_pos rfl, if_pos rfl, if_pos rfl]
    · have h2 := ha _ (getD_mem (r := r) (j := i - 1) (by omega))
      rw [if_neg e, if_neg e, if_neg (by rw [m1_ne (by omega)]; exact id), nv_n (by omega)]
  · have e : i = r.length := by omega
    subst e
    unfold walkS at hQ
    rw [if_pos (Int32.le_refl _)]
    unfold k_X6_homeward
    rw [jn_eq]
    by_cases e : r.length = 0
    · rw [if_pos e] at hQ ⊢
      rw [if_neg (fun z => z rfl)]
      exact hQ
    · have h2 := ha _ (getD_mem (r := r) (j := r.length - 1) (by omega))
      rw [if_neg e] at hQ ⊢
      rw [if_pos (by rw [ne_eq, m1_ne (by omega)]; exact id), fromHome_ok gm (gh _ h2) hb (by omega)]
      exact hQ
theorem walked_ok {r : List Nat} {Q : Int32 → Prop} (pv : PV M V) (h9 : h ≤ 10) (hb : b < 3) (h101 : M.1 0 101 = nI r.length) (h54 : ∀ j, j < r.length → M.1 54 j = nI (r.getD j 0)) (hl : r.length ≤ 10) (ha : ∀ a ∈ r, a < h) (hQ : Q (walkS V b r)) : k_X12_walked M (nI b) Q := by
  unfold k_X12_walked
  refine LP2.ind (fun s v => ∃ i, i ≤ r.length ∧ v = nI i ∧ s = wlk V b r i) (fun _ v => r.length - v.toNatClampNeg) ?_ ⟨0, by omega, rfl, rfl⟩
  rintro R s v ⟨i, hi, rfl, rfl⟩ ih
  rw [h101]
  by_cases hin : i < r.length
  · have hx := ha _ (getD_mem hin)
    have nx : ∀ x : Int32, x = (if i = 0 then hmS V b (r.getD 0 0) else btS V (r.getD (i - 1) 0) (r.getD i 0)) → R (wlk V b r i + x) (nI i + 1) := fun x ex => by
      rw [nI_1, ex]
      exact ih _ _ ⟨i + 1, by omega, rfl, rfl⟩ (by rw [nI_clamp (by omega), nI_clamp (by omega)]; omega)
    rw [if_neg (nI_ge hin (by omega)), jn_eq]
    by_cases e : i = 0
    · subst e
      rw [if_neg (fun z => z rfl), rdI_n (by omega) (by omega), h54 0 hin, fromHomeV pv hb (by omega)]
      dsimp only
      rw [vK_eq]
      exact nx _ (if_pos rfl).symm
    · have h2 := ha _ (getD_mem (r := r) (j := i - 1) (by omega))
      rw [if_pos (show nI i ≠ 0 from fun z => e ((nI_eq (b := 0) (by omega) (by omega)).mp z)), li_1, pk_sub (by omega), ← li_1, rdI_n (by omega) (by omega), h54 _ (by omega), rdI_n (by omega) (by omega), h54 i hin, betweenV pv (by omega) (by omega)]
      dsimp only
      rw [vK_eq]
      exact nx _ (if_neg e).symm
  · have e : i = r.length := by omega
    subst e
    unfold walkS at hQ
    rw [if_pos (Int32.le_refl _), jn_eq]
    by_cases e : r.length = 0
    · rw [if_pos e] at hQ
      rw [e, if_neg (fun z => z rfl)]
      rw [e] at hQ
      exact hQ
    · have h2 := ha _ (getD_mem (r := r) (j := r.length - 1) (by omega))
      rw [if_neg e] at hQ
      rw [if_pos (show nI r.length ≠ 0 from fun z => e ((nI_eq (b := 0) (by omega) (by omega)).mp z)), li_1, pk_sub (by omega), rdI_n (by omega) (by omega), h54 _ (by omega), fromHomeV pv hb (by omega)]
      exact hQ
theorem sum_at {f : (Int32 → Int32 → Prop) → Int32 → Int32 → Prop} {g : Nat → Int32} {N : Nat} {E : Int32 → Prop} {s0 : Int32} (hN : N < 2 ^ 31) (hs : ∀ R s i, i < N → R (s + g i) (nI (i + 1)) → f R s (nI i)) (he : ∀ R s, E s → f R s (nI N)) (h : E (s0 + sumI g N)) : LP2 f s0 (nI 0) := by
  refine LP2.ind (fun s v => ∃ i, i ≤ N ∧ v = nI i ∧ s = s0 + sumI g i) (fun _ v => N - v.toNatClampNeg) ?_ ⟨0, by omega, rfl, (Int32.add_zero s0).symm⟩
  rintro R s v ⟨i, hi, rfl, rfl⟩ ih
  by_cases hin : i < N
  · exact hs R _ i hin (ih _ _ ⟨i + 1, by omega, rfl, Int32.add_assoc _ _ _⟩ (by rw [nI_clamp (by omega), nI_clamp (by omega)]; omega))
  · have e : i = N := by omega
    subst e
    exact he R _ h
theorem CO.plan (g : CO H P K I M l q f m h D n) : (m ≤ 3 ∧ h ≤ 10) ∧ (∀ i, i < m → PMan P.1 (clV M) i) ∧ (∀ i, i < h → PHou P.1 (clV M) f m i) ∧ P.1 0 2 = nI m ∧ P.1 0 3 = nI h ∧ (sI M 0 0 0).1 0 37 = nI m ∧ (sI M 0 0 0).1 0 38 = nI h ∧ PV (sI M 0 0 0) (clV M) := by
  obtain ⟨-, -, gp, -⟩ := g
  obtain ⟨⟨⟨b1, b2, b3, b4, b5⟩, ⟨p1, p2, p3, p4, p5⟩, -⟩, -, -, -, gm, gh, -⟩ := gp.cl
  exact ⟨⟨b4, b5⟩, gm, gh, p4, p5, (th_at (by omega)).trans gp.1.2.2.2.2.2.1, (th_at (by omega)).trans gp.1.2.2.2.2.2.2, fun j x h1 h2 hx => (th_at (by omega)).trans (clV_r ⟨h1, h2⟩ hx).symm⟩
theorem hasDay (g : CO H P K I M l q f m h D n) {r : List Nat} (hr : r = hisD M d b) (hd : d < D) (hb : b < m) : K.2 10 (3 * d + b) = lN (encL r) ∧ r.length ≤ 10 ∧ ∀ a ∈ r, a < h := by
  subst hr
  have := g.plan.1.1
  obtain ⟨nn, -, -, -, -, -, k10, k11⟩ := g.dayd hd
  exact ⟨k10 b (by omega), k11 b⟩
theorem g_way (g : CO H P K I M l q f m h D n) (hF : FOK F (clV M) l q f) : k_X11_way H P K F W T a1 a2 a3 fun x F' => k_X12_way M a1 a2 a3 fun y M' => x = y ∧ MA M M' ∧ FOK F' (clV M) l q f := by
  obtain ⟨vw, v36, TL, gf, p1, l4, q3, f5, t7⟩ := g.fr
  obtain ⟨⟨m3, h9⟩, gm, gh, pm, ph, v37, v38, pv⟩ := g.plan
  obtain ⟨D200, n60, k0, k1⟩ := g.2.2.2.1.1.1
  have d1 : (sI M 0 0 0).1 0 77 = nI D := (th_at (by omega)).trans g.2.2.2.1.2.1
  have g52 := g.2.2.2.2.2
  have tp := Nat.two_pow_pos (l + q)
  unfold k_X11_way
  by_cases cm : ∃ b, b < m ∧ a1 = nI b
  · obtain ⟨b, hb, rfl⟩ := cm
    rw [hasMan_y pm (by omega) hb, if_neg (by decide)]
    by_cases cd : ∃ d, d < D ∧ a2 = nI d
    · obtain ⟨d, hd, rfl⟩ := cd
      rw [isDone_y k0 D200 hd, if_neg (by decide)]
      rcases i32_cases a3 with hn | ⟨w, hw, rfl⟩
      · have n4 : ¬ (0 : Int32) ≤ a3 := Int32.not_le.mpr hn
        rw [if_neg n4]
        unfold k_X12_way
        try dsimp only
        rw [wrF_eq, isMan_y v37 (by omega) hb, if_neg (by decide), isDoneR_y d1 D200 hd, if_neg (by decide), if_neg n4]
        exact ⟨rfl, MA.th, hF⟩
      · rw [if_pos (nI_pos' hw)]
        obtain ⟨r, hr⟩ : ∃ r, r = hisD M d b := ⟨_, rfl⟩
        obtain ⟨hK, hl, ha⟩ := hasDay g hr hd hb
        have ha2 : ∀ a ∈ r, a < 16 := fun a h => by have := ha a h; omega
        have R : ∀ Q, (∀ c, DID (sI M 0 0 0) c r → (if nI w ≠ (0 : Int32) then (if nI w ≤ (2 : Int32) then k_X12_walked c (nI b) (fun t305 => LP2 (fun R314 (v312 : Int32) (v313 : Int32) => (if (c.1 0 101) ≤ v313 then Q v312 c else (if nI w ≠ (2 : Int32) then Q v312 c else rdI c 54 10 v313 (fun t322 => rdI c 20 20 t322 (fun t324 => rdI c 52 5 t324 (fun t326 => vK (v312 + t326) (fun v328 => R314 v328 (v313 + 1)))))))) t305 (0 : Int32)) else jn (fun (t337 : Int32) => Q t337 c) (fun J339 => (if (c.1 0 101) ≤ (nI w - (3 : Int32)) then J339 (-1 : Int32) else rdI c 54 10 (nI w - (3 : Int32)) (fun t341 => J339 t341)))) else Q (c.1 0 101) c)) → k_X12_way M (nI b) (nI d) (nI w) Q := fun Q hQ => by
          unfold k_X12_way
          try dsimp only
          rw [wrF_eq, isMan_y v37 (by omega) hb, if_neg (by decide), isDoneR_y d1 D200 hd, if_neg (by decide), if_pos (nI_pos' hw)]
          refine did_ok h9 m3 (g.dayd hd) (by omega) hb ?_
          rw [← hr]
          exact hQ
        by_cases w0 : w = 0
        · subst w0
          rw [if_pos (show nI 0 = 0 from rfl), wayLength_ok (by omega) (by omega) hK hl ha2]
          refine R _ fun c hc => ?_
          rw [if_neg (fun z => z rfl), hc.2.1]
          exact ⟨rfl, MA.th.trans hc.ma, hF⟩
        · have nz : nI w ≠ (0 : Int32) := fun z => w0 ((nI_eq (b := 0) (by omega) (by omega)).mp z)
          rw [if_neg nz]
          have wk : ∀ (c : CT) (Q : Int32 → Prop), DID (sI M 0 0 0) c r → Q (walkS (clV M) b r) → k_X12_walked c (nI b) Q := fun c Q hc hQ => walked_ok (fun j x h1 h2 hx => (hc.1 j x (by omega) (by omega)).trans (pv j x h1 h2 hx)) h9 (by omega) hc.2.1 hc.2.2 hl ha hQ
          by_cases w1 : w = 1
          · subst w1
            rw [if_pos (show nI 1 = 1 from rfl)]
            refine wayWalk_ok (gm b hb) gh h9 (by omega) (by omega) hK hl ha (R _ fun c hc => ?_)
            rw [if_pos nz, li_2, if_pos (nI_le (by omega) (by omega))]
            refine wk c _ hc (LP2.one fun R2 => ?_)
            have fin : walkS (clV M) b r = walkS (clV M) b r ∧ MA M c ∧ FOK F (clV M) l q f := ⟨rfl, MA.th.trans hc.ma, hF⟩
            refine ite_b (fun _ => fin) fun _ => ?_
            rw [if_pos (by decide)]
            exact fin
          · rw [if_neg (show ¬ nI w = 1 from fun z => w1 ((nI_eq (b := 1) (by omega) (by omega)).mp z))]
            by_cases w2 : w = 2
            · subst w2
              rw [if_pos (show nI 2 = 2 from rfl)]
              have tk : ∀ i, i < r.length → ∃ y, y < f ∧ clV M 20 (r.getD i 0) = nI y ∧ P.1 (33 + r.getD i 0) 1 = nI y ∧ tkO M l q (r.getD i 0) = nI (minS (clV M) l q y (2 ^ (l + q) - 1) false) := fun i hi => by
                obtain ⟨-, ⟨ep, y, hy, ey⟩, -⟩ := gh _ (ha _ (getD_mem hi))
                refine ⟨y, hy, ey, ep.trans ey, ?_⟩
                unfold tkO
                rw [ey, nv_n (by omega)]
              refine wayWalk_ok (gm b hb) gh h9 (by omega) (by omega) hK hl ha ?_
              unfold k_X11_worker k_X10_wayMinutes
              refine sum_lp3 (g := fun i => tkO M l q (r.getD i 0)) (N := r.length) (J := fun c => FOK c (clV M) l q f) (E := fun x F' => k_X12_way M (nI b) (nI d) (nI 2) fun y M' => walkS (clV M) b r + x = y ∧ MA M M' ∧ FOK F' (clV M) l q f) (by omega) (fun R2 s i c hc hi hr => ?_) (fun R2 s c hc hE => ?_) hF (fun F' hF' => ?_)
              · obtain ⟨y, hy, -, ey, et⟩ := tk i hi
                have hx := ha _ (getD_mem hi)
                rw [wayLength_ok (by omega) (by omega) hK hl ha2, if_neg (nI_ge hi (by omega)), wayHouse_ok (by omega) (by omega) hK hl ha2 hi, ixN_n (by omega) (by omega), ey, vK_eq, allBits_eq TL]
                refine timeFor_ok (held := false) TL gf f5 hc hy (by omega) rfl fun F2 hF2 => ?_
                have := hr F2 hF2
                rw [et] at this
                rw [vK_eq, nI_1]
                exact this
              · rw [wayLength_ok (by omega) (by omega) hK hl ha2, if_pos (Int32.le_refl _)]
                exact hE
              · refine R _ fun c hc => ?_
                rw [if_pos nz, li_2, if_pos (Int32.le_refl _)]
                refine wk c _ hc ?_
                refine sum_at (g := fun i => tkO M l q (r.getD i 0)) (N := r.length) (E := fun x => walkS (clV M) b r + sumI (fun i => tkO M l q (r.getD i 0)) r.length = x ∧ MA M c ∧ FOK F' (clV M) l q f) (by omega) (fun R2 s i hi hr => ?_) (fun R2 s hE => ?_) ⟨rfl, MA.th.trans hc.ma, hF'⟩
                · obtain ⟨y, hy, ey, -, et⟩ := tk i hi
                  have hx := ha _ (getD_mem hi)
                  have c20 : c.1 20 (r.getD i 0) = nI y := by
                    rw [hc.1 20 _ (by omega) (by omega), pv 20 _ (by omega) (by omega) (show r.getD i 0 < 10 by omega)]
                    exact ey
                  have c52 : c.1 52 y = nI (minS (clV M) l q y (2 ^ (l + q) - 1) false) := by
                    rw [hc.1 52 _ (by omega) (by omega), th_at (by omega)]
                    exact g52 y hy
                  rw [et] at hr
                  rw [hc.2.1, if_neg (nI_ge hi (by omega)), if_neg (fun z => z rfl), rdI_n (by omega) (by omega), hc.2.2 i hi, rdI_n (by omega) (by omega), c20, rdI_n (by omega) (by omega), c52, vK_eq, nI_1]
                  exact hr
                · rw [hc.2.1, if_pos (Int32.le_refl _)]
                  exact hE
            · have w3 : 3 ≤ w := by omega
              rw [if_neg (show ¬ nI w = 2 from fun z => w2 ((nI_eq (b := 2) (by omega) (by omega)).mp z)), li_3, pk_sub w3]
              by_cases wl : w - 3 < r.length
              · rw [wayHouse_ok (by omega) (by omega) hK hl ha2 wl]
                refine R _ fun c hc => ?_
                rw [if_pos nz, li_2, if_neg (by rw [nI_le' (by omega) (by omega)]; omega), jn_eq, li_3, pk_sub w3, hc.2.1, if_neg (nI_ge wl (by omega)), rdI_n (by omega) (by omega), hc.2.2 _ wl]
                exact ⟨rfl, MA.th.trans hc.ma, hF⟩
              · refine wayHouse_n (by omega) (by omega) hK hl ha2 (fun ⟨i, hi, e⟩ => wl (by have := (nI_eq (by omega) (by omega)).mp e; omega)) (R _ fun c hc => ?_)
                rw [if_pos nz, li_2, if_neg (by rw [nI_le' (by omega) (by omega)]; omega), jn_eq, li_3, pk_sub w3, hc.2.1, if_pos (nI_le (by omega) (by omega))]
                exact ⟨rfl, MA.th.trans hc.ma, hF⟩
    · rw [isDone_n k0 D200 cd, if_pos rfl]
      unfold k_X12_way
      try dsimp only
      rw [wrF_eq, isMan_y v37 (by omega) hb, if_neg (by decide), isDoneR_n d1 D200 cd, if_pos rfl]
      exact ⟨rfl, MA.th, hF⟩
  · rw [hasMan_n pm (by omega) cm, if_pos rfl]
    unfold k_X12_way
    try dsimp only
    rw [wrF_eq, isMan_n v37 (by omega) cm, if_pos rfl]
    exact ⟨rfl, MA.th, hF⟩
end W3
