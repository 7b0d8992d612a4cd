/-! ===== reading: all lines on both sides ===== -/
section All2
variable {H P R c M : CT} {T : Nat → T4} {K n i l q f m h t : Nat} {Q : Int32 → CT → CT → Prop}
theorem tSt_ne {j k : Nat} (e : ¬ hdC j k) (e2 : ¬ (j = 30 ∧ 200 ≤ k)) : (tSt M n).1 j k = M.1 j k := by
  unfold tSt
  rw [zF_ne (by omega), hd_ne e]
theorem tSt_row : (tSt M n).1 1 = M.1 1 := funext fun k => tSt_ne (by unfold hdC; omega) (by omega)
theorem tSt_rd (hx : TXT (M.1 1) n) : RDr (tSt M n) (wTk (tSt M n) (cur (M.1 1) n (M.1 0 65) 0)) (cur (M.1 1) n (M.1 0 65)) n 0 := by
  have e : ∀ k, (tSt M n).1 0 k = (hdM M n).1 0 k := fun k => zF_ne (by omega)
  refine ⟨?_, MA.t (fun _ _ _ => rfl), ?_, ⟨rfl, rfl, rfl, rfl⟩, ?_, ?_⟩
  · rw [tSt_row]
    exact hx.tks
  · rw [wTk_ne (by omega), e, hd_61]
  · rw [wTk_ne (by omega), e, hd_0 (by omega)]
  · rw [wTk_ne (by omega), e, hd_67]
theorem tSt_tok {S : CT → Prop} (hx : TXT (M.1 1) n) (hS : S (wTk (tSt M n) (cur (M.1 1) n (M.1 0 65) 0))) : k2_X12_token (tSt M n) S := by
  have e : ∀ k, (tSt M n).1 0 k = (hdM M n).1 0 k := fun k => zF_ne (by omega)
  refine ⟨n, 0, ⟨?_, hx.1, by omega, ?_, ?_⟩, ?_⟩
  · rw [e, hd_61]
  · rw [e, hd_0 (by omega)]
    rfl
  · rw [tSt_row]
    exact hx.2
  · have e65 : (tSt M n).1 0 65 = M.1 0 65 := tSt_ne (by unfold hdC; omega) (by omega)
    rw [tSt_row, e65]
    exact hS
theorem tSt_pr {u : T4} (z1 : P.1 1 0 = 0 ∧ P.1 1 1 = 0 ∧ P.1 0 1 = 0 ∧ P.1 0 2 = 0 ∧ P.1 0 3 = 0) (z2 : ∀ d, d < 200 → P.1 10 d = 0) (z3 : P.1 11 0 = 0 ∧ P.1 13 0 = 0 ∧ P.1 0 10 = 0 ∧ P.1 0 11 = 0 ∧ P.1 0 12 = 0) : PRel P.1 (uppV (wTk (tSt M n) u)) 0 0 0 0 0 := by
  have v0 : ∀ k, 34 ≤ k → k ≤ 45 → uppV (wTk (tSt M n) u) 0 k = 0 := fun k h1 h2 => by
    rw [upp_t (by omega), uppV_0]
    exact (zF_ne (by omega)).trans (hd_0 (by omega))
  refine ⟨⟨by omega, ⟨z1.1, z1.2.1, z1.2.2.1, z1.2.2.2.1, z1.2.2.2.2⟩, v0 34 (by omega) (by omega), v0 35 (by omega) (by omega), v0 36 (by omega) (by omega), v0 37 (by omega) (by omega), v0 38 (by omega) (by omega)⟩, fun i hi => absurd hi (by omega), fun i hi => absurd hi (by omega), fun i hi => absurd hi (by omega), fun i hi => absurd hi (by omega), fun i hi => absurd hi (by omega), fun d hd => ?_, ?_, ?_⟩
  · have e : uppV (wTk (tSt M n) u) 30 d = 0 := by
      rw [upp_t (by omega), uppV_u (by omega)]
      exact zF_at (show 200 ≤ 200 + d ∧ 200 + d < 200 + 200 by omega)
    rw [e, z2 d hd]
    exact ⟨rfl, Or.inl rfl⟩
  · have r : ∀ x : Nat → Int32, RulR x (uppV (wTk (tSt M n) u)) 0 0 := fun x => ⟨by omega, by omega, fun i hi => absurd hi (by omega), fun i hi => absurd hi (by omega), fun hi => absurd hi (by omega)⟩
    exact ⟨0, 0, 0, 0, z3.1, v0 39 (by omega) (by omega), v0 40 (by omega) (by omega), r _, z3.2.1, v0 41 (by omega) (by omega), v0 42 (by omega) (by omega), r _, v0 45 (by omega) (by omega), by omega⟩
  · exact ⟨z3.2.2.1.trans (v0 43 (by omega) (by omega)).symm, z3.2.2.2.1.trans (v0 44 (by omega) (by omega)).symm, 0, 0, by omega, by omega, v0 43 (by omega) (by omega), v0 44 (by omega) (by omega)⟩
theorem readAll_ok {s : Nat} (hR0 : RuleOk 0) (hR1 : RuleOk 1) (hT : TR (H.1 1) (M.1 1) n) (h9 : n ≤ 900) (hn : n ≤ s) (hs : s ≤ 900) (h2 : M.1 0 2 = nI s) (hS : ∀ P' R' c' l q f m h, FLc R' 0 (-1) → FLr (tSt M n) c' 0 (-1) → PRel P'.1 (uppV c') l q f m h → EXR P' c' m h → (∀ S, tFin S c' → k2_X12_text M (nI n) S) → Q 1 P' R') (hF : ∀ P' R' c' k p, k ≠ 0 → FLc R' k p → FLr (tSt M n) c' k p → (∀ S, tFin S c' → k2_X12_text M (nI n) S) → Q 0 P' R') : k2_X7_readAll H P R (nI n) Q := by
  have hx : TXT (M.1 1) n := ⟨h9, fun i hi => ⟨(hT i hi).1, (hT i hi).2.1⟩⟩
  have mx : mxI (0 : Int32) (mnI (nI n) (mnI (900 : Int32) (900 : Int32))) = nI n := by
    have e : mnI (900 : Int32) (900 : Int32) = nI 900 := by decide
    rw [e, mnI_n (by omega) (by omega), if_neg (by omega)]
    unfold mxI
    by_cases z : (0 : Int32) < nI n
    · rw [if_pos z]
    · rw [li_0, nI_lt' (by omega) (by omega)] at z
      rw [show n = 0 by omega]
      decide
  unfold k2_X7_readAll
  rw [mx, wrF_eq]
  refine ⟨n, sI_same, h9, fun K c1 sp => ?_⟩
  have rk : RKc c1 (cur (M.1 1) n (M.1 0 65)) K n := spl_rk sp hT h9 sI_same
  refine clear_ok fun P1 z1 z2 z3 => ?_
  simp only [wrF_eq]
  have rk2 := rk
  obtain ⟨k1, k2, k3, k4, k5, -⟩ := rk2
  have fin : ∀ (R1 : CT), RDc R1 (cur (M.1 1) n (M.1 0 65)) K n 0 → LP3 (fun R18 (v15 : Int32) (c16 : CT) (c17 : CT) => (if (c17.1 0 2) < v15 then Q (1 : Int32) c16 c17 else (if (c17.1 0 8) ≠ (41 : Int32) then k_X7_readLine c16 c17 (fun t112 c110 c111 => (if t112 ≠ (0 : Int32) then (if (c111.1 0 8) = (27 : Int32) then k_X7_advance c111 (fun c123 => R18 (v15 + 1) (sI c110 0 12 ((c110.1 0 12) + (1 : Int32))) c123) else k_X7_fail c111 (1 : Int32) (fun t127 c126 => rZ t127 (fun t128 => Q t128 c110 c126))) else Q (0 : Int32) c110 c111)) else Q (1 : Int32) c16 c17))) (0 : Int32) P1 R1 := by
    intro R1 r1
    refine LP3.ind (fun v P' R' => ∃ (b i l q f m h : Nat) (c' : CT), v = nI b ∧ b ≤ i ∧ RDc R' (cur (M.1 1) n (M.1 0 65)) K n i ∧ RDr (tSt M n) c' (cur (M.1 1) n (M.1 0 65)) n i ∧ PRel P'.1 (uppV c') l q f m h ∧ EXR P' c' m h ∧ ∀ S, tLp S c' → k2_X12_text M (nI n) S) (fun _ _ R' => K + 1 - (R'.1 0 7).toNatClampNeg) ?_ ⟨0, 0, 0, 0, 0, 0, 0, _, rfl, Nat.le_refl _, r1, tSt_rd hx, tSt_pr z1 z2 z3, ?_, fun S w => text_go hn hs h2 (tSt_tok hx w)⟩
    · rintro S v P2 R2 ⟨b, i, l, q, f, m, h, c2, rfl, hb, rc, rr, rp, rx, re⟩ ih
      have shp := rc.1.2.2.2.2.2.2.2 i
      have iK := rc.2.1
      rw [rc.1.2.1, if_neg (by rw [nI_lt' (by omega) (by omega)]; omega), rc.2.2.2.1, inc_n]
      refine ite_b (fun z => ?_) fun z => ?_
      · have n4 : (cur (M.1 1) n (M.1 0 65) i).2.2.1 ≠ 4 := fun y => z (by rw [KT_end shp]; exact y)
        refine line_ok hR0 hR1 rc rr rp rx (fun P' R' c' i' l' q' f' m' h' a1 a2 a3 a4 a5 a6 => ?_) fun P' R' c' k p a1 a2 a3 a4 => ?_
        · rw [if_pos (by decide), a2.2.2.2.1]
          have shp' := a2.1.2.2.2.2.2.2.2 i'
          refine ite_b (fun y => ?_) fun y => ?_
          · rw [KT_s27 shp'] at y
            refine adv_ok a2 (a2.lt (by rw [y.1]; decide)) fun R3 r3 _ _ => ?_
            have := r3.2.1
            refine ih _ _ _ ⟨b + 1, i' + 1, l', q', f', m', h', sI (wTk c' (cur (M.1 1) n (M.1 0 65) (i' + 1))) 0 60 (c'.1 0 60 + 1), rfl, by omega, r3, a3.tk.s (nrv_0 (by omega)) (by omega), ?_, ?_, fun S w => re S (tLp_go (fun S' hs => tBd_l rr n4 (a6 _ (lTail_y a3 y hs))) w)⟩ ?_
            · refine a4.ln (fun j k z => sI_ne (by omega)) fun j k w => ?_
              have w' : j = 0 → k ≤ 45 := by
                unfold VWR at w
                omega
              rw [upp_f (by omega), upp_t w']
            · obtain ⟨⟨t, t5, ht, b6, b7, b8⟩, x1, x2, x3, x4⟩ := a5
              refine ⟨⟨t, t5, ?_, ?_, ?_, ?_⟩, ?_, ?_, ?_, fun j hj => ?_⟩
              · rw [sI_ne (by omega), wTk_ne (by omega)]
                exact ht
              · rw [sI_ne (by omega)]
                exact b6
              · rw [sI_ne (by omega)]
                exact b7
              · rw [sI_ne (by omega)]
                exact b8
              · rw [sI_ne (by omega), sI_ne (by omega), wTk_ne (by omega), wTk_ne (by omega)]
                exact x1
              · rw [sI_same, sI_same, x2]
              · have e : ∀ k, k = 70 ∨ k = 53 ∨ k = 51 → (sI (wTk c' (cur (M.1 1) n (M.1 0 65) (i' + 1))) 0 60 (c'.1 0 60 + 1)).1 0 k = c'.1 0 k := fun k hk => by
                  rw [sI_ne (by omega), wTk_ne (by omega)]
                rw [e 70 (by omega), e 53 (by omega), e 51 (by omega), sI_ne (by omega), sI_ne (by omega)]
                exact x3
              · obtain ⟨x, y1, y2, y3⟩ := x4 j hj
                refine ⟨x, y1, ?_, ?_⟩
                · rw [sI_ne (by omega)]
                  exact y2
                · rw [sI_ne (by omega), wTk_ne (by omega)]
                  exact y3
            · rw [r3.2.2.1, rc.2.2.1, nI_clamp (by omega), nI_clamp (by omega)]
              omega
          · rw [KT_s27 shp'] at y
            refine fail_ok a2 fun R3 f3 => ?_
            rw [rZ_0]
            have fx : FLr (tSt M n) (sI (flt c' 1) 0 60 (c'.1 0 60 + 1)) 1 (cur (M.1 1) n (M.1 0 65) i').2.1 := a3.fl.s (nrv_0 (by omega)) (by omega)
            exact hF _ _ _ _ _ (by decide) f3 fx fun S w => re S (tLp_go (fun S' hs => tBd_l rr n4 (a6 _ (lTail_n a3 y hs))) (tLp_x fx (by decide) w))
        · rw [if_neg fun y => y rfl]
          exact hF P' R' c' k p a1 a2 a3 fun S w => re S (tLp_go (fun S' hs => tBd_l rr n4 (a4 _ hs)) (tLp_x a3 a1 w))
      · have z := Classical.not_not.mp z
        rw [KT_end shp] at z
        exact hS P2 R2 c2 l q f m h ⟨rc.2.2.2.2.2.1, rc.2.2.2.2.2.2⟩ ⟨rr.2.1, rr.2.2.2.2.1, rr.2.2.2.2.2⟩ rp rx fun S w => re S (tLp_e rr z w)
    · have e : ∀ k, (tSt M n).1 0 k = (hdM M n).1 0 k := fun k => zF_ne (by omega)
      have e0 : ∀ k, (57 ≤ k ∧ k ≤ 60) ∨ k = 70 ∨ k = 51 ∨ k = 53 → (wTk (tSt M n) (cur (M.1 1) n (M.1 0 65) 0)).1 0 k = 0 := fun k hk => by
        rw [wTk_ne (by omega), e, hd_0 (by omega)]
      have no : ∀ x : Int32, x = 0 → (((0 : Nat).testBit 6 = true ↔ ¬ x ≤ 0) ∧ ((0 : Nat).testBit 7 = true ↔ ¬ x ≤ 0) ∧ ((0 : Nat).testBit 8 = true ↔ ¬ x ≤ 0)) := fun x hx => by
        subst hx
        refine ⟨⟨fun y => absurd y (by decide), fun y => absurd (Int32.le_refl _) y⟩, ⟨fun y => absurd y (by decide), fun y => absurd (Int32.le_refl _) y⟩, ⟨fun y => absurd y (by decide), fun y => absurd (Int32.le_refl _) y⟩⟩
      refine ⟨⟨0, by omega, e0 59 (by omega), (no _ z3.1).1, (no _ z3.2.1).2.1, (no _ z3.2.2.1).2.2⟩, ?_, ?_, ⟨e0 70 (by omega), fun _ => e0 53 (by omega), fun _ => e0 51 (by omega)⟩, fun j hj => absurd hj (by omega)⟩
      · rw [e0 58 (by omega), e0 57 (by omega)]
      · rw [e0 60 (by omega), z3.2.2.2.2]
  unfold k_X7_advance
  rw [jn_eq, if_neg, sI_same]
  · rw [wrF_eq]
    dsimp only
    rw [show (-1 : Int32) + 1 = nI 0 by decide, sI_same, rdI_n (by omega) (by omega), sI_ne (by omega), sI_ne (by omega), sI_ne (by omega), sI_ne (by omega), wrF_eq, sI_ne (by omega), sI_same, rdI_n (by omega) (by omega), sI_ne (by omega), sI_ne (by omega), sI_ne (by omega), sI_ne (by omega), sI_ne (by omega), wrF_eq]
    refine fin _ ⟨rk.mv fun j k z => ?_, by omega, ?_, ?_, ?_, ?_, ?_⟩
    · rw [sI_ne (by omega), sI_ne (by omega), sI_ne (by omega), sI_ne (by omega), sI_ne (by omega), sI_ne (by omega)]
    · rw [sI_ne (by omega), sI_ne (by omega), sI_same]
    · rw [sI_ne (by omega), sI_same]
      exact (k5 0 (by omega)).1
    · rw [sI_same, sI_ne (by omega), sI_ne (by omega), sI_ne (by omega), sI_ne (by omega), sI_ne (by omega), sI_ne (by omega)]
    · rw [sI_ne (by omega), sI_ne (by omega), sI_ne (by omega), sI_ne (by omega), sI_ne (by omega), sI_same]
    · rw [sI_ne (by omega), sI_ne (by omega), sI_ne (by omega), sI_ne (by omega), sI_same]
  · rw [sI_same, sI_ne (by omega), sI_ne (by omega), sI_ne (by omega), k1, sub1_n (by omega)]
    intro y
    exact Int32.not_le.mpr (Int32.lt_of_lt_of_le (by decide : (-1 : Int32) < 0) (nI_pos' (by omega))) y
end All2
