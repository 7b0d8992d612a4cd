/-! ===== shortest: both sides agree ===== -/
section GSh
variable {H P K I M T N : CT} {l q f m h D n d b : Nat} {a1 a2 a3 : Int32}
theorem his_nd (g : CO H P K I M l q f m h D n) (hd : d < D) : (hisD M d b).Nodup := by
  obtain ⟨-, -, -, ⟨⟨-, -, gd, -⟩, -⟩, -⟩ := g
  have nd := (gd d hd).2.1
  exact List.Pairwise.sublist (List.Sublist.map Prod.fst List.filter_sublist) nd
theorem g_shortest (g : CO H P K I M l q f m h D n) : k_X11_shortest H P K T N a1 a2 a3 fun x T' N' => k_X12_shortest M a1 a2 a3 fun y M' => x = y ∧ MA M M' ∧ ∀ j k, j ≠ 1 → j ≠ 2 → ¬ (j = 0 ∧ k = 4) → T'.1 j k = T.1 j k := by
  obtain ⟨⟨m3, h9⟩, gm, gh, pm, ph, v37, v38, pv⟩ := g.plan
  obtain ⟨D200, n60, k0, k1⟩ := g.2.2.2.1.1.1
  have d1 : (sI M 0 0 0).1 0 77 = nI D := (th_at (by omega)).trans g.2.2.2.1.2.1
  have same : ∀ j k, j ≠ 1 → j ≠ 2 → ¬ (j = 0 ∧ k = 4) → T.1 j k = T.1 j k := fun _ _ _ _ _ => rfl
  unfold k_X11_shortest
  by_cases cm : ∃ b, b < m ∧ a1 = nI b
  · obtain ⟨b, hb, rfl⟩ := cm
    rw [hasMan_y pm (by omega) hb, if_neg (by decide)]
    by_cases cd : ∃ d, d < D ∧ a2 = nI d
    · obtain ⟨d, hd, rfl⟩ := cd
      rw [isDone_y k0 D200 hd, if_neg (by decide)]
      rcases i32_cases a3 with hn | ⟨w, hw, rfl⟩
      · have n4 : ¬ (0 : Int32) ≤ a3 := Int32.not_le.mpr hn
        rw [if_neg n4]
        unfold k_X12_shortest
        try dsimp only
        rw [wrF_eq, isMan_y v37 (by omega) hb, if_neg (by decide), isDoneR_y d1 D200 hd, if_neg (by decide), if_neg n4]
        exact ⟨rfl, MA.th, same⟩
      · rw [if_pos (nI_pos' hw)]
        obtain ⟨r, hr⟩ : ∃ r, r = hisD M d b := ⟨_, rfl⟩
        obtain ⟨hK, hl, ha⟩ := hasDay g hr hd hb
        have nd : r.Nodup := by rw [hr]; exact his_nd g hd
        have ha2 : ∀ a ∈ r, a < 16 := fun a h => by have := ha a h; omega
        have ha10 : ∀ a ∈ r, a < 10 := fun a h => by have := ha a h; omega
        have R : ∀ Q, (∀ c, DID (sI M 0 0 0) c r → (if (nI r.length) ≤ (7 : Int32) then (if nI w ≤ nI r.length then (if nI r.length ≠ (0 : Int32) then k_X12_rises c (fun c11759 => LP2 (fun R12145 (v12143 : Int32) (c12144 : CT) => (if (896 : Int32) ≤ v12143 then vK (((1 : Int32) <<< ((c12144.1 0 101) &&& 31)) - (1 : Int32)) (fun v12153 => LP4 (fun R12329 (v12324 : Int32) (v12325 : Int32) (v12326 : Int32) (c12328 : CT) => (if (c12328.1 0 101) ≤ v12326 then (if nI w ≠ (0 : Int32) then vK (v12153 &&& (((1 : Int32) <<< (v12325 &&& 31)) ^^^ (-1 : Int32))) (fun v12421 => LP4 (fun R12438 (v12433 : Int32) (v12434 : Int32) (v12435 : Int32) (c12437 : CT) => (if nI w ≤ v12435 then rdI c12437 54 10 v12434 (fun t12449 => Q t12449 c12437) else LP2 (fun R12461 (v12459 : Int32) (c12460 : CT) => (if ((v12433 >>> (v12459 &&& 31)) &&& (1 : Int32)) = (0 : Int32) then R12461 (v12459 + 1) c12460 else rdI c12460 54 10 v12434 (fun t12474 => rdI c12460 54 10 v12459 (fun t12476 => k_X12_between c12460 t12474 t12476 (fun t12478 => k_X12_shortFrom 9 c12460 (nI b) v12459 (v12433 &&& (((1 : Int32) <<< (v12459 &&& 31)) ^^^ (-1 : Int32))) (fun t12480 c12479 => k_X12_shortFrom 9 c12479 (nI b) v12434 v12433 (fun t12482 c12481 => (if (t12478 + t12480) = t12482 then vK (v12433 &&& (((1 : Int32) <<< (v12459 &&& 31)) ^^^ (-1 : Int32))) (fun v12483 => R12438 v12483 v12459 (v12435 + 1) c12481) else R12461 (v12459 + 1) c12481)))))))) (0 : Int32) c12437)) v12421 v12325 (1 : Int32) c12328) else Q v12324 c12328) else rdI c12328 54 10 v12326 (fun t12501 => k_X12_fromHome c12328 (nI b) t12501 (fun t12503 => k_X12_shortFrom 9 c12328 (nI b) v12326 (v12153 &&& (((1 : Int32) <<< (v12326 &&& 31)) ^^^ (-1 : Int32))) (fun t12505 c12504 => vK (t12503 + t12505) (fun v12506 => (if v12324 = (-1 : Int32) then R12329 v12506 v12326 (v12326 + 1) c12504 else (if v12506 < v12324 then R12329 v12506 v12326 (v12326 + 1) c12504 else R12329 v12324 v12325 (v12326 + 1) c12504)))))))) (-1 : Int32) (0 : Int32) (0 : Int32) c12144) else wrI c12144 55 896 v12143 (-1 : Int32) (fun c12530 => R12145 (v12143 + 1) c12530))) (0 : Int32) c11759) else Q (0 : Int32) c) else Q (-1 : Int32) c) else Q (-1 : Int32) c)) → k_X12_shortest M (nI b) (nI d) (nI w) Q := fun Q hQ => by
          unfold k_X12_shortest
          rw [wrF_eq, isMan_y v37 (by omega) hb, if_neg (by decide), isDoneR_y d1 D200 hd, if_neg (by decide), if_pos (nI_pos' hw)]
          refine did_ok h9 m3 (g.dayd hd) (by omega) hb ?_
          rw [← hr]
          intro c hc
          rw [hc.2.1]
          exact hQ c hc
        rw [wayLength_ok (by omega) (by omega) hK hl ha2]
        by_cases l7 : r.length ≤ 7
        · rw [li_7, if_neg (by rw [nI_lt' (by omega) (by omega)]; omega), wayLength_ok (by omega) (by omega) hK hl ha2]
          by_cases wl : w ≤ r.length
          · rw [if_pos (nI_le wl (by omega))]
            refine findShortest_ok (gm b hb) gh (by omega) h9 (by omega) hK l7 ha nd fun T' N' t1 t2 t3 => ?_
            rw [jn_eq]
            obtain ⟨s, hs⟩ : ∃ s, s = fun x => (stL (mskL r) 10).getD x 0 := ⟨_, rfl⟩
            have RR : ∀ x : Int32, x = nI (if r.length = 0 then 0 else if w = 0 then LeS (clV M) b r.length (fun x => (stL (mskL r) 10).getD x 0) none (2 ^ r.length - 1) else (stL (mskL r) 10).getD (oCh (clV M) b r.length (fun x => (stL (mskL r) 10).getD x 0) (w - 1)) 0) → k_X12_shortest M (nI b) (nI d) (nI w) fun y M' => x = y ∧ MA M M' ∧ ∀ j k, j ≠ 1 → j ≠ 2 → ¬ (j = 0 ∧ k = 4) → T'.1 j k = T.1 j k := fun x ex => by
              refine R _ fun c hc => ?_
              have ma : MA M c := MA.th.trans hc.ma
              rw [li_7, if_pos (nI_le l7 (by omega)), if_pos (nI_le wl (by omega))]
              by_cases z : r.length = 0
              · rw [if_pos z] at ex
                rw [z, if_neg (fun y => y rfl)]
                exact ⟨ex, ma, t1⟩
              · rw [if_neg z] at ex
                rw [if_pos (show nI r.length ≠ 0 from fun y => z ((nI_eq (b := 0) (by omega) (by omega)).mp y))]
                refine rises_ok hc.2.1 hc.2.2 (by omega) ha10 nd (by omega) fun c2 e1 e2 => ?_
                have hsx : ∀ x, x < r.length → (fun x => (stL (mskL r) 10).getD x 0) x < h := fun x hx => by
                  have m1 := stL_mem 10 _ (getD_mem (r := stL (mskL r) 10) (j := x) (by rw [stL_len, pop_msk r nd ha10]; omega))
                  have := m1.2
                  rw [mskL_bit] at this
                  exact ha _ (of_decide_eq_true this)
                refine shortR_ok (M0 := c2) (V := clV M) (s := fun x => (stL (mskL r) 10).getD x 0) (gm b hb) gh (by omega) h9 (by omega) l7 wl hsx (fun j x h1 h2 hx => by rw [e1 j x (by omega), hc.1 j x (by omega) (by omega)]; exact pv j x h1 h2 hx) ((e1 0 101 (by omega)).trans hc.2.1) e2 fun c3 f3 => ⟨ex, ?_, t1⟩
                refine ma.trans fun j k rv => ?_
                unfold RV at rv
                rw [f3 j k (by omega), e1 j k (by omega)]
            by_cases wz : w = 0
            · subst wz
              rw [if_neg (fun y => y rfl)]
              refine RR _ ?_
              rw [if_pos rfl]
            · rw [if_pos (show nI w ≠ 0 from fun y => wz ((nI_eq (b := 0) (by omega) (by omega)).mp y)), sub1_n (by omega)]
              unfold k_X9_shortestHouse
              rw [jn_eq, if_neg (nI_pos (by omega)), t2, if_neg (nI_ge (by omega) (by omega)), rdI_n (by omega) (by omega), t3 _ (by omega)]
              refine RR _ ?_
              rw [if_neg (by omega), if_neg wz]
          · rw [if_neg (by rw [nI_le' (by omega) (by omega)]; exact wl)]
            refine R _ fun c hc => ?_
            rw [li_7, if_pos (nI_le l7 (by omega)), if_neg (by rw [nI_le' (by omega) (by omega)]; exact wl)]
            exact ⟨rfl, MA.th.trans hc.ma, same⟩
        · rw [li_7, if_pos (nI_lt (by omega) (by omega))]
          refine R _ fun c hc => ?_
          rw [li_7, if_neg (by rw [nI_le' (by omega) (by omega)]; exact l7)]
          exact ⟨rfl, MA.th.trans hc.ma, same⟩
    · rw [isDone_n k0 D200 cd, if_pos rfl]
      unfold k_X12_shortest
      try dsimp only
      rw [wrF_eq, isMan_y v37 (by omega) hb, if_neg (by decide), isDoneR_n d1 D200 cd, if_pos rfl]
      exact ⟨rfl, MA.th, same⟩
  · rw [hasMan_n pm (by omega) cm, if_pos rfl]
    unfold k_X12_shortest
    try dsimp only
    rw [wrF_eq, isMan_n v37 (by omega) cm, if_pos rfl]
    exact ⟨rfl, MA.th, same⟩
end GSh
