/-! ===== reading: what may follow in a house's line (tools/gen13.py) ===== -/
section Parts
variable {P R c M : CT} {T : Nat → T4} {K n i l q f m h t : Nat} {Q : Int32 → CT → CT → Prop}
theorem PRel.hox {P' V' P V : VW} (g : PRel P V l q f m h) (eP : ∀ j k, ¬ (j = 33 + h) → P' j k = P j k) (eV : ∀ j k, VWR j k → ¬ (19 ≤ j ∧ j ≤ 29 ∧ k = h) → V' j k = V j k) : PRel P' V' l q f m h := by
  obtain ⟨c1, c2, c3, c4, c5, c6, c7, c8⟩ := g.chg (A := fun j _ => j = 33 + h) eP eV
  obtain ⟨⟨a1, a2, a3, a4, a5⟩, ⟨b1, b2, b3, b4, b5⟩, d1, d2, d3, d4, d5⟩ := g.1
  exact ⟨⟨⟨a1, a2, a3, a4, a5⟩, ⟨(eP _ _ (by omega)).trans b1, (eP _ _ (by omega)).trans b2, (eP _ _ (by omega)).trans b3, (eP _ _ (by omega)).trans b4, (eP _ _ (by omega)).trans b5⟩, (eV _ _ (Or.inl (by omega)) (by omega)).trans d1, (eV _ _ (Or.inl (by omega)) (by omega)).trans d2, (eV _ _ (Or.inl (by omega)) (by omega)).trans d3, (eV _ _ (Or.inl (by omega)) (by omega)).trans d4, (eV _ _ (Or.inl (by omega)) (by omega)).trans d5⟩, fun i hi => c1 i hi (by omega), fun i hi => c2 i hi (by omega), fun i hi => c3 i hi (by omega) (by omega) (by omega), fun i hi => c4 i hi (by omega) (by omega), fun i hi => c5 i hi (by omega) (by omega), fun d hd => c6 d hd (by omega) (by omega), c7 (by omega) (by omega) (by omega), c8 (by omega) (by omega)⟩
theorem PRel.hou {P' V' P V : VW} (g : PRel P V l q f m h) (hh : h < 10) (eP : ∀ j k, ¬ (j = 0 ∧ k = 3) → P' j k = P j k) (eV : ∀ j k, VWR j k → ¬ (j = 0 ∧ k = 38) → V' j k = V j k) (e1 : P' 0 3 = nI (h + 1)) (e2 : V' 0 38 = nI (h + 1)) (new : PHou P' V' f m h) : PRel P' V' l q f m (h + 1) := by
  obtain ⟨c1, c2, c3, c4, c5, c6, c7, c8⟩ := g.chg eP eV
  obtain ⟨⟨a1, a2, a3, a4, a5⟩, ⟨b1, b2, b3, b4, b5⟩, d1, d2, d3, d4, d5⟩ := g.1
  refine ⟨⟨⟨a1, a2, a3, a4, by omega⟩, ⟨(eP _ _ (by omega)).trans b1, (eP _ _ (by omega)).trans b2, (eP _ _ (by omega)).trans b3, (eP _ _ (by omega)).trans b4, e1⟩, (eV _ _ (Or.inl (by omega)) (by omega)).trans d1, (eV _ _ (Or.inl (by omega)) (by omega)).trans d2, (eV _ _ (Or.inl (by omega)) (by omega)).trans d3, (eV _ _ (Or.inl (by omega)) (by omega)).trans d4, e2⟩, fun i hi => c1 i hi (by omega), fun i hi => c2 i hi (by omega), fun i hi => c3 i hi (by omega) (by omega) (by omega), fun i hi => c4 i hi (by omega) (by omega), fun i hi => ?_, fun d hd => c6 d hd (by omega) (by omega), c7 (by omega) (by omega) (by omega), c8 (by omega) (by omega)⟩
  by_cases e : i = h
  · rw [e]
    exact new
  · exact c5 i (by omega) (by omega) (by omega)
theorem PHou.s25 {P' V' P V : VW} (g : PHou P V f m h) (eP : ∀ k, k ≠ 6 → P' (33 + h) k = P (33 + h) k) (eV : ∀ j, 19 ≤ j → j ≤ 29 → j ≠ 25 → V' j h = V j h) (new : P' (33 + h) 6 = V' 25 h ∧ ∃ n : Nat, n < 128 ∧ V' 25 h = nI n) : PHou P' V' f m h := by
  obtain ⟨g0, g1, g2, g3, g4, g5, g6, g7, g8, g9⟩ := g
  refine ⟨?_, ?_, ?_, ?_, ?_, ?_, ?_, ?_, ?_, ?_⟩
  · rw [eP 0 (by omega), eV 19 (by omega) (by omega) (by omega)]
    exact g0
  · rw [eP 1 (by omega), eV 20 (by omega) (by omega) (by omega)]
    exact g1
  · rw [eP 3 (by omega), eV 22 (by omega) (by omega) (by omega)]
    exact g2
  · rw [eP 4 (by omega), eV 23 (by omega) (by omega) (by omega)]
    exact g3
  · rw [eP 5 (by omega), eV 24 (by omega) (by omega) (by omega)]
    exact g4
  · exact new
  · rw [eP 7 (by omega), eV 26 (by omega) (by omega) (by omega)]
    exact g6
  · rw [eP 8 (by omega), eV 27 (by omega) (by omega) (by omega)]
    exact g7
  · rw [eP 9 (by omega), eV 28 (by omega) (by omega) (by omega)]
    exact g8
  · rw [eP 10 (by omega), eV 29 (by omega) (by omega) (by omega)]
    exact g9
theorem PHou.s26 {P' V' P V : VW} (g : PHou P V f m h) (eP : ∀ k, k ≠ 7 → P' (33 + h) k = P (33 + h) k) (eV : ∀ j, 19 ≤ j → j ≤ 29 → j ≠ 26 → V' j h = V j h) (new : P' (33 + h) 7 = V' 26 h ∧ ∃ n : Nat, n ≤ 999 ∧ V' 26 h = nI n) : PHou P' V' f m h := by
  obtain ⟨g0, g1, g2, g3, g4, g5, g6, g7, g8, g9⟩ := g
  refine ⟨?_, ?_, ?_, ?_, ?_, ?_, ?_, ?_, ?_, ?_⟩
  · rw [eP 0 (by omega), eV 19 (by omega) (by omega) (by omega)]
    exact g0
  · rw [eP 1 (by omega), eV 20 (by omega) (by omega) (by omega)]
    exact g1
  · rw [eP 3 (by omega), eV 22 (by omega) (by omega) (by omega)]
    exact g2
  · rw [eP 4 (by omega), eV 23 (by omega) (by omega) (by omega)]
    exact g3
  · rw [eP 5 (by omega), eV 24 (by omega) (by omega) (by omega)]
    exact g4
  · rw [eP 6 (by omega), eV 25 (by omega) (by omega) (by omega)]
    exact g5
  · exact new
  · rw [eP 8 (by omega), eV 27 (by omega) (by omega) (by omega)]
    exact g7
  · rw [eP 9 (by omega), eV 28 (by omega) (by omega) (by omega)]
    exact g8
  · rw [eP 10 (by omega), eV 29 (by omega) (by omega) (by omega)]
    exact g9
theorem PHou.s27 {P' V' P V : VW} (g : PHou P V f m h) (eP : ∀ k, k ≠ 8 → P' (33 + h) k = P (33 + h) k) (eV : ∀ j, 19 ≤ j → j ≤ 29 → j ≠ 27 → V' j h = V j h) (new : P' (33 + h) 8 = V' 27 h ∧ (V' 27 h = 0 ∨ V' 27 h = 1)) : PHou P' V' f m h := by
  obtain ⟨g0, g1, g2, g3, g4, g5, g6, g7, g8, g9⟩ := g
  refine ⟨?_, ?_, ?_, ?_, ?_, ?_, ?_, ?_, ?_, ?_⟩
  · rw [eP 0 (by omega), eV 19 (by omega) (by omega) (by omega)]
    exact g0
  · rw [eP 1 (by omega), eV 20 (by omega) (by omega) (by omega)]
    exact g1
  · rw [eP 3 (by omega), eV 22 (by omega) (by omega) (by omega)]
    exact g2
  · rw [eP 4 (by omega), eV 23 (by omega) (by omega) (by omega)]
    exact g3
  · rw [eP 5 (by omega), eV 24 (by omega) (by omega) (by omega)]
    exact g4
  · rw [eP 6 (by omega), eV 25 (by omega) (by omega) (by omega)]
    exact g5
  · rw [eP 7 (by omega), eV 26 (by omega) (by omega) (by omega)]
    exact g6
  · exact new
  · rw [eP 9 (by omega), eV 28 (by omega) (by omega) (by omega)]
    exact g8
  · rw [eP 10 (by omega), eV 29 (by omega) (by omega) (by omega)]
    exact g9
theorem PHou.s28 {P' V' P V : VW} (g : PHou P V f m h) (eP : ∀ k, k ≠ 9 → P' (33 + h) k = P (33 + h) k) (eV : ∀ j, 19 ≤ j → j ≤ 29 → j ≠ 28 → V' j h = V j h) (new : P' (33 + h) 9 = V' 28 h ∧ ∃ n : Nat, n < 200 ∧ V' 28 h = nI n) : PHou P' V' f m h := by
  obtain ⟨g0, g1, g2, g3, g4, g5, g6, g7, g8, g9⟩ := g
  refine ⟨?_, ?_, ?_, ?_, ?_, ?_, ?_, ?_, ?_, ?_⟩
  · rw [eP 0 (by omega), eV 19 (by omega) (by omega) (by omega)]
    exact g0
  · rw [eP 1 (by omega), eV 20 (by omega) (by omega) (by omega)]
    exact g1
  · rw [eP 3 (by omega), eV 22 (by omega) (by omega) (by omega)]
    exact g2
  · rw [eP 4 (by omega), eV 23 (by omega) (by omega) (by omega)]
    exact g3
  · rw [eP 5 (by omega), eV 24 (by omega) (by omega) (by omega)]
    exact g4
  · rw [eP 6 (by omega), eV 25 (by omega) (by omega) (by omega)]
    exact g5
  · rw [eP 7 (by omega), eV 26 (by omega) (by omega) (by omega)]
    exact g6
  · rw [eP 8 (by omega), eV 27 (by omega) (by omega) (by omega)]
    exact g7
  · exact new
  · rw [eP 10 (by omega), eV 29 (by omega) (by omega) (by omega)]
    exact g9
theorem PHou.s29 {P' V' P V : VW} (g : PHou P V f m h) (eP : ∀ k, k ≠ 10 → P' (33 + h) k = P (33 + h) k) (eV : ∀ j, 19 ≤ j → j ≤ 29 → j ≠ 29 → V' j h = V j h) (new : P' (33 + h) 10 = V' 29 h ∧ ∃ n : Nat, n < 128 ∧ V' 29 h = nI n) : PHou P' V' f m h := by
  obtain ⟨g0, g1, g2, g3, g4, g5, g6, g7, g8, g9⟩ := g
  refine ⟨?_, ?_, ?_, ?_, ?_, ?_, ?_, ?_, ?_, ?_⟩
  · rw [eP 0 (by omega), eV 19 (by omega) (by omega) (by omega)]
    exact g0
  · rw [eP 1 (by omega), eV 20 (by omega) (by omega) (by omega)]
    exact g1
  · rw [eP 3 (by omega), eV 22 (by omega) (by omega) (by omega)]
    exact g2
  · rw [eP 4 (by omega), eV 23 (by omega) (by omega) (by omega)]
    exact g3
  · rw [eP 5 (by omega), eV 24 (by omega) (by omega) (by omega)]
    exact g4
  · rw [eP 6 (by omega), eV 25 (by omega) (by omega) (by omega)]
    exact g5
  · rw [eP 7 (by omega), eV 26 (by omega) (by omega) (by omega)]
    exact g6
  · rw [eP 8 (by omega), eV 27 (by omega) (by omega) (by omega)]
    exact g7
  · rw [eP 9 (by omega), eV 28 (by omega) (by omega) (by omega)]
    exact g8
  · exact new
/-- the reference's rounds over a house's parts -/
def hBd (a1 : Int32) (J : CT → Prop) (R38 : Int32 → CT → Prop) (v34 : Int32) (c37 : CT) : Prop := jn (vK (c37.1 0 65) (fun v49 => vK (if (v49 = (12 : Int32) ∨ ¬ (v49 ≠ (16 : Int32))) then (1 : Int32) else (0 : Int32)) (fun v50 => jn (fun (c52 : CT) => vK (v34 ||| ((1 : Int32) <<< (v49 &&& 31))) (fun v53 => k2_X12_goOn c52 (fun c54 => (if v49 = (12 : Int32) then rdI c54 25 20 a1 (fun t105 => k2_X12_bit c54 t105 (6 : Int32) (fun t108 c107 => wrI c107 25 20 a1 t108 (fun c109 => R38 v53 c109))) else (if v49 = (13 : Int32) then k2_X12_numeral c54 (0 : Int32) (999 : Int32) (fun t113 c112 => wrI c112 26 20 a1 t113 (fun c114 => R38 v53 c114)) else (if v49 = (14 : Int32) then wrI c54 27 20 a1 (vp_nar .boolean (1 : Int32)) (fun c117 => R38 v53 c117) else (if v49 = (15 : Int32) then k2_X12_numeral c54 (0 : Int32) (199 : Int32) (fun t120 c119 => wrI c119 28 20 a1 t120 (fun c121 => R38 v53 c121)) else rdI c54 29 20 a1 (fun t124 => k2_X12_bit c54 t124 (6 : Int32) (fun t127 c126 => wrI c126 29 20 a1 t127 (fun c128 => R38 v53 c128)))))))))) (fun J134 => (if v50 ≠ (0 : Int32) then J134 c37 else (if ((v34 >>> (v49 &&& 31)) &&& (1 : Int32)) ≠ (1 : Int32) then J134 c37 else k_X12_wrong c37 (3 : Int32) (fun c136 => J134 c136))))))) (fun (J147 : Prop) => k_X12_isWord c37 (12 : Int32) (fun t149 => (if t149 ≠ (0 : Int32) then J147 else k_X12_isWord c37 (13 : Int32) (fun t150 => (if t150 ≠ (0 : Int32) then J147 else k_X12_isWord c37 (14 : Int32) (fun t151 => (if t151 ≠ (0 : Int32) then J147 else k_X12_isWord c37 (15 : Int32) (fun t152 => (if t152 ≠ (0 : Int32) then J147 else k_X12_isWord c37 (16 : Int32) (fun t153 => (if t153 = (0 : Int32) then wrF c37 0 50 ((c37.1 0 50) + (1 : Int32)) (fun c154 => J c154) else J147)))))))))))
def rHlp (a1 : Int32) (J : CT → Prop) (v : Int32) (c : CT) : Prop := LP2 (hBd a1 J) v c
theorem houseL_eq {a1 : Int32} {J : CT → Prop} : k2_X12_houseLine c a1 J = k2_X12_fresh c 19 20 (10 : Int32) (c.1 0 50) (fun t2 c1 => wrI c1 19 20 a1 t2 (fun c3 => k2_X12_ahead c3 7 10 (5 : Int32) (c3.1 0 48) (fun t5 c4 => wrI c4 20 20 a1 t5 (fun c6 => k2_X12_ahead c6 15 6 (3 : Int32) (c6.1 0 49) (fun t8 c7 => wrI c7 21 20 a1 t8 (fun c9 => k2_X12_numeral c9 (0 : Int32) (9 : Int32) (fun t11 c10 => wrI c10 22 20 a1 t11 (fun c12 => k2_X12_numeral c12 (0 : Int32) (99 : Int32) (fun t14 c13 => wrI c13 23 20 a1 t14 (fun c15 => k2_X12_numeral c15 (1 : Int32) (9 : Int32) (fun t17 c16 => wrI c16 24 20 a1 t17 (fun c18 => wrI c18 25 20 a1 (0 : Int32) (fun c19 => wrI c19 26 20 a1 (10 : Int32) (fun c20 => wrI c20 27 20 a1 (vp_nar .boolean (0 : Int32)) (fun c21 => wrI c21 28 20 a1 (0 : Int32) (fun c22 => wrI c22 29 20 a1 (0 : Int32) (fun c23 => rHlp a1 J (0 : Int32) c23))))))))))))))))) := rfl
theorem rHlp_go {a1 v v' : Int32} {J : CT → Prop} {c' : CT} (hb : ∀ S : Int32 → CT → Prop, S v' c' → hBd a1 J S v c) (w : rHlp a1 J v' c') : rHlp a1 J v c := fun S hS => hS v c (hb S (w S hS))
theorem rHlp_x {J : CT → Prop} {a1 k p v : Int32} (g : FLr M c k p) (hk : k ≠ 0) (h50 : c.1 0 50 = nI h) (hJ : J (sI c 0 50 (nI (h + 1)))) : rHlp a1 J v c := fun S hS => hS v c (by
  unfold hBd
  rw [jn_eq]
  refine isWord_x g hk ?_
  rw [if_neg fun y => y rfl]
  refine isWord_x g hk ?_
  rw [if_neg fun y => y rfl]
  refine isWord_x g hk ?_
  rw [if_neg fun y => y rfl]
  refine isWord_x g hk ?_
  rw [if_neg fun y => y rfl]
  refine isWord_x g hk ?_
  rw [if_pos rfl, wrF_eq, h50, inc_n]
  exact hJ)
theorem rHlp_e {J : CT → Prop} {a1 v : Int32} (g : RDr M c T n i) (h50 : c.1 0 50 = nI h) (hn : ∀ w : Int32, w = 12 ∨ w = 13 ∨ w = 14 ∨ w = 15 ∨ w = 16 → ¬ ((T i).2.2.1 = 0 ∧ (T i).2.2.2 = w)) (hJ : J (sI c 0 50 (nI (h + 1)))) : rHlp a1 J v c := fun S hS => hS v c (by
  unfold hBd
  rw [jn_eq]
  refine isWord_s g (fun y => absurd y (hn _ (by decide))) fun _ => ?_
  rw [if_neg fun y => y rfl]
  refine isWord_s g (fun y => absurd y (hn _ (by decide))) fun _ => ?_
  rw [if_neg fun y => y rfl]
  refine isWord_s g (fun y => absurd y (hn _ (by decide))) fun _ => ?_
  rw [if_neg fun y => y rfl]
  refine isWord_s g (fun y => absurd y (hn _ (by decide))) fun _ => ?_
  rw [if_neg fun y => y rfl]
  refine isWord_s g (fun y => absurd y (hn _ (by decide))) fun _ => ?_
  rw [if_pos rfl, wrF_eq, h50, inc_n]
  exact hJ)
theorem hGo12 {J : CT → Prop} {S : Int32 → CT → Prop} {a1 : Int32} (g : RDr M c T n i) (hw : (T i).2.2.1 = 0 ∧ (T i).2.2.2 = 12) (ht : t < 2 ^ 17) (w : rdI (wTk c (T (i + 1))) 25 20 a1 (fun t105 => k2_X12_bit (wTk c (T (i + 1))) t105 (6 : Int32) (fun t108 c107 => wrI c107 25 20 a1 t108 (fun c109 => S (nI (t ||| 2 ^ 12)) c109)))) : hBd a1 J S (nI t) c := by
  unfold hBd
  rw [jn_eq, vK_eq, vK_eq, g.2.2.2.1.2.2.2, hw.2]
  refine isWord_s g (fun _ => ?_) fun y => absurd hw y
  rw [if_pos (by decide)]
  rw [jn_eq]
  rw [if_pos (by decide)]
  dsimp only
  rw [vK_eq, li_12, shl_1 (by omega), or_n]
  refine goOn_s g ?_
  rw [if_pos rfl]
  exact w
theorem hGo13 {J : CT → Prop} {S : Int32 → CT → Prop} {a1 : Int32} (g : RDr M c T n i) (hw : (T i).2.2.1 = 0 ∧ (T i).2.2.2 = 13) (ht : t < 2 ^ 17) (free : t.testBit 13 = false) (w : k2_X12_numeral (wTk c (T (i + 1))) (0 : Int32) (999 : Int32) (fun t113 c112 => wrI c112 26 20 a1 t113 (fun c114 => S (nI (t ||| 2 ^ 13)) c114))) : hBd a1 J S (nI t) c := by
  unfold hBd
  rw [jn_eq, vK_eq, vK_eq, g.2.2.2.1.2.2.2, hw.2]
  refine isWord_s g (fun y => absurd (y.2.symm.trans hw.2) (by decide)) fun _ => ?_
  rw [if_neg fun y => y rfl]
  refine isWord_s g (fun _ => ?_) fun y => absurd hw y
  rw [if_pos (by decide)]
  rw [jn_eq]
  rw [if_neg (by decide)]
  rw [if_pos (by rw [li_13, bit_n (by omega) (by omega), free]; decide)]
  dsimp only
  rw [vK_eq, li_13, shl_1 (by omega), or_n]
  refine goOn_s g ?_
  rw [if_neg (by decide)]
  rw [if_pos rfl]
  exact w
theorem hGo14 {J : CT → Prop} {S : Int32 → CT → Prop} {a1 : Int32} (g : RDr M c T n i) (hw : (T i).2.2.1 = 0 ∧ (T i).2.2.2 = 14) (ht : t < 2 ^ 17) (free : t.testBit 14 = false) (w : wrI (wTk c (T (i + 1))) 27 20 a1 (1 : Int32) (fun c117 => S (nI (t ||| 2 ^ 14)) c117)) : hBd a1 J S (nI t) c := by
  unfold hBd
  rw [jn_eq, vK_eq, vK_eq, g.2.2.2.1.2.2.2, hw.2]
  refine isWord_s g (fun y => absurd (y.2.symm.trans hw.2) (by decide)) fun _ => ?_
  rw [if_neg fun y => y rfl]
  refine isWord_s g (fun y => absurd (y.2.symm.trans hw.2) (by decide)) fun _ => ?_
  rw [if_neg fun y => y rfl]
  refine isWord_s g (fun _ => ?_) fun y => absurd hw y
  rw [if_pos (by decide)]
  rw [jn_eq]
  rw [if_neg (by decide)]
  rw [if_pos (by rw [li_14, bit_n (by omega) (by omega), free]; decide)]
  dsimp only
  rw [vK_eq, li_14, shl_1 (by omega), or_n]
  refine goOn_s g ?_
  rw [if_neg (by decide)]
  rw [if_neg (by decide)]
  rw [if_pos rfl]
  rw [bo1]
  exact w
theorem hGo15 {J : CT → Prop} {S : Int32 → CT → Prop} {a1 : Int32} (g : RDr M c T n i) (hw : (T i).2.2.1 = 0 ∧ (T i).2.2.2 = 15) (ht : t < 2 ^ 17) (free : t.testBit 15 = false) (w : k2_X12_numeral (wTk c (T (i + 1))) (0 : Int32) (199 : Int32) (fun t120 c119 => wrI c119 28 20 a1 t120 (fun c121 => S (nI (t ||| 2 ^ 15)) c121))) : hBd a1 J S (nI t) c := by
  unfold hBd
  rw [jn_eq, vK_eq, vK_eq, g.2.2.2.1.2.2.2, hw.2]
  refine isWord_s g (fun y => absurd (y.2.symm.trans hw.2) (by decide)) fun _ => ?_
  rw [if_neg fun y => y rfl]
  refine isWord_s g (fun y => absurd (y.2.symm.trans hw.2) (by decide)) fun _ => ?_
  rw [if_neg fun y => y rfl]
  refine isWord_s g (fun y => absurd (y.2.symm.trans hw.2) (by decide)) fun _ => ?_
  rw [if_neg fun y => y rfl]
  refine isWord_s g (fun _ => ?_) fun y => absurd hw y
  rw [if_pos (by decide)]
  rw [jn_eq]
  rw [if_neg (by decide)]
  rw [if_pos (by rw [li_15, bit_n (by omega) (by omega), free]; decide)]
  dsimp only
  rw [vK_eq, li_15, shl_1 (by omega), or_n]
  refine goOn_s g ?_
  rw [if_neg (by decide)]
  rw [if_neg (by decide)]
  rw [if_neg (by decide)]
  rw [if_pos rfl]
  exact w
theorem hGo16 {J : CT → Prop} {S : Int32 → CT → Prop} {a1 : Int32} (g : RDr M c T n i) (hw : (T i).2.2.1 = 0 ∧ (T i).2.2.2 = 16) (ht : t < 2 ^ 17) (w : rdI (wTk c (T (i + 1))) 29 20 a1 (fun t124 => k2_X12_bit (wTk c (T (i + 1))) t124 (6 : Int32) (fun t127 c126 => wrI c126 29 20 a1 t127 (fun c128 => S (nI (t ||| 2 ^ 16)) c128)))) : hBd a1 J S (nI t) c := by
  unfold hBd
  rw [jn_eq, vK_eq, vK_eq, g.2.2.2.1.2.2.2, hw.2]
  refine isWord_s g (fun y => absurd (y.2.symm.trans hw.2) (by decide)) fun _ => ?_
  rw [if_neg fun y => y rfl]
  refine isWord_s g (fun y => absurd (y.2.symm.trans hw.2) (by decide)) fun _ => ?_
  rw [if_neg fun y => y rfl]
  refine isWord_s g (fun y => absurd (y.2.symm.trans hw.2) (by decide)) fun _ => ?_
  rw [if_neg fun y => y rfl]
  refine isWord_s g (fun y => absurd (y.2.symm.trans hw.2) (by decide)) fun _ => ?_
  rw [if_neg fun y => y rfl]
  refine isWord_s g (fun _ => ?_) fun y => absurd hw y
  rw [if_neg (by decide)]
  rw [jn_eq]
  rw [if_pos (by decide)]
  dsimp only
  rw [vK_eq, li_16, shl_1 (by omega), or_n]
  refine goOn_s g ?_
  rw [if_neg (by decide)]
  rw [if_neg (by decide)]
  rw [if_neg (by decide)]
  rw [if_neg (by decide)]
  exact w
theorem hDup13 {J : CT → Prop} {S : Int32 → CT → Prop} (hh : h < 10) (g : RDr M c T n i) (hw : (T i).2.2.1 = 0 ∧ (T i).2.2.2 = 13) (ht : t < 2 ^ 17) (told : t.testBit 13 = true) (w : S (nI (t ||| 2 ^ 13)) (sU (flt c 3) 26 h 0)) : hBd (nI (10 + h)) J S (nI t) c := by
  unfold hBd
  rw [jn_eq, vK_eq, vK_eq, g.2.2.2.1.2.2.2, hw.2]
  refine isWord_s g (fun y => absurd (y.2.symm.trans hw.2) (by decide)) fun _ => ?_
  rw [if_neg fun y => y rfl]
  refine isWord_s g (fun _ => ?_) fun y => absurd hw y
  rw [if_pos (by decide)]
  rw [jn_eq]
  rw [if_neg (by decide)]
  rw [if_neg (by rw [li_13, bit_n (by omega) (by omega), told]; decide)]
  refine wrong_s g ?_
  dsimp only
  rw [vK_eq, li_13, shl_1 (by omega), or_n]
  have fx := g.fl (k := 3)
  refine goOn_x fx (by decide) ?_
  rw [if_neg (by decide)]
  rw [if_pos rfl]
  refine numeral_x fx (by decide) ?_
  exact wr_u' (j := 26) (show 10 + h < 20 by omega) (by omega) w
theorem hDup14 {J : CT → Prop} {S : Int32 → CT → Prop} (hh : h < 10) (g : RDr M c T n i) (hw : (T i).2.2.1 = 0 ∧ (T i).2.2.2 = 14) (ht : t < 2 ^ 17) (told : t.testBit 14 = true) (w : S (nI (t ||| 2 ^ 14)) (sU (flt c 3) 27 h 1)) : hBd (nI (10 + h)) J S (nI t) c := by
  unfold hBd
  rw [jn_eq, vK_eq, vK_eq, g.2.2.2.1.2.2.2, hw.2]
  refine isWord_s g (fun y => absurd (y.2.symm.trans hw.2) (by decide)) fun _ => ?_
  rw [if_neg fun y => y rfl]
  refine isWord_s g (fun y => absurd (y.2.symm.trans hw.2) (by decide)) fun _ => ?_
  rw [if_neg fun y => y rfl]
  refine isWord_s g (fun _ => ?_) fun y => absurd hw y
  rw [if_pos (by decide)]
  rw [jn_eq]
  rw [if_neg (by decide)]
  rw [if_neg (by rw [li_14, bit_n (by omega) (by omega), told]; decide)]
  refine wrong_s g ?_
  dsimp only
  rw [vK_eq, li_14, shl_1 (by omega), or_n]
  have fx := g.fl (k := 3)
  refine goOn_x fx (by decide) ?_
  rw [if_neg (by decide)]
  rw [if_neg (by decide)]
  rw [if_pos rfl]
  rw [bo1]
  exact wr_u' (j := 27) (show 10 + h < 20 by omega) (by omega) w
theorem hDup15 {J : CT → Prop} {S : Int32 → CT → Prop} (hh : h < 10) (g : RDr M c T n i) (hw : (T i).2.2.1 = 0 ∧ (T i).2.2.2 = 15) (ht : t < 2 ^ 17) (told : t.testBit 15 = true) (w : S (nI (t ||| 2 ^ 15)) (sU (flt c 3) 28 h 0)) : hBd (nI (10 + h)) J S (nI t) c := by
  unfold hBd
  rw [jn_eq, vK_eq, vK_eq, g.2.2.2.1.2.2.2, hw.2]
  refine isWord_s g (fun y => absurd (y.2.symm.trans hw.2) (by decide)) fun _ => ?_
  rw [if_neg fun y => y rfl]
  refine isWord_s g (fun y => absurd (y.2.symm.trans hw.2) (by decide)) fun _ => ?_
  rw [if_neg fun y => y rfl]
  refine isWord_s g (fun y => absurd (y.2.symm.trans hw.2) (by decide)) fun _ => ?_
  rw [if_neg fun y => y rfl]
  refine isWord_s g (fun _ => ?_) fun y => absurd hw y
  rw [if_pos (by decide)]
  rw [jn_eq]
  rw [if_neg (by decide)]
  rw [if_neg (by rw [li_15, bit_n (by omega) (by omega), told]; decide)]
  refine wrong_s g ?_
  dsimp only
  rw [vK_eq, li_15, shl_1 (by omega), or_n]
  have fx := g.fl (k := 3)
  refine goOn_x fx (by decide) ?_
  rw [if_neg (by decide)]
  rw [if_neg (by decide)]
  rw [if_neg (by decide)]
  rw [if_pos rfl]
  refine numeral_x fx (by decide) ?_
  exact wr_u' (j := 28) (show 10 + h < 20 by omega) (by omega) w
theorem week12_ok (hc : RDc R T K n i) (hr : RDr M c T n i) (hw : (T i).2.2.1 = 0 ∧ (T i).2.2.2 = 12) (ht : t < 2 ^ 17) (hh : h < 10) (hp : PRel P.1 (uppV c) l q f m h) (hn : PHou P.1 (uppV c) f m h) (hS : ∀ P' R' c' i', i < i' → RDc R' T K n i' → RDr M c' T n i' → PRel P'.1 (uppV c') l q f m h → PHou P'.1 (uppV c') f m h → P'.1 (33 + h) 8 = P.1 (33 + h) 8 → KPc P P' → KPr c c' → (∀ J, rHlp (nI (10 + h)) J (nI (t ||| 2 ^ 12)) c' → rHlp (nI (10 + h)) J (nI t) c) → Q 1 P' R') (hF : ∀ P' R' c' k p, k ≠ 0 → FLc R' k p → FLr M c' k p → (∀ J, J c' → rHlp (nI (10 + h)) J (nI t) c) → Q 0 P' R') : k_X7_readWeekday P R h Q := by
  have h50 : c.1 0 50 = nI h := cnt_u (k := 38) hp.1.2.2.2.2.2.2
  have shp := hc.1.2.2.2.2.2.2.2 i
  have lt := hc.lt (by rw [hw.1]; decide)
  have ho := hn
  obtain ⟨-, -, -, -, -, ⟨w6, b25, l25, v25⟩, -, -, -, w10, b29, l29, v29⟩ := hn
  unfold k_X7_readWeekday
  have k14 : (R.1 0 8 = 14) = ((T i).2.2.1 = 0 ∧ (T i).2.2.2 = 16) := by rw [hc.2.2.2.1, KT_w14 shp]
  rw [if_neg (fun z => absurd (((k14 ▸ Classical.not_not.mp z).2).symm.trans hw.2) (by decide)), vK_eq]
  refine adv_ok hc lt fun R1 r1 _ _ => ?_
  have d25 : (wTk c (T (i + 1))).1 25 (10 + h) = nI b25 := by
    rw [wTk_ne (by omega)]
    exact (uppV_u (j := 25) (by omega)).symm.trans v25
  have d50 : (wTk c (T (i + 1))).1 0 50 = nI h := by
    rw [wTk_ne (by omega)]
    exact h50
  rw [if_neg (by decide), w6, v25]
  have re : ∀ J S, k2_X12_bit (wTk c (T (i + 1))) (nI b25) (6 : Int32) (fun t108 c107 => wrI c107 25 20 (nI (10 + h)) t108 (fun c109 => S (nI (t ||| 2 ^ 12)) c109)) → hBd (nI (10 + h)) J S (nI t) c := fun J S z => hGo12 hr hw ht (by
    rw [rdI_n (by omega) (by omega), d25]
    exact z)
  refine isFreshBit_ok r1 (by decide) (fun z e9 => ?_) fun z R2 f2 => ?_
  · rw [if_pos (by decide), if_pos rfl, wrF_eq, e9]
    have e0 : nf (T (i + 1)) 0 6 = 0 := by
      unfold fb at z
      by_cases e : nf (T (i + 1)) 0 6 = 0
      · exact e
      · rw [if_neg e] at z
        exact z
    obtain ⟨x, -, xb, xe⟩ := nf_n (a := 0) (b := 6) (by omega) (by omega) e0
    have s2 := nf_2 e0
    refine adv_ok r1 (r1.lt (by rw [s2]; decide)) fun R2 r2 _ _ => ?_
    have ev : nI b25 ||| (1 : Int32) <<< ((T (i + 1)).2.2.2 &&& 31) = nI (b25 ||| 2 ^ x) := by
      rw [xe, shl_1 (by omega), or_n]
    have lt2 : b25 ||| 2 ^ x < 128 := Nat.or_lt_two_pow (n := 7) (by omega) (Nat.pow_lt_pow_right (by decide) (by omega))
    rw [ev]
    refine hS _ _ (sU (wTk (wTk c (T (i + 1))) (T (i + 1 + 1))) 25 h (nI (b25 ||| 2 ^ x))) (i + 1 + 1) (by omega) r2 (hr.tk.tk.u (by omega)) ?_ ?_ ?_ ?_ ?_ fun J => rHlp_go fun S hs => ?_
    · refine hp.hox (fun j k z => ?_) fun j k w z => ?_
      · rw [sI_ne (by omega)]
      · have w' : j = 0 → k ≤ 45 := by
          unfold VWR at w
          omega
        rw [upp_sn (by omega) (by omega), upp_t w', upp_t w']
    · refine ho.s25 (fun k hk => sI_ne (by omega)) (fun j h1 h2 h3 => ?_) ⟨?_, _, lt2, ?_⟩
      · rw [upp_sn (by omega) (by omega), upp_t (by omega), upp_t (by omega)]
      · rw [sI_same, upp_s (by omega)]
      · rw [upp_s (by omega)]
    · exact sI_ne (by omega)
    · exact fun j k hk => sI_ne (by omega)
    · intro j k hk
      rw [sU_ne (by omega), wTk_ne (by omega), wTk_ne (by omega)]
    · refine re J S (bit_s hr.tk z ?_)
      rw [ev]
      exact wr_u' (j := 25) (show 10 + h < 20 by omega) (by omega) hs
  · rw [if_neg fun y => y rfl]
    have fl1 : FLr M (sU (flt (wTk c (T (i + 1))) (fb (T (i + 1)) (nI b25) 6)) 25 h (nI b25)) (fb (T (i + 1)) (nI b25) 6) (T (i + 1)).2.1 := hr.tk.fl.u (by omega)
    refine hF _ _ (sI (sU (flt (wTk c (T (i + 1))) (fb (T (i + 1)) (nI b25) 6)) 25 h (nI b25)) 0 50 (nI (h + 1))) _ _ z f2 (fl1.s (nrv_0 (by omega)) (by omega)) fun J hJ => ?_
    refine rHlp_go (v' := nI (t ||| 2 ^ 12)) (c' := sU (flt (wTk c (T (i + 1))) (fb (T (i + 1)) (nI b25) 6)) 25 h (nI b25)) (fun S hs => ?_) (rHlp_x fl1 z (by rw [sU_ne (by omega), flt_ne (by omega)]; exact d50) hJ)
    refine re J S (bit_f hr.tk z ?_)
    exact wr_u' (j := 25) (show 10 + h < 20 by omega) (by omega) hs
theorem week16_ok (hc : RDc R T K n i) (hr : RDr M c T n i) (hw : (T i).2.2.1 = 0 ∧ (T i).2.2.2 = 16) (ht : t < 2 ^ 17) (hh : h < 10) (hp : PRel P.1 (uppV c) l q f m h) (hn : PHou P.1 (uppV c) f m h) (hS : ∀ P' R' c' i', i < i' → RDc R' T K n i' → RDr M c' T n i' → PRel P'.1 (uppV c') l q f m h → PHou P'.1 (uppV c') f m h → P'.1 (33 + h) 8 = P.1 (33 + h) 8 → KPc P P' → KPr c c' → (∀ J, rHlp (nI (10 + h)) J (nI (t ||| 2 ^ 16)) c' → rHlp (nI (10 + h)) J (nI t) c) → Q 1 P' R') (hF : ∀ P' R' c' k p, k ≠ 0 → FLc R' k p → FLr M c' k p → (∀ J, J c' → rHlp (nI (10 + h)) J (nI t) c) → Q 0 P' R') : k_X7_readWeekday P R h Q := by
  have h50 : c.1 0 50 = nI h := cnt_u (k := 38) hp.1.2.2.2.2.2.2
  have shp := hc.1.2.2.2.2.2.2.2 i
  have lt := hc.lt (by rw [hw.1]; decide)
  have ho := hn
  obtain ⟨-, -, -, -, -, ⟨w6, b25, l25, v25⟩, -, -, -, w10, b29, l29, v29⟩ := hn
  unfold k_X7_readWeekday
  have k14 : (R.1 0 8 = 14) = ((T i).2.2.1 = 0 ∧ (T i).2.2.2 = 16) := by rw [hc.2.2.2.1, KT_w14 shp]
  rw [if_pos (fun z => z (k14.symm ▸ hw)), vK_eq]
  refine adv_ok hc lt fun R1 r1 _ _ => ?_
  have d25 : (wTk c (T (i + 1))).1 29 (10 + h) = nI b29 := by
    rw [wTk_ne (by omega)]
    exact (uppV_u (j := 29) (by omega)).symm.trans v29
  have d50 : (wTk c (T (i + 1))).1 0 50 = nI h := by
    rw [wTk_ne (by omega)]
    exact h50
  rw [if_pos (by decide), w10, v29]
  have re : ∀ J S, k2_X12_bit (wTk c (T (i + 1))) (nI b29) (6 : Int32) (fun t108 c107 => wrI c107 29 20 (nI (10 + h)) t108 (fun c109 => S (nI (t ||| 2 ^ 16)) c109)) → hBd (nI (10 + h)) J S (nI t) c := fun J S z => hGo16 hr hw ht (by
    rw [rdI_n (by omega) (by omega), d25]
    exact z)
  refine isFreshBit_ok r1 (by decide) (fun z e9 => ?_) fun z R2 f2 => ?_
  · rw [if_pos (by decide), if_neg (by decide), wrF_eq, e9]
    have e0 : nf (T (i + 1)) 0 6 = 0 := by
      unfold fb at z
      by_cases e : nf (T (i + 1)) 0 6 = 0
      · exact e
      · rw [if_neg e] at z
        exact z
    obtain ⟨x, -, xb, xe⟩ := nf_n (a := 0) (b := 6) (by omega) (by omega) e0
    have s2 := nf_2 e0
    refine adv_ok r1 (r1.lt (by rw [s2]; decide)) fun R2 r2 _ _ => ?_
    have ev : nI b29 ||| (1 : Int32) <<< ((T (i + 1)).2.2.2 &&& 31) = nI (b29 ||| 2 ^ x) := by
      rw [xe, shl_1 (by omega), or_n]
    have lt2 : b29 ||| 2 ^ x < 128 := Nat.or_lt_two_pow (n := 7) (by omega) (Nat.pow_lt_pow_right (by decide) (by omega))
    rw [ev]
    refine hS _ _ (sU (wTk (wTk c (T (i + 1))) (T (i + 1 + 1))) 29 h (nI (b29 ||| 2 ^ x))) (i + 1 + 1) (by omega) r2 (hr.tk.tk.u (by omega)) ?_ ?_ ?_ ?_ ?_ fun J => rHlp_go fun S hs => ?_
    · refine hp.hox (fun j k z => ?_) fun j k w z => ?_
      · rw [sI_ne (by omega)]
      · have w' : j = 0 → k ≤ 45 := by
          unfold VWR at w
          omega
        rw [upp_sn (by omega) (by omega), upp_t w', upp_t w']
    · refine ho.s29 (fun k hk => sI_ne (by omega)) (fun j h1 h2 h3 => ?_) ⟨?_, _, lt2, ?_⟩
      · rw [upp_sn (by omega) (by omega), upp_t (by omega), upp_t (by omega)]
      · rw [sI_same, upp_s (by omega)]
      · rw [upp_s (by omega)]
    · exact sI_ne (by omega)
    · exact fun j k hk => sI_ne (by omega)
    · intro j k hk
      rw [sU_ne (by omega), wTk_ne (by omega), wTk_ne (by omega)]
    · refine re J S (bit_s hr.tk z ?_)
      rw [ev]
      exact wr_u' (j := 29) (show 10 + h < 20 by omega) (by omega) hs
  · rw [if_neg fun y => y rfl]
    have fl1 : FLr M (sU (flt (wTk c (T (i + 1))) (fb (T (i + 1)) (nI b29) 6)) 29 h (nI b29)) (fb (T (i + 1)) (nI b29) 6) (T (i + 1)).2.1 := hr.tk.fl.u (by omega)
    refine hF _ _ (sI (sU (flt (wTk c (T (i + 1))) (fb (T (i + 1)) (nI b29) 6)) 29 h (nI b29)) 0 50 (nI (h + 1))) _ _ z f2 (fl1.s (nrv_0 (by omega)) (by omega)) fun J hJ => ?_
    refine rHlp_go (v' := nI (t ||| 2 ^ 16)) (c' := sU (flt (wTk c (T (i + 1))) (fb (T (i + 1)) (nI b29) 6)) 29 h (nI b29)) (fun S hs => ?_) (rHlp_x fl1 z (by rw [sU_ne (by omega), flt_ne (by omega)]; exact d50) hJ)
    refine re J S (bit_f hr.tk z ?_)
    exact wr_u' (j := 29) (show 10 + h < 20 by omega) (by omega) hs
end Parts
