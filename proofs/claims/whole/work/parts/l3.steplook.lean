/-! ===== the step of look ===== -/
theorem Hd.grow {w : WR} {C : List CT} {σ : ST} {n s : Nat} (h : Hd w C σ) (hn : σ.2.1 ≤ n) : Hd w C (σ.1, n, s) := ⟨h.1, fun b q hq => Nat.le_trans (h.2.1 b q hq) hn, h.2.2.1, h.2.2.2⟩
/-- a cell of six slots more -/
def dG (d : LZD) : LZD := (d.1, d.2.1, (d.2.2.1 + 1, d.2.2.2 + 6))
theorem HL.thr {A : Nat → Nat} {d : LZD} {C : List CT} {σ : ST} (h : HL A d C σ) : HL A (dG d) C (thS σ) := by
  refine ⟨h.1.grow (Nat.le_succ _), ?_⟩
  show (σ.2.1 + 1, σ.2.2 + 6) = (d.2.2.1 + 1, d.2.2.2 + 6)
  rw [h.2]
theorem pC_G {d : LZD} : potC (dG d) = potC d + 1 := by
  unfold potC dG
  dsimp only
  omega
theorem pS_G {d : LZD} : potS (dG d) = potS d + 6 := by
  unfold potS dG
  dsimp only
  omega
theorem iv_G {d : LZD} (h : IVz d) : IVz (dG d) := h
section LkS
variable {w : WR} {xH xP : Nat} {cH cP cS cR cK cF cW cT cN cU cI cM cO : CT} {a b : Int32}
theorem kw_look {Q : Bool → Prop} (bH : w.1[0]? = some (xH, hLay)) (bP : w.1[1]? = some (xP, pLay)) (rH2 : w.2 0 0 2 = some xP) (h : k_X6_hasHouse cP a fun t => Q (decide (t ≠ 0))) : KW w lkC [.ref xH, .int a, .int b, UV] [cH, cP, cS, cR, cK, cF, cW, cT, cN, cU, cI, cM, cO] fun r C' => C' = [cH, cP, cS, cR, cK, cF, cW, cT, cN, cU, cI, cM, cO] ∧ Q r :=
  kw_1 (ew_C (aw_1 (ew_U (ew_A rfl (uw_gFr (r := xH) (j := 0) bH rfl rfl rfl rH2 (aw_1 (ew_I rfl (aw_0 (fw_V (r := xP) (j := 0) bP rfl rfl (FW.mono (s_X6_hasHouse bP h) (by rintro _ _ ⟨t, rfl, rfl, q⟩; exact ⟨_, rfl, ⟨_, rfl, rfl, q⟩⟩)))))))))))
theorem sw_look {i : Nat} (bH : w.1[0]? = some (xH, hLay)) (bP : w.1[1]? = some (xP, pLay)) (rH2 : w.2 0 0 2 = some xP) (aH : ∀ q, q < 10 → w.2 1 9 q = some (xP + (33 + q))) (hi : i < 10) (ha : a = nI i) : SW w lkH [.ref xH, .int a, .int b, UV] [cH, cP, cS, cR, cK, cF, cW, cT, cN, cU, cI, cM, cO] fun o L C' => o = .inl 0 ∧ L = [.ref xH, .int a, .int b, .ref (xP + (33 + i))] ∧ C' = [cH, cP, cS, cR, cK, cF, cW, cT, cN, cU, cI, cM, cO] :=
  sw_stA (ew_B (ew_U (ew_U (ew_A rfl (uw_gFr (r := xH) (j := 0) bH rfl rfl rfl rH2 (uw_gFs (o := 9) (r := xP) (j := 0) bP rfl rfl rfl (ew_I rfl (bw_arR (r := xP) (j := 9) bP rfl rfl aH (F := fun n => n = i) (by rw [ha, ixN_n hi (by decide)]) (fun n hn e => ⟨_, rfl, rfl, by subst e; rfl, rfl⟩)))))))))
end LkS
section LkR
variable {M : CT} {a b : Int32} {h : Nat} {Q : Int32 → CT → Prop}
theorem r_look1 (v38 : M.1 0 38 = nI h) (hh : h < 2 ^ 31) (c : ¬ ∃ i, i < h ∧ a = nI i) (q : Q 0 (sI M 0 0 1)) : k_X12_look M a b Q := by
  unfold k_X12_look
  intro X hX
  apply hX
  rw [isHouse_n v38 hh c, if_neg (by decide)]
  dsimp only
  rw [wrF_eq, if_neg (by rw [sI_same]; decide)]
  exact q
theorem r_look2 {i : Nat} (v38 : M.1 0 38 = nI h) (hh : h < 2 ^ 31) (hi : i < h) (hb : b < 0 ∨ ¬ b ≤ 8) (q : Q 0 (sI M 0 0 2)) : k_X12_look M (nI i) b Q := by
  unfold k_X12_look
  intro X hX
  apply hX
  rw [isHouse_y v38 hh hi, if_pos (by decide), if_pos hb]
  dsimp only
  rw [wrF_eq, if_neg (by rw [sI_same]; decide)]
  exact q
end LkR
/-- what look shows of a house -/
def lkV (P K : CT) (i j : Nat) : Int32 := if j = 0 then P.1 (33 + i) 1 else if j = 1 then K.1 1 i else if j = 2 then P.1 (33 + i) 3 else if j = 3 then P.1 (33 + i) 4 else if j = 4 then P.1 (33 + i) 5 else if j = 5 then P.1 (33 + i) 6 else if j = 6 then P.1 (33 + i) 7 else if j = 7 then (if ¬ (P.1 (33 + i) 8 = 0) then 1 else 0) else P.1 (33 + i) 10
section LkG
variable {H P K I M : CT} {l q f m h D n i j : Nat}
theorem c_look {Q : Int32 → Prop} (v3 : P.1 0 3 = nI h) (h10 : h ≤ 10) (hi : i < h) (hj : j ≤ 8) (k : Q (lkV P K i j)) : k_X11_look H P K (nI i) (nI j) Q := by
  unfold k_X11_look
  rw [hasHouse_y v3 (by omega) hi, if_pos (by decide), ixN_n (by omega) (by decide)]
  rcases (show j = 0 ∨ j = 1 ∨ j = 2 ∨ j = 3 ∨ j = 4 ∨ j = 5 ∨ j = 6 ∨ j = 7 ∨ j = 8 by omega) with rfl | rfl | rfl | rfl | rfl | rfl | rfl | rfl | rfl
  · rw [if_pos (by decide)]; exact k
  · rw [if_neg (by decide), if_pos (by decide), rdI_n (by omega) (by decide)]; exact k
  · rw [if_neg (by decide), if_neg (by decide), if_pos (by decide)]; exact k
  · rw [if_neg (by decide), if_neg (by decide), if_neg (by decide), if_pos (by decide)]; exact k
  · rw [if_neg (by decide), if_neg (by decide), if_neg (by decide), if_neg (by decide), if_pos (by decide)]; exact k
  · rw [if_neg (by decide), if_neg (by decide), if_neg (by decide), if_neg (by decide), if_neg (by decide), if_pos (by decide)]; exact k
  · rw [if_neg (by decide), if_neg (by decide), if_neg (by decide), if_neg (by decide), if_neg (by decide), if_neg (by decide), if_pos (by decide)]; exact k
  · rw [if_neg (by decide), if_neg (by decide), if_neg (by decide), if_neg (by decide), if_neg (by decide), if_neg (by decide), if_neg (by decide), if_pos (by decide)]; exact k
  · rw [if_neg (by decide), if_neg (by decide), if_neg (by decide), if_neg (by decide), if_neg (by decide), if_neg (by decide), if_neg (by decide), if_neg (by decide), if_pos (by decide)]; exact k
theorem r_look0 {Q : Int32 → CT → Prop} (g : CO H P K I M l q f m h D n) (hi : i < h) (hj : j ≤ 8) (k : Q (lkV P K i j) (sI M 0 0 0)) : k_X12_look M (nI i) (nI j) Q := by
  obtain ⟨-, -, ⟨⟨b, -, bv⟩, -, -, -, -, ph, -⟩, ⟨⟨-, bh, -⟩, -, -, sm⟩, -⟩ := g
  have v38 : M.1 0 38 = nI h := bv.2.2.2.2
  have h10 : h ≤ 10 := b.2.2.2.2
  have e0 : oT false + i = i := Nat.zero_add i
  obtain ⟨p0, ⟨p1, -⟩, ⟨p3, -⟩, ⟨p4, -⟩, ⟨p5, -⟩, ⟨p6, -⟩, ⟨p7, -⟩, ⟨p8, p8v⟩, -, ⟨p10, -⟩⟩ := ph i hi
  have pk : K.1 1 i = M.1 21 i := by
    have := (bh i hi).1.1
    rw [e0] at this
    rw [this, sm i hi]
  unfold k_X12_look
  intro X hX
  apply hX
  rw [isHouse_y v38 (by omega) hi, if_pos (by decide), if_neg (show ¬ (nI j < (0 : Int32) ∨ ¬ nI j ≤ (8 : Int32)) by
    rintro (z | z)
    · exact nI_pos (by omega) z
    · exact z (by rw [show (8 : Int32) = nI 8 from rfl, nI_le' (by omega) (by omega)]; exact hj))]
  dsimp only
  rw [wrF_eq, if_pos sI_same]
  have rd : ∀ {r : Nat} {F : Int32 → Prop}, r ≠ 0 → F (M.1 r i) → rdI (sI M 0 0 0) r 20 (nI i) F := fun {r F} hr hF => by
    rw [rdI_n (by omega) (by decide), sI_ne (by omega)]
    exact hF
  rcases (show j = 0 ∨ j = 1 ∨ j = 2 ∨ j = 3 ∨ j = 4 ∨ j = 5 ∨ j = 6 ∨ j = 7 ∨ j = 8 by omega) with rfl | rfl | rfl | rfl | rfl | rfl | rfl | rfl | rfl
  · rw [if_pos (by decide)]
    exact rd (by decide) (by rw [← p1]; exact k)
  · rw [if_neg (by decide), if_pos (by decide)]
    exact rd (by decide) (by rw [← pk]; exact k)
  · rw [if_neg (by decide), if_neg (by decide), if_pos (by decide)]
    exact rd (by decide) (by rw [← p3]; exact k)
  · rw [if_neg (by decide), if_neg (by decide), if_neg (by decide), if_pos (by decide)]
    exact rd (by decide) (by rw [← p4]; exact k)
  · rw [if_neg (by decide), if_neg (by decide), if_neg (by decide), if_neg (by decide), if_pos (by decide)]
    exact rd (by decide) (by rw [← p5]; exact k)
  · rw [if_neg (by decide), if_neg (by decide), if_neg (by decide), if_neg (by decide), if_neg (by decide), if_pos (by decide)]
    exact rd (by decide) (by rw [← p6]; exact k)
  · rw [if_neg (by decide), if_neg (by decide), if_neg (by decide), if_neg (by decide), if_neg (by decide), if_neg (by decide), if_pos (by decide)]
    exact rd (by decide) (by rw [← p7]; exact k)
  · rw [if_neg (by decide), if_neg (by decide), if_neg (by decide), if_neg (by decide), if_neg (by decide), if_neg (by decide), if_neg (by decide), if_pos (by decide)]
    intro Y hY
    apply hY
    refine rd (by decide) ?_
    have k' : Q (if ¬ (P.1 (33 + i) 8 = 0) then 1 else 0) (sI M 0 0 0) := k
    rw [p8] at k'
    by_cases e : M.1 27 i = 0
    · rw [if_pos e]
      rw [if_neg (fun z => z e)] at k'
      exact k'
    · rw [if_neg e]
      rw [if_pos e] at k'
      exact k'
  · rw [if_neg (by decide), if_neg (by decide), if_neg (by decide), if_neg (by decide), if_neg (by decide), if_neg (by decide), if_neg (by decide), if_neg (by decide)]
    exact rd (by decide) (by rw [← p10]; exact k)
end LkG
/-- the law's look, the reference's look and what it says was thrown -/
theorem st_look {a b : Int32} {c0 s0 x y o : Nat} {σ : ST} (hi : HI c0 s0 x y o σ) : ∃ (k v : Int32) (c1 s1 : Nat) (σ1 σ2 σ3 : ST), LLK x o a b k σ σ1 ∧ (∃ V, σ1.1 y = some (.inr (12, V))) ∧ m_X12_look [.ref y, .int a, .int b] σ1 = some (some (.int v), σ2) ∧ (∃ V, σ2.1 y = some (.inr (12, V))) ∧ m_X12_thrown [.ref y] σ2 = some (some (.int k), σ3) ∧ (k = 0 → arL (.ref o) (.int 0) σ3 = some (.long v.toInt64)) ∧ HI c1 s1 x y o σ3 ∧ c1 ≤ c0 + 1 ∧ s1 ≤ s0 + 6 := by
  obtain ⟨A, d, H, P, S, R, K, F, W, T, N, U, I, M, O, rfl, rfl, rfl, hσ, i1, ⟨l, q, f, m, h, D, n, co, fo, to⟩, i3, i4, i5⟩ := hi
  obtain ⟨Vx, ox⟩ := hObj hσ.1
  have bp := co.2.2.1.1
  have v3 : P.1 0 3 = nI h := bp.2.1.2.2.2.2
  have v38 : M.1 0 38 = nI h := bp.2.2.2.2.2.2
  have h10 : h ≤ 10 := bp.1.2.2.2.2
  have eL : L0 4 [Value.ref (A 0), .int a, .int b] = [.ref (A 0), .int a, .int b, UV] := rfl
  -- the throw's ways: the same end
  have fin : ∀ (k : Nat) (σ1 : ST), (k = 1 ∨ k = 2) → LKT (A 0) a b k σ σ1 → Hd (wd A d) [H, P, S, R, K, F, W, T, N, U, I, M, O] σ1 → (∀ Q : Int32 → CT → Prop, Q 0 (sI M 0 0 (Int32.ofNat k)) → k_X12_look M a b Q) → ∃ (k v : Int32) (c1 s1 : Nat) (σ1 σ2 σ3 : ST), LLK (A 0) (A 12) a b k σ σ1 ∧ (∃ V, σ1.1 (A 11) = some (.inr (12, V))) ∧ m_X12_look [.ref (A 11), .int a, .int b] σ1 = some (some (.int v), σ2) ∧ (∃ V, σ2.1 (A 11) = some (.inr (12, V))) ∧ m_X12_thrown [.ref (A 11)] σ2 = some (some (.int k), σ3) ∧ (k = 0 → arL (.ref (A 12)) (.int 0) σ3 = some (.long v.toInt64)) ∧ HI c1 s1 (A 0) (A 11) (A 12) σ3 ∧ c1 ≤ c0 + 1 ∧ s1 ≤ s0 + 6 := by
    intro k σ1 hk hT hd hr
    have h1 : HL A (dG d) [H, P, S, R, K, F, W, T, N, U, I, M, O] (thS σ1) := HL.thr ⟨hd, hT.1.trans hσ.2⟩
    obtain ⟨_, σ2, _, f1, f2, f3, v, M', rfl, rfl, rfl, rfl⟩ := s_X12_look (Q := fun v M' => v = 0 ∧ M' = sI M 0 0 (Int32.ofNat k)) (q_bM (A := A)) (hr _ ⟨rfl, rfl⟩) (thS σ1) h1.1
    obtain ⟨_, σ3, _, g1, g2, g3, v, rfl, rfl, rfl⟩ := s_X12_thrown (Q := fun v => v = Int32.ofNat k) (q_bM (A := A)) (show (sI M 0 0 (Int32.ofNat k)).1 0 0 = Int32.ofNat k from sI_same) σ2 f2
    have ma : MA M (sI M 0 0 (Int32.ofNat k)) := MA.th
    refine ⟨Int32.ofNat k, 0, c0 + 1, s0 + 6, thS σ1, σ2, σ3, llk_t hk ox hT, mObj h1.1, f1, mObj f2, g1, fun z => ?_, ⟨A, dG d, H, P, S, R, K, F, W, T, N, U, I, sI M 0 0 (Int32.ofNat k), O, rfl, rfl, rfl, ⟨g2, g3.trans (f3.trans h1.2)⟩, ⟨iv_G i1.1, by rw [pC_G, i1.2.1], by rw [pS_G, i1.2.2]⟩, ⟨_, _, _, _, _, _, _, co.mv ma, (by rw [clV.mv ma]; exact fo), (by rw [clV.mv ma]; exact to)⟩, i3, i4, i5⟩, Nat.le_refl _, Nat.le_refl _⟩
    rcases hk with rfl | rfl <;> exact absurd z (by decide)
  by_cases c1 : ∃ i, i < h ∧ a = nI i
  · obtain ⟨i, hi, rfl⟩ := c1
    by_cases c2 : b < 0 ∨ ¬ b ≤ 8
    · obtain ⟨r, σ1, _, e1, e2, e3, rfl, er⟩ := kw_look (b := b) (Q := fun r => r = true) q_bH q_bP q_rH2 (by rw [hasHouse_y v3 (by omega) hi]; rfl) σ hσ.1
      subst er
      obtain ⟨_, _, σ2, _, e4, e5, e6, rfl, rfl, rfl⟩ := sw_look (a := nI i) (b := b) q_bH q_bP q_rH2 q_aH (show i < 10 by omega) rfl σ1 e2
      have hb : b.toInt < 0 ∨ 8 < b.toInt := by
        rcases c2 with z | z
        · exact Or.inl (by simpa using Int32.lt_iff_toInt_lt.mp z)
        · exact Or.inr (by simpa using Int32.lt_iff_toInt_lt.mp (Int32.not_le.mp z))
      exact fin 2 σ2 (Or.inr rfl) (lkt_2 (by rw [eL]; exact e1) (by rw [eL]; exact e4) (e6.trans e3) hb) e5 fun Q hq => r_look2 v38 (by omega) hi c2 hq
    · have hb0 : ¬ b < 0 := fun z => c2 (Or.inl z)
      have hb8 : b ≤ 8 := Classical.byContradiction fun z => c2 (Or.inr z)
      obtain ⟨j, hj, rfl⟩ := nI_of hb0
      have j8 : j ≤ 8 := by
        rw [show (8 : Int32) = nI 8 from rfl, nI_le' hj (by omega)] at hb8
        exact hb8
      obtain ⟨_, σ0, _, e1, e2, e3, v, rfl, rfl, rfl⟩ := s_X11_look (Q := fun v => v = lkV P K i j) q_aH q_bH q_bK q_bP q_rH2 q_rH5 (c_look (H := H) v3 h10 hi j8 rfl) σ hσ.1
      have in0 : inX 0 1 := show ¬ ((0 : Int32) < 0 ∨ 1 ≤ (0 : Int32).toNatClampNeg) by decide
      have pw : P3W (wd A d) asL (.ref (A 12 + 0)) (.int 0) (.long (lkV P K i j).toInt64) [H, P, S, R, K, F, W, T, N, U, I, M, O] (fun C' => C' = [H, P, S, R, K, F, W, T, N, U, I, M, sL O 0 0 (lkV P K i j).toInt64]) := pw_L (F := fun u => u = sL O 0 0 (lkV P K i j).toInt64) (q_bO (A := A) (d := d)) rfl rfl ⟨in0, rfl⟩ (fun u hu => by rw [hu]; rfl)
      obtain ⟨σ1, _, p1, p2, p3, rfl⟩ := pw σ0 e2
      have run : sP3 asL (eA 3) (eK (.int 0)) (eU o_i2l (eC (fV 11 m_X11_look) [(eA 0), (eI 1), (eI 2)])) [.ref (A 0), .int (nI i), .int (nI j), .ref (A 12), UV] σ = some (.inl 0, [.ref (A 0), .int (nI i), .int (nI j), .ref (A 12), UV], σ1) := by
        have f1 : fV 11 m_X11_look [.ref (A 0), .int (nI i), .int (nI j)] σ = some (some (.int (lkV P K i j)), σ0) := by
          unfold fV
          dsimp only
          rw [ox]
          dsimp only
          rw [if_pos rfl]
          exact e1
        have f2 : eU o_i2l (eC (fV 11 m_X11_look) [(eA 0), (eI 1), (eI 2)]) [.ref (A 0), .int (nI i), .int (nI j), .ref (A 12), UV] σ = some (.long (lkV P K i j).toInt64, σ0) := by
          unfold eU eC
          show ((((fV 11 m_X11_look [.ref (A 0), .int (nI i), .int (nI j)] σ).bind fun q => q.1.map fun v => (v, q.2))).bind _) = _
          rw [f1]
          rfl
        unfold sP3
        show ((eU o_i2l (eC (fV 11 m_X11_look) [(eA 0), (eI 1), (eI 2)]) [.ref (A 0), .int (nI i), .int (nI j), .ref (A 12), UV] σ).bind fun u => (asL (.ref (A 12)) (.int 0) u.1 u.2).map fun t => ((Sum.inl 0 : XO), [Value.ref (A 0), .int (nI i), .int (nI j), .ref (A 12), UV], t)) = _
        rw [f2, Option.bind_some]
        dsimp only
        rw [show asL (.ref (A 12)) (.int 0) (.long (lkV P K i j).toInt64) σ0 = some σ1 from p1]
        rfl
      obtain ⟨_, σ2, _, f1, f2, f3, v, M', rfl, rfl, rfl, rfl⟩ := s_X12_look (Q := fun v M' => v = lkV P K i j ∧ M' = sI M 0 0 0) (q_bM (A := A)) (r_look0 co hi j8 ⟨rfl, rfl⟩) σ1 p2
      obtain ⟨_, σ3, _, g1, g2, g3, v, rfl, rfl, rfl⟩ := s_X12_thrown (Q := fun v => v = 0) (q_bM (A := A)) (show (sI M 0 0 0).1 0 0 = 0 from sI_same) σ2 f2
      have ma : MA M (sI M 0 0 0) := MA.th
      have bw : BW (wd A d) arL (.ref (A 12 + 0)) (.int 0) [H, P, S, R, K, F, W, T, N, U, I, sI M 0 0 0, sL O 0 0 (lkV P K i j).toInt64] (fun v => v = .long (lkV P K i j).toInt64) := bw_arL (F := fun u => u = (lkV P K i j).toInt64) (q_bO (A := A) (d := d)) rfl rfl ⟨in0, sL_same⟩ (fun u hu => by rw [hu])
      obtain ⟨rv, rd, rfl⟩ := bw σ3 g2
      exact ⟨0, lkV P K i j, c0, s0, σ1, σ2, σ3, llk_0 run (p3.trans e3), mObj p2, f1, mObj f2, g1, fun _ => rd, ⟨A, d, H, P, S, R, K, F, W, T, N, U, I, sI M 0 0 0, sL O 0 0 (lkV P K i j).toInt64, rfl, rfl, rfl, ⟨g2, g3.trans (f3.trans (p3.trans (e3.trans hσ.2)))⟩, i1, ⟨_, _, _, _, _, _, _, co.mv ma, (by rw [clV.mv ma]; exact fo), (by rw [clV.mv ma]; exact to)⟩, i3, i4, i5⟩, Nat.le_succ _, Nat.le_add_right _ _⟩
  · obtain ⟨r, σ1, _, e1, e2, e3, rfl, er⟩ := kw_look (b := b) (Q := fun r => r = false) q_bH q_bP q_rH2 (by rw [hasHouse_n v3 (by omega) c1]; rfl) σ hσ.1
    subst er
    exact fin 1 σ1 (Or.inl rfl) (lkt_1 (by rw [eL]; exact e1) e3) e2 fun Q hq => r_look1 v38 (by omega) c1 hq
