/-! ===== a token step, and the tape split: told by their results ===== -/
def wTk (c : CT) (t : T4) : CT := (fun j k => if j = 0 then (if k = 62 then t.1 else if k = 63 then t.2.1 else if k = 64 then t.2.2.1 else if k = 65 then t.2.2.2 else c.1 0 k) else c.1 j k, c.2)
def k2_X12_token (cM : CT) (Q : CT → Prop) : Prop := ∃ n k : Nat, (cM.1 0 61 = nI n ∧ n ≤ 900 ∧ k ≤ n ∧ cM.1 0 62 = nI k ∧ ∀ i, i < n → 0 ≤ cM.1 1 i ∧ cM.1 1 i < 256) ∧ Q (wTk cM (mtok (cM.1 1) n k (cM.1 0 65)))
theorem s2_X12_token {w : WR} {xM : Nat} {cH cP cS cR cK cF cW cT cN cU cI cM cO : CT}  {Q : CT → Prop} (bM : w.1[11]? = some (xM, mLay)) (h : k2_X12_token cM Q) : FW w m_X12_token [.ref xM] [cH, cP, cS, cR, cK, cF, cW, cT, cN, cU, cI, cM, cO] (fun v C' => ∃ dM : CT, v = none ∧ C' = [cH, cP, cS, cR, cK, cF, cW, cT, cN, cU, cI, dM, cO] ∧ Q dM) := fun σ hσ => by
  obtain ⟨n, k, ⟨h1, h2, h3, h4, h5⟩, hQ⟩ := h
  have ov := hσ.ov (by decide) bM rfl
  have put := hσ.put (c' := wTk cM (mtok (cM.1 1) n k (cM.1 0 65))) (by decide) bM rfl (fun e => absurd e (by decide))
  have e := mm_token (r := xM) (rest := σ.1) (z := σ.2) (c := bc w 11 cM) (t := (cM.1 0 62, cM.1 0 63, cM.1 0 64, cM.1 0 65)) (f := (cM.1 0 66, cM.1 0 67)) (n := n) (k := k) h1 h2 h3 h4 h5
  have e0 : wT (bc w 11 cM) (cM.1 0 62, cM.1 0 63, cM.1 0 64, cM.1 0 65) (cM.1 0 66, cM.1 0 67) = bc w 11 cM := wT_self (c := bc w 11 cM)
  rw [e0] at e
  have e1 : ∀ t : T4, wT (bc w 11 cM) t (cM.1 0 66, cM.1 0 67) = bc w 11 (wTk cM t) := fun t => by
    refine Prod.ext ?_ rfl
    funext j x
    show (if j = 0 then _ else _) = (if j = 0 then _ else _)
    by_cases hj : j = 0
    · rw [if_pos hj, if_pos hj]
      by_cases a : x = 62
      · rw [if_pos a, if_pos a]
      · rw [if_neg a, if_neg a]
        by_cases b : x = 63
        · rw [if_pos b, if_pos b]
        · rw [if_neg b, if_neg b]
          by_cases d : x = 64
          · rw [if_pos d, if_pos d]
          · rw [if_neg d, if_neg d]
            by_cases g : x = 65
            · rw [if_pos g, if_pos g]
            · rw [if_neg g, if_neg g]
              by_cases i : x = 66
              · rw [if_pos i, i]
              · rw [if_neg i]
                by_cases l : x = 67
                · rw [if_pos l, l]
                · rw [if_neg l]
                  rfl
    · rw [if_neg hj, if_neg hj]
      rfl
  rw [e1] at e
  refine ⟨none, _, _, ?_, put, rfl, _, rfl, rfl, hQ⟩
  exact (congrArg (fun s => m_X12_token [.ref xM] s) ov).trans e
/-- the class's tables of tokens: K of them, then the text's end -/
def SPL (H R c : CT) (n K : Nat) : Prop := (K ≤ n ∧ sp isB (H.1 1) n (posC (H.1 1) n K) = n ∧ ∀ q, q < K → sp isB (H.1 1) n (posC (H.1 1) n q) < n) ∧ c.1 0 6 = nI (K + 1) ∧ (∀ i, i < K → c.1 1 i = kdC (H.1 1) n (sp isB (H.1 1) n (posC (H.1 1) n i)) ∧ c.1 2 i = nI (sp isB (H.1 1) n (posC (H.1 1) n i)) ∧ c.1 3 i = vaC (H.1 1) n (sp isB (H.1 1) n (posC (H.1 1) n i))) ∧ (c.1 1 K = 41 ∧ c.1 2 K = nI n ∧ c.1 3 K = 0) ∧ ∀ j k, ¬ (1 ≤ j ∧ j ≤ 3) → ¬ (j = 0 ∧ k = 6) → c.1 j k = R.1 j k
def k2_X7_splitTape (cH : CT) (cR : CT) (Q : CT → Prop) : Prop := ∃ n : Nat, cR.1 0 2 = nI n ∧ n ≤ 900 ∧ ∀ K c, SPL cH cR c n K → Q c
theorem tokR_at {R : BC} {tp : Nat → Int32} {n : Nat} : ∀ (k i : Nat), i < k → (tokR R tp n k).1 1 i = kdC tp n (sp isB tp n (posC tp n i)) ∧ (tokR R tp n k).1 2 i = nI (sp isB tp n (posC tp n i)) ∧ (tokR R tp n k).1 3 i = vaC tp n (sp isB tp n (posC tp n i))
  | 0, i, h => absurd h (by omega)
  | k + 1, i, h => by
    show (addT (tokR R tp n k) k _ _ _).1 1 i = _ ∧ (addT (tokR R tp n k) k _ _ _).1 2 i = _ ∧ (addT (tokR R tp n k) k _ _ _).1 3 i = _
    unfold addT
    by_cases e : i = k
    · subst e
      refine ⟨?_, ?_, ?_⟩
      · rw [setI_ne (by omega), setI_ne (by omega), setI_ne (by omega), setI_get]
      · rw [setI_ne (by omega), setI_ne (by omega), setI_get]
      · rw [setI_ne (by omega), setI_get]
    · obtain ⟨a, b, c⟩ := tokR_at (R := R) (tp := tp) (n := n) k i (by omega)
      refine ⟨?_, ?_, ?_⟩
      · rw [setI_ne (by omega), setI_ne (by omega), setI_ne (by omega), setI_ne (by omega)]
        exact a
      · rw [setI_ne (by omega), setI_ne (by omega), setI_ne (by omega), setI_ne (by omega)]
        exact b
      · rw [setI_ne (by omega), setI_ne (by omega), setI_ne (by omega), setI_ne (by omega)]
        exact c
theorem tokR_fr {R : BC} {tp : Nat → Int32} {n : Nat} : ∀ (k : Nat), (tokR R tp n k).2 = R.2 ∧ ∀ j x, ¬ (1 ≤ j ∧ j ≤ 3) → ¬ (j = 0 ∧ x = 6) → (tokR R tp n k).1 j x = R.1 j x
  | 0 => ⟨rfl, fun j x h1 h2 => setI_ne h2⟩
  | k + 1 => by
    obtain ⟨a, b⟩ := tokR_fr (R := R) (tp := tp) (n := n) k
    refine ⟨a, fun j x h1 h2 => ?_⟩
    show (addT (tokR R tp n k) k _ _ _).1 j x = _
    unfold addT
    rw [setI_ne (by omega), setI_ne (by omega), setI_ne (by omega), setI_ne (by omega)]
    exact b j x h1 h2
theorem s2_X7_splitTape {w : WR} {xH xR : Nat} {cH cP cS cR cK cF cW cT cN cU cI cM cO : CT}  {Q : CT → Prop} (bH : w.1[0]? = some (xH, hLay)) (bR : w.1[3]? = some (xR, rLay)) (h : k2_X7_splitTape cH cR Q) : FW w m_X7_splitTape [.ref xR, .ref (xH + 1)] [cH, cP, cS, cR, cK, cF, cW, cT, cN, cU, cI, cM, cO] (fun v C' => ∃ dR : CT, v = none ∧ C' = [cH, cP, cS, dR, cK, cF, cW, cT, cN, cU, cI, cM, cO] ∧ Q dR) := fun σ hσ => by
  obtain ⟨n, h1, h2, hQ⟩ := h
  have ov := hσ.ov (by decide) bR rfl
  have ovH := hσ.ov (by decide) bH rfl
  have apart := hσ.1 0 3 _ _ bH bR (by decide)
  dsimp only at apart
  have hl : hLay.length = 2 := rfl
  have tp : TP (xH + 1) xR σ.1 σ.2 (cH.1 1) := fun R j => by
    have cell : (bOv xR rLay R σ.1) (xH + 1) = (bOv xH hLay (bc w 0 cH) σ.1) (xH + 1) := by
      rw [bOv_out (by omega)]
      have := congrArg (fun s : ST => s.1 (xH + 1)) ovH
      exact this
    have same : arZ (.ref (xH + 1)) (.int j) (rs xR σ.1 σ.2 R) = arZ (.ref (xH + 1)) (.int j) (bOv xH hLay (bc w 0 cH) σ.1, σ.2) := by
      unfold arZ rs
      dsimp only
      rw [cell]
    rw [same, arZ_b (n := 900) (ty := .byte) rfl (Or.inl rfl)]
    rfl
  obtain ⟨K, e, e1, e2, e3⟩ := cc_splitTape (a := xH + 1) (y := xR) (rest := σ.1) (z := σ.2) (tp := cH.1 1) (R := bc w 3 cR) (n := n) tp h1 h2
  obtain ⟨f1, f2⟩ := tokR_fr (R := bc w 3 cR) (tp := cH.1 1) (n := n) K
  have eb : addT (tokR (bc w 3 cR) (cH.1 1) n K) K 41 (nI n) 0 = bc w 3 ((addT (tokR (bc w 3 cR) (cH.1 1) n K) K 41 (nI n) 0).1, cR.2) := by
    refine Prod.ext rfl ?_
    show (tokR (bc w 3 cR) (cH.1 1) n K).2 = _
    rw [f1]
    rfl
  rw [eb] at e
  have put := hσ.put (c' := ((addT (tokR (bc w 3 cR) (cH.1 1) n K) K 41 (nI n) 0).1, cR.2)) (by decide) bR rfl (fun e => absurd e (by decide))
  refine ⟨none, _, _, ?_, put, rfl, _, rfl, rfl, hQ K _ ⟨⟨e1, e2, e3⟩, ?_, fun i hi => ?_, ?_, fun j k g1 g2 => ?_⟩⟩
  · exact (congrArg (fun s => m_X7_splitTape [.ref xR, .ref (xH + 1)] s) ov).trans e
  · show (addT (tokR (bc w 3 cR) (cH.1 1) n K) K 41 (nI n) 0).1 0 6 = _
    unfold addT
    exact setI_get
  · have := tokR_at (R := bc w 3 cR) (tp := cH.1 1) (n := n) K i hi
    unfold addT
    refine ⟨?_, ?_, ?_⟩
    · rw [setI_ne (by omega), setI_ne (by omega), setI_ne (by omega), setI_ne (by omega)]
      exact this.1
    · rw [setI_ne (by omega), setI_ne (by omega), setI_ne (by omega), setI_ne (by omega)]
      exact this.2.1
    · rw [setI_ne (by omega), setI_ne (by omega), setI_ne (by omega), setI_ne (by omega)]
      exact this.2.2
  · unfold addT
    refine ⟨?_, ?_, ?_⟩
    · rw [setI_ne (by omega), setI_ne (by omega), setI_ne (by omega), setI_get]
    · rw [setI_ne (by omega), setI_ne (by omega), setI_get]
    · rw [setI_ne (by omega), setI_get]
  · unfold addT
    rw [setI_ne (by omega), setI_ne (by omega), setI_ne (by omega), setI_ne (by omega)]
    exact f2 j k g1 g2
