/-! ===== the class's finder: what it keeps of a front ===== -/
def FS (F : CT) (V : VW) (l q f tools : Nat) (held : Bool) : Prop := F.1 4 f = nI (allS V l q f tools held) ∧ RWr F f (msS V l f tools held) (ladS V l f) (codeS V f) (2 * pop 12 (allS V l q f tools held)) (rowS V l q f tools held)
def FOK (F : CT) (V : VW) (l q fN : Nat) : Prop := ∀ f, f < fN → F.1 2 f = -1 ∨ ∃ tools held, tools < 2 ^ (l + q) ∧ F.1 2 f = nI tools ∧ F.1 3 f = (if held = true then 1 else 0) ∧ FS F V l q f tools held
theorem sub1_n {a : Nat} (h : 1 ≤ a) : nI a - 1 = nI (a - 1) := by
  rw [li_1, pk_sub h]
theorem cnt_eq {V : VW} {l q f : Nat} : ((l + q) * nv (V 8 f)) * 9 = cntS V l q f := by
  unfold cntS
  rw [Nat.mul_assoc, Nat.mul_comm _ 9]
section Slv
variable {P F : CT} {V : VW} {l q f fN tools : Nat} {held : Bool} {a4 : Int32}
theorem all_lt (g : PFro P.1 V f) : allS V l q f tools held < 2 ^ nv (V 12 f) ∧ allS V l q f tools held < 4096 := by
  refine ⟨or_lt (fun i => ms_ltp g) _, or_lt (n := 12) (fun i => ms_lt g) _⟩
theorem rowS_eq : rowS V l q f tools held = (grS (msS V l f tools held) (famN (msS V l f tools held) (cntS V l q f)) (orN (msS V l f tools held) (cntS V l q f)) (cntS V l q f)).2 := rfl
theorem rowS_le (g : PFro P.1 V f) : (rowS V l q f tools held).length ≤ 12 := by
  rw [rowS_eq]
  exact gr_le (or_lt (n := 12) (fun i => ms_lt g) _) _
theorem FS.mv {F' : CT} (g : PFro P.1 V f) (h : FS F V l q f tools held) (e : ∀ j, (j = 1 ∨ j = 4 ∨ j = 5 ∨ j = 6) → F'.1 j f = F.1 j f) (e7 : ∀ k, 12 * f ≤ k → k < 12 * f + 12 → F'.1 7 k = F.1 7 k) : FS F' V l q f tools held := by
  obtain ⟨h1, h2, h3, h4, h5⟩ := h
  have := rowS_le (l := l) (q := q) (tools := tools) (held := held) g
  exact ⟨(e 4 (by omega)).trans h1, (e 1 (by omega)).trans h2, (e 5 (by omega)).trans h3, (e 6 (by omega)).trans h4, fun j hj => (e7 _ (by omega) (by omega)).trans (h5 j hj)⟩
theorem solve_ok {Q : CT → Prop} (T : TLS P.1 V l q) (gf : ∀ f, f < fN → PFro P.1 V f) (f5 : fN ≤ 5) (hF : FOK F V l q fN) (hf : f < fN) (ht : tools < 2 ^ (l + q)) (ha : a4 = if held = true then 1 else 0) (hQ : ∀ F', FOK F' V l q fN → FS F' V l q f tools held → Q F') : k_X1_solve P F (nI f) (nI tools) a4 Q := by
  have l4 := T.1.1
  have q3 := T.1.2.1
  have t7 : 2 ^ (l + q) ≤ 2 ^ 7 := Nat.pow_le_pow_right (by omega) (by omega)
  have g := gf f hf
  unfold k_X1_solve
  refine jn_of (fun J => J) ?_ ?_
  · obtain ⟨-, w, u, p, b, s, hw, -, hp, -, -, ⟨e8, -, e12, -⟩, ⟨p8, -, p12, -⟩, -⟩ := gf f hf
    have ew : nv (V 8 f) = w := by rw [e8, nv_n (by omega)]
    have ep : nv (V 12 f) = p := by rw [e12, nv_n (by omega)]
    have nar : vp_nar .boolean a4 = a4 := by
      subst ha
      cases held
      · exact bo0
      · exact bo1
    rw [wrI_n (by omega) (by omega), wrI_n (by omega) (by omega), ixN_n (by omega) (by omega), nar]
    refine heights_ok T g (by omega) (by omega) fun F1 x1 x2 => ?_
    refine columns_ok (held := held) g (by omega) (by subst ha; cases held <;> simp) fun F2 y1 y2 => ?_
    have L : FLk F2 V l q f tools held := ⟨fun t d h1 h2 h3 => (y1 8 _ (by omega)).trans (x2 t d h1 h2 h3), y2⟩
    rw [p8, p12, ← ew, ← ep]
    refine gather_ok T g L fun s c gw => ?_
    obtain ⟨w1, w2, n, w3, w4, w5⟩ := gw
    have N756 : ((l + q) * nv (V 8 f)) * 9 ≤ 756 := by
      have : (l + q) * nv (V 8 f) ≤ 7 * 12 := Nat.mul_le_mul (by omega) (by omega)
      omega
    rw [wrI_n (by omega) (by omega)]
    refine countLeast_ok (ms := msS V l f tools held) (n := n) (N := ((l + q) * nv (V 8 f)) * 9) (by omega) (fun i => ms_ltp g) (by omega) (by rw [sI_ne (by omega)]; exact w4) (w5.cg (fun k => sI_ne (by omega)) fun _ => Iff.rfl) fun F3 z1 z2 => ?_
    have fr3 : ∀ j k, (j = 1 ∨ j = 2 ∨ j = 3 ∨ j = 5 ∨ j = 6 ∨ j = 7 ∨ j = 8 ∨ j = 9 ∨ j = 10) → F3.1 j k = F2.1 j k := fun j k hj => by
      rw [z1 j k (by omega) (by omega), sI_ne (by omega)]
      exact w2 j k (by omega) (by omega)
    refine chooseRow_ok T g (by omega) (L.mv fun j k hj => fr3 j k (by omega)) (by rw [z1 4 f (by omega) (by omega), sI_same]; exact w1) z2 fun s' c' r => ?_
    obtain ⟨-, r2, r3⟩ := r
    rw [cnt_eq] at r3 w1
    have fr : ∀ j k, 1 ≤ j → j ≤ 7 → ¬ (j ≠ 7 ∧ k = f) → ¬ (j = 7 ∧ 12 * f ≤ k ∧ k < 12 * f + 12) → c'.1 j k = F.1 j k := fun j k h1 h7 n1 n2 => by
      rw [r2 j k (by omega) n2, z1 j k (by omega) (by omega), sI_ne (by omega), w2 j k (by omega) (by omega), y1 j k (by omega), x1 j k (by omega), sI_ne (by omega), sI_ne (by omega)]
    have new : FS c' V l q f tools held := by
      refine ⟨?_, r3⟩
      rw [r2 4 f (by omega) (by omega), z1 4 f (by omega) (by omega), sI_same]
      exact w1
    have n2 : c'.1 2 f = nI tools := by
      rw [r2 2 f (by omega) (by omega), fr3 2 f (by omega), y1 2 f (by omega), x1 2 f (by omega), sI_ne (by omega), sI_same]
    have n3 : c'.1 3 f = a4 := by
      rw [r2 3 f (by omega) (by omega), fr3 3 f (by omega), y1 3 f (by omega), x1 3 f (by omega), sI_same]
    refine hQ c' (fun f' hf' => ?_) new
    by_cases e : f' = f
    · subst e
      exact Or.inr ⟨tools, held, ht, n2, n3.trans ha, new⟩
    · rcases hF f' hf' with o | ⟨tt, hh, o1, o2, o3, o4⟩
      · left
        rw [fr 2 f' (by omega) (by omega) (by omega) (by omega)]
        exact o
      · right
        refine ⟨tt, hh, o1, ?_, ?_, o4.mv (gf f' hf') (fun j hj => fr j f' (by omega) (by omega) (by omega) (by omega)) fun k h1 h2 => fr 7 k (by omega) (by omega) (by omega) (by omega)⟩
        · rw [fr 2 f' (by omega) (by omega) (by omega) (by omega)]
          exact o2
        · rw [fr 3 f' (by omega) (by omega) (by omega) (by omega)]
          exact o3
  · intro J hJ
    rw [rdI_n (by omega) (by omega)]
    refine ite_b (fun _ => hJ) fun z => ?_
    have z := Classical.not_not.mp z
    rw [rdI_n (by omega) (by omega)]
    refine ite_b (fun _ => hJ) fun y => ?_
    have y := Classical.not_not.mp y
    rcases hF f hf with o | ⟨tt, hh, o1, o2, o3, o4⟩
    · rw [o] at z
      have := z.symm
      rw [m1_ne (by omega)] at this
      exact this.elim
    · have et : tt = tools := (nI_eq (by omega) (by omega)).mp (o2.symm.trans z)
      have eh : hh = held := by
        rw [o3, ha] at y
        cases hh <;> cases held
        · rfl
        · exact absurd y (by decide)
        · exact absurd y (by decide)
        · rfl
      subst et
      subst eh
      exact hQ F hF o4
theorem timeFor_ok {Q : Int32 → CT → Prop} (T : TLS P.1 V l q) (gf : ∀ f, f < fN → PFro P.1 V f) (f5 : fN ≤ 5) (hF : FOK F V l q fN) (hf : f < fN) (ht : tools < 2 ^ (l + q)) (ha : a4 = if held = true then 1 else 0) (hQ : ∀ F', FOK F' V l q fN → Q (nI (minS V l q f tools held)) F') : k_X1_timeFor P F (nI f) (nI tools) a4 Q := by
  unfold k_X1_timeFor
  refine solve_ok T gf f5 hF hf ht ha fun F' h1 h2 => ?_
  rw [rdI_n (by omega) (by omega), h2.2.2.1]
  exact hQ F' h1
theorem missed_ok {Q : Int32 → CT → Prop} (T : TLS P.1 V l q) (gf : ∀ f, f < fN → PFro P.1 V f) (f5 : fN ≤ 5) (hF : FOK F V l q fN) (hf : f < fN) (ht : tools < 2 ^ (l + q)) (ha : a4 = if held = true then 1 else 0) (hQ : ∀ F', FOK F' V l q fN → Q (nI (dif (2 ^ nv (V 12 f) - 1) (allS V l q f tools held))) F') : k_X1_missed P F (nI f) (nI tools) a4 Q := by
  unfold k_X1_missed
  refine solve_ok T gf f5 hF hf ht ha fun F' h1 h2 => ?_
  obtain ⟨-, w, u, p, b, s, hw, -, hp, -, -, ⟨e8, -, e12, -⟩, ⟨p8, -, p12, -⟩, -⟩ := gf f hf
  have hQ' := hQ F' h1
  have al := (all_lt (l := l) (q := q) (tools := tools) (held := held) (gf f hf)).2
  rw [e12, nv_n (by omega)] at hQ'
  have pl : 2 ^ p ≤ 2 ^ 12 := Nat.pow_le_pow_right (by omega) hp
  rw [ixN_n (by omega) (by omega), rdI_n (by omega) (by omega), h2.1, p12, shl_1 (by omega), sub1_n (Nat.two_pow_pos p), dif_n (by omega) (by omega)]
  exact hQ'
theorem allBits_eq {Q : Int32 → Prop} (T : TLS P.1 V l q) : k_X8_allBits P Q = Q (nI (2 ^ (l + q) - 1)) := by
  have l4 := T.1.1
  have q3 := T.1.2.1
  unfold k_X8_allBits
  rw [T.1.2.2.1, T.1.2.2.2, nI_add, shl_1 (by omega), li_1, pk_sub (Nat.two_pow_pos _)]
theorem byPolesC_ok {Q : Int32 → CT → Prop} (T : TLS P.1 V l q) (gf : ∀ f, f < fN → PFro P.1 V f) (f5 : fN ≤ 5) (hF : FOK F V l q fN) (hf : f < fN) (hQ : ∀ F', FOK F' V l q fN → Q (nI (polnS V l q f (2 ^ (l + q) - 1) false)) F') : k_X1_panesByPoles P F (nI f) Q := by
  unfold k_X1_panesByPoles
  have := Nat.two_pow_pos (l + q)
  rw [allBits_eq T]
  refine solve_ok (held := false) T gf f5 hF hf (by omega) rfl fun F' h1 h2 => ?_
  rw [rdI_n (by omega) (by omega), h2.2.2.2.1]
  exact hQ F' h1
theorem haveBits_y {Q : Int32 → Prop} (T : TLS P.1 V l q) (ht : tools < 2 ^ (l + q)) : k_X8_haveBits P (nI tools) Q = Q 1 := by
  have l4 := T.1.1
  have q3 := T.1.2.1
  have t7 : 2 ^ (l + q) ≤ 2 ^ 7 := Nat.pow_le_pow_right (by omega) (by omega)
  unfold k_X8_haveBits
  rw [rZ_ite, T.1.2.2.1, T.1.2.2.2, nI_add, shl_1 (by omega), inh_y rfl (by omega) ht]
theorem haveBits_n {Q : Int32 → Prop} {a : Int32} (T : TLS P.1 V l q) (hn : ¬ ∃ i, i < 2 ^ (l + q) ∧ a = nI i) : k_X8_haveBits P a Q = Q 0 := by
  have l4 := T.1.1
  have q3 := T.1.2.1
  have t7 : 2 ^ (l + q) ≤ 2 ^ 7 := Nat.pow_le_pow_right (by omega) (by omega)
  unfold k_X8_haveBits
  rw [rZ_ite, T.1.2.2.1, T.1.2.2.2, nI_add, shl_1 (by omega), inh_n rfl (by omega) hn]
theorem areTools_y {M : CT} {Q : Int32 → Prop} (hM : PVw M V l q) (l4 : l ≤ 4) (q3 : q ≤ 3) (ht : tools < 2 ^ (l + q)) : k_X12_areTools M (nI tools) Q = Q 1 := by
  have t7 : 2 ^ (l + q) ≤ 2 ^ 7 := Nat.pow_le_pow_right (by omega) (by omega)
  unfold k_X12_areTools
  rw [rZ_ite, hM.2.1, hM.2.2, nI_add, shl_1 (by omega), inh_y rfl (by omega) ht]
theorem areTools_n {M : CT} {Q : Int32 → Prop} {a : Int32} (hM : PVw M V l q) (l4 : l ≤ 4) (q3 : q ≤ 3) (hn : ¬ ∃ i, i < 2 ^ (l + q) ∧ a = nI i) : k_X12_areTools M a Q = Q 0 := by
  have t7 : 2 ^ (l + q) ≤ 2 ^ 7 := Nat.pow_le_pow_right (by omega) (by omega)
  unfold k_X12_areTools
  rw [rZ_ite, hM.2.1, hM.2.2, nI_add, shl_1 (by omega), inh_n rfl (by omega) hn]
end Slv
