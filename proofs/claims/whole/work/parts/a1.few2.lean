/-! ===== the mask of one setting: the class's tables against the specification ===== -/
theorem ix_div {t w c e : Nat} (hc : c < w) (he : e < 9) : ((t * w + c) * 9 + e) / (9 * w) = t ∧ ((t * w + c) * 9 + e) / 9 % w = c ∧ ((t * w + c) * 9 + e) % 9 = e := by
  have h9 : ((t * w + c) * 9 + e) / 9 = t * w + c := by omega
  refine ⟨?_, ?_, by omega⟩
  · rw [← Nat.div_div_eq_div_mul, h9, Nat.mul_comm t w, Nat.mul_add_div (by omega), Nat.div_eq_of_lt hc, Nat.add_zero]
  · rw [h9, Nat.mul_comm t w, Nat.mul_add_mod, Nat.mod_eq_of_lt hc]
theorem ms_at {V : VW} {l f tools t c d : Nat} {held : Bool} (hc : c < nv (V 8 f)) (h1 : 1 ≤ d) (h9 : d ≤ 9) : msS V l f tools held ((t * nv (V 8 f) + c) * 9 + (d - 1)) = nrS V f (decide (t < l)) held c &&& tlS V l f tools t d := by
  obtain ⟨e1, e2, e3⟩ := ix_div (t := t) (e := d - 1) hc (by omega)
  unfold msS
  rw [e1, e2, e3, Nat.sub_add_cancel h1]
  unfold nrS tlS
  by_cases hb : tools.testBit t = true
  · rw [if_pos hb, if_pos hb]
    unfold cvS stdS
    by_cases hs : (!((nv (V 10 f)).testBit c) && (!(decide (t < l)) || held || !((nv (V 11 f)).testBit c))) = true
    · rw [if_pos hs, if_pos hs]
      cases rchS V l t d with
      | none => exact (Nat.and_zero _).symm
      | some h => exact (bm_and _ _ _).symm
    · rw [if_neg hs, if_neg hs]
      exact (Nat.zero_and _).symm
  · rw [if_neg hb, if_neg hb]
    exact (Nat.and_zero _).symm
theorem nrS_lt {P V : VW} {f c : Nat} {lad held : Bool} (g : PFro P V f) : nrS V f lad held c < 4096 := by
  obtain ⟨-, w, u, p, b, s, -, -, hp, -, -, ⟨-, -, e12, -⟩, -⟩ := g
  unfold nrS
  have h := bm_lt (nearS V f c) (nv (V 12 f))
  rw [e12, nv_n (by omega)] at h ⊢
  have : 2 ^ p ≤ 2 ^ 12 := Nat.pow_le_pow_right (by omega) hp
  split <;> omega
theorem tlS_lt {P V : VW} {l f t d tools : Nat} (g : PFro P V f) : tlS V l f tools t d < 4096 := by
  obtain ⟨-, w, u, p, b, s, -, -, hp, -, -, ⟨-, -, e12, -⟩, -⟩ := g
  unfold tlS
  have h := fun y => bm_lt (tallS V l f t y) (nv (V 12 f))
  rw [e12, nv_n (by omega)] at h ⊢
  have : 2 ^ p ≤ 2 ^ 12 := Nat.pow_le_pow_right (by omega) hp
  split
  · split
    · omega
    · rename_i y _
      have := h y
      omega
  · omega
/-- the finder's tables show a front for a choice of tools -/
def FLk (F : CT) (V : VW) (l q f tools : Nat) (held : Bool) : Prop := (∀ t d, t < l + q → 1 ≤ d → d ≤ 9 → F.1 8 (9 * t + d - 1) = nI (tlS V l f tools t d)) ∧ ∀ c, c < nv (V 8 f) → F.1 9 c = nI (nrS V f true held c) ∧ F.1 10 c = nI (nrS V f false held c)
theorem FLk.mv {F F' : CT} {V : VW} {l q f tools : Nat} {held : Bool} (g : FLk F V l q f tools held) (h : ∀ j k, (j = 8 ∨ j = 9 ∨ j = 10) → F'.1 j k = F.1 j k) : FLk F' V l q f tools held := ⟨fun t d ht h1 h9 => (h 8 _ (by omega)).trans (g.1 t d ht h1 h9), fun c hc => ⟨(h 9 _ (by omega)).trans (g.2 c hc).1, (h 10 _ (by omega)).trans (g.2 c hc).2⟩⟩
section Few2
variable {P F : CT} {V : VW} {l q f t d c tools : Nat} {held : Bool}
theorem panesOf_eq {Q : Int32 → Prop} (T : TLS P.1 V l q) (g : PFro P.1 V f) (L : FLk F V l q f tools held) (ht : t < l + q) (hc : c < nv (V 8 f)) (h1 : 1 ≤ d) (h9 : d ≤ 9) : k_X1_panesOf P F (nI t) (nI c) (nI d) Q = Q (nI (msS V l f tools held ((t * nv (V 8 f) + c) * 9 + (d - 1)))) := by
  have l4 := T.1.1
  have q3 := T.1.2.1
  have b1 := fun lad => nrS_lt (c := c) (lad := lad) (held := held) g
  have b2 := tlS_lt (l := l) (t := t) (d := d) (tools := tools) g
  obtain ⟨-, w, u, p, b, s, hw, -, -, -, -, ⟨e8, -⟩, -⟩ := g
  have ew : nv (V 8 f) = w := by rw [e8, nv_n (by omega)]
  have cw := hc
  rw [ew] at cw
  have ix : t * 9 + d - 1 = 9 * t + d - 1 := by omega
  unfold k_X1_panesOf
  rw [jn_eq, isLadP T (by omega), ms_at hc h1 h9, li_9, pk_mul, nI_add, li_1, pk_sub (by omega), ix]
  dsimp only
  obtain ⟨n1, n2⟩ := L.2 c hc
  by_cases hl : t < l
  · rw [if_pos hl, ← li_1, if_neg (by decide), rdI_n (by omega) (by omega), n1, decide_eq_true hl]
    rw [rdI_n (by omega) (by omega), L.1 t d ht h1 h9, and_n (by have := b1 true; omega) (by omega)]
  · rw [if_neg hl, if_pos rfl, rdI_n (by omega) (by omega), n2, decide_eq_false hl]
    rw [rdI_n (by omega) (by omega), L.1 t d ht h1 h9, and_n (by have := b1 false; omega) (by omega)]
end Few2
