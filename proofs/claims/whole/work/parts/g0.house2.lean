/-! ===== reading: the head of a house's line ===== -/
section House2
variable {P R c M : CT} {T : Nat → T4} {K n i l q f m h t : Nat} {Q : Int32 → CT → CT → Prop}
theorem fa_cg {t : T4} {a b : Int32} (h : t.2.2.1 = 1 → (a = -1 ↔ b = -1)) : fa t a = fa t b := by
  unfold fa
  by_cases e : t.2.2.1 = 1
  · rw [if_pos e, if_pos e]
    have := h e
    by_cases x : a = -1
    · rw [if_pos x, if_pos (this.mp x)]
    · rw [if_neg x, if_neg fun y => x (this.mpr y)]
  · rw [if_neg e, if_neg e]
theorem fa_1 {t : T4} {a : Int32} (h : fa t a = 0) : t.2.2.1 = 1 ∧ a ≠ -1 := by
  unfold fa at h
  by_cases e : t.2.2.1 = 1
  · rw [if_pos e] at h
    refine ⟨e, fun z => ?_⟩
    rw [if_pos z] at h
    exact absurd h (by decide)
  · rw [if_neg e] at h
    exact absurd h (by decide)
theorem fa_n {t : T4} {g : Nat → Int32} {fr k : Nat} {x : Int32} (h : fa t (fnd g fr x k 0) = 0) : ∃ j, j < k ∧ fnd g fr x k 0 = nI j := by
  rcases fnd_nat (g := g) (fr := fr) (x := x) k 0 with w | ⟨j, -, h2, h3⟩
  · exact absurd w (fa_1 h).2
  · exact ⟨j, by omega, h3⟩
/-! the reference's line from each of its steps on -/
def tl7 (a1 : Int32) (c18 : CT) (J : CT → Prop) : Prop := wrI c18 25 20 a1 (0 : Int32) (fun c19 => wrI c19 26 20 a1 (10 : Int32) (fun c20 => wrI c20 27 20 a1 (vp_nar .boolean (0 : Int32)) (fun c21 => wrI c21 28 20 a1 (0 : Int32) (fun c22 => wrI c22 29 20 a1 (0 : Int32) (fun c23 => rHlp a1 J (0 : Int32) c23)))))
def tl6 (a1 : Int32) (c15 : CT) (J : CT → Prop) : Prop := k2_X12_numeral c15 (1 : Int32) (9 : Int32) (fun t17 c16 => wrI c16 24 20 a1 t17 (fun c18 => tl7 a1 c18 J))
def tl5 (a1 : Int32) (c12 : CT) (J : CT → Prop) : Prop := k2_X12_numeral c12 (0 : Int32) (99 : Int32) (fun t14 c13 => wrI c13 23 20 a1 t14 (fun c15 => tl6 a1 c15 J))
def tl4 (a1 : Int32) (c9 : CT) (J : CT → Prop) : Prop := k2_X12_numeral c9 (0 : Int32) (9 : Int32) (fun t11 c10 => wrI c10 22 20 a1 t11 (fun c12 => tl5 a1 c12 J))
def tl3 (a1 : Int32) (c6 : CT) (J : CT → Prop) : Prop := k2_X12_ahead c6 15 6 (3 : Int32) (c6.1 0 49) (fun t8 c7 => wrI c7 21 20 a1 t8 (fun c9 => tl4 a1 c9 J))
def tl2 (a1 : Int32) (c3 : CT) (J : CT → Prop) : Prop := k2_X12_ahead c3 7 10 (5 : Int32) (c3.1 0 48) (fun t5 c4 => wrI c4 20 20 a1 t5 (fun c6 => tl3 a1 c6 J))
theorem houseL_tl {a1 : Int32} {J : CT → Prop} : k2_X12_houseLine c a1 J = k2_X12_fresh c 19 20 (10 : Int32) (c.1 0 50) (fun t2 c1 => wrI c1 19 20 a1 t2 (fun c3 => tl2 a1 c3 J)) := rfl
/-- five rows of a house, as a line begins -/
def ho5 (c : CT) (h : Nat) : CT := sU (sU (sU (sU (sU c 25 h 0) 26 h 10) 27 h 0) 28 h 0) 29 h 0
theorem ho5_ne {j k : Nat} (e : ¬ (25 ≤ j ∧ j ≤ 29)) : (ho5 c h).1 j k = c.1 j k := by
  unfold ho5
  rw [sU_ne (by omega), sU_ne (by omega), sU_ne (by omega), sU_ne (by omega), sU_ne (by omega)]
theorem ho5_up {j k : Nat} (e : ¬ (25 ≤ j ∧ j ≤ 29 ∧ k = h)) : uppV (ho5 c h) j k = uppV c j k := by
  unfold ho5
  rw [upp_sn (by omega) (by omega), upp_sn (by omega) (by omega), upp_sn (by omega) (by omega), upp_sn (by omega) (by omega), upp_sn (by omega) (by omega)]
theorem ho5_fl {k p : Int32} (g : FLr M c k p) : FLr M (ho5 c h) k p := ((((g.u (by omega)).u (by omega)).u (by omega)).u (by omega)).u (by omega)
theorem ho5_rd (g : RDr M c T n i) : RDr M (ho5 c h) T n i := ((((g.u (by omega)).u (by omega)).u (by omega)).u (by omega)).u (by omega)
theorem tl7_w {J : CT → Prop} (hh : h < 10) (w : rHlp (nI (10 + h)) J (0 : Int32) (ho5 c h)) : tl7 (nI (10 + h)) c J := by
  unfold tl7
  rw [bo0]
  refine wr_u' (j := 25) (show 10 + h < 20 by omega) (by omega) ?_
  refine wr_u' (j := 26) (show 10 + h < 20 by omega) (by omega) ?_
  refine wr_u' (j := 27) (show 10 + h < 20 by omega) (by omega) ?_
  refine wr_u' (j := 28) (show 10 + h < 20 by omega) (by omega) ?_
  refine wr_u' (j := 29) (show 10 + h < 20 by omega) (by omega) ?_
  exact w
section Bad
variable {k p : Int32}
theorem tl7_x (hh : h < 10) (g : FLr M c k p) (hk : k ≠ 0) (h50 : c.1 0 50 = nI h) : ∃ c', FLr M c' k p ∧ ∀ J : CT → Prop, J c' → tl7 (nI (10 + h)) c J := ⟨sI (ho5 c h) 0 50 (nI (h + 1)), (ho5_fl g).s (nrv_0 (by omega)) (by omega), fun J hJ => tl7_w hh (rHlp_x (ho5_fl g) hk (by rw [ho5_ne (by omega)]; exact h50) hJ)⟩
theorem tl6_x (hh : h < 10) (g : FLr M c k p) (hk : k ≠ 0) (h50 : c.1 0 50 = nI h) : ∃ c', FLr M c' k p ∧ ∀ J : CT → Prop, J c' → tl6 (nI (10 + h)) c J := by
  obtain ⟨c', a, b⟩ := tl7_x (c := sU c 24 h 1) hh (g.u (by omega)) hk (by rw [sU_ne (by omega)]; exact h50)
  exact ⟨c', a, fun J hJ => numeral_x g hk (wr_u' (j := 24) (show 10 + h < 20 by omega) (by omega) (b J hJ))⟩
theorem tl5_x (hh : h < 10) (g : FLr M c k p) (hk : k ≠ 0) (h50 : c.1 0 50 = nI h) : ∃ c', FLr M c' k p ∧ ∀ J : CT → Prop, J c' → tl5 (nI (10 + h)) c J := by
  obtain ⟨c', a, b⟩ := tl6_x (c := sU c 23 h 0) hh (g.u (by omega)) hk (by rw [sU_ne (by omega)]; exact h50)
  exact ⟨c', a, fun J hJ => numeral_x g hk (wr_u' (j := 23) (show 10 + h < 20 by omega) (by omega) (b J hJ))⟩
theorem tl4_x (hh : h < 10) (g : FLr M c k p) (hk : k ≠ 0) (h50 : c.1 0 50 = nI h) : ∃ c', FLr M c' k p ∧ ∀ J : CT → Prop, J c' → tl4 (nI (10 + h)) c J := by
  obtain ⟨c', a, b⟩ := tl5_x (c := sU c 22 h 0) hh (g.u (by omega)) hk (by rw [sU_ne (by omega)]; exact h50)
  exact ⟨c', a, fun J hJ => numeral_x g hk (wr_u' (j := 22) (show 10 + h < 20 by omega) (by omega) (b J hJ))⟩
theorem tl3_x (hh : h < 10) (g : FLr M c k p) (hk : k ≠ 0) (h50 : c.1 0 50 = nI h) : ∃ c', FLr M c' k p ∧ ∀ J : CT → Prop, J c' → tl3 (nI (10 + h)) c J := by
  obtain ⟨c', a, b⟩ := tl4_x (c := sU c 21 h 0) hh (g.u (by omega)) hk (by rw [sU_ne (by omega)]; exact h50)
  exact ⟨c', a, fun J hJ => ahead_x g hk (wr_u' (j := 21) (show 10 + h < 20 by omega) (by omega) (b J hJ))⟩
theorem tl2_x (hh : h < 10) (g : FLr M c k p) (hk : k ≠ 0) (h50 : c.1 0 50 = nI h) : ∃ c', FLr M c' k p ∧ ∀ J : CT → Prop, J c' → tl2 (nI (10 + h)) c J := by
  obtain ⟨c', a, b⟩ := tl3_x (c := sU c 20 h 0) hh (g.u (by omega)) hk (by rw [sU_ne (by omega)]; exact h50)
  exact ⟨c', a, fun J hJ => ahead_x g hk (wr_u' (j := 20) (show 10 + h < 20 by omega) (by omega) (b J hJ))⟩
end Bad
theorem fnh_eq {x : Int32} (g : PRel P.1 (uppV c) l q f m h) : fnd (fun i => P.1 (33 + i) 0) 0 x h 0 = fnd (c.1 19) 10 x h 0 := fnd_cg h 0 fun i _ hi => by
  rw [Nat.zero_add]
  exact (g.2.2.2.2.2.1 i (by omega)).1.trans (uppV_u (by omega))
theorem fnm_e2 {x : Int32} (g : PRel P.1 (uppV c) l q f m h) : fnd (fun i => P.1 (30 + i) 0) 0 x m 0 = fnd (c.1 15) 3 x m 0 := fnd_cg m 0 fun i _ hi => by
  rw [Nat.zero_add]
  exact (g.2.2.2.2.1 i (by omega)).1.trans (uppV_u (by omega))
/-- only the house that is being read differs -/
def HX (P P' : CT) (h : Nat) : Prop := ∀ j k, j ≠ 33 + h → P'.1 j k = P.1 j k
def VX (c c' : CT) (h : Nat) : Prop := ∀ j k, (j = 0 → k ≤ 45) → ¬ (19 ≤ j ∧ j ≤ 29 ∧ k = h) → uppV c' j k = uppV c j k
theorem PRel.hv {P' c' : CT} (g : PRel P.1 (uppV c) l q f m h) (a : HX P P' h) (b : VX c c' h) : PRel P'.1 (uppV c') l q f m h := g.hox (fun j k z => a j k z) fun j k w z => b j k (by unfold VWR at w; omega) z
theorem HX.s {P' : CT} {k : Nat} {v : Int32} (a : HX P P' h) : HX P (sI P' (33 + h) k v) h := fun j x z => (sI_ne (by omega)).trans (a j x z)
theorem VX.st {c' : CT} {j : Nat} {u : T4} {v : Int32} (b : VX c c' h) (hj : 19 ≤ j ∧ j ≤ 29) : VX c (sU (wTk c' u) j h v) h := fun x k w z => by
  rw [upp_sn (by omega) (by omega), upp_t w]
  exact b x k w z
end House2
