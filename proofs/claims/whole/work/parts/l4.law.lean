/-! ===== the law: its script, its cases ===== -/
abbrev lawM : MX := (RL, cL_law, 7, some .boolean, false)
abbrev lD : Nat := 220
def SCX (Y : YX) (b n : Nat) (xs : Nat → Int32) : Prop := Y.1.2 1000 2 = 1 ∧ scB Y = b ∧ scN Y = n ∧ scX Y = xs
/-- the law's locals -/
abbrev lwL (b x y o i : Nat) (u v : Value) : List Value := [.ref b, .ref x, .ref y, .ref o, .int (nI i), u, v]
section Scr
variable {X : RX} {b n x y o i : Nat} {xs : Nat → Int32} {L stk : List Value} {σ : ST} {pc : Nat} {u v : Value}
theorem g_sld {j : Nat} (hX : SCX X.1 b n xs) (hn : n ≤ 3072) (hd : decode cL_law pc = .ok (.iaload, 1)) (hj : j < n) (k : G lawM lD X (pc + 1) L (.int (xs j) :: stk) σ) : G lawM lD X pc L (.int (nI j) :: .ref b :: stk) σ := by
  intro z1 z2
  obtain ⟨k1, k2⟩ := k z1 z2
  refine ⟨k1, fun p l e s m args below meth c C H locs ls hl hR hz hS => ?_⟩
  have kk := k2 p l e s m args below meth c C H locs ls hl hR hz hS
  obtain ⟨hx, hb, -, hml, hown, hts, -, hK, hB, -⟩ := C
  obtain ⟨h1, h2, h3, h4⟩ := hX
  obtain ⟨q1, q2⟩ := hK.2.2.2.2.2.2.2.2.1 h1
  rw [h2, h3, h4] at q2
  rw [h2] at q1
  exact va_sld hx hb q2 (Nat.lt_of_lt_of_le q1 hB) (Nat.not_le.mpr q1) hS (vp_in_nI hj (by omega)) hd (by rw [nI_clamp (by omega)]; exact kk)
theorem g_slen (hX : SCX X.1 b n xs) (hd : decode cL_law pc = .ok (.arraylength, 1)) (k : G lawM lD X (pc + 1) L (.int (nI n) :: stk) σ) : G lawM lD X pc L (.ref b :: stk) σ := by
  intro z1 z2
  obtain ⟨k1, k2⟩ := k z1 z2
  refine ⟨k1, fun p l e s m args below meth c C H locs ls hl hR hz hS => ?_⟩
  have kk := k2 p l e s m args below meth c C H locs ls hl hR hz hS
  obtain ⟨hx, hb, -, hml, hown, hts, -, hK, hB, -⟩ := C
  obtain ⟨h1, h2, h3, h4⟩ := hX
  obtain ⟨q1, q2⟩ := hK.2.2.2.2.2.2.2.2.1 h1
  rw [h2, h3, h4] at q2
  rw [h2] at q1
  exact va_slen hx hb q2 (Nat.lt_of_lt_of_le q1 hB) (Nat.not_le.mpr q1) hS hd kk
/-- pushes of arguments -/
def PU (b n : Nat) (xs : Nat → Int32) (L : List Value) (pc : Nat) (vs : List Value) (pc' : Nat) : Prop := ∀ (X : RX) (stk : List Value) (σ : ST), SCX X.1 b n xs → G lawM lD X pc' L (vs.reverse ++ stk) σ → G lawM lD X pc L stk σ
theorem pu_0 : PU b n xs L pc [] pc := fun _ _ _ _ k => k
theorem sc_arg {k : Nat} {kk : Int} (hX : SCX X.1 b n xs) (hn : n ≤ 3072) (hk : Int32.ofInt kk = nI k) (hj : i + k < n) (d0 : decode cL_law pc = .ok (.aload_n 0, 1)) (d1 : decode cL_law (pc + 1) = .ok (.iload 4, 2)) (d2 : decode cL_law (pc + 1 + 2) = .ok (.iconst kk, 1)) (d3 : decode cL_law (pc + 1 + 2 + 1) = .ok (.iadd, 1)) (d4 : decode cL_law (pc + 1 + 2 + 1 + 1) = .ok (.iaload, 1)) (g : G lawM lD X (pc + 6) (lwL b x y o i u v) (.int (xs (i + k)) :: stk) σ) : G lawM lD X pc (lwL b x y o i u v) stk σ := by
  refine (ie_aload_n d0 rfl : IE lawM lD (wt stk) pc (eA 0) (pc + 1)) X _ stk σ σ (.ref b) (Nat.le_refl _) rfl ?_
  refine (ie_iload d1 : IE lawM lD (wt (.ref b :: stk)) (pc + 1) (eI 4) (pc + 1 + 2)) X _ _ σ σ (.int (nI i)) (Nat.le_refl _) rfl ?_
  refine (ie_iconst d2 hk : IE lawM lD (wt (.int (nI i) :: .ref b :: stk)) (pc + 1 + 2) (eK (.int (nI k))) (pc + 1 + 2 + 1)) X _ _ σ σ (.int (nI k)) (Nat.le_refl _) rfl ?_
  refine (r_iadd d3 : R2 lawM lD (pc + 1 + 2 + 1) o_iadd (pc + 1 + 2 + 1 + 1)) X _ _ σ (.int (nI i)) (.int (nI k)) (.int (nI (i + k))) (by show some (Value.int (nI i + nI k)) = _; rw [nI_add]) ?_
  exact g_sld hX hn d4 hj g
theorem pu_i {vs : List Value} {k pc' : Nat} {kk : Int} (hn : n ≤ 3072) (hk : Int32.ofInt kk = nI k) (hj : i + k < n) (d0 : decode cL_law pc = .ok (.aload_n 0, 1)) (d1 : decode cL_law (pc + 1) = .ok (.iload 4, 2)) (d2 : decode cL_law (pc + 1 + 2) = .ok (.iconst kk, 1)) (d3 : decode cL_law (pc + 1 + 2 + 1) = .ok (.iadd, 1)) (d4 : decode cL_law (pc + 1 + 2 + 1 + 1) = .ok (.iaload, 1)) (r : PU b n xs (lwL b x y o i u v) (pc + 6) vs pc') : PU b n xs (lwL b x y o i u v) pc (.int (xs (i + k)) :: vs) pc' := fun X stk σ hX g => by
  refine sc_arg hX hn hk hj d0 d1 d2 d3 d4 (r X _ σ hX ?_)
  rw [List.reverse_cons, List.append_assoc] at g
  exact g
theorem pu_b {vs : List Value} {k pc' tgt fin : Nat} {kk off off2 : Int} (hn : n ≤ 3072) (hk : Int32.ofInt kk = nI k) (hj : i + k < n) (d0 : decode cL_law pc = .ok (.aload_n 0, 1)) (d1 : decode cL_law (pc + 1) = .ok (.iload 4, 2)) (d2 : decode cL_law (pc + 1 + 2) = .ok (.iconst kk, 1)) (d3 : decode cL_law (pc + 1 + 2 + 1) = .ok (.iadd, 1)) (d4 : decode cL_law (pc + 1 + 2 + 1 + 1) = .ok (.iaload, 1))
    (d5 : decode cL_law (pc + 6) = .ok (.ifCond .eq off, 3)) (t5 : ((pc + 6 : Nat) : Int) + off = (tgt : Int)) (d6 : decode cL_law (pc + 6 + 3) = .ok (.iconst 1, 1)) (d7 : decode cL_law (pc + 6 + 3 + 1) = .ok (.goto off2, 3)) (t7 : ((pc + 6 + 3 + 1 : Nat) : Int) + off2 = (fin : Int)) (d8 : decode cL_law tgt = .ok (.iconst 0, 1)) (t8 : tgt + 1 = fin) (r : PU b n xs (lwL b x y o i u v) fin vs pc') : PU b n xs (lwL b x y o i u v) pc (.int (if xs (i + k) = 0 then 0 else 1) :: vs) pc' := fun X stk σ hX g => by
  rw [List.reverse_cons, List.append_assoc] at g
  have g2 := r X _ σ hX g
  refine sc_arg hX hn hk hj d0 d1 d2 d3 d4 ?_
  refine (j_if_eq d5 t5 : J1 lawM lD (pc + 6) z_eq tgt (pc + 6 + 3)) X _ _ σ _ (decide (xs (i + k) = 0)) rfl ?_
  by_cases e : xs (i + k) = 0
  · rw [decide_eq_true e]
    rw [if_pos e] at g2
    refine (ie_iconst d8 rfl : IE lawM lD (wt stk) tgt (eK (.int 0)) (tgt + 1)) X _ stk σ σ (.int 0) (Nat.le_refl _) rfl ?_
    rw [t8]
    exact g2
  · rw [decide_eq_false e]
    rw [if_neg e] at g2
    refine (ie_iconst d6 rfl : IE lawM lD (wt stk) (pc + 6 + 3) (eK (.int 1)) (pc + 6 + 3 + 1)) X _ stk σ σ (.int 1) (Nat.le_refl _) rfl ?_
    exact (jp_go d7 t7 : JP lawM lD (pc + 6 + 3 + 1) fin) X _ _ σ g2
theorem fV_obj {ci r : Nat} {f : XF} {as : List Value} {V : Nat → Value} {q : Option (Option Value × ST)} (h : σ.1 r = some (.inr (ci, V))) (e : f (.ref r :: as) σ = q) : fV ci f (.ref r :: as) σ = q := by
  unfold fV
  dsimp only
  rw [h]
  dsimp only
  rw [if_pos rfl]
  exact e
end Scr
/-- a case of the law's switch: it comes to the end of the switch with all as it should be -/
def CAS (b n : Nat) (xs : Nat → Int32) (x y o i c0 s0 : Nat) (u v : Value) (pc : Nat) (σ : ST) : Prop := ∃ (σ' : ST) (c1 s1 : Nat) (u' v' : Value), HI c1 s1 x y o σ' ∧ c1 ≤ c0 + 1 ∧ s1 ≤ s0 + 6 ∧ ∀ X : RX, SCX X.1 b n xs → G lawM lD X 1544 (lwL b x y o i u' v') [] σ' → G lawM lD X pc (lwL b x y o i u v) [] σ
section Cas
variable {b n x y o i c0 s0 pc : Nat} {xs : Nat → Int32} {u v : Value} {σ : ST}
theorem lw_case {f g : XF} {as : List Value} {p1 p2 : Nat} {off : Int} (hs : STP f g as) (d0 : decode cL_law pc = .ok (.aload_n 1, 1)) (pu1 : PU b n xs (lwL b x y o i u v) (pc + 1) as p1) (c1 : CALL lawM lD 0 p1 (as.length + 1) (fV 11 f) (p1 + 3)) (d2 : decode cL_law (p1 + 3) = .ok (.aload_n 2, 1)) (pu2 : PU b n xs (lwL b x y o i u v) (p1 + 3 + 1) as p2) (c2 : CALL lawM lD 2 p2 (as.length + 1) (fV 12 g) (p2 + 3)) (de : decode cL_law (p2 + 3) = .ok (.if_icmp .eq off, 3)) (ht : ((p2 + 3 : Nat) : Int) + off = ((1544 : Nat) : Int)) (H : HI c0 s0 x y o σ) : CAS b n xs x y o i c0 s0 u v pc σ := by
  obtain ⟨Vx, ox⟩ := H.x
  obtain ⟨r, σ1, σ2, e1, ⟨Vy, oy⟩, e2, H2⟩ := hs c0 s0 x y o σ H
  refine ⟨σ2, c0, s0, u, v, H2, Nat.le_succ _, Nat.le_add_right _ _, fun X hX k => ?_⟩
  refine (ie_aload_n d0 rfl : IE lawM lD 0 pc (eA 1) (pc + 1)) X _ [] σ σ (.ref x) (Nat.le_refl _) rfl ?_
  refine pu1 X _ σ hX ?_
  have k1 : G lawM lD X (p1 + 3) (lwL b x y o i u v) [.int r] σ1 := by
    refine (ie_aload_n d2 rfl : IE lawM lD 2 (p1 + 3) (eA 2) (p1 + 3 + 1)) X _ _ σ1 σ1 (.ref y) (Nat.le_of_ble_eq_true rfl) rfl ?_
    refine pu2 X _ σ1 hX ?_
    have q := c2 X (lwL b x y o i u v) [.int r] σ1 σ2 (.ref y :: as) (some (.int r)) rfl (Nat.le_of_ble_eq_true rfl) (fV_obj oy e2) ?_
    · rw [List.reverse_cons, List.append_assoc] at q
      exact q
    · refine (j_icmp_eq de ht : J2 lawM lD (p2 + 3) q_eq 1544 (p2 + 3 + 3)) X _ _ σ2 (.int r) (.int r) true ?_ k
      show some (decide (r = r)) = some true
      rw [decide_eq_true rfl]
  have q := c1 X (lwL b x y o i u v) [] σ σ1 (.ref x :: as) (some (.int r)) rfl (Nat.le_refl _) (fV_obj ox e1) k1
  rw [List.reverse_cons, List.append_assoc] at q
  exact q
end Cas
theorem g_tsw {X : RX} {L stk : List Value} {σ : ST} {pc dk len : Nat} {w : Int32} {tg : List Nat} {dflt hi : Int} {offs : Array Int} (hd : decode cL_law pc = .ok (.tableswitch dflt 0 hi offs, len)) (hhi : hi + 1 = tg.length) (h31 : tg.length < 2 ^ 31) (hdk : (pc : Int) + dflt = (dk : Int)) (ht : ∀ j, j < tg.length → ∃ off, offs[j]? = some off ∧ (pc : Int) + off = ((tg.getD j 0 : Nat) : Int)) (k : G lawM lD X (if 0 ≤ w.toInt ∧ w.toInt ≤ hi then tg.getD w.toInt.toNat 0 else dk) L stk σ) : G lawM lD X pc L (.int w :: stk) σ := by
  refine g_pure k fun p l e R s m args below meth c H locs cells slots Q ls C _ _ ww => ?_
  by_cases z : 0 ≤ w.toInt ∧ w.toInt ≤ hi
  · rw [if_pos z] at ww
    obtain ⟨off, h3, h4⟩ := ht w.toInt.toNat (by omega)
    exact lv_tableIn C.1 C.2.1 hd (by omega) (by omega) (by rw [Int.sub_zero]; exact h3) h4 ww
  · rw [if_neg z] at ww
    exact lv_tableOut C.1 C.2.1 hd (by omega) hdk ww
