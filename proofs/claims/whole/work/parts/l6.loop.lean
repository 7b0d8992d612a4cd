/-! ===== the law: its loop and its beginning ===== -/
theorem lin_0 : Cond.instantiable RX0 16 ∈ lwG := inG_t2 137 rfl rfl
theorem lin_1 : Cond.instantiable RX1 14 ∈ lwG := inG_t4 135 rfl rfl
theorem lin_2 : Cond.instantiable RX2 2 ∈ lwG := inG_t1 87 rfl rfl
theorem lin_3 : Cond.instantiable RX3 8 ∈ lwG := inG_t1 103 rfl rfl
theorem lin_4 : Cond.instantiable RX4 11 ∈ lwG := inG_t1 176 rfl rfl
theorem lin_5 : Cond.instantiable RX5 4 ∈ lwG := inG_t1 150 rfl rfl
theorem lin_6 : Cond.instantiable RX6 13 ∈ lwG := inG_t1 34 rfl rfl
theorem lin_7 : Cond.instantiable RX7 15 ∈ lwG := inG_t2 83 rfl rfl
theorem lin_8 : Cond.instantiable RX8 7 ∈ lwG := inG_t1 40 rfl rfl
theorem lin_9 : Cond.instantiable RX9 17 ∈ lwG := inG_t5 209 rfl rfl
theorem lin_10 : Cond.instantiable RX10 9 ∈ lwG := inG_t5 31 rfl rfl
theorem lin_11 : Cond.instantiable RX11 13 ∈ lwG := inG_t1 26 rfl rfl
theorem lin_12 : Cond.instantiable RX12 108 ∈ lwG := inG_t7 71 rfl rfl
theorem lcl_l8 : Cond.classLink RL 8 RX11 ∈ lwG := inG_t1 25 rfl rfl
theorem lcl_l18 : Cond.classLink RL 18 RX12 ∈ lwG := inG_t7 70 rfl rfl
theorem lml_17 : Cond.methodLink RL 17 yX11_init ∈ lwG := inG_t1 27 rfl rfl
theorem lci_X11 : CeeI yX11_init cX11_init 1 0 := ⟨inG_t1 28 rfl rfl, inG_t1 1 rfl rfl, inG_t1 29 rfl rfl, by decide +kernel, by decide, rfl⟩
theorem lii_X11 : Cond.initialized RX11 ∈ lwG := inG_t1 1 rfl rfl
theorem lml_20 : Cond.methodLink RL 20 yX12_init ∈ lwG := inG_t7 72 rfl rfl
theorem lci_X12 : CeeI yX12_init cX12_init 1 0 := ⟨inG_t7 73 rfl rfl, inG_t1 10 rfl rfl, inG_t7 74 rfl rfl, by decide +kernel, by decide, rfl⟩
theorem lii_X12 : Cond.initialized RX12 ∈ lwG := inG_t1 10 rfl rfl
theorem lar_l : Cond.arrayClass .long ∈ lwG := inG_t2 213 rfl rfl
section Lp
variable {X : RX} {b n x y o i c0 s0 : Nat} {xs : Nat → Int32} {u v : Value} {σ : ST}
theorem lw_pre (hX : SCX X.1 b n xs) (hn : n ≤ 3072) (hi : i + 6 ≤ n) (k : G lawM lD X (if 0 ≤ (xs i &&& 63).toInt ∧ (xs i &&& 63).toInt ≤ 32 then lwT.getD (xs i &&& 63).toInt.toNat 0 else 1544) (lwL b x y o i u v) [] σ) : G lawM lD X 33 (lwL b x y o i u v) [] σ := by
  refine (ie_aload_n dL_law_33 rfl : IE lawM lD 0 33 (eA 0) 34) X _ [] σ σ (.ref b) (Nat.le_refl _) rfl ?_
  refine (ie_iload dL_law_34 : IE lawM lD 2 34 (eI 4) 36) X _ _ σ σ (.int (nI i)) (Nat.le_of_ble_eq_true rfl) rfl ?_
  refine g_sld (pc := 36) hX hn dL_law_36 (by omega) ?_
  refine (ie_bipush dL_law_37 (by decide) : IE lawM lD 2 37 (eK (.int 63)) 39) X _ _ σ σ (.int 63) (Nat.le_of_ble_eq_true rfl) rfl ?_
  refine (r_iand dL_law_39 : R2 lawM lD 39 o_iand 40) X _ [] σ (.int (xs i)) (.int 63) (.int (xs i &&& 63)) rfl ?_
  exact g_tsw (pc := 40) (dk := 1544) (tg := lwT) dL_law_40 (by decide) (by decide) (by decide) lw_to k
theorem lw_body (hn : n ≤ 3072) (hi : i + 6 ≤ n) (H : HI c0 s0 x y o σ) : CAS b n xs x y o i c0 s0 u v 33 σ := by
  by_cases z : 0 ≤ (xs i &&& 63).toInt ∧ (xs i &&& 63).toInt ≤ 32
  · obtain ⟨σ', c1, s1, u', v', H', hc, hs, k⟩ := lw_cases (b := b) (xs := xs) (u := u) (v := v) hn hi H (xs i &&& 63).toInt.toNat (by omega)
    refine ⟨σ', c1, s1, u', v', H', hc, hs, fun X hX g => lw_pre hX hn hi ?_⟩
    rw [if_pos z]
    exact k X hX g
  · refine ⟨σ, c0, s0, u, v, H, Nat.le_succ _, Nat.le_add_right _ _, fun X hX g => lw_pre hX hn hi ?_⟩
    rw [if_neg z]
    exact g
theorem lt_six (hn : n ≤ 3072) (hi : i ≤ n) : (nI n - 6 < nI i) ↔ n < i + 6 := by
  by_cases h6 : n < 6
  · have e : nI n - 6 < 0 := by
      rcases (show n = 0 ∨ n = 1 ∨ n = 2 ∨ n = 3 ∨ n = 4 ∨ n = 5 by omega) with rfl | rfl | rfl | rfl | rfl | rfl <;> decide
    exact ⟨fun _ => by omega, fun _ => Int32.lt_of_lt_of_le e (nI_pos' (by omega))⟩
  · rw [show (6 : Int32) = nI 6 from rfl, nI_sub' (by omega), nI_lt' (by omega) (by omega)]
    omega
theorem lw_test (hX : SCX X.1 b n xs) (hn : n ≤ 3072) (hi : i ≤ n) (k : G lawM lD X (if n < i + 6 then 1550 else 33) (lwL b x y o i u v) [] σ) : G lawM lD X 23 (lwL b x y o i u v) [] σ := by
  refine (ie_iload dL_law_23 : IE lawM lD 0 23 (eI 4) 25) X _ [] σ σ (.int (nI i)) (Nat.le_refl _) rfl ?_
  refine (ie_aload_n dL_law_25 rfl : IE lawM lD 2 25 (eA 0) 26) X _ _ σ σ (.ref b) (Nat.le_of_ble_eq_true rfl) rfl ?_
  refine g_slen (pc := 26) hX dL_law_26 ?_
  refine (ie_bipush dL_law_27 (by decide) : IE lawM lD 4 27 (eK (.int 6)) 29) X _ _ σ σ (.int 6) (Nat.le_of_ble_eq_true rfl) rfl ?_
  refine (r_isub dL_law_29 : R2 lawM lD 29 o_isub 30) X _ _ σ (.int (nI n)) (.int 6) (.int (nI n - 6)) rfl ?_
  refine (j_icmp_gt dL_law_30 (tgt := 1550) (by decide) : J2 lawM lD 30 q_gt 1550 33) X _ [] σ (.int (nI i)) (.int (nI n - 6)) (decide (n < i + 6)) ?_ ?_
  · show some (decide (nI n - 6 < nI i)) = _
    exact congrArg some (decide_eq_decide.mpr (lt_six hn hi))
  · by_cases z : n < i + 6
    · rw [decide_eq_true z]
      rw [if_pos z] at k
      exact k
    · rw [decide_eq_false z]
      rw [if_neg z] at k
      exact k
theorem HI.le (h : HI c0 s0 x y o σ) : σ.2.1 ≤ c0 ∧ σ.2.2 ≤ s0 := by
  obtain ⟨A, d, H, P, S, R, K, F, W, T, N, U, I, M, O, -, -, -, hσ, ⟨-, hc, hs⟩, -⟩ := h
  rw [hσ.2, ← hc, ← hs]
  exact ⟨Nat.le_add_right _ _, Nat.le_add_right _ _⟩
theorem lw_loop {Y : YX} (hX : SCX Y b n xs) (hn : n ≤ 3072) : ∀ (m i : Nat) (u v : Value) (c0 s0 : Nat) (σ : ST), i ≤ n → n < i + 6 * m + 6 → HI c0 s0 x y o σ → ∃ σf : ST, (σf.2.1 ≤ c0 + m ∧ σf.2.2 ≤ s0 + 6 * m) ∧ ∀ st : Nat × Nat, G lawM lD (Y, st, .inl (some (.int 1)), σf) 23 (lwL b x y o i u v) [] σ := by
  have out : ∀ (i : Nat) (u v : Value) (σ : ST) (st : Nat × Nat), G lawM lD (Y, st, .inl (some (.int 1)), σ) 1550 (lwL b x y o i u v) [] σ := fun i u v σ st => (is_RZ (ie_iconst dL_law_1550 rfl) dL_law_1551 rfl : IS lawM lD 1550 (sRZ (eK (.int 1))) []) _ _ _ σ σ (.inr (some (.int 1))) rfl ⟨rfl, rfl⟩
  intro m
  induction m with
  | zero =>
    intro i u v c0 s0 σ hi hm H
    refine ⟨σ, ⟨by have := H.le; omega, by have := H.le; omega⟩, fun st => lw_test hX hn hi ?_⟩
    rw [if_pos (by omega)]
    exact out i u v σ st
  | succ m ih =>
    intro i u v c0 s0 σ hi hm H
    by_cases z : n < i + 6
    · refine ⟨σ, ⟨by have := H.le; omega, by have := H.le; omega⟩, fun st => lw_test hX hn hi ?_⟩
      rw [if_pos z]
      exact out i u v σ st
    · obtain ⟨σ', c1, s1, u', v', H', hc, hs, k⟩ := lw_body (b := b) (i := i) (xs := xs) (u := u) (v := v) hn (by omega) H
      obtain ⟨σf, ⟨f1, f2⟩, hf⟩ := ih (i + 6) u' v' c1 s1 σ' (by omega) (by omega) H'
      refine ⟨σf, ⟨by omega, by omega⟩, fun st => lw_test hX hn hi ?_⟩
      rw [if_neg z]
      refine k (Y, st, .inl (some (.int 1)), σf) hX ?_
      refine (is_inc dL_law_1544 (by decide) : IS lawM lD 1544 (sInc 4 6) [1547]) _ _ (lwL b x y o (i + 6) u' v') σ' σ' (.inl 0) ?_ ⟨1547, rfl, (jp_go dL_law_1547 (by decide) : JP lawM lD 1547 23) _ _ _ σ' (hf st)⟩
      unfold sInc
      dsimp only [lwL, List.getElem?_cons_zero, List.getElem?_cons_succ]
      rw [show Int32.ofInt 6 = nI 6 from rfl, nI_add]
      rfl
end Lp
theorem rf_11 {A : Nat → Nat} {d : LZD} : rfD A d 11 = fun _ _ => none := rfl
theorem rf_12 {A : Nat → Nat} {d : LZD} : rfD A d 12 = fun _ _ => none := rfl
theorem lw_i1 : IS lawM lD 0 (sStA 1 (eNew 11 13 (dV tyX11 13) m_X11_init [])) [4 + 3 + 1] := is_stA (ie_new ck_11 dL_law_0 lcl_l8 lin_11 lii_X11 dV_ok dL_law_3 ia_0 i_X11_init lci_X11 rfl dL_law_4 (Or.inl lml_17) (by decide) (by decide)) (Or.inr ⟨_, dL_law_7, rfl, rfl⟩) (by decide)
theorem lw_i2 : IS lawM lD 8 (sStA 2 (eNew 12 108 (dV tyX12 108) m_X12_init [])) [8 + 4 + 3 + 1] := is_stA (ie_new ck_12 dL_law_8 lcl_l18 lin_12 lii_X12 dV_ok dL_law_11 ia_0 i_X12_init lci_X12 rfl dL_law_12 (Or.inl lml_20) (by decide) (by decide)) (Or.inr ⟨_, dL_law_15, rfl, rfl⟩) (by decide)
theorem lw_i3 : IS lawM lD 16 (sStA 3 (eNA .long zL (eK (.int 1)))) [16 + 1 + 2 + 1] := is_stA (ie_newL (ie_iconst dL_law_16 rfl) dL_law_17 lar_l) (Or.inr ⟨_, dL_law_19, rfl, rfl⟩) (by decide)
theorem lw_i4 : IS lawM lD 20 (sStI 4 (eK (.int 0))) [20 + 1 + 2] := is_stI (ie_iconst dL_law_20 rfl) (Or.inl ⟨dL_law_21, rfl⟩) (by decide)
theorem stA_of {i r : Nat} {e : XE} {L L' : List Value} {σ σ' : ST} (h : e L σ = some (.ref r, σ')) (hL : sto1 L i (.ref r) = L') : sStA i e L σ = some (.inl 0, L', σ') := by
  unfold sStA
  rw [h, ← hL]
  rfl
def sA (z sl' : Nat) (h : HP) : HP := bOv (z + 93) kLay (c00.1, c00.2, rfD (stA z) (stD z sl') 4) (bOv (z + 88) rLay (frR.1, frR.2, rfD (stA z) (stD z sl') 3) (bOv (z + 45) pLay (frP.1, frP.2, rfD (stA z) (stD z sl') 2) (bOv (z + 2) pLay (frP.1, frP.2, rfD (stA z) (stD z sl') 1) (bOv z hLay (frH.1, frH.2, rfD (stA z) (stD z sl') 0) h))))
def sB (z sl' : Nat) (h : HP) : HP := bOv (z + 108) mLay (frM.1, frM.2, rfD (stA z) (stD z sl') 11) (sA z sl' h)
theorem n_H {L : List Value} {z sl sl' t : Nat} {h : HP} (ht : t = sl + 6177) : eNew 11 13 (dV tyX11 13) m_X11_init [] L (h, z, sl) = some (.ref z, (sA z sl' h, z + 108, t)) := by
  subst ht
  exact st_new (σ := (h, z, sl)) (sl' := sl')
theorem n_M {L : List Value} {z sl' t t' : Nat} {h : HP} (ht : t' = t + 18330) : eNew 12 108 (dV tyX12 108) m_X12_init [] L (sA z sl' h, z + 108, t) = some (.ref (z + 108), (sB z sl' h, z + 168, t')) := by
  rw [st_newM, ht, show z + 108 + 60 = z + 168 from rfl]
  unfold sB
  rw [rf_11]
theorem n_O {L : List Value} {z sl' t t' : Nat} {h : HP} (ht : t' = t + 1) : eNA .long zL (eK (.int 1)) L (sB z sl' h, z + 168, t) = some (.ref (z + 168), (stS z sl' h, z + 169, t')) := by
  rw [st_newO, ht, show z + 168 + 1 = z + 169 from rfl]
  have e : stS z sl' h = bOv (z + 168) oLay (c00.1, c00.2, rfD (stA z) (stD z sl') 12) (sB z sl' h) := rfl
  rw [e, rf_12]
/-- from the law's entry to its loop -/
theorem lw_begin {X : RX} {b z sl t : Nat} {h : HP} (ht : t = sl + 24508) (k : G lawM lD X 23 (lwL b z (z + 108) (z + 168) 0 UV UV) [] (stS z t h, z + 169, t)) : G lawM lD X 0 [.ref b, UV, UV, UV, UV, UV, UV] [] (h, z, sl) := by
  obtain ⟨t1, h1⟩ : ∃ t1, t1 = sl + 6177 := ⟨_, rfl⟩
  obtain ⟨t2, h2⟩ : ∃ t2, t2 = t1 + 18330 := ⟨_, rfl⟩
  have h3 : t = t2 + 1 := by omega
  refine lw_i1 X _ [.ref b, .ref z, UV, UV, UV, UV, UV] (h, z, sl) _ (.inl 0) (stA_of (n_H (sl' := t) h1) rfl) ⟨8, rfl, ?_⟩
  refine lw_i2 X _ [.ref b, .ref z, .ref (z + 108), UV, UV, UV, UV] _ _ (.inl 0) (stA_of (n_M h2) rfl) ⟨16, rfl, ?_⟩
  refine lw_i3 X _ [.ref b, .ref z, .ref (z + 108), .ref (z + 168), UV, UV, UV] _ _ (.inl 0) (stA_of (n_O h3) rfl) ⟨20, rfl, ?_⟩
  exact lw_i4 X _ [.ref b, .ref z, .ref (z + 108), .ref (z + 168), .int 0, UV, UV] _ _ (.inl 0) rfl ⟨23, rfl, k⟩

