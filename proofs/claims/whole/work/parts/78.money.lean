/-! ===== what is owed ===== -/
/-- what the first n notes pay for house i -/
def knS (M : CT) (n i : Nat) : Int32 := psum (M.1 49) (M.1 50) (stFs (M.1 49) (M.1 50) n) (nI i) n
def balS (M : CT) (n i : Nat) : Int32 := M.1 38 i * M.1 26 i - (M.1 43 i + knS M n i)
theorem MA.of51 {M M' : CT} (h : ∀ j k, j ≠ 51 → M'.1 j k = M.1 j k) : MA M M' := fun j k r => h j k (fun e => by subst e; unfold RV at r; omega)
theorem NRel.le {K M : CT} {o n k : Nat} (g : NRel K M o n) (h : k ≤ n) : NRel K M o k := fun i hi => g i (by omega)
section Money
variable {H P K I M : CT} {l q f m h D n : Nat} {a1 a2 a3 : Int32}
theorem owing_ok {Q : Int32 → CT → Prop} {i k : Nat} (hk : k ≤ 60) (hi : i < 10) (hr : NRel K M 0 k) (e3 : K.1 3 i = M.1 38 i) (e7 : P.1 (33 + i) 7 = M.1 26 i) (e8 : K.1 8 i = M.1 43 i) (hQ : ∀ K', KA K K' → Q (balS M k i) K') : k_X0_owing P K (nI i) (nI k) Q := by
  unfold k_X0_owing
  simp (disch := omega) only [rdI_n, rdL_n, wrI_n, wrL_n, ixN_n, wrF_eq, vK_eq, jn_eq, rZ_ite, rZ_ite', rZ_0, rZ_1, bo0, bo1, it10, it11, it1n]
  refine known_ok hk hi hr fun K' h1 h2 => ?_
  rw [e3, e7, e8, i32_ss]
  exact hQ K' ⟨h1, h2⟩
theorem balanceOf_ok {Q : Int32 → CT → Prop} {i k : Nat} (hk : k ≤ 60) (hi : i < 10) (ha : AimB (M.1 49) (M.1 50) k) (hQ : ∀ M', M'.2 = M.2 → (∀ j k, j ≠ 51 → M'.1 j k = M.1 j k) → Q (balS M k i) M') : k_X12_balanceOf M (nI i) (nI k) Q := by
  unfold k_X12_balanceOf
  simp (disch := omega) only [rdI_n, rdL_n, wrI_n, wrL_n, ixN_n, wrF_eq, vK_eq, jn_eq, rZ_ite, rZ_ite', rZ_0, rZ_1, bo0, bo1, it10, it11, it1n]
  exact paidBy_ok hk hi ha fun M' h1 h2 => hQ M' h1 h2
theorem isNotes_y {k : Nat} {Q : Int32 → Prop} (hv : M.1 0 78 = nI n) (hn : n ≤ 60) (hk : k ≤ n) : k_X12_isNotes M (nI k) Q = Q 1 := by
  unfold k_X12_isNotes
  rw [rZ_ite, if_pos]
  refine ⟨fun z => nI_pos (show k < 2 ^ 31 by omega) (Int32.lt_trans z (by decide)), ?_⟩
  rw [hv, nI_lt' (by omega) (by omega)]
  omega
theorem isNotes_m {Q : Int32 → Prop} (hv : M.1 0 78 = nI n) (hn : n ≤ 60) : k_X12_isNotes M (-1) Q = Q 1 := by
  unfold k_X12_isNotes
  rw [rZ_ite, if_pos]
  refine ⟨by decide, ?_⟩
  rw [hv]
  exact fun z => nI_pos (show n < 2 ^ 31 by omega) (Int32.lt_trans z (by decide))
theorem isNotes_n {Q : Int32 → Prop} (hv : M.1 0 78 = nI n) (hn : n ≤ 60) (h1 : ¬ a2 = -1) (h2 : ¬ ∃ k, k ≤ n ∧ a2 = nI k) : k_X12_isNotes M a2 Q = Q 0 := by
  unfold k_X12_isNotes
  rw [rZ_ite, if_neg]
  rintro ⟨z1, z2⟩
  rcases i32_c3 a2 with y | y | ⟨k, hk, rfl⟩
  · exact z1 y
  · exact h1 y
  · rw [hv, nI_lt' (by omega) hk] at z2
    exact h2 ⟨k, by omega, rfl⟩
/-- the number of notes that is asked of -/
theorem note_arg {n : Nat} (hn : n ≤ 60) (a : Int32) : (∃ k, k ≤ n ∧ (if ¬ (a ≠ (-1 : Int32)) then nI n else a) = nI k ∧ ¬ a < -1 ∧ a ≤ nI n ∧ (a = -1 ∨ a = nI k)) ∨ ((a < -1 ∨ ¬ a ≤ nI n) ∧ ¬ a = -1 ∧ ¬ ∃ k, k ≤ n ∧ a = nI k) := by
  rcases i32_c3 a with y | rfl | ⟨k, hk, rfl⟩
  · right
    refine ⟨Or.inl y, fun e => ?_, ?_⟩
    · rw [e] at y
      exact absurd y (by decide)
    · rintro ⟨k, hk, rfl⟩
      exact nI_pos (show k < 2 ^ 31 by omega) (Int32.lt_trans y (by decide))
  · left
    exact ⟨n, Nat.le_refl n, if_pos (fun z => z rfl), by decide, Int32.le_trans (by decide) (nI_pos' (show n < 2 ^ 31 by omega)), Or.inl rfl⟩
  · have hm : ¬ nI k = -1 := by rw [m1_ne hk]; exact id
    by_cases hkn : k ≤ n
    · left
      exact ⟨k, hkn, if_neg (fun z => z hm), fun z => nI_pos hk (Int32.lt_trans z (by decide)), nI_le hkn (by omega), Or.inr rfl⟩
    · right
      refine ⟨Or.inr ?_, hm, ?_⟩
      · rw [nI_leI hk (by omega)]
        exact hkn
      · rintro ⟨j, hj, e⟩
        rw [nI_eq hk (by omega)] at e
        omega
theorem g_balance (g : CO H P K I M l q f m h D n) : k_X11_balance H P K a1 a2 fun x K' => k_X12_balance M a1 a2 fun y M' => x = y ∧ KA K K' ∧ MA M M' := by
  obtain ⟨-, -, ⟨⟨b, bp, bv⟩, -, -, -, -, gh, -⟩, ⟨⟨⟨-, n6, k0, k1⟩, gb, -, -, gn, -⟩, -, d2, -⟩, -⟩ := g
  have v38 : (sI M 0 0 0).1 0 38 = nI h := (th_at (by omega)).trans bv.2.2.2.2
  have v78 : (sI M 0 0 0).1 0 78 = nI n := (th_at (by omega)).trans d2
  unfold k_X11_balance
  by_cases c1 : ∃ i, i < h ∧ a1 = nI i
  · obtain ⟨i, hi, rfl⟩ := c1
    rw [hasHouse_y bp.2.2.2.2 (by omega) hi, if_neg (by decide), k1]
    rcases note_arg n6 a2 with ⟨k, hk, ek, z1, z2, z3⟩ | ⟨z1, z2, z3⟩
    · rw [if_neg z1, if_pos z2, ek]
      obtain ⟨-, ⟨-, e3, -⟩, -, -, -, -, e8⟩ := gb i hi
      rw [show oT false + i = i from Nat.zero_add i] at e3 e8
      refine owing_ok (M := M) (by omega) (by omega) (NRel.le gn hk) e3 (gh i hi).2.2.2.2.2.2.1.1 e8 fun K' hK => ?_
      show k_X12_balance _ _ _ _
      unfold k_X12_balance
      rw [wrF_eq, jn_eq, isHouse_y v38 (by omega) hi, if_neg (by decide)]
      have hN : ∀ Q : Int32 → Prop, k_X12_isNotes (sI M 0 0 0) a2 Q = Q 1 := by
        intro Q
        rcases z3 with rfl | rfl
        · exact isNotes_m v78 n6
        · exact isNotes_y v78 n6 hk
      rw [hN, if_neg (by decide), v78, ek]
      refine balanceOf_ok (by omega) (by omega) (NRel.le gn hk).aim fun M' h1 h2 => ⟨rfl, hK, MA.trans MA.th (MA.of51 h2)⟩
    · have hQ : (fun x K' => k_X12_balance M (nI i) a2 fun y M' => x = y ∧ KA K K' ∧ MA M M') (-2147483648) K := by
        show k_X12_balance _ _ _ _
        unfold k_X12_balance
        rw [wrF_eq, jn_eq, isHouse_y v38 (by omega) hi, if_neg (by decide), isNotes_n v78 n6 z2 z3, if_pos rfl]
        exact ⟨rfl, KA.refl K, MA.th⟩
      rcases z1 with z | z
      · rw [if_pos z]
        exact hQ
      · rw [if_neg z]
        split
        · exact hQ
        · exact hQ
  · rw [hasHouse_n bp.2.2.2.2 (by omega) c1, if_pos rfl]
    show k_X12_balance _ _ _ _
    unfold k_X12_balance
    rw [wrF_eq, jn_eq, isHouse_n v38 (by omega) c1, if_pos rfl]
    exact ⟨rfl, KA.refl K, MA.th⟩
theorem g_owed (g : CO H P K I M l q f m h D n) : k_X11_owed H P K a1 fun x K' => k_X12_owed M a1 fun y M' => x = y ∧ KA K K' ∧ MA M M' := by
  obtain ⟨-, -, ⟨⟨b, bp, bv⟩, -, -, -, -, gh, -⟩, ⟨⟨⟨-, n6, k0, k1⟩, gb, -, -, gn, -⟩, -, d2, -⟩, -⟩ := g
  have v37 : (sI M 0 0 0).1 0 37 = nI m := (th_at (by omega)).trans bv.2.2.2.1
  unfold k_X11_owed
  by_cases c1 : ∃ i, i < m ∧ a1 = nI i
  · obtain ⟨i, hi, rfl⟩ := c1
    rw [hasMan_y bp.2.2.2.1 (by omega) hi, if_pos (by decide)]
    refine sum_lp3 (g := fun j => if M.1 44 j = nI i then mxI 0 (balS M n j) else 0) (N := h) (J := KA K) (E := fun x K' => k_X12_owed M (nI i) fun y M' => x = y ∧ KA K K' ∧ MA M M') (by omega) (fun R s j c hc hj hr => ?_) (fun R s c hc hE => ?_) (KA.refl K) (fun c hc => ?_)
    · obtain ⟨⟨e1, -⟩, ⟨-, e3, -⟩, -, -, -, -, e8⟩ := gb j hj
      rw [show oT false + j = j from Nat.zero_add j] at e1 e3 e8
      rw [bp.2.2.2.2, if_neg (nI_ge hj (by omega)), rdI_n (by omega) (by omega), hc.2 1 j (by decide), e1, nI_1]
      refine ite_b (fun z => ?_) fun z => ?_
      · have := hr c hc
        rw [if_neg z, Int32.add_zero] at this
        exact this
      · have z' : M.1 44 j = nI i := Classical.not_not.mp z
        rw [hc.2 0 1 (by decide), k1]
        refine owing_ok (M := M) (by omega) (by omega) (gn.mvK hc) ((hc.2 3 j (by decide)).trans e3) (gh j hj).2.2.2.2.2.2.1.1 ((hc.2 8 j (by decide)).trans e8) fun K' hK => ?_
        rw [vK_eq]
        have := hr K' (hc.trans hK)
        rw [if_pos z'] at this
        exact this
    · rw [bp.2.2.2.2, if_pos (Int32.le_refl _)]
      exact hE
    · unfold k_X12_owed
      rw [wrF_eq, isMan_y v37 (by omega) hi, if_pos (by decide)]
      refine sum_lp3 (g := fun j => if M.1 44 j = nI i then mxI 0 (balS M n j) else 0) (N := h) (J := fun M' => ∀ j k, ¬ j = 51 → ¬ (j = 0 ∧ k = 0) → M'.1 j k = M.1 j k) (E := fun y M' => _ = y ∧ KA K c ∧ MA M M') (by omega) (fun R s j d hd hj hr => ?_) (fun R s d hd hE => ?_) (fun j k _ h2 => th_at h2) (fun d hd => ⟨rfl, hc, fun j k r => hd j k (by rintro rfl; unfold RV at r; omega) (by rintro ⟨rfl, rfl⟩; unfold RV at r; omega)⟩)
      · rw [hd 0 38 (by decide) (by decide), bv.2.2.2.2, if_neg (nI_ge hj (by omega)), rdI_n (by omega) (by omega), hd 44 j (by decide) (by omega), nI_1]
        refine ite_b (fun z => ?_) fun z => ?_
        · have := hr d hd
          rw [if_neg z, Int32.add_zero] at this
          exact this
        · have z' : M.1 44 j = nI i := Classical.not_not.mp z
          rw [hd 0 78 (by decide) (by decide), d2]
          have hf : ∀ j, ¬ j = 51 → ¬ j = 0 → d.1 j = M.1 j := fun j h1 h2 => funext fun k => hd j k h1 fun q => h2 q.1
          refine balanceOf_ok (by omega) (by omega) ?_ fun M' h1 h2 => ?_
          · rw [hf 49 (by decide) (by decide), hf 50 (by decide) (by decide)]
            exact gn.aim
          · rw [vK_eq]
            have := hr M' fun j k q1 q2 => (h2 j k q1).trans (hd j k q1 q2)
            rw [if_pos z'] at this
            unfold balS knS
            rw [hf 38 (by decide) (by decide), hf 26 (by decide) (by decide), hf 43 (by decide) (by decide), hf 49 (by decide) (by decide), hf 50 (by decide) (by decide)]
            exact this
      · rw [hd 0 38 (by decide) (by decide), bv.2.2.2.2, if_pos (Int32.le_refl _)]
        exact hE
  · rw [hasMan_n bp.2.2.2.1 (by omega) c1, if_neg (by decide)]
    show k_X12_owed _ _ _
    unfold k_X12_owed
    rw [wrF_eq, isMan_n v37 (by omega) c1, if_neg (by decide)]
    exact ⟨rfl, KA.refl K, MA.th⟩
end Money
