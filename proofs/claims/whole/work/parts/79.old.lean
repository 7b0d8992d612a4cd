/-! ===== the oldest that is owed; notes made; what was wiped ===== -/
theorem psum_nat {nh ns F : Nat → Int32} {h : Nat} : ∀ {k : Nat}, (∀ i, i < k → nh i = nI h → ∃ s : Nat, s ≤ 9999 ∧ ns i = nI s) → ∃ s : Nat, s ≤ 9999 * k ∧ psum nh ns F (nI h) k = nI s
  | 0, _ => ⟨0, by omega, rfl⟩
  | k + 1, hb => by
    obtain ⟨s, hs, e⟩ := psum_nat (nh := nh) (ns := ns) (F := F) (h := h) (k := k) fun i hi => hb i (by omega)
    rw [psum_s, e]
    by_cases z : F k = 0 ∧ nh k = nI h
    · obtain ⟨t, ht, et⟩ := hb k (by omega) z.2
      rw [if_pos z, et, nI_add]
      exact ⟨s + t, by omega, rfl⟩
    · rw [if_neg z, Int32.add_zero]
      exact ⟨s, by omega, rfl⟩
/-- the r-th day from d on for which b is so -/
def nthD (b : Nat → Bool) : Nat → Nat → Nat → Int32
  | 0, _, _ => -1
  | l + 1, d, r => if b d = true then (if r = 0 then nI d else nthD b l (d + 1) (r - 1)) else nthD b l (d + 1) r
theorem nthD_eq (b : Nat → Bool) : ∀ l d r, nthD b l d r = if r < ((List.range' d l).filter b).length then nI (((List.range' d l).filter b).getD r 0) else -1
  | 0, d, r => by simp [nthD]
  | l + 1, d, r => by
    unfold nthD
    rw [List.range'_succ]
    by_cases hb : b d = true
    · rw [if_pos hb, List.filter_cons_of_pos hb]
      cases r with
      | zero => simp
      | succ r =>
        rw [if_neg (by omega), Nat.add_sub_cancel, nthD_eq b l (d + 1) r]
        simp
    · rw [if_neg hb, List.filter_cons_of_neg hb]
      exact nthD_eq b l (d + 1) r
section Old
variable {H P K I M : CT} {l q f m h D n : Nat} {a1 a2 a3 : Int32}
theorem day_mem {u : Bool} {d : Nat} (g : BDay K M u m h d) {p : Nat × Nat} (hp : p ∈ dayL M u d) (h9 : h ≤ 10) (m9 : m ≤ 3) : p.1 < h ∧ p.2 < m := by
  obtain ⟨⟨k, hk, ek, g3⟩, -⟩ := g
  unfold dayL at hp
  rw [List.mem_map] at hp
  obtain ⟨j, hj, rfl⟩ := hp
  rw [ek, nv_n (by omega), List.mem_range] at hj
  obtain ⟨a, b, ha, hb, ea, eb⟩ := g3 j hj
  dsimp only
  rw [ea, eb, nv_n (by omega), nv_n (by omega)]
  exact ⟨ha, hb⟩
theorem day_msk {u : Bool} {d : Nat} (g : BDay K M u m h d) (h9 : h ≤ 10) (m9 : m ≤ 3) : mskL ((dayL M u d).map Prod.fst) < 2 ^ 10 := by
  refine mskL_lt fun a ha => ?_
  rw [List.mem_map] at ha
  obtain ⟨p, hp, rfl⟩ := ha
  have := (day_mem g hp h9 m9).1
  omega
/-- the answer that both give -/
def oldS (wl : List Nat) (p S : Nat) : Int32 := if p = 0 then -1 else if S / p < wl.length then nI (wl.getD (S / p) 0) else -1
theorem firstUnpaid_ok {Q : Int32 → CT → Prop} {i k p S : Nat} (gB : BRel K.1 K M false m h D n) (h9 : h ≤ 10) (m9 : m ≤ 3) (hi : i < h) (hk : k ≤ n) (e7 : P.1 (33 + i) 7 = nI p) (hp : p ≤ 999) (hS : S ≤ 700000) (e8 : M.1 43 i + knS M k i = nI S) (hQ : ∀ K', KA K K' → Q (oldS (wipL M false D i) p S) K') : k_X0_firstUnpaid P K (nI i) (nI k) Q := by
  obtain ⟨⟨D2, n6, k0, k1⟩, gb, gd, -, gn, -⟩ := gB
  unfold k_X0_firstUnpaid
  rw [ixN_n (by omega) (by omega), vK_eq, e7]
  by_cases p0 : p = 0
  · subst p0
    rw [if_neg (by decide)]
    exact hQ K (KA.refl K)
  rw [if_pos (by rw [li_0, nI_lt' (by omega) (by omega)]; omega), rdI_n (by omega) (by omega)]
  refine known_ok (M := M) (by omega) (by omega) (NRel.le gn hk) fun K1 h1 h2 => ?_
  have e88 := (gb i hi).2.2.2.2.2.2
  rw [show oT false + i = i from Nat.zero_add i] at e88
  have eS : K.1 8 i + psum (M.1 49) (M.1 50) (stFs (M.1 49) (M.1 50) k) (nI i) k = nI S := by rw [e88]; exact e8
  rw [eS, dvI_eq (nI_ne0 (by omega) (by omega)), pk_div (by omega) (by omega) (by omega)]
  have hq : S / p ≤ S := Nat.div_le_self _ _
  have hQ1 : Q (nthD (fun d => decide (i ∈ (dayL M false d).map Prod.fst)) D 0 (S / p)) K1 := by
    have := hQ K1 ⟨h1, h2⟩
    unfold oldS at this
    rw [if_neg p0] at this
    rw [nthD_eq, ← List.range_eq_range']
    exact this
  refine LP2.ind (fun v w => ∃ d r, d ≤ D ∧ r ≤ S ∧ v = nI r ∧ w = nI d ∧ Q (nthD (fun d => decide (i ∈ (dayL M false d).map Prod.fst)) (D - d) d r) K1) (fun _ w => D - w.toNatClampNeg) ?_ ⟨0, S / p, by omega, hq, rfl, rfl, hQ1⟩
  rintro R v w ⟨d, r, hd, hr, rfl, rfl, hq'⟩ ih
  rw [h2 0 0 (by decide), k0]
  by_cases hdD : d < D
  · obtain ⟨u, e⟩ : ∃ u, D - d = u + 1 := ⟨D - d - 1, by omega⟩
    have g9 := gd d hdD
    rw [if_neg (nI_ge hdD (by omega)), li_200, if_neg (nI_ge (by omega) (by omega)), rdI_n (by omega) (by omega), h2 9 d (by decide), g9.2.2.1, bit_n (Nat.lt_of_lt_of_le (day_msk g9 h9 m9) (by decide)) (by omega)]
    simp only [it10, mskL_bit]
    rw [e] at hq'
    unfold nthD at hq'
    by_cases hb : decide (i ∈ (dayL M false d).map Prod.fst) = true
    · rw [if_pos hb] at hq'
      rw [if_neg (fun z => z hb)]
      by_cases r0 : r = 0
      · rw [if_pos r0] at hq'
        rw [if_neg (by rw [r0]; exact fun z => z rfl)]
        exact hq'
      · rw [if_neg r0] at hq'
        obtain ⟨r', rfl⟩ : ∃ r', r = r' + 1 := ⟨r - 1, by omega⟩
        rw [if_pos (nI_ne0 (by omega) (by omega)), m1_add, nI_1]
        exact ih _ _ ⟨d + 1, r', by omega, by omega, rfl, rfl, by rw [show D - (d + 1) = u by omega]; exact hq'⟩ (by rw [nI_clamp (by omega), nI_clamp (by omega)]; omega)
    · rw [if_neg hb] at hq'
      rw [if_pos hb, nI_1]
      exact ih _ _ ⟨d + 1, r, by omega, by omega, rfl, rfl, by rw [show D - (d + 1) = u by omega]; exact hq'⟩ (by rw [nI_clamp (by omega), nI_clamp (by omega)]; omega)
  · have e : d = D := by omega
    subst e
    rw [Nat.sub_self] at hq'
    rw [if_pos (Int32.le_refl _)]
    exact hq'
theorem g_oldest (g : CO H P K I M l q f m h D n) : k_X11_oldest H P K a1 a2 fun x K' => k_X12_oldest M a1 a2 fun y M' => x = y ∧ KA K K' ∧ MA M M' := by
  obtain ⟨-, -, ⟨⟨b, bp, bv⟩, -, -, -, -, gh, -⟩, ⟨gB, -, d2, -⟩, -⟩ := g
  have gB' := gB
  obtain ⟨⟨D2, n6, k0, k1⟩, gb, gd, gw, gn, gs⟩ := gB
  have v38 : (sI M 0 0 0).1 0 38 = nI h := (th_at (by omega)).trans bv.2.2.2.2
  have v78 : (sI M 0 0 0).1 0 78 = nI n := (th_at (by omega)).trans d2
  unfold k_X11_oldest
  by_cases c1 : ∃ i, i < h ∧ a1 = nI i
  · obtain ⟨i, hi, rfl⟩ := c1
    rw [hasHouse_y bp.2.2.2.2 (by omega) hi, if_neg (by decide), k1]
    rcases note_arg n6 a2 with ⟨k, hk, ek, z1, z2, z3⟩ | ⟨z1, z2, z3⟩
    · rw [if_neg z1, if_pos z2, ek]
      obtain ⟨-, ⟨-, e3, dd, tt, pd, hdd, htt, hpd, ed, et, epd⟩, -, -, -, -, e8⟩ := gb i hi
      obtain ⟨p, hp, ep⟩ := (gh i hi).2.2.2.2.2.2.1.2
      have e7 := (gh i hi).2.2.2.2.2.2.1.1
      rw [show oT false + i = i from Nat.zero_add i] at e3 e8
      obtain ⟨s, hs, es⟩ := psum_nat (nh := M.1 49) (ns := M.1 50) (F := stFs (M.1 49) (M.1 50) k) (h := i) (k := k) fun j hj ej => by
        have := gs j (by omega)
        rw [show oN false + j = j from Nat.zero_add j] at this
        refine this (fun z => ?_)
        rw [ej, m1_ne (by omega)] at z
        exact z
      have eS : M.1 43 i + knS M k i = nI (pd + s) := by
        unfold knS
        rw [← e8, epd, es, nI_add]
      have hw := gw i hi
      have hwl : (wipL M false D i).length = tt := by
        have := hw.1
        rw [et] at this
        have hl : (wipL M false D i).length ≤ D := by
          unfold wipL
          exact Nat.le_trans (List.length_filter_le _ _) (by rw [List.length_range]; exact Nat.le_refl _)
        exact ((nI_eq (by omega) (by omega)).mp this).symm
      refine firstUnpaid_ok (M := M) (p := p) (S := pd + s) gB' (by omega) (by omega) hi hk (e7.trans ep) hp (by omega) eS fun K' hK => ?_
      show k_X12_oldest _ _ _ _
      unfold k_X12_oldest
      rw [wrF_eq, isHouse_y v38 (by omega) hi, if_neg (by decide)]
      have hN : ∀ Q : Int32 → Prop, k_X12_isNotes (sI M 0 0 0) a2 Q = Q 1 := by
        intro Q
        rcases z3 with rfl | rfl
        · exact isNotes_m v78 n6
        · exact isNotes_y v78 n6 hk
      rw [hN, if_pos (by decide), v78, ek]
      refine paidBy_ok (by omega) (by omega) (NRel.le gn hk).aim fun M' h1 h2 => ?_
      have eS' : (sI M 0 0 0).1 43 i + psum ((sI M 0 0 0).1 49) ((sI M 0 0 0).1 50) (stFs ((sI M 0 0 0).1 49) ((sI M 0 0 0).1 50) k) (nI i) k = nI (pd + s) := eS
      rw [eS']
      have r38 : M'.1 38 i = nI tt := ((h2 38 i (by decide)).trans (th_at (by omega))).trans (e3.symm.trans et)
      have r26 : M'.1 26 i = nI p := ((h2 26 i (by decide)).trans (th_at (by omega))).trans ep
      have fin : ∀ y : Int32, y = oldS (wipL M false D i) p (pd + s) → (oldS (wipL M false D i) p (pd + s) = y ∧ KA K K' ∧ MA M M') := fun y hy => ⟨hy.symm, hK, MA.trans MA.th (MA.of51 h2)⟩
      refine LP1.ind (fun v => ∃ k, k ≤ tt ∧ k * p ≤ pd + s ∧ v = nI k) (fun v => tt - v.toNatClampNeg) ?_ ⟨0, by omega, by omega, rfl⟩
      rintro R v ⟨j, hj, hjp, rfl⟩ ih
      rw [rdI_n (by omega) (by omega), r38]
      by_cases hjt : j < tt
      · have hm : (j + 1) * p ≤ 38 * 999 := Nat.mul_le_mul (by omega) hp
        rw [if_neg (nI_ge hjt (by omega)), rdI_n (by omega) (by omega), r26, nI_1, pk_mul]
        refine ite_b (fun z => ?_) fun z => ?_
        · rw [nI_le' (by omega) (by omega)] at z
          exact ih _ ⟨j + 1, by omega, z, rfl⟩ (by rw [nI_clamp (by omega), nI_clamp (by omega)]; omega)
        · rw [nI_le' (by omega) (by omega)] at z
          rw [li_30, pk_mul, nI_add, rdI_n (by omega) (by omega)]
          refine fin _ ?_
          have hw2 := hw.2 j (by omega)
          rw [show oW false + 30 * i + j = 30 * i + j by show 0 + 30 * i + j = _; omega] at hw2
          rw [(h2 45 _ (by decide)).trans (th_at (by omega)), hw2]
          have p0 : ¬ p = 0 := by
            rintro rfl
            omega
          have hdv : (pd + s) / p = j := by
            rw [Nat.mul_comm] at hjp
            rw [Nat.mul_comm] at z
            exact Nat.div_eq_of_lt_le (by rw [Nat.mul_comm]; exact hjp) (by rw [Nat.mul_comm]; omega)
          unfold oldS
          rw [if_neg p0, hdv, if_pos (by omega)]
      · have ejt : j = tt := by omega
        subst ejt
        rw [if_pos (Int32.le_refl _)]
        refine fin _ ?_
        unfold oldS
        by_cases p0 : p = 0
        · rw [if_pos p0]
        · rw [if_neg p0, if_neg]
          rw [hwl]
          have : j ≤ (pd + s) / p := (Nat.le_div_iff_mul_le (by omega)).mpr hjp
          omega
    · have hQ : (fun x K' => k_X12_oldest M (nI i) a2 fun y M' => x = y ∧ KA K K' ∧ MA M M') (-2) K := by
        show k_X12_oldest _ _ _ _
        unfold k_X12_oldest
        rw [wrF_eq, isHouse_y v38 (by omega) hi, if_neg (by decide), isNotes_n v78 n6 z2 z3, if_neg (by decide)]
        exact ⟨rfl, KA.refl K, MA.th⟩
      rcases z1 with z | z
      · rw [if_pos z]
        exact hQ
      · rw [if_neg z]
        split
        · exact hQ
        · exact hQ
  · rw [hasHouse_n bp.2.2.2.2 (by omega) c1, if_pos rfl]
    show k_X12_oldest _ _ _ _
    unfold k_X12_oldest
    rw [wrF_eq, isHouse_n v38 (by omega) c1, if_pos rfl]
    exact ⟨rfl, KA.refl K, MA.th⟩
end Old
