/-! ===== a day's ways: both sides ===== -/
theorem lushr_n {e s : Nat} (hs : s < 64) (he : e < 2 ^ 63) : ((lN e).toUInt64 >>> ((lN s).toUInt64 &&& Int64.toUInt64 63)).toInt64 = lN (e / 2 ^ s) := by
  apply lN_inj
  have h1 : (lN e).toUInt64.toNat = e := lN_bv (by omega)
  have h2 : (lN s).toUInt64.toNat = s := lN_bv (by omega)
  have h3 : (Int64.toUInt64 63).toNat = 2 ^ 6 - 1 := by decide
  have h4 : ((lN s).toUInt64 &&& Int64.toUInt64 63).toNat = s := by
    rw [UInt64.toNat_and, h2, h3, Nat.and_two_pow_sub_one_eq_mod, Nat.mod_eq_of_lt hs]
  have h5 : e / 2 ^ s < 2 ^ 63 := Nat.lt_of_le_of_lt (Nat.div_le_self _ _) he
  show ((lN e).toUInt64 >>> ((lN s).toUInt64 &&& Int64.toUInt64 63)).toNat = _
  rw [UInt64.toNat_shiftRight, h1, h4, Nat.mod_eq_of_lt hs, Nat.shiftRight_eq_div_pow, lN_bv (by omega)]
theorem hxL_at : ∀ (r : List Nat) (i : Nat), (∀ a ∈ r, a < 16) → hxL r / 16 ^ i % 16 = r.getD i 0
  | [], i, _ => by
    show 0 / 16 ^ i % 16 = 0
    rw [Nat.zero_div]
  | a :: r, 0, h => by
    have := h a List.mem_cons_self
    show (a + 16 * hxL r) / 16 ^ 0 % 16 = a
    rw [Nat.pow_zero, Nat.div_one]
    omega
  | a :: r, i + 1, h => by
    have h1 := h a List.mem_cons_self
    have ih := hxL_at r i fun x hx => h x (List.mem_cons_of_mem _ hx)
    show (a + 16 * hxL r) / 16 ^ (i + 1) % 16 = r.getD i 0
    rw [Nat.pow_succ, Nat.mul_comm (16 ^ i) 16, ← Nat.div_div_eq_div_mul, show (a + 16 * hxL r) / 16 = hxL r by omega]
    exact ih
section WayC
variable {K : CT} {D : Nat}
theorem wayHouse_ok {r : List Nat} {b i : Nat} {Q : Int32 → Prop} (hD : D < 200) (hb : b < 3) (hK : K.2 10 (3 * D + b) = lN (encL r)) (hl : r.length ≤ 10) (ha : ∀ a ∈ r, a < 16) (hi : i < r.length) : k_X0_wayHouse K (nI D) (nI b) (nI i) Q = Q (nI (r.getD i 0)) := by
  have e := encL_lt ha (by omega)
  have e4 : 16 ^ (r.length + 1) ≤ 16 ^ 11 := Nat.pow_le_pow_right (by decide) (by omega)
  have e6 : (16 : Nat) ^ 11 = 17592186044416 := by decide
  unfold k_X0_wayHouse
  rw [if_neg (nI_pos (by omega)), wayLength_ok hD hb hK hl ha, if_pos (nI_lt hi (by omega)), li_3, pk_mul, nI_add, show D * 3 + b = 3 * D + b by omega, rdL_n (by omega) (by omega), hK, li_4, pk_mul, nI_add, nI_l (by omega), lushr_n (by omega) (by omega), land15 (Nat.lt_of_le_of_lt (Nat.div_le_self _ _) (by omega)), lN_i]
  have x1 : 2 ^ (4 + 4 * i) = 16 * 16 ^ i := by
    rw [Nat.pow_add, Nat.pow_mul]
  have x2 : encL r / 16 = hxL r := by
    unfold encL
    omega
  rw [x1, ← Nat.div_div_eq_div_mul, x2, hxL_at r i ha]
theorem wayHouse_n {r : List Nat} {b : Nat} {x : Int32} {Q : Int32 → Prop} (hD : D < 200) (hb : b < 3) (hK : K.2 10 (3 * D + b) = lN (encL r)) (hl : r.length ≤ 10) (ha : ∀ a ∈ r, a < 16) (hn : ¬ ∃ i, i < r.length ∧ x = nI i) (hQ : Q (-1)) : k_X0_wayHouse K (nI D) (nI b) x Q := by
  unfold k_X0_wayHouse
  refine ite_b (fun _ => hQ) fun z => ?_
  obtain ⟨i, hi, rfl⟩ := nI_of z
  rw [wayLength_ok hD hb hK hl ha, if_neg (by rw [nI_lt' (by omega) (by omega)]; exact fun y => hn ⟨i, y, rfl⟩)]
  exact hQ
end WayC
section WayB
variable {H P K I M : CT} {l q f m h D n d b : Nat} {a1 a2 a3 : Int32}
/-- houses of a man on a day -/
def hisD (M : CT) (d b : Nat) : List Nat := hisL (dayL M false d) b
theorem dayL_s (M : CT) (d k : Nat) : (List.range (k + 1)).map (fun k => (nv (M.1 47 (oH false + 10 * d + k)), nv (M.1 48 (oH false + 10 * d + k)))) = (List.range k).map (fun k => (nv (M.1 47 (oH false + 10 * d + k)), nv (M.1 48 (oH false + 10 * d + k)))) ++ [(nv (M.1 47 (oH false + 10 * d + k)), nv (M.1 48 (oH false + 10 * d + k)))] := by
  rw [List.range_succ, List.map_append, List.map_singleton]
/-- a day that is done, as both sides show it -/
def DAY (K M : CT) (m h d : Nat) : Prop := ∃ nn : Nat, nn ≤ 10 ∧ M.1 46 d = nI nn ∧ dayL M false d = (List.range nn).map (fun k => (nv (M.1 47 (oH false + 10 * d + k)), nv (M.1 48 (oH false + 10 * d + k)))) ∧ (∀ k, k < nn → ∃ a b : Nat, a < h ∧ b < m ∧ M.1 47 (oH false + 10 * d + k) = nI a ∧ M.1 48 (oH false + 10 * d + k) = nI b) ∧ K.1 9 d = nI (mskL ((dayL M false d).map Prod.fst)) ∧ (∀ b, b < 3 → K.2 10 (3 * d + b) = lN (encL (hisD M d b))) ∧ ∀ b, (hisD M d b).length ≤ 10 ∧ ∀ a ∈ hisD M d b, a < h
theorem CO.dayd (g : CO H P K I M l q f m h D n) (hd : d < D) : DAY K M m h d := by
  have h9 := g.2.2.1.1.1.2.2.2.2
  obtain ⟨-, -, -, ⟨⟨-, -, gd, -⟩, -⟩, -⟩ := g
  obtain ⟨⟨nn, n1, n2, n3⟩, -, k9, k10⟩ := gd d hd
  rw [show oD false + d = d from Nat.zero_add d] at n2
  have dl : dayL M false d = (List.range nn).map (fun k => (nv (M.1 47 (oH false + 10 * d + k)), nv (M.1 48 (oH false + 10 * d + k)))) := by
    unfold dayL
    rw [show oD false + d = d from Nat.zero_add d, n2, nv_n (by omega)]
  refine ⟨nn, n1, n2, dl, n3, k9, k10, fun b => ⟨?_, fun a ha => ?_⟩⟩
  · have := hisL_len (dayL M false d) b
    unfold hisD
    rw [dl, List.length_map, List.length_range] at this
    rw [dl]
    omega
  · have := hisL_mem ha
    rw [dl, List.map_map, List.mem_map] at this
    obtain ⟨k, k1, k2⟩ := this
    obtain ⟨x, y, x1, -, x3, -⟩ := n3 k (List.mem_range.mp k1)
    rw [← k2]
    show nv (M.1 47 (oH false + 10 * d + k)) < h
    rw [x3, nv_n (by omega)]
    exact x1
theorem isDone_y {Q : Int32 → Prop} (hv : K.1 0 0 = nI D) (h2 : D ≤ 200) (hd : d < D) : k_X0_isDone K (nI d) Q = Q 1 := by
  unfold k_X0_isDone
  rw [rZ_ite, hv, li_200, if_pos ⟨nI_pos (by omega), nI_ge hd (by omega), nI_ge (by omega) (by omega)⟩]
theorem isDone_n {Q : Int32 → Prop} {x : Int32} (hv : K.1 0 0 = nI D) (h2 : D ≤ 200) (hn : ¬ ∃ d, d < D ∧ x = nI d) : k_X0_isDone K x Q = Q 0 := by
  unfold k_X0_isDone
  rw [rZ_ite, hv, if_neg]
  rintro ⟨z1, z2, -⟩
  obtain ⟨i, hi, rfl⟩ := nI_of z1
  rw [nI_le' (by omega) hi] at z2
  exact hn ⟨i, by omega, rfl⟩
theorem isDoneR_y {Q : Int32 → Prop} (hv : M.1 0 77 = nI D) (h2 : D ≤ 200) (hd : d < D) : k_X12_isDone M (nI d) Q = Q 1 := by unfold k_X12_isDone; rw [rZ_ite, inh_y hv (by omega) hd]
theorem isDoneR_n {Q : Int32 → Prop} {x : Int32} (hv : M.1 0 77 = nI D) (h2 : D ≤ 200) (hn : ¬ ∃ d, d < D ∧ x = nI d) : k_X12_isDone M x Q = Q 0 := by unfold k_X12_isDone; rw [rZ_ite, inh_n hv (by omega) hn]
theorem mskL_lt2 {M : CT} {d : Nat} (gd : DAY K M m h d) (h9 : h ≤ 10) : mskL ((dayL M false d).map Prod.fst) < 1024 := by
  obtain ⟨nn, n1, n2, dl, n3, -⟩ := gd
  refine mskL_lt (b := 10) fun a ha => ?_
  rw [dl, List.map_map, List.mem_map] at ha
  obtain ⟨k, k1, k2⟩ := ha
  obtain ⟨x, y, x1, -, x3, -⟩ := n3 k (List.mem_range.mp k1)
  rw [← k2]
  show nv (M.1 47 (oH false + 10 * d + k)) < 10
  rw [x3, nv_n (by omega)]
  omega
theorem g_wiped (g : CO H P K I M l q f m h D n) : k_X11_wiped H K a1 fun x => k_X12_wiped M a1 fun y M' => x = y ∧ MA M M' := by
  obtain ⟨D200, n60, k0, k1⟩ := g.2.2.2.1.1.1
  have h9 := g.2.2.1.1.1.2.2.2.2
  have d1 : (sI M 0 0 0).1 0 77 = nI D := (th_at (by omega)).trans g.2.2.2.1.2.1
  unfold k_X11_wiped
  rw [jn_eq]
  by_cases c : ∃ d, d < D ∧ a1 = nI d
  · obtain ⟨d, hd, rfl⟩ := c
    obtain ⟨nn, n1, n2, dl, n3, k9, -⟩ := g.dayd hd
    rw [isDone_y k0 D200 hd, if_neg (by decide), rdI_n (by omega) (by omega), k9]
    unfold k_X12_wiped
    try dsimp only
    rw [wrF_eq, isDoneR_y d1 D200 hd, if_pos (by decide)]
    refine LP2.ind (fun s v => ∃ i, i ≤ nn ∧ v = nI i ∧ s = nI (mskL (((List.range i).map (fun k => (nv (M.1 47 (oH false + 10 * d + k)), nv (M.1 48 (oH false + 10 * d + k))))).map Prod.fst))) (fun _ v => nn - v.toNatClampNeg) ?_ ⟨0, by omega, rfl, rfl⟩
    rintro R s v ⟨i, hi, rfl, rfl⟩ ih
    rw [rdI_n (by omega) (by omega), th_at (by omega), n2]
    by_cases hin : i < nn
    · obtain ⟨x, y, x1, x2, x3, x4⟩ := n3 i hin
      have x5 : M.1 47 (10 * d + i) = nI x := by
        rw [← x3, show oH false + 10 * d + i = 10 * d + i by show 0 + 10 * d + i = _; omega]
      rw [if_neg (nI_ge hin (by omega)), li_10, pk_mul, nI_add, rdI_n (by omega) (by omega), th_at (by omega), x5, shl_1 (by omega), or_n, vK_eq, nI_1]
      refine ih _ _ ⟨i + 1, by omega, rfl, ?_⟩ (by rw [nI_clamp (by omega), nI_clamp (by omega)]; omega)
      rw [dayL_s, List.map_append, List.map_singleton, mskL_app]
      dsimp only
      rw [x3, nv_n (by omega)]
    · have e : i = nn := by omega
      subst e
      rw [if_pos (Int32.le_refl _), dl]
      exact ⟨rfl, MA.th⟩
  · rw [isDone_n k0 D200 c, if_pos rfl]
    unfold k_X12_wiped
    try dsimp only
    rw [wrF_eq, isDoneR_n d1 D200 c, if_neg (fun z => z rfl)]
    exact ⟨rfl, MA.th⟩
/-- the reference's list of a man's houses -/
def DID (M c : CT) (r : List Nat) : Prop := (∀ j k, j ≠ 54 → ¬ (j = 0 ∧ k = 101) → c.1 j k = M.1 j k) ∧ c.1 0 101 = nI r.length ∧ ∀ j, j < r.length → c.1 54 j = nI (r.getD j 0)
theorem DID.ma {c : CT} {r : List Nat} (h : DID M c r) : MA M c := fun j k x => h.1 j k (by unfold RV at x; omega) (by unfold RV at x; omega)
theorem did_ok {Q : CT → Prop} (h9 : h ≤ 10) (m3 : m ≤ 3) (g : DAY K M m h d) (hd : d < 200) (hb : b < m) (hQ : ∀ c, DID (sI M 0 0 0) c (hisD M d b) → Q c) : k_X12_did (sI M 0 0 0) (nI b) (nI d) Q := by
  obtain ⟨nn, n1, n2, dl, n3, -, -, -⟩ := g
  unfold k_X12_did
  try dsimp only
  rw [wrF_eq]
  refine upl2 (N := nn) (a := 0) (by omega) (fun i c => DID (sI M 0 0 0) c (hisL ((List.range i).map (fun k => (nv (M.1 47 (oH false + 10 * d + k)), nv (M.1 48 (oH false + 10 * d + k))))) b)) ?_ ?_ (by omega) ⟨fun j k h1 h2 => sI_ne h2, sI_same, fun j hj => absurd hj (by show ¬ j < 0; omega)⟩
  · rintro R i c - hi ⟨c1, c2, c3⟩ ih
    obtain ⟨x, y, x1, x2, x3, x4⟩ := n3 i hi
    have ix : oH false + 10 * d + i = 10 * d + i := by
      show 0 + 10 * d + i = 10 * d + i
      omega
    have r46 : c.1 46 d = nI nn := by rw [c1 46 d (by omega) (by omega), th_at (by omega)]; exact n2
    have r47 : c.1 47 (10 * d + i) = nI x := by rw [c1 47 _ (by omega) (by omega), th_at (by omega), ← ix]; exact x3
    have r48 : c.1 48 (10 * d + i) = nI y := by rw [c1 48 _ (by omega) (by omega), th_at (by omega), ← ix]; exact x4
    have hl := hisL_len ((List.range i).map (fun k => (nv (M.1 47 (oH false + 10 * d + k)), nv (M.1 48 (oH false + 10 * d + k))))) b
    rw [List.length_map, List.length_range] at hl
    rw [rdI_n (by omega) (by omega), r46, if_neg (nI_ge hi (by omega)), li_10, pk_mul, nI_add, rdI_n (by omega) (by omega), r48, nI_1]
    by_cases e : y = b
    · subst e
      rw [if_pos rfl, rdI_n (by omega) (by omega), r47, c2, wrI_n (by omega) (by omega), wrF_eq, sI_ne (by omega), c2, nI_1]
      refine ih _ ?_
      rw [dayL_s, x3, x4, nv_n (by omega), nv_n (by omega), hisL_app, if_pos rfl]
      refine ⟨fun j k h1 h2 => ?_, ?_, fun j hj => ?_⟩
      · rw [sI_ne h2, sI_ne (by omega)]
        exact c1 j k h1 h2
      · rw [sI_same, List.length_append, List.length_singleton]
      · rw [List.length_append, List.length_singleton] at hj
        rw [sI_ne (by omega)]
        by_cases ej : j = (hisL ((List.range i).map (fun k => (nv (M.1 47 (oH false + 10 * d + k)), nv (M.1 48 (oH false + 10 * d + k))))) y).length
        · subst ej
          rw [sI_same, getD_last]
        · rw [sI_ne (by omega), getD_init (by omega)]
          exact c3 j (by omega)
    · rw [if_neg (fun z => e ((nI_eq (by omega) (by omega)).mp z))]
      refine ih _ ?_
      rw [dayL_s, x3, x4, nv_n (by omega), nv_n (by omega), hisL_app, if_neg e]
      exact ⟨c1, c2, c3⟩
  · rintro R c hc
    have r46 : c.1 46 d = nI nn := by rw [hc.1 46 d (by omega) (by omega), th_at (by omega)]; exact n2
    rw [rdI_n (by omega) (by omega), r46, if_pos (Int32.le_refl _)]
    refine hQ c ?_
    unfold hisD
    rw [dl]
    exact hc
end WayB
