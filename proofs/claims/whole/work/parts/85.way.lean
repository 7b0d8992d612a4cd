/-! ===== ways as numbers ===== -/
theorem lN_bv {n : Nat} (h : n < 2 ^ 64) : (lN n).toBitVec.toNat = n := Nat.mod_eq_of_lt h
theorem lN_inj {x y : Int64} (h : x.toBitVec.toNat = y.toBitVec.toNat) : x = y := Int64.toBitVec_inj.mp (BitVec.eq_of_toNat_eq h)
theorem land_n {a b : Nat} (ha : a < 2 ^ 63) (hb : b < 2 ^ 63) : lN a &&& lN b = lN (a &&& b) := by
  apply lN_inj
  rw [Int64.toBitVec_and, BitVec.toNat_and, lN_bv (by omega), lN_bv (by omega), lN_bv]
  exact Nat.lt_of_le_of_lt Nat.and_le_left (by omega)
theorem lor_n {a b : Nat} (ha : a < 2 ^ 63) (hb : b < 2 ^ 63) : lN a ||| lN b = lN (a ||| b) := by
  apply lN_inj
  rw [Int64.toBitVec_or, BitVec.toNat_or, lN_bv (by omega), lN_bv (by omega), lN_bv]
  exact Nat.lt_of_lt_of_le (Nat.or_lt_two_pow ha hb) (by decide)
theorem smod64 : ∀ i : Fin 64, ((lN i.val).toBitVec.smod 64).toNat = i.val := by decide +kernel
theorem lshl_n {a s : Nat} (hs : s < 64) (h : a * 2 ^ s < 2 ^ 63) : lN a <<< lN s = lN (a * 2 ^ s) := by
  have ha : a < 2 ^ 63 := Nat.lt_of_le_of_lt (Nat.le_mul_of_pos_right a (Nat.two_pow_pos s)) h
  apply lN_inj
  have e := smod64 ⟨s, hs⟩
  dsimp only at e
  rw [Int64.toBitVec_shiftLeft, BitVec.shiftLeft_eq', e, BitVec.toNat_shiftLeft, lN_bv (by omega), lN_bv (by omega), Nat.shiftLeft_eq, Nat.mod_eq_of_lt (by omega)]
theorem land63 {s : Nat} (h : s < 64) : lN s &&& 63 = lN s := by
  rw [show (63 : Int64) = lN 63 from rfl, land_n (by omega) (by omega)]
  rw [show (63 : Nat) = 2 ^ 6 - 1 from rfl, Nat.and_two_pow_sub_one_eq_mod, Nat.mod_eq_of_lt h]
theorem land15 {e : Nat} (h : e < 2 ^ 63) : lN e &&& 15 = lN (e % 16) := by
  rw [show (15 : Int64) = lN 15 from rfl, land_n h (by omega)]
  rw [show (15 : Nat) = 2 ^ 4 - 1 from rfl, Nat.and_two_pow_sub_one_eq_mod]
theorem hxL_lt : ∀ {l : List Nat}, (∀ a ∈ l, a < 16) → hxL l < 16 ^ l.length
  | [], _ => by show 0 < 16 ^ 0; decide
  | a :: r, h => by
    have h1 := h a List.mem_cons_self
    have h2 := hxL_lt (l := r) fun x hx => h x (List.mem_cons_of_mem _ hx)
    show a + 16 * hxL r < 16 ^ (r.length + 1)
    rw [Nat.pow_succ]
    omega
theorem hxL_app (a : Nat) : ∀ l : List Nat, hxL (l ++ [a]) = hxL l + a * 16 ^ l.length
  | [] => by show a + 16 * 0 = 0 + a * 16 ^ 0; omega
  | b :: r => by
    show b + 16 * hxL (r ++ [a]) = b + 16 * hxL r + a * 16 ^ (r.length + 1)
    rw [hxL_app a r, Nat.pow_succ, Nat.mul_add, Nat.add_assoc]
    congr 1
    congr 1
    rw [Nat.mul_left_comm, Nat.mul_comm 16]
theorem encL_lt {l : List Nat} (h : ∀ a ∈ l, a < 16) (hl : l.length < 16) : encL l < 16 ^ (l.length + 1) := by
  have := hxL_lt h
  unfold encL
  rw [Nat.pow_succ]
  omega
theorem encL_mod {l : List Nat} (hl : l.length < 16) : encL l % 16 = l.length := by
  unfold encL
  omega
theorem encL_app {l : List Nat} {a : Nat} (h : ∀ a ∈ l, a < 16) (hl : l.length < 10) (ha : a < 16) : (encL l ||| a * 2 ^ (4 + 4 * l.length)) + 1 = encL (l ++ [a]) ∧ a * 2 ^ (4 + 4 * l.length) < 2 ^ 63 ∧ encL l < 2 ^ 63 ∧ (encL l ||| a * 2 ^ (4 + 4 * l.length)) < 2 ^ 63 := by
  have e1 : 2 ^ (4 + 4 * l.length) = 16 ^ (l.length + 1) := by
    rw [show 4 + 4 * l.length = 4 * (l.length + 1) by omega, Nat.pow_mul]
  have e2 := encL_lt h (by omega)
  have e3 : encL l ||| a * 2 ^ (4 + 4 * l.length) = a * 2 ^ (4 + 4 * l.length) + encL l := by
    rw [Nat.or_comm, Nat.mul_comm, ← Nat.two_pow_add_eq_or_of_lt (by rw [e1]; exact e2)]
  have e4 : 16 ^ (l.length + 1) ≤ 16 ^ 10 := Nat.pow_le_pow_right (by decide) (by omega)
  have e5 : a * 16 ^ (l.length + 1) ≤ 15 * 16 ^ (l.length + 1) := Nat.mul_le_mul_right _ (by omega)
  have e6 : (16 : Nat) ^ 10 = 1099511627776 := by decide
  rw [e3, e1]
  refine ⟨?_, by omega, by omega, by omega⟩
  unfold encL
  rw [hxL_app, List.length_append, List.length_singleton, Nat.pow_succ]
  have : 16 * (hxL l + a * 16 ^ l.length) = 16 * hxL l + a * (16 ^ l.length * 16) := by
    rw [Nat.mul_add, Nat.mul_left_comm, Nat.mul_comm 16 (16 ^ l.length)]
  omega
theorem mskL_app (a : Nat) : ∀ l : List Nat, mskL (l ++ [a]) = mskL l ||| 2 ^ a
  | [] => by show 2 ^ a ||| 0 = 0 ||| 2 ^ a; rw [Nat.or_comm]
  | b :: r => by
    show 2 ^ b ||| mskL (r ++ [a]) = 2 ^ b ||| mskL r ||| 2 ^ a
    rw [mskL_app a r, Nat.or_assoc]
/-- a man's houses of a day -/
def hisL (L : List (Nat × Nat)) (b : Nat) : List Nat := (L.filter fun p => decide (p.2 = b)).map Prod.fst
theorem hisL_app {L : List (Nat × Nat)} {i man b : Nat} : hisL (L ++ [(i, man)]) b = if man = b then hisL L b ++ [i] else hisL L b := by
  unfold hisL
  rw [List.filter_append, List.map_append]
  by_cases h : man = b
  · rw [if_pos h]
    simp [h]
  · rw [if_neg h]
    simp [h]
theorem hisL_mem {L : List (Nat × Nat)} {b a : Nat} (h : a ∈ hisL L b) : a ∈ L.map Prod.fst := by
  unfold hisL at h
  rw [List.mem_map] at h ⊢
  obtain ⟨p, hp, e⟩ := h
  exact ⟨p, (List.mem_filter.mp hp).1, e⟩
theorem hisL_len (L : List (Nat × Nat)) (b : Nat) : (hisL L b).length ≤ L.length := by
  unfold hisL
  rw [List.length_map]
  exact List.length_filter_le _ _
section Way
variable {K0 K : CT} {B : VW} {L : List (Nat × Nat)} {h D : Nat}
theorem wayLength_ok {l : List Nat} {b : Nat} {Q : Int32 → Prop} (hD : D < 200) (hb : b < 3) (hK : K.2 10 (3 * D + b) = lN (encL l)) (hl : l.length ≤ 10) (ha : ∀ a ∈ l, a < 16) : k_X0_wayLength K (nI D) (nI b) Q = Q (nI l.length) := by
  unfold k_X0_wayLength
  have e := encL_lt ha (by omega)
  have e4 : 16 ^ (l.length + 1) ≤ 16 ^ 11 := Nat.pow_le_pow_right (by decide) (by omega)
  have e6 : (16 : Nat) ^ 11 = 17592186044416 := by decide
  rw [li_3, pk_mul, nI_add, show D * 3 + b = 3 * D + b by omega, rdL_n (by omega) (by omega), hK, land15 (by omega), encL_mod (by omega), lN_i]
theorem addToWay_ok {i man : Nat} {Q : CT → Prop} (g : KBr K0 K B L h D) (hD : D < 200) (hb : man < 3) (hi : i < 10) (hL : L.length < 10) (ha : ∀ a ∈ L.map Prod.fst, a < 10) (hQ : ∀ K', KBr K0 K' B (L ++ [(i, man)]) h D → Q K') : k_X0_addToWay K (nI D) (nI man) (nI i) Q := by
  obtain ⟨g1, g2, g3, g4, g5⟩ := g
  have hl := hisL_len L man
  have ha2 : ∀ a ∈ hisL L man, a < 16 := fun a h => Nat.lt_of_lt_of_le (ha a (hisL_mem h)) (by decide)
  obtain ⟨c1, c2, c3, c4⟩ := encL_app (l := hisL L man) (a := i) ha2 (by omega) (by omega)
  have hmk : mskL (L.map Prod.fst) < 2 ^ 10 := mskL_lt ha
  unfold k_X0_addToWay
  rw [vK_eq, wayLength_ok (l := hisL L man) hD hb (g3 man hb) (by omega) ha2, li_3, pk_mul, nI_add, show D * 3 + man = 3 * D + man by omega, rdL_n (by omega) (by omega), g3 man hb]
  have e4 : (4 : Int32) + 4 * nI (hisL L man).length = nI (4 + 4 * (hisL L man).length) := by rw [li_4, pk_mul, nI_add]
  rw [e4, nI_l (by omega), nI_l (by omega), land63 (by omega), lshl_n (by omega) c2, show (L.filter fun p => decide (p.2 = man)).map Prod.fst = hisL L man from rfl, lor_n c3 c2, lN_1, c1, wrL_n (by omega) (by omega), rdI_n (by omega) (by omega), sL_1, g2, shl_1 (by omega), or_n, wrI_n (by omega) (by omega)]
  refine hQ _ ⟨fun i' j' a b c => ?_, ?_, fun b' hb' => ?_, fun j k a b => ?_, fun j k a => ?_⟩
  · rw [sI_ne (by omega)]
    exact g1 i' j' a b c
  · rw [sI_same, List.map_append, List.map_cons, List.map_nil, mskL_app]
  · show (sL K 10 (3 * D + man) _).2 10 (3 * D + b') = lN (encL (hisL (L ++ [(i, man)]) b'))
    rw [hisL_app, sL_at]
    by_cases e : man = b'
    · subst e
      rw [if_pos ⟨rfl, rfl⟩, if_pos rfl]
    · rw [if_neg (by omega), if_neg e]
      exact g3 b' hb'
  · rw [sI_ne (by omega)]
    exact g4 j k a b
  · show (sL K 10 (3 * D + man) _).2 j k = _
    rw [sL_ne (by omega)]
    exact g5 j k a
end Way
