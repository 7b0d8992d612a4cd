/-! ===== reading: the rules' lines, the class's steps over a rule's tokens ===== -/
section ClS
variable {P0 c0 M P R c : CT} {T : Nat → T4} {K n u a i0 d ne k o i b s : Nat} {W p L : List Nat} {Q : Int32 → CT → CT → Prop}
theorem cl_val {S : Int32 → Int32 → CT → CT → Prop} (hc : RDc R T K n i) (hb : b ≤ i) (hk : R.1 0 8 = nI s) : clB u Q S 1 (nI b) P R = k_X7_readValue P R u (fun t x y => (if t = (0 : Int32) then Q (0 : Int32) x y else k_X7_advance y (fun z => S (if (nI s = (28 : Int32) ∨ ¬ (nI s ≠ (16 : Int32))) then (1 : Int32) else (0 : Int32)) (nI b + 1) x z))) := by
  have := hc.2.1
  have := hc.1.2.2.1
  have := hc.1.2.2.2.1
  unfold clB
  rw [hc.1.2.1, if_neg (by rw [nI_lt' (by omega) (by omega)]; omega), jn_eq, if_pos (by decide)]
  dsimp only
  rw [vK_eq, vK_eq, jn_eq, if_neg (by decide), hk]
  simp only [jn_eq, if_neg (by decide : ¬ (1 : Int32) = 0)]
theorem cl_jnt {S : Int32 → Int32 → CT → CT → Prop} (hc : RDc R T K n i) (hb : b ≤ i) (hk : R.1 0 8 = nI s) (s6 : s < 64) (ho : ¬ (R.1 0 14 ≠ 0) → rkN s ≠ 0) (h : k_X7_readJoint P R u (fun t x y => (if t ≠ (0 : Int32) then k_X7_advance y (fun z => S (if s = 29 then 0 else 1) (nI b + 1) x z) else Q (0 : Int32) x y))) : clB u Q S 0 (nI b) P R := by
  have := hc.2.1
  have := hc.1.2.2.1
  have := hc.1.2.2.2.1
  have r6 := rk_le s
  have go : (fun t208 c206 c207 => (if t208 ≠ (0 : Int32) then k_X7_advance c207 (fun c176 => S (if ¬ ((if ¬ (nI s ≠ (29 : Int32)) then (1 : Int32) else (0 : Int32)) ≠ (0 : Int32)) then (1 : Int32) else (0 : Int32)) (nI b + 1) c206 c176) else Q (0 : Int32) c206 c207)) = (fun t x y => (if t ≠ (0 : Int32) then k_X7_advance y (fun z => S (if s = 29 then 0 else 1) (nI b + 1) x z) else Q (0 : Int32) x y)) := by
    have e : (if ¬ ((if ¬ (nI s ≠ (29 : Int32)) then (1 : Int32) else (0 : Int32)) ≠ (0 : Int32)) then (1 : Int32) else (0 : Int32)) = (if s = 29 then 0 else 1) := by
      have e29 : (nI s = 29) = (s = 29) := nI_eq' (b := 29) (by omega) (by omega)
      by_cases z : s = 29
      · try dsimp only
        rw [if_pos z]
        subst z
        decide
      · try dsimp only
        have n29 : nI s ≠ 29 := fun y => z (by rw [e29] at y; exact y)
        rw [if_neg z, if_neg (c := ¬ (nI s ≠ 29)) (fun y => y n29)]
        decide
    rw [e]
  unfold clB
  rw [hc.1.2.1, if_neg (by rw [nI_lt' (by omega) (by omega)]; omega), jn_eq, if_neg (by decide)]
  dsimp only
  simp only [vK_eq, jn_eq]
  simp only [if_true]
  simp only [hk]
  rw [go]
  refine ite_b (fun z => h) fun z => ?_
  refine rank_ok s6 ?_
  try dsimp only
  rw [if_pos (by rw [Ne, li_0, nI_eq' (by omega) (by omega)]; exact ho z)]
  exact h
theorem cl_end {S : Int32 → Int32 → CT → CT → Prop} (hc : RDc R T K n i) (hb : b ≤ i) (hk : R.1 0 8 = nI s) (s6 : s < 64) (ho : R.1 0 14 = 0) (r0 : rkN s = 0) (h : k_X7_settle P R u 0 (fun x y => Q 1 x y)) : clB u Q S 0 (nI b) P R := by
  have := hc.2.1
  have := hc.1.2.2.1
  have := hc.1.2.2.2.1
  unfold clB
  rw [hc.1.2.1, if_neg (by rw [nI_lt' (by omega) (by omega)]; omega), jn_eq, if_neg (by decide), if_neg (by rw [ho]; exact fun y => y rfl), hk]
  refine rank_ok s6 ?_
  try dsimp only
  rw [r0, if_neg (by decide)]
  exact h
theorem room_ok {Q : Int32 → CT → Prop} (hu : u ≤ 1) (h1 : P.1 (11 + 2 * u) 0 = nI ne) (h2 : P.1 (13 - 2 * u) 0 = nI a) (hs : R.1 0 13 = nI s) (ho : R.1 0 14 = nI o) (hk : k + o = a + ne + s) (k6 : k ≤ 64) (hc : RDc R T K n i) (hy : k < 64 → Q 1 R) (hn : k = 64 → ∀ R', FLc R' 2 (T i).2.1 → Q 0 R') : k_X7_hasRoomForKnot P R Q := by
  have e : P.1 11 0 + P.1 13 0 = nI (a + ne) := by
    rcases (show u = 0 ∨ u = 1 by omega) with z | z
    · subst z
      have h1 : P.1 11 0 = nI ne := h1
      have h2 : P.1 13 0 = nI a := h2
      rw [h1, h2, nI_add, Nat.add_comm]
    · subst z
      have h1 : P.1 13 0 = nI ne := h1
      have h2 : P.1 11 0 = nI a := h2
      rw [h1, h2, nI_add]
  unfold k_X7_hasRoomForKnot k_X6_knots
  dsimp only
  rw [vK_eq, jn_eq, e, hs, ho, nI_add, nI_sub' (by omega), show a + ne + s - o = k by omega]
  refine ite_b (fun z => ?_) fun z => ?_
  · try dsimp only
    rw [rZ_1]
    rw [li_64, nI_lt' (by omega) (by omega)] at z
    exact hy z
  · rw [li_64, nI_lt' (by omega) (by omega)] at z
    refine fail_ok hc fun R' f' => ?_
    try dsimp only
    rw [if_pos rfl, rZ_0]
    exact hn (by omega) R' f'
/-! values -/
theorem RDc.kd (hc : RDc R T K n i) : SHP (T i) ∧ R.1 0 8 = nI (knd (T i)) ∧ knd (T i) ≤ 41 := by
  have shp := hc.1.2.2.2.2.2.2.2 i
  exact ⟨shp, hc.2.2.2.1.trans (knd_e shp).1, (knd_e shp).2⟩
theorem go_num (hu : u ≤ 1) (h : RS P0 c0 M T K n u a i0 d ne k o i W [] P R c) (e : knd (T i) = 26) (hy : nf (T i) 0 9999 = 0 → k < 64 → ∀ R', RDc R' T K n (i + 1) → SMW R R' → LP4 (clB u Q) 0 (nI (i + 1 - i0)) (ad1 P u ne (T i).2.2.2) R') (hn : nf (T i) 0 9999 ≠ 0 → ∀ R', FLc R' (nf (T i) 0 9999) (T i).2.1 → Q 0 P R') (hf : nf (T i) 0 9999 = 0 → k = 64 → ∀ R', FLc R' 2 (T i).2.1 → Q 0 P R') : LP4 (clB u Q) 1 (nI (i - i0)) P R := by
  obtain ⟨⟨h1, h2, h3, h4⟩, ⟨p1, p2, p3⟩, ⟨c1, c2, c3, c4⟩, ⟨a1, a2, a3, a4⟩, -⟩ := h
  obtain ⟨shp, kd, -⟩ := h1.kd
  rw [e] at kd
  intro S hS
  refine hS _ _ _ _ ?_
  rw [cl_val h1 (by omega) kd]
  unfold k_X7_readValue
  try dsimp only
  rw [kd, if_pos (by decide), if_neg (by decide)]
  rw [knd_26 shp] at e
  have lt := h1.lt (by rw [e]; decide)
  refine isNumber_ok h1 (by decide) (by decide) (fun z => ?_) fun z R' f' => ?_
  · try dsimp only
    rw [if_neg (by decide)]
    refine room_ok hu p1 p2 h4.1 c4 (k := k) (by rw [List.reverse_nil, List.append_nil]; exact a1) a2 h1 (fun k6 => ?_) fun k6 R' f' => ?_
    · try dsimp only
      rw [if_pos (by decide)]
      have l0 : ([] : List Nat).length = 0 := rfl
      rw [l0] at a1
      refine add_ok p1 (by omega) ?_
      rw [h1.val (by decide) z, if_neg (by decide)]
      refine adv_ok h1 lt fun R' r1 r2 _ => ?_
      try dsimp only
      rw [if_neg (by decide), inc_n, show i - i0 + 1 = i + 1 - i0 by omega]
      exact hy z k6 R' r1 r2 S hS
    · try dsimp only
      rw [if_neg (by decide), if_pos rfl]
      exact hf z k6 R' f'
  · try dsimp only
    rw [if_pos rfl, if_pos rfl]
    exact hn z R' f'
theorem go_name (hu : u ≤ 1) (h : RS P0 c0 M T K n u a i0 d ne k o i W [] P R c) (e : 19 ≤ knd (T i) ∧ knd (T i) ≤ 24) (hy : k < 64 → ∀ R', RDc R' T K n (i + 1) → SMW R R' → LP4 (clB u Q) 0 (nI (i + 1 - i0)) (ad1 P u ne (-1 - nI (knd (T i)))) R') (hf : k = 64 → ∀ R', FLc R' 2 (T i).2.1 → Q 0 P R') : LP4 (clB u Q) 1 (nI (i - i0)) P R := by
  obtain ⟨⟨h1, h2, h3, h4⟩, ⟨p1, p2, p3⟩, ⟨c1, c2, c3, c4⟩, ⟨a1, a2, a3, a4⟩, -⟩ := h
  obtain ⟨shp, kd, -⟩ := h1.kd
  intro S hS
  refine hS _ _ _ _ ?_
  rw [cl_val h1 (by omega) kd]
  have w := (knd_nm shp).mp e
  have lt := h1.lt (by rw [w.1]; decide)
  have n28 : nI (knd (T i)) ≠ 28 := by rw [li_28, Ne, nI_eq' (by omega) (by omega)]; omega
  have n16 : nI (knd (T i)) ≠ 16 := by rw [li_16, Ne, nI_eq' (by omega) (by omega)]; omega
  unfold k_X7_readValue
  try dsimp only
  rw [kd, if_pos n28, if_pos (by rw [show (26 : Int32) = nI 26 from rfl, Ne, nI_eq' (by omega) (by omega)]; omega), jn_eq, if_pos n16]
  dsimp only
  rw [jn_eq, kd, if_neg (by rw [show (19 : Int32) = nI 19 from rfl, nI_lt' (by omega) (by omega)]; omega), if_pos (by rw [show (25 : Int32) = nI 25 from rfl, nI_lt' (by omega) (by omega)]; omega)]
  refine room_ok hu p1 p2 h4.1 c4 (k := k) (by rw [List.reverse_nil, List.append_nil]; exact a1) a2 h1 (fun k6 => ?_) fun k6 R' f' => ?_
  · try dsimp only
    rw [if_pos (by decide), kd]
    have l0 : ([] : List Nat).length = 0 := rfl
    rw [l0] at a1
    refine add_ok p1 (by omega) ?_
    try dsimp only
    rw [if_neg (by decide)]
    refine adv_ok h1 lt fun R' r1 r2 _ => ?_
    try dsimp only
    rw [if_neg (by rintro (y | y); exact n28 y; exact y n16), inc_n, show i - i0 + 1 = i + 1 - i0 by omega]
    exact hy k6 R' r1 r2 S hS
  · try dsimp only
    rw [if_neg (by decide), if_pos rfl]
    exact hf k6 R' f'
theorem go_bad (h : RS P0 c0 M T K n u a i0 d ne k o i W [] P R c) (e1 : knd (T i) ≠ 28) (e2 : knd (T i) ≠ 26) (e3 : knd (T i) = 16 → 4 ≤ lk W) (e4 : ¬ (19 ≤ knd (T i) ∧ knd (T i) ≤ 24)) (hf : ∀ R', FLc R' 1 (T i).2.1 → Q 0 P R') : LP4 (clB u Q) 1 (nI (i - i0)) P R := by
  obtain ⟨⟨h1, h2, h3, h4⟩, -⟩ := h
  obtain ⟨shp, kd, k4⟩ := h1.kd
  intro S hS
  refine hS _ _ _ _ ?_
  rw [cl_val h1 (by omega) kd]
  unfold k_X7_readValue
  try dsimp only
  rw [kd, if_pos (by rw [li_28, Ne, nI_eq' (by omega) (by omega)]; omega), if_pos (by rw [show (26 : Int32) = nI 26 from rfl, Ne, nI_eq' (by omega) (by omega)]; omega), jn_eq]
  have fin : jn (k_X7_fail R (1 : Int32) (fun t349 c348 => rZ t349 (fun t350 => (if t350 = (0 : Int32) then Q (0 : Int32) P c348 else k_X7_advance c348 (fun z => S (if (nI (knd (T i)) = (28 : Int32) ∨ ¬ (nI (knd (T i)) ≠ (16 : Int32))) then (1 : Int32) else (0 : Int32)) (nI (i - i0) + 1) P z))))) (fun (J353 : Prop) => (if (R.1 0 8) < (19 : Int32) then J353 else (if (R.1 0 8) < (25 : Int32) then k_X7_hasRoomForKnot P R (fun t363 c362 => (if t363 ≠ (0 : Int32) then k_X2_add P u ((-1 : Int32) - (c362.1 0 8)) (fun c364 => (if (1 : Int32) = (0 : Int32) then Q (0 : Int32) c364 c362 else k_X7_advance c362 (fun z => S (if (nI (knd (T i)) = (28 : Int32) ∨ ¬ (nI (knd (T i)) ≠ (16 : Int32))) then (1 : Int32) else (0 : Int32)) (nI (i - i0) + 1) c364 z))) else (if (0 : Int32) = (0 : Int32) then Q (0 : Int32) P c362 else k_X7_advance c362 (fun z => S (if (nI (knd (T i)) = (28 : Int32) ∨ ¬ (nI (knd (T i)) ≠ (16 : Int32))) then (1 : Int32) else (0 : Int32)) (nI (i - i0) + 1) P z)))) else J353))) := by
    have no : k_X7_fail R (1 : Int32) (fun t349 c348 => rZ t349 (fun t350 => (if t350 = (0 : Int32) then Q (0 : Int32) P c348 else k_X7_advance c348 (fun z => S (if (nI (knd (T i)) = (28 : Int32) ∨ ¬ (nI (knd (T i)) ≠ (16 : Int32))) then (1 : Int32) else (0 : Int32)) (nI (i - i0) + 1) P z)))) := by
      refine fail_ok h1 fun R' f' => ?_
      try dsimp only
      rw [rZ_0, if_pos rfl]
      exact hf R' f'
    try dsimp only
    rw [jn_eq, kd]
    refine ite_b (fun _ => no) fun z => ?_
    rw [show (19 : Int32) = nI 19 from rfl, nI_lt' (by omega) (by omega)] at z
    try dsimp only
    rw [if_neg (by rw [show (25 : Int32) = nI 25 from rfl, nI_lt' (by omega) (by omega)]; omega)]
    exact no
  refine ite_b (fun z => fin) fun z => ?_
  rw [li_16, Ne, nI_eq' (by omega) (by omega)] at z
  have e16 := Classical.not_not.mp z
  have l6 := lk_le W
  refine latest_ok (W := W) (by rw [List.reverse_nil, List.append_nil] at h4; exact h4) ?_
  refine rank_ok (k := 16) (by omega) ?_
  try dsimp only
  rw [if_pos (by rw [nI_lt' (by have := rk_le 16; omega) (by omega)]; have := e3 e16; have e : rkN 16 = 3 := rfl; omega)]
  exact fin
theorem go_not (hu : u ≤ 1) (h : RS P0 c0 M T K n u a i0 d ne k o i W [] P R c) (e : knd (T i) = 16) (l3 : lk W ≤ 3) (hy : k < 64 → ∀ R', RDc R' T K n (i + 1) → STK R' (W ++ [16]) → R'.1 0 14 = R.1 0 14 → LP4 (clB u Q) 1 (nI (i + 1 - i0)) P R') (hf : k = 64 → ∀ R', FLc R' 2 (T i).2.1 → Q 0 P R') : LP4 (clB u Q) 1 (nI (i - i0)) P R := by
  obtain ⟨⟨h1, h2, h3, h4⟩, ⟨p1, p2, p3⟩, ⟨c1, c2, c3, c4⟩, ⟨a1, a2, a3, a4⟩, -⟩ := h
  obtain ⟨shp, kd, -⟩ := h1.kd
  rw [e] at kd
  rw [knd_16 shp] at e
  have lt := h1.lt (by rw [e.1]; decide)
  rw [List.reverse_nil, List.append_nil] at h4
  have l0 : ([] : List Nat).length = 0 := rfl
  rw [l0] at a1
  intro S hS
  refine hS _ _ _ _ ?_
  rw [cl_val h1 (by omega) kd]
  unfold k_X7_readValue
  try dsimp only
  rw [kd, if_pos (by decide), if_pos (by decide), jn_eq, if_neg (by decide)]
  refine latest_ok h4 ?_
  refine rank_ok (k := 16) (by omega) ?_
  have e3 : rkN 16 = 3 := rfl
  try dsimp only
  rw [if_neg (by rw [nI_lt' (by omega) (by omega)]; omega), jn_eq]
  refine room_ok hu p1 p2 h4.1 c4 (k := k) (by omega) a2 h1 (fun k6 => ?_) fun k6 R' f' => ?_
  · try dsimp only
    rw [if_neg (by decide)]
    refine await_ok (x := 16) h4 (by omega) ?_
    try dsimp only
    rw [if_neg (by decide), rZ_1, if_neg (by decide)]
    have pu := h4.push (x := 16) (by omega) (by omega)
    refine adv_ok (i := i) (h1.w fun j x z => by rw [sI_ne (by omega), sI_ne (by omega)]) lt fun R' r1 r2 _ => ?_
    try dsimp only
    rw [if_pos (by decide), inc_n, show i - i0 + 1 = i + 1 - i0 by omega]
    exact hy k6 R' r1 (pu.cg r2.1 r2.2.2) (r2.2.1.trans (by rw [sI_ne (by omega), sI_ne (by omega)])) S hS
  · try dsimp only
    rw [if_pos rfl, rZ_0, if_pos rfl]
    exact hf k6 R' f'
theorem go_open (h : RS P0 c0 M T K n u a i0 d ne k o i W [] P R c) (e : knd (T i) = 28) (hy : o < 8 → ∀ R', RDc R' T K n (i + 1) → STK R' (W ++ [28]) → R'.1 0 14 = nI (o + 1) → LP4 (clB u Q) 1 (nI (i + 1 - i0)) P R') (hf : o = 8 → ∀ R', FLc R' 2 (T i).2.1 → Q 0 P R') : LP4 (clB u Q) 1 (nI (i - i0)) P R := by
  obtain ⟨⟨h1, h2, h3, h4⟩, ⟨p1, p2, p3⟩, ⟨c1, c2, c3, c4⟩, ⟨a1, a2, a3, a4⟩, -⟩ := h
  obtain ⟨shp, kd, -⟩ := h1.kd
  rw [e] at kd
  rw [knd_28 shp] at e
  have lt := h1.lt (by rw [e.1]; decide)
  rw [List.reverse_nil, List.append_nil] at h4
  have l0 : ([] : List Nat).length = 0 := rfl
  rw [l0] at a1
  intro S hS
  refine hS _ _ _ _ ?_
  rw [cl_val h1 (by omega) kd]
  unfold k_X7_readValue
  try dsimp only
  rw [kd, if_neg (by decide), c4]
  refine ite_b (fun z => ?_) fun z => ?_
  · rw [li_8, nI_lt' (by omega) (by omega)] at z
    rw [wrF_eq, inc_n]
    have h4' : STK (sI R 0 14 (nI (o + 1))) W := h4.cg (sI_ne (by omega)) fun _ => sI_ne (by omega)
    refine await_ok (x := 28) h4' (by omega) ?_
    try dsimp only
    rw [rZ_1, if_neg (by decide)]
    have pu := h4'.push (x := 28) (by omega) (by omega)
    refine adv_ok (i := i) (h1.w fun j x z => by rw [sI_ne (by omega), sI_ne (by omega), sI_ne (by omega)]) lt fun R' r1 r2 _ => ?_
    try dsimp only
    rw [if_pos (by decide), inc_n, show i - i0 + 1 = i + 1 - i0 by omega]
    exact hy z R' r1 (pu.cg r2.1 r2.2.2) (r2.2.1.trans (by rw [sI_ne (by omega), sI_ne (by omega), sI_same])) S hS
  · rw [li_8, nI_lt' (by omega) (by omega)] at z
    refine fail_ok h1 fun R' f' => ?_
    try dsimp only
    rw [rZ_0, if_pos rfl]
    exact hf (by omega) R' f'
/-! joints -/
def alR (r : Nat) : Nat := if r = 4 then 4 else r - 1
theorem jo_s {Q : Int32 → CT → CT → Prop} (hu : u ≤ 1) (h : RS P0 c0 M T K n u a i0 d ne k o i W p P R c) (e : knd (T i) = s) (s1 : s ≠ 16) (s2 : s ≠ 29) (r1 : 1 ≤ rkN s) (hp : ∀ x ∈ p, alR (rkN s) < rkN x) (hl : lk W ≤ alR (rkN s)) (hl4 : rkN s = 4 → lk W ≤ 3) (hy : k < 64 → ∀ R', (∀ j x, ¬ (j = 4 ∨ (j = 0 ∧ x = 13)) → R'.1 j x = R.1 j x) → STK R' (W ++ [s]) → Q 1 (adL P u ne p) R') (hf : k = 64 → ∀ P' R', FLc R' 2 (T i).2.1 → Q 0 P' R') : k_X7_readJoint P R u Q := by
  have ad := h.adl hu
  obtain ⟨⟨h1, h2, h3, h4⟩, ⟨p1, p2, p3⟩, ⟨c1, c2, c3, c4⟩, ⟨a1, a2, a3, a4⟩, -⟩ := h
  obtain ⟨shp, kd, k4⟩ := h1.kd
  rw [e] at kd k4
  have r6 := rk_le s
  have l6 := lk_le W
  unfold k_X7_readJoint
  try dsimp only
  rw [jn_eq, kd, if_pos (by rw [show (29 : Int32) = nI 29 from rfl, Ne, nI_eq' (by omega) (by omega)]; exact s2)]
  dsimp only
  rw [kd]
  refine rank_ok (by omega) ?_
  try dsimp only
  rw [jn_eq, if_neg (by rw [li_0, nI_eq' (by omega) (by omega)]; omega), if_pos (by rw [li_16, Ne, nI_eq' (by omega) (by omega)]; exact s1), jn_eq]
  refine rank_ok (k := 32) (by omega) ?_
  have e32 : rkN 32 = 4 := rfl
  rw [e32]
  have fin : ∀ R1 : CT, (∀ j k, ¬ (j = 0 ∧ k = 13) → R1.1 j k = R.1 j k) → STK R1 W → jn (fun (t75 : Int32) (c77 : CT) => rZ t75 (fun t78 => Q t78 (adL P u ne p) c77)) (fun J79 => k_X7_hasRoomForKnot (adL P u ne p) R1 (fun t82 c81 => (if t82 = (0 : Int32) then J79 (0 : Int32) c81 else k_X7_await c81 (c81.1 0 8) (fun t84 c83 => (if t84 = (0 : Int32) then J79 (0 : Int32) c83 else J79 (1 : Int32) c83))))) := fun R1 q1 q2 => by
    have rc : RDc R1 T K n i := h1.w fun j x z => q1 j x (by omega)
    try dsimp only
    rw [jn_eq]
    refine room_ok hu ad.1.1 ad.1.2.1 q2.1 ((q1 0 14 (by omega)).trans c4) (k := k) (by omega) a2 rc (fun k6 => ?_) fun k6 R' f' => ?_
    · try dsimp only
      rw [if_neg (by decide), q1 0 8 (by omega), kd]
      refine await_ok q2 (by omega) ?_
      try dsimp only
      rw [if_neg (by decide), rZ_1]
      refine hy k6 _ (fun j x z => ?_) (q2.push (by omega) (by omega))
      rw [sI_ne (by omega), sI_ne (by omega)]
      exact q1 j x (by omega)
    · try dsimp only
      rw [if_pos rfl, rZ_0]
      exact hf k6 _ _ f'
  unfold alR at hp hl
  by_cases z : rkN s = 4
  · try dsimp only
    rw [if_pos z] at hp hl
    rw [z, if_neg (fun y => y rfl), if_pos (by decide)]
    refine settle_s (a := 4) (by omega) h4 p1 (by omega) hp (lk_at hl) fun R1 q1 q2 => ?_
    try dsimp only
    rw [jn_eq, if_neg (by decide)]
    refine latest_ok q2 ?_
    try dsimp only
    rw [if_pos (by rw [Ne, nI_eq' (by omega) (by omega)]; have := hl4 z; omega)]
    exact fin R1 q1 q2
  · try dsimp only
    rw [if_neg z] at hp hl
    try dsimp only
    rw [if_pos (by rw [Ne, nI_eq' (by omega) (by omega)]; exact z), if_neg (fun y => y rfl), sub1_n r1]
    refine settle_s (a := rkN s - 1) (by omega) h4 p1 (by omega) hp (lk_at hl) fun R1 q1 q2 => ?_
    try dsimp only
    rw [jn_eq, if_pos rfl]
    exact fin R1 q1 q2
theorem go_sg (hu : u ≤ 1) (h : RS P0 c0 M T K n u a i0 d ne k o i W p P R c) (e : knd (T i) = s) (s1 : s ≠ 16) (s2 : s ≠ 29) (r1 : 1 ≤ rkN s) (hp : ∀ x ∈ p, alR (rkN s) < rkN x) (hl : lk W ≤ alR (rkN s)) (hl4 : rkN s = 4 → lk W ≤ 3) (hy : k < 64 → ∀ R', RDc R' T K n (i + 1) → STK R' (W ++ [s]) → R'.1 0 14 = R.1 0 14 → LP4 (clB u Q) 1 (nI (i + 1 - i0)) (adL P u ne p) R') (hf : k = 64 → ∀ P' R', FLc R' 2 (T i).2.1 → Q 0 P' R') : LP4 (clB u Q) 0 (nI (i - i0)) P R := by
  have hh := h
  obtain ⟨⟨h1, h2, h3, h4⟩, -⟩ := h
  obtain ⟨shp, kd, k4⟩ := h1.kd
  rw [e] at kd k4
  have lt : i < K := h1.lt (fun y => by
    rw [← knd_41 shp, e] at y
    subst y
    exact absurd r1 (by decide))
  intro S hS
  refine hS _ _ _ _ ?_
  refine cl_jnt h1 (by omega) kd (by omega) (fun _ => by omega) ?_
  refine jo_s hu hh e s1 s2 r1 hp hl hl4 (fun k6 R1 q1 q2 => ?_) fun k6 P' R' f' => ?_
  · try dsimp only
    rw [if_pos (by decide)]
    refine adv_ok (i := i) (h1.w fun j x z => q1 j x (by omega)) lt fun R' r1 r2 _ => ?_
    try dsimp only
    rw [if_neg s2, inc_n, show i - i0 + 1 = i + 1 - i0 by omega]
    exact hy k6 R' r1 (q2.cg r2.1 r2.2.2) (r2.2.1.trans (q1 0 14 (by omega))) S hS
  · try dsimp only
    rw [if_neg (by decide)]
    exact hf k6 P' R' f'
/-- the latest signs: a comparison, and behind it only closer ones -/
def CmpT (p : List Nat) : Prop := ∃ h x q, p = h ++ x :: q ∧ rkN x = 4 ∧ ∀ y ∈ h, 4 < rkN y
theorem CmpT.app {q : List Nat} (h : CmpT p) : CmpT (p ++ q) := by
  obtain ⟨a, x, b, e, z⟩ := h
  exact ⟨a, x, b ++ q, by rw [e, List.append_assoc]; rfl, z⟩
theorem go_none (hu : u ≤ 1) (h : RS P0 c0 M T K n u a i0 d ne k o i W p P R c) (e : knd (T i) = s) (h29 : s = 29 → o = 0) (hr : 1 ≤ rkN s → s = 16 ∨ (rkN s = 4 ∧ CmpT p)) (ho : o = 0 → 1 ≤ rkN s) (hf : ∀ P' R', FLc R' 1 (T i).2.1 → Q 0 P' R') : LP4 (clB u Q) 0 (nI (i - i0)) P R := by
  obtain ⟨⟨h1, h2, h3, h4⟩, ⟨p1, p2, p3⟩, ⟨c1, c2, c3, c4⟩, ⟨a1, a2, a3, a4⟩, -⟩ := h
  obtain ⟨shp, kd, k4⟩ := h1.kd
  rw [e] at kd k4
  have r6 := rk_le s
  intro S hS
  refine hS _ _ _ _ ?_
  refine cl_jnt h1 (by omega) kd (by omega) (fun y => ?_) ?_
  · have : R.1 0 14 = 0 := Classical.not_not.mp y
    rw [c4, li_0, nI_eq' (by omega) (by omega)] at this
    have := ho this
    omega
  unfold k_X7_readJoint
  try dsimp only
  rw [jn_eq]
  have fin : ∀ P' R1, RDc R1 T K n i → k_X7_fail R1 (1 : Int32) (fun t63 c62 => rZ t63 (fun t64 => (if t64 ≠ (0 : Int32) then k_X7_advance c62 (fun z => S (if s = 29 then 0 else 1) (nI (i - i0) + 1) P' z) else Q (0 : Int32) P' c62))) := fun P' R1 rc => by
    refine fail_ok rc fun R' f' => ?_
    try dsimp only
    rw [rZ_0, if_neg (by decide)]
    exact hf P' R' f'
  have go : k_X7_rank (R.1 0 8) (fun t4 => jn (k_X7_fail R (1 : Int32) (fun t63 c62 => rZ t63 (fun t64 => (if t64 ≠ (0 : Int32) then k_X7_advance c62 (fun z => S (if s = 29 then 0 else 1) (nI (i - i0) + 1) P z) else Q (0 : Int32) P c62)))) (fun (J67 : Prop) => (if t4 = (0 : Int32) then J67 else (if (R.1 0 8) ≠ (16 : Int32) then jn (fun (t69 : Int32) => k_X7_settle P R u (if ¬ (t69 = (0 : Int32)) then t4 else (t4 - (1 : Int32))) (fun c71 c72 => jn (fun (c74 : CT) => jn (fun (t75 : Int32) (c77 : CT) => rZ t75 (fun t78 => (if t78 ≠ (0 : Int32) then k_X7_advance c77 (fun z => S (if s = 29 then 0 else 1) (nI (i - i0) + 1) c71 z) else Q (0 : Int32) c71 c77))) (fun J79 => k_X7_hasRoomForKnot c71 c74 (fun t82 c81 => (if t82 = (0 : Int32) then J79 (0 : Int32) c81 else k_X7_await c81 (c81.1 0 8) (fun t84 c83 => (if t84 = (0 : Int32) then J79 (0 : Int32) c83 else J79 (1 : Int32) c83)))))) (fun J95 => (if t69 = (0 : Int32) then J95 c72 else k_X7_latestWaiting c72 (fun t97 => k_X7_rank t97 (fun t98 => (if t98 ≠ t4 then J95 c72 else k_X7_fail c72 (1 : Int32) (fun t100 c99 => rZ t100 (fun t101 => (if t101 ≠ (0 : Int32) then k_X7_advance c99 (fun z => S (if s = 29 then 0 else 1) (nI (i - i0) + 1) c71 z) else Q (0 : Int32) c71 c99))))))))) ) (fun J112 => k_X7_rank (32 : Int32) (fun t114 => (if t4 ≠ t114 then J112 (0 : Int32) else J112 (1 : Int32)))) else J67)))) := by
    try dsimp only
    rw [kd]
    refine rank_ok (by omega) ?_
    try dsimp only
    rw [jn_eq]
    refine ite_b (fun _ => fin P R h1) fun z => ?_
    rw [li_0, nI_eq' (by omega) (by omega)] at z
    refine ite_b (fun z2 => ?_) fun _ => fin P R h1
    rw [li_16, Ne, nI_eq' (by omega) (by omega)] at z2
    obtain ⟨r4, hp, x, q, ep, rx, hh⟩ := (hr (by omega)).resolve_left z2
    try dsimp only
    rw [jn_eq]
    refine rank_ok (k := 32) (by omega) ?_
    have e32 : rkN 32 = 4 := rfl
    rw [e32, r4, if_neg (fun y => y rfl)]
    dsimp only
    rw [if_pos (show ¬ (1 : Int32) = 0 by decide)]
    have lp : p.length = hp.length + (q.length + 1) := by rw [ep, List.length_append, List.length_cons]
    have st : STK R ((W ++ q.reverse) ++ [x] ++ hp.reverse) := by
      rw [ep, List.reverse_append, List.reverse_cons] at h4
      rw [List.append_assoc, List.append_assoc]
      rw [← List.append_assoc q.reverse]
      rw [List.append_assoc] at h4 ⊢
      exact h4
    refine settle_s (a := 4) (by omega) st p1 (by omega) hh (lk_at (by rw [lk_snoc]; omega)) fun R1 q1 q2 => ?_
    try dsimp only
    rw [jn_eq, if_neg (by decide)]
    refine latest_ok q2 ?_
    try dsimp only
    rw [lk_snoc, rx, if_neg (fun y => y rfl)]
    exact fin _ _ (h1.w fun j x z => q1 j x (by omega))
  refine ite_b (fun _ => go) fun z => ?_
  try dsimp only
  rw [kd, show (29 : Int32) = nI 29 from rfl, Ne, nI_eq' (by omega) (by omega)] at z
  have z := h29 (Classical.not_not.mp z)
  try dsimp only
  rw [if_pos (by rw [c4, z]; decide)]
  exact go
theorem go_shut (hu : u ≤ 1) (h : RS P0 c0 M T K n u a i0 d ne k (o + 1) i (W ++ [28]) p P R c) (e : knd (T i) = 29) (hp : ∀ x ∈ p, 1 ≤ rkN x) (hy : ∀ R', RDc R' T K n (i + 1) → STK R' W → R'.1 0 14 = nI o → LP4 (clB u Q) 0 (nI (i + 1 - i0)) (adL P u ne p) R') : LP4 (clB u Q) 0 (nI (i - i0)) P R := by
  obtain ⟨⟨h1, h2, h3, h4⟩, ⟨p1, p2, p3⟩, ⟨c1, c2, c3, c4⟩, ⟨a1, a2, a3, a4⟩, -⟩ := h
  obtain ⟨shp, kd, k4⟩ := h1.kd
  rw [e] at kd
  rw [knd_29 shp] at e
  have lt := h1.lt (by rw [e.1]; decide)
  have ls : (W ++ [28]).length = W.length + 1 := by rw [List.length_append]; rfl
  intro S hS
  refine hS _ _ _ _ ?_
  refine cl_jnt h1 (by omega) kd (by omega) (fun y => ?_) ?_
  · have : R.1 0 14 = 0 := Classical.not_not.mp y
    rw [c4, li_0, nI_eq' (by omega) (by omega)] at this
    omega
  unfold k_X7_readJoint
  try dsimp only
  rw [jn_eq, kd, if_neg (by decide), c4, if_neg (by rw [li_0, nI_le' (by omega) (by omega)]; omega)]
  refine settle_s (a := 0) (by omega) h4 p1 (by omega) (fun x hx => hp x hx) (lk_at (by rw [lk_snoc]; decide)) fun R1 q1 q2 => ?_
  have s13 := q2.1
  rw [ls] at s13
  have pp := q2.pop
  rw [wrF_eq, wrF_eq, s13, sub1_n (by omega), Nat.add_sub_cancel, sI_ne (by omega), q1 0 14 (by omega), c4, sub1_n (by omega), Nat.add_sub_cancel, if_pos (by decide)]
  refine adv_ok (i := i) (h1.w fun j x z => by rw [sI_ne (by omega), sI_ne (by omega)]; exact q1 j x (by omega)) lt fun R' r1 r2 _ => ?_
  try dsimp only
  rw [inc_n, show i - i0 + 1 = i + 1 - i0 by omega]
  refine hy R' r1 (pp.cg (r2.1.trans (sI_ne (by omega))) fun x => (r2.2.2 x).trans (sI_ne (by omega))) (r2.2.1.trans sI_same) S hS
theorem go_fin (h : RS P0 c0 M T K n u a i0 d ne k 0 i [] p P R c) (e : rkN (knd (T i)) = 0) (hp : ∀ x ∈ p, 1 ≤ rkN x) (hy : ∀ R', RDc R' T K n i → Q 1 (adL P u ne p) R') : LP4 (clB u Q) 0 (nI (i - i0)) P R := by
  obtain ⟨⟨h1, h2, h3, h4⟩, ⟨p1, p2, p3⟩, ⟨c1, c2, c3, c4⟩, ⟨a1, a2, a3, a4⟩, -⟩ := h
  obtain ⟨shp, kd, k4⟩ := h1.kd
  intro S hS
  refine hS _ _ _ _ ?_
  refine cl_end h1 (by omega) kd (by omega) c4 e ?_
  refine settle_s (a := 0) (L := []) (by omega) h4 p1 (by omega) (fun x hx => hp x hx) (lk_at (by decide)) fun R1 q1 q2 => ?_
  exact hy R1 (h1.w fun j x z => q1 j x (by omega))
end ClS
