/-! ===== reading: the rules' lines, the levels of the descent ===== -/
def lrk (lv : Nat) : Nat := if lv = 0 then 1 else if lv = 1 then 2 else if lv = 2 then 3 else if lv = 3 then 5 else if lv = 4 then 6 else 7
def wlv (lv : Nat) : Nat := if lv = 0 then 0 else if lv = 1 then 1 else if lv = 2 then 3 else if lv = 3 then 4 else if lv = 4 then 5 else 6
/-- what may stand behind a level -/
def NX (lv s : Nat) (p : List Nat) : Prop := (lv ≤ 4 → s ≠ 38 ∧ s ≠ 39) ∧ (lv ≤ 3 → s ≠ 36 ∧ s ≠ 37) ∧ (lv ≤ 2 → 30 ≤ s → s ≤ 35 → CmpT p) ∧ (lv ≤ 1 → s ≠ 18) ∧ (lv = 0 → s ≠ 17)
theorem NX.app {lv s : Nat} {p q : List Nat} (h : NX lv s p) : NX lv s (p ++ q) := ⟨h.1, h.2.1, fun a b c => (h.2.2.1 a b c).app, h.2.2.2⟩
/-- one level on both sides -/
def LEV (P0 c0 M : CT) (T : Nat → T4) (K n u a i0 : Nat) (Q : Int32 → CT → CT → Prop) (f lv : Nat) : Prop := ∀ (d ne k o i : Nat) (W : List Nat) (P R c : CT), RS P0 c0 M T K n u a i0 d ne k o i W [] P R c → 6 * (8 - o) + (64 - k) + 7 ≤ f + lv → lk W ≤ wlv lv → (3 ≤ lv → knd (T i) = 16 → 4 ≤ lk W) → (∀ ne' p' k' i' P' R' c', i < i' → k ≤ k' → RS P0 c0 M T K n u a i0 (d + 1) ne' k' o i' W p' P' R' c' → (∀ x ∈ p', lrk lv ≤ rkN x) → NX lv (knd (T i')) p' → (∀ J : CT → Prop, J c' → kg2_X12_expression f lv c J) → LP4 (clB u Q) 0 (nI (i' - i0)) P' R') → (∀ P' R' c' kk pp, kk ≠ 0 → FLc R' kk pp → FLr M c' kk pp → (∀ J : CT → Prop, J c' → kg2_X12_expression f lv c J) → Q 0 P' R') → LP4 (clB u Q) 1 (nI (i - i0)) P R
/-- the signs of a level -/
def jtL (lv s : Nat) : Prop := (lv = 0 ∧ s = 17) ∨ (lv = 1 ∧ s = 18) ∨ (lv = 3 ∧ (s = 36 ∨ s = 37)) ∨ (lv = 4 ∧ (s = 38 ∨ s = 39))
theorem jtL_rk {lv s : Nat} (h : jtL lv s) : rkN s = lrk lv ∧ lrk lv ≠ 4 ∧ 1 ≤ lrk lv ∧ wlv lv = lrk lv - 1 ∧ lrk lv ≤ wlv (lv + 1) ∧ lrk lv ≤ lrk (lv + 1) ∧ (3 ≤ lv + 1 → 1 < lv → 4 ≤ lrk lv) ∧ s ≠ 16 ∧ s ≠ 29 := by
  rcases h with ⟨rfl, rfl⟩ | ⟨rfl, rfl⟩ | ⟨rfl, rfl | rfl⟩ | ⟨rfl, rfl | rfl⟩ <;> decide
section LevS
variable {P0 c0 M P R c : CT} {T : Nat → T4} {K n u a i0 d ne k o i f lv : Nat} {W p : List Nat} {Q : Int32 → CT → CT → Prop}
theorem loop_ok {F : (CT → Prop) → (CT → Prop) → CT → Prop} (hu : u ≤ 1) (hlv : lv = 0 ∨ lv = 1 ∨ lv = 3 ∨ lv = 4) (E : ∀ c i J S, RDr M c T n i → SHP (T i) → ¬ jtL lv (knd (T i)) → J c → F J S c) (G : ∀ c i, RDr M c T n i → SHP (T i) → jtL lv (knd (T i)) → ∃ v, SgV (knd (T i)) v ∧ v ≠ 260 ∧ ∀ J S, k_X12_knot c (fun c16 => k2_X12_goOn c16 (fun c17 => kg2_X12_expression f (lv + 1) c17 (fun c18 => k_X12_puts c18 (2 : Int32) v (fun c19 => S c19)))) → F J S c) (X : ∀ c kk pp J S, FLr M c kk pp → kk ≠ 0 → J c → F J S c) (IH : LEV P0 c0 M T K n u a i0 Q f (lv + 1)) : ∀ (N d ne k o i : Nat) (W p : List Nat) (P R c : CT), K - i < N → RS P0 c0 M T K n u a i0 (d + 1) ne k o i W p P R c → 6 * (8 - o) + (64 - k) + 7 ≤ f + (lv + 1) → lk W ≤ wlv lv → (∀ x ∈ p, lrk lv ≤ rkN x) → NX (lv + 1) (knd (T i)) p → (∀ ne' p' k' i' P' R' c', i ≤ i' → k ≤ k' → RS P0 c0 M T K n u a i0 (d + 1) ne' k' o i' W p' P' R' c' → (∀ x ∈ p', lrk lv ≤ rkN x) → NX lv (knd (T i')) p' → (∀ J : CT → Prop, J c' → LP1 (F J) c) → LP4 (clB u Q) 0 (nI (i' - i0)) P' R') → (∀ P' R' c' kk pp, kk ≠ 0 → FLc R' kk pp → FLr M c' kk pp → (∀ J : CT → Prop, J c' → LP1 (F J) c) → Q 0 P' R') → LP4 (clB u Q) 0 (nI (i - i0)) P R
  | 0, d, ne, k, o, i, W, p, P, R, c, hN, h, fu, lw, hp, nx, hS, hF => absurd hN (Nat.not_lt_zero _)
  | N + 1, d, ne, k, o, i, W, p, P, R, c, hN, h, fu, lw, hp, nx, hS, hF => by
    have hh := h
    obtain ⟨⟨h1, h2, h3, h4⟩, ⟨p1, p2, p3⟩, ⟨c1, c2, c3, c4⟩, ⟨a1, a2, a3, a4⟩, -⟩ := h
    obtain ⟨shp, kd, k4⟩ := h1.kd
    by_cases z : jtL lv (knd (T i))
    · obtain ⟨v, v1, v2, v3⟩ := G c i h2 shp z
      obtain ⟨j1, j2, j3, j4, j5, j6, j7, j8, j9⟩ := jtL_rk z
      have al : alR (rkN (knd (T i))) = lrk lv - 1 := by
        unfold alR
        rw [j1, if_neg j2]
      refine go_sg hu hh rfl j8 j9 (by omega) (fun x hx => by have := hp x hx; omega) (by omega) (by omega) (fun k6 R1 r1 r2 r3 => ?_) fun k6 P' R' f' => ?_
      · have rs1 := hh.jnt hu k6 r1 r2 r3
        have hN' : K - (i + 1) < N := by
          have := r1.2.1
          omega
        refine IH _ _ _ _ _ _ _ _ _ rs1 (by omega) (by rw [lk_snoc]; omega) (fun y _ => by rw [lk_snoc, j1]; exact j7 y (by omega)) (fun ne' p' k' i' P' R' c' b1 b2 b3 b4 b5 b6 => ?_) fun P' R' c' kk pp b1 b2 b3 b4 => ?_
        · have rs2 := b3.put (v := v) a4 v1 (by rw [if_neg v2]; omega)
          try dsimp only
          rw [if_neg v2] at rs2
          obtain ⟨⟨-, t2, -, -⟩, -, ⟨t3, -⟩, ⟨t4, t5, -, -⟩, -⟩ := b3
          have ls : (W ++ [knd (T i)]).length = W.length + 1 := by rw [List.length_append]; rfl
          rw [ls] at t4
          have tr : ∀ J : CT → Prop, LP1 (F J) (putK c' (a + ne' + p'.length) 2 v) → LP1 (F J) c := fun J w S hS' => hS' c (v3 J S (knot_s h2 c2 k6 (goOn_s (h2.s (nrv_0 (by omega)) (by omega)) (b6 _ (puts_s t2 t3 (by omega) (w S hS'))))))
          refine loop_ok hu hlv E G X IH N d ne' k' o i' W (p' ++ [knd (T i)]) P' R' _ (by omega) rs2 (by omega) lw (fun x hx => ?_) b5.app (fun ne2 p2 k2 i2 P2 R2 c2' e1 e2 e3 e4 e5 e6 => ?_) fun P2 R2 c2' kk pp e1 e2 e3 e4 => ?_
          · rcases List.mem_append.mp hx with y | y
            · have := b4 x y
              omega
            · rw [List.mem_singleton.mp y, j1]
              exact Nat.le_refl _
          · exact hS ne2 p2 k2 i2 P2 R2 c2' (by omega) (by omega) e3 e4 e5 fun J j => tr J (e6 J j)
          · exact hF P2 R2 c2' kk pp e1 e2 e3 fun J j => tr J (e4 J j)
        · exact hF P' R' c' kk pp b1 b2 b3 fun J j S hS' => hS' c (v3 J S (knot_s h2 c2 k6 (goOn_s (h2.s (nrv_0 (by omega)) (by omega)) (b4 _ (puts_x b3 b1 (hS' c' (X c' kk pp J S b3 b1 j)))))))
      · have fl : FLr M (flt c 2) 2 (T i).2.1 := h2.fl
        refine hF P' R' (flt c 2) _ _ (by decide) f' fl fun J j S hS' => hS' c (v3 J S (knot_f h2 (by rw [c2, k6]) (goOn_x fl (by decide) (ex_x (by decide) f (lv + 1) (by omega) (by omega) fl (puts_x fl (by decide) (hS' _ (X _ _ _ J S fl (by decide) j)))))))
    · refine hS ne p k i P R c (Nat.le_refl _) (Nat.le_refl _) hh hp ?_ fun J j S hS' => hS' c (E c i J S h2 shp z j)
      unfold jtL at z
      obtain ⟨n1, n2, n3, n4, n5⟩ := nx
      refine ⟨fun y => ?_, fun y => ?_, fun y => ?_, fun y => ?_, fun y => ?_⟩
      · by_cases e : lv = 4
        · omega
        · exact n1 (by omega)
      · by_cases e : lv = 3
        · omega
        · exact n2 (by omega)
      · exact n3 (by omega)
      · by_cases e : lv = 1
        · omega
        · exact n4 (by omega)
      · omega
theorem lev_loop {F : (CT → Prop) → (CT → Prop) → CT → Prop} (hu : u ≤ 1) (hlv : lv = 0 ∨ lv = 1 ∨ lv = 3 ∨ lv = 4) (E : ∀ c i J S, RDr M c T n i → SHP (T i) → ¬ jtL lv (knd (T i)) → J c → F J S c) (G : ∀ c i, RDr M c T n i → SHP (T i) → jtL lv (knd (T i)) → ∃ v, SgV (knd (T i)) v ∧ v ≠ 260 ∧ ∀ J S, k_X12_knot c (fun c16 => k2_X12_goOn c16 (fun c17 => kg2_X12_expression f (lv + 1) c17 (fun c18 => k_X12_puts c18 (2 : Int32) v (fun c19 => S c19)))) → F J S c) (X : ∀ c kk pp J S, FLr M c kk pp → kk ≠ 0 → J c → F J S c) (IH : LEV P0 c0 M T K n u a i0 Q f (lv + 1)) (eq : ∀ (c : CT) (J : CT → Prop), kg2_X12_expression f (lv + 1) c (fun c1 => LP1 (F J) c1) → kg2_X12_expression (f + 1) lv c J) : LEV P0 c0 M T K n u a i0 Q (f + 1) lv := by
  intro d ne k o i W P R c h fu lw n16 hS hF
  have w1 : wlv lv ≤ wlv (lv + 1) ∧ lrk lv ≤ lrk (lv + 1) := by
    rcases hlv with rfl | rfl | rfl | rfl <;> decide
  refine IH d ne k o i W P R c h (by omega) (by omega) (fun y z => n16 (by omega) z) (fun ne' p' k' i' P' R' c' a1 a2 a3 a4 a5 a6 => ?_) fun P' R' c' kk pp a1 a2 a3 a4 => ?_
  · refine loop_ok hu hlv E G X IH (K - i' + 1) d ne' k' o i' W p' P' R' c' (by omega) a3 (by omega) lw (fun x hx => by have := a4 x hx; omega) a5 (fun ne2 p2 k2 i2 P2 R2 c2' e1 e2 e3 e4 e5 e6 => ?_) fun P2 R2 c2' kk pp e1 e2 e3 e4 => ?_
    · exact hS ne2 p2 k2 i2 P2 R2 c2' (by omega) (by omega) e3 e4 e5 fun J j => eq c J (a6 _ (e6 J j))
    · exact hF P2 R2 c2' kk pp e1 e2 e3 fun J j => eq c J (a6 _ (e4 J j))
  · exact hF P' R' c' kk pp a1 a2 a3 fun J j => eq c J (a4 _ fun S hS' => hS' _ (X c' kk pp J S a3 a1 j))
/-! the four loops -/
def lpO (f lv : Nat) (w v : Int32) (J S : CT → Prop) (c7 : CT) : Prop := k_X12_isWord c7 w (fun t15 => (if t15 = (0 : Int32) then J c7 else k_X12_knot c7 (fun c16 => k2_X12_goOn c16 (fun c17 => kg2_X12_expression f lv c17 (fun c18 => k_X12_puts c18 (2 : Int32) v (fun c19 => S c19))))))
def lpS (f lv : Nat) (x y : Int32) (J S : CT → Prop) (c9 : CT) : Prop := jn (vK (c9.1 0 65) (fun v19 => k_X12_knot c9 (fun c20 => k2_X12_goOn c20 (fun c21 => kg2_X12_expression f lv c21 (fun c22 => k_X12_puts c22 (2 : Int32) v19 (fun c23 => S c23)))))) (fun (J30 : Prop) => k_X12_isSign c9 x (fun t32 => (if t32 ≠ (0 : Int32) then J30 else k_X12_isSign c9 y (fun t33 => (if t33 = (0 : Int32) then J c9 else J30)))))
theorem lpO_x {w v kk pp : Int32} {J S : CT → Prop} (g : FLr M c kk pp) (hk : kk ≠ 0) (j : J c) : lpO f lv w v J S c := by
  unfold lpO
  refine isWord_x g hk ?_
  try dsimp only
  rw [if_pos rfl]
  exact j
theorem lpS_x {x y kk pp : Int32} {J S : CT → Prop} (g : FLr M c kk pp) (hk : kk ≠ 0) (j : J c) : lpS f lv x y J S c := by
  unfold lpS
  try dsimp only
  rw [jn_eq]
  refine isSign_x g hk ?_
  try dsimp only
  rw [if_neg fun y => y rfl]
  refine isSign_x g hk ?_
  try dsimp only
  rw [if_pos rfl]
  exact j
theorem lpO_n {w v : Int32} {J S : CT → Prop} (h : RDr M c T n i) (z : ¬ ((T i).2.2.1 = 0 ∧ (T i).2.2.2 = w)) (j : J c) : lpO f lv w v J S c := by
  unfold lpO
  refine isWord_s h (fun y => absurd y z) fun _ => ?_
  try dsimp only
  rw [if_pos rfl]
  exact j
theorem lpO_y {w v : Int32} {J S : CT → Prop} (h : RDr M c T n i) (z : (T i).2.2.1 = 0 ∧ (T i).2.2.2 = w) (j : k_X12_knot c (fun c16 => k2_X12_goOn c16 (fun c17 => kg2_X12_expression f lv c17 (fun c18 => k_X12_puts c18 (2 : Int32) v (fun c19 => S c19))))) : lpO f lv w v J S c := by
  unfold lpO
  refine isWord_s h (fun _ => ?_) fun y => absurd z y
  try dsimp only
  rw [if_neg (by decide)]
  exact j
theorem lpS_n {x y : Int32} {J S : CT → Prop} (h : RDr M c T n i) (z : ¬ ((T i).2.2.1 = 3 ∧ (T i).2.2.2 = x)) (z' : ¬ ((T i).2.2.1 = 3 ∧ (T i).2.2.2 = y)) (j : J c) : lpS f lv x y J S c := by
  unfold lpS
  try dsimp only
  rw [jn_eq]
  refine isSign_s h (fun y => absurd y z) fun _ => ?_
  try dsimp only
  rw [if_neg fun y => y rfl]
  refine isSign_s h (fun y => absurd y z') fun _ => ?_
  try dsimp only
  rw [if_pos rfl]
  exact j
theorem lpS_y {x y : Int32} {J S : CT → Prop} (h : RDr M c T n i) (z : ((T i).2.2.1 = 3 ∧ (T i).2.2.2 = x) ∨ ((T i).2.2.1 = 3 ∧ (T i).2.2.2 = y)) (j : k_X12_knot c (fun c16 => k2_X12_goOn c16 (fun c17 => kg2_X12_expression f lv c17 (fun c18 => k_X12_puts c18 (2 : Int32) (T i).2.2.2 (fun c19 => S c19))))) : lpS f lv x y J S c := by
  unfold lpS
  try dsimp only
  rw [jn_eq, vK_eq, h.2.2.2.1.2.2.2]
  refine isSign_s h (fun _ => ?_) fun w => ?_
  · try dsimp only
    rw [if_pos (by decide)]
    exact j
  · try dsimp only
    rw [if_neg fun y => y rfl]
    refine isSign_s h (fun _ => ?_) fun w' => absurd (z.resolve_left w) w'
    try dsimp only
    rw [if_neg (by decide)]
    exact j
theorem sg_ne {v : Int32} {s : Nat} (h : ∃ q ∈ signL, q.1 = s ∧ v = nI q.2) : SgV s v ∧ v ≠ 260 := by
  refine ⟨Or.inr h, ?_⟩
  obtain ⟨q, q1, q2, q3⟩ := h
  have := sign_ge q q1
  rw [q3, show (260 : Int32) = nI 260 from rfl, Ne, nI_eq' (by omega) (by omega)]
  omega
theorem lev_0 (hu : u ≤ 1) (IH : LEV P0 c0 M T K n u a i0 Q f 1) : LEV P0 c0 M T K n u a i0 Q (f + 1) 0 := by
  refine lev_loop (F := lpO f 1 18 262) hu (by omega) (fun c i J S h s z j => lpO_n h (fun y => z (Or.inl ⟨rfl, by rw [knd_17 s]; exact y⟩)) j) (fun c i h s z => ?_) (fun c kk pp J S g hk j => lpO_x g hk j) IH fun c J w => ?_
  · have e : knd (T i) = 17 := by
      unfold jtL at z
      omega
    refine ⟨262, ?_, by decide, fun J S w => lpO_y h (by rw [knd_17 s] at e; exact e) w⟩
    rw [e]
    exact Or.inr ⟨(17, 262), by decide, rfl, rfl⟩
  · unfold kg2_X12_expression
    exact w
theorem lev_1 (hu : u ≤ 1) (IH : LEV P0 c0 M T K n u a i0 Q f 2) : LEV P0 c0 M T K n u a i0 Q (f + 1) 1 := by
  refine lev_loop (F := lpO f 2 19 261) hu (by omega) (fun c i J S h s z j => lpO_n h (fun y => z (Or.inr (Or.inl ⟨rfl, by rw [knd_18 s]; exact y⟩))) j) (fun c i h s z => ?_) (fun c kk pp J S g hk j => lpO_x g hk j) IH fun c J w => ?_
  · have e : knd (T i) = 18 := by
      unfold jtL at z
      omega
    refine ⟨261, ?_, by decide, fun J S w => lpO_y h (by rw [knd_18 s] at e; exact e) w⟩
    rw [e]
    exact Or.inr ⟨(18, 261), by decide, rfl, rfl⟩
  · unfold kg2_X12_expression
    exact w
theorem lev_3 (hu : u ≤ 1) (IH : LEV P0 c0 M T K n u a i0 Q f 4) : LEV P0 c0 M T K n u a i0 Q (f + 1) 3 := by
  refine lev_loop (F := lpS f 4 43 45) hu (by omega) (fun c i J S h s z j => lpS_n h (fun y => z (Or.inr (Or.inr (Or.inl ⟨rfl, Or.inl (by rw [knd_36 s]; exact y)⟩)))) (fun y => z (Or.inr (Or.inr (Or.inl ⟨rfl, Or.inr (by rw [knd_37 s]; exact y)⟩)))) j) (fun c i h s z => ?_) (fun c kk pp J S g hk j => lpS_x g hk j) IH fun c J w => ?_
  · have e : knd (T i) = 36 ∨ knd (T i) = 37 := by
      unfold jtL at z
      omega
    have sg := knd_sg s (by omega) (by omega)
    have sn := sg_ne sg.2
    refine ⟨(T i).2.2.2, sn.1, sn.2, fun J S w => lpS_y h ?_ w⟩
    rw [knd_36 s, knd_37 s] at e
    exact e
  · unfold kg2_X12_expression
    exact w
theorem lev_4 (hu : u ≤ 1) (IH : LEV P0 c0 M T K n u a i0 Q f 5) : LEV P0 c0 M T K n u a i0 Q (f + 1) 4 := by
  refine lev_loop (F := lpS f 5 42 47) hu (by omega) (fun c i J S h s z j => lpS_n h (fun y => z (Or.inr (Or.inr (Or.inr ⟨rfl, Or.inl (by rw [knd_38 s]; exact y)⟩)))) (fun y => z (Or.inr (Or.inr (Or.inr ⟨rfl, Or.inr (by rw [knd_39 s]; exact y)⟩)))) j) (fun c i h s z => ?_) (fun c kk pp J S g hk j => lpS_x g hk j) IH fun c J w => ?_
  · have e : knd (T i) = 38 ∨ knd (T i) = 39 := by
      unfold jtL at z
      omega
    have sg := knd_sg s (by omega) (by omega)
    have sn := sg_ne sg.2
    refine ⟨(T i).2.2.2, sn.1, sn.2, fun J S w => lpS_y h ?_ w⟩
    rw [knd_38 s, knd_39 s] at e
    exact e
  · unfold kg2_X12_expression
    exact w
/-! not, comparisons -/
def lvC (f : Nat) (Q : CT → Prop) (c45 : CT) : Prop := jn (vK (c45.1 0 65) (fun v47 => k_X12_knot c45 (fun c48 => k2_X12_goOn c48 (fun c49 => kg2_X12_expression f 3 c49 (fun c50 => k_X12_puts c50 (2 : Int32) v47 (fun c51 => Q c51)))))) (fun (J58 : Prop) => (if (c45.1 0 66) ≠ (0 : Int32) then Q c45 else (if (c45.1 0 64) ≠ (3 : Int32) then Q c45 else (if (c45.1 0 65) = (60 : Int32) then J58 else (if (c45.1 0 65) = (62 : Int32) then J58 else (if (c45.1 0 65) = (61 : Int32) then J58 else (if (256 : Int32) ≤ (c45.1 0 65) then J58 else Q c45)))))))
theorem lv2_y {J : CT → Prop} (h : RDr M c T n i) (z : (T i).2.2.1 = 0 ∧ (T i).2.2.2 = 12) (w : k_X12_knot c (fun c83 => k2_X12_goOn c83 (fun c84 => kg2_X12_expression f 2 c84 (fun c85 => k_X12_puts c85 (2 : Int32) (260 : Int32) (fun c86 => J c86))))) : kg2_X12_expression (f + 1) 2 c J := by
  unfold kg2_X12_expression
  refine isWord_s h (fun _ => ?_) fun y => absurd z y
  try dsimp only
  rw [if_neg (by decide)]
  exact w
theorem lv2_n {J : CT → Prop} (h : RDr M c T n i) (z : ¬ ((T i).2.2.1 = 0 ∧ (T i).2.2.2 = 12)) (w : kg2_X12_expression f 3 c (fun x => lvC f J x)) : kg2_X12_expression (f + 1) 2 c J := by
  unfold kg2_X12_expression
  refine isWord_s h (fun y => absurd y z) fun _ => ?_
  try dsimp only
  rw [if_pos rfl]
  exact w
theorem lvC_x {J : CT → Prop} {kk pp : Int32} (g : FLr M c kk pp) (hk : kk ≠ 0) (j : J c) : lvC f J c := by
  unfold lvC
  try dsimp only
  rw [jn_eq, if_pos (by rw [g.2.1]; exact hk)]
  exact j
theorem lvC_n {J : CT → Prop} (h : RDr M c T n i) (s : SHP (T i)) (z : ¬ (30 ≤ knd (T i) ∧ knd (T i) ≤ 35)) (j : J c) : lvC f J c := by
  rw [knd_cmp s] at z
  unfold lvC
  try dsimp only
  rw [jn_eq, h.2.2.2.2.1, if_neg (fun y => y rfl), h.2.2.2.1.2.2.1, h.2.2.2.1.2.2.2]
  refine ite_b (fun _ => j) fun y => ?_
  have y := Classical.not_not.mp y
  try dsimp only
  rw [if_neg fun w => z ⟨y, Or.inl w⟩, if_neg fun w => z ⟨y, Or.inr (Or.inl w)⟩, if_neg fun w => z ⟨y, Or.inr (Or.inr (Or.inl w))⟩, if_neg fun w => z ⟨y, Or.inr (Or.inr (Or.inr w))⟩]
  exact j
theorem lvC_y {J : CT → Prop} (h : RDr M c T n i) (s : SHP (T i)) (z : 30 ≤ knd (T i) ∧ knd (T i) ≤ 35) (j : k_X12_knot c (fun c48 => k2_X12_goOn c48 (fun c49 => kg2_X12_expression f 3 c49 (fun c50 => k_X12_puts c50 (2 : Int32) (T i).2.2.2 (fun c51 => J c51))))) : lvC f J c := by
  rw [knd_cmp s] at z
  unfold lvC
  try dsimp only
  rw [jn_eq, h.2.2.2.2.1, if_neg (fun y => y rfl), h.2.2.2.1.2.2.1, if_neg (fun y => y z.1), vK_eq, h.2.2.2.1.2.2.2]
  refine ite_b (fun _ => j) fun y1 => ite_b (fun _ => j) fun y2 => ite_b (fun _ => j) fun y3 => ?_
  try dsimp only
  rw [if_pos (((z.2.resolve_left y1).resolve_left y2).resolve_left y3)]
  exact j
theorem lev_2 (hu : u ≤ 1) (I2 : LEV P0 c0 M T K n u a i0 Q f 2) (I3 : LEV P0 c0 M T K n u a i0 Q f 3) : LEV P0 c0 M T K n u a i0 Q (f + 1) 2 := by
  intro d ne k o i W P R c h fu lw n16 hS hF
  have hh := h
  obtain ⟨⟨h1, h2, h3, h4⟩, ⟨p1, p2, p3⟩, ⟨c1, c2, c3, c4⟩, ⟨a1, a2, a3, a4⟩, -⟩ := h
  obtain ⟨shp, kd, k4⟩ := h1.kd
  have lw : lk W ≤ 3 := lw
  by_cases e : knd (T i) = 16
  · have w := e
    rw [knd_16 shp] at w
    refine go_not hu hh e lw (fun k6 R1 r1 r2 r3 => ?_) fun k6 R' f' => ?_
    · have rs1 : RS P0 c0 M T K n u a i0 d ne (k + 1) o (i + 1) (W ++ [16]) [] P R1 (wTk (sI c 0 58 (nI (k + 1))) (T (i + 1))) := hh.jnt hu k6 r1 r2 r3
      refine I2 _ _ _ _ _ _ _ _ _ rs1 (by omega) (by rw [lk_snoc]; decide) (fun y _ => absurd y (by omega)) (fun ne' p' k' i' P' R' c' b1 b2 b3 b4 b5 b6 => ?_) fun P' R' c' kk pp b1 b2 b3 b4 => ?_
      · have rs2 := b3.put (v := 260) a4 (Or.inl ⟨rfl, rfl⟩) (by rw [if_pos rfl]; omega)
        try dsimp only
        rw [if_pos rfl] at rs2
        obtain ⟨⟨-, t2, -, -⟩, -, ⟨t3, -⟩, ⟨t4, t5, -, -⟩, -⟩ := b3
        have ls : (W ++ [16]).length = W.length + 1 := by rw [List.length_append]; rfl
        rw [ls] at t4
        refine hS ne' (p' ++ [16]) k' i' P' R' _ (by omega) (by omega) rs2 (fun x hx => ?_) b5.app fun J j => lv2_y h2 w (knot_s h2 c2 k6 (goOn_s (h2.s (nrv_0 (by omega)) (by omega)) (b6 _ (puts_s t2 t3 (by omega) j))))
        rcases List.mem_append.mp hx with y | y
        · exact b4 x y
        · rw [List.mem_singleton.mp y]
          decide
      · exact hF P' R' c' kk pp b1 b2 b3 fun J j => lv2_y h2 w (knot_s h2 c2 k6 (goOn_s (h2.s (nrv_0 (by omega)) (by omega)) (b4 _ (puts_x b3 b1 j))))
    · have fl : FLr M (flt c 2) 2 (T i).2.1 := h2.fl
      exact hF P R' (flt c 2) _ _ (by decide) f' fl fun J j => lv2_y h2 w (knot_f h2 (by rw [c2, k6]) (goOn_x fl (by decide) (ex_x (by decide) f 2 (by omega) (by omega) fl (puts_x fl (by decide) j))))
  · have w : ¬ ((T i).2.2.1 = 0 ∧ (T i).2.2.2 = 12) := by
      rw [← knd_16 shp]
      exact e
    refine I3 d ne k o i W P R c hh (by omega) (by show lk W ≤ 4; omega) (fun _ y => absurd y e) (fun ne1 p1' k1 i1 P1 R1 x1 b1 b2 b3 b4 b5 b6 => ?_) fun P' R' c' kk pp b1 b2 b3 b4 => ?_
    · have b4' : ∀ x ∈ p1', 5 ≤ rkN x := b4
      have bb := b3
      obtain ⟨⟨g1, g2, g3, g4⟩, -, ⟨e1, e2, e3, e4⟩, ⟨f1, f2, f3, f4⟩, -⟩ := b3
      obtain ⟨shp1, kd1, k41⟩ := g1.kd
      by_cases z : 30 ≤ knd (T i1) ∧ knd (T i1) ≤ 35
      · have r4 : rkN (knd (T i1)) = 4 := by
          unfold rkN
          try dsimp only
          rw [if_neg (by omega), if_neg (by omega), if_neg (by omega), if_pos z]
        have sg := knd_sg shp1 (by omega) (by omega)
        have sn := sg_ne sg.2
        refine go_sg hu bb rfl (by omega) (by omega) (by omega) (fun x hx => by rw [r4]; exact b4' x hx) (by rw [r4]; show lk W ≤ 4; omega) (fun _ => lw) (fun k6 R2 r1 r2 r3 => ?_) fun k6 P' R' f' => ?_
        · have rs1 := bb.jnt hu k6 r1 r2 r3
          refine I3 _ _ _ _ _ _ _ _ _ rs1 (by omega) (by rw [lk_snoc, r4]; exact Nat.le_refl _) (fun _ _ => by rw [lk_snoc, r4]; exact Nat.le_refl _) (fun ne' p' k' i' P' R' c' q1 q2 q3 q4 q5 q6 => ?_) fun P' R' c' kk pp q1 q2 q3 q4 => ?_
          · have rs2 := q3.put (v := (T i1).2.2.2) f4 sn.1 (by rw [if_neg sn.2]; omega)
            try dsimp only
            rw [if_neg sn.2] at rs2
            obtain ⟨⟨-, t2, -, -⟩, -, ⟨t3, -⟩, ⟨t4, t5, -, -⟩, -⟩ := q3
            have ls : (W ++ [knd (T i1)]).length = W.length + 1 := by rw [List.length_append]; rfl
            rw [ls] at t4
            have q4' : ∀ x ∈ p', 5 ≤ rkN x := q4
            refine hS ne' (p' ++ [knd (T i1)]) k' i' P' R' _ (by omega) (by omega) rs2 (fun x hx => ?_) ⟨fun _ => q5.1 (by omega), fun _ => q5.2.1 (by omega), fun _ _ _ => ⟨p', knd (T i1), [], rfl, r4, fun y hy => q4' y hy⟩, fun y => absurd y (by omega), fun y => absurd y (by omega)⟩ fun J j => lv2_n h2 w (b6 _ (lvC_y g2 shp1 z (knot_s g2 e2 k6 (goOn_s (g2.s (nrv_0 (by omega)) (by omega)) (q6 _ (puts_s t2 t3 (by omega) j))))))
            show 3 ≤ rkN x
            rcases List.mem_append.mp hx with y | y
            · have := q4' x y
              omega
            · rw [List.mem_singleton.mp y]
              omega
          · exact hF P' R' c' kk pp q1 q2 q3 fun J j => lv2_n h2 w (b6 _ (lvC_y g2 shp1 z (knot_s g2 e2 k6 (goOn_s (g2.s (nrv_0 (by omega)) (by omega)) (q4 _ (puts_x q3 q1 j))))))
        · have fl : FLr M (flt x1 2) 2 (T i1).2.1 := g2.fl
          exact hF P' R' (flt x1 2) _ _ (by decide) f' fl fun J j => lv2_n h2 w (b6 _ (lvC_y g2 shp1 z (knot_f g2 (by rw [e2, k6]) (goOn_x fl (by decide) (ex_x (by decide) f 3 (by omega) (by omega) fl (puts_x fl (by decide) j))))))
      · refine hS ne1 p1' k1 i1 P1 R1 x1 b1 b2 bb (fun x hx => ?_) ⟨fun _ => b5.1 (by omega), fun _ => b5.2.1 (by omega), fun _ y1 y2 => absurd ⟨y1, y2⟩ z, fun y => absurd y (by omega), fun y => absurd y (by omega)⟩ fun J j => lv2_n h2 w (b6 _ (lvC_n g2 shp1 z j))
        show 3 ≤ rkN x
        have := b4' x hx
        omega
    · exact hF P' R' c' kk pp b1 b2 b3 fun J j => lv2_n h2 w (b4 _ (lvC_x b3 b1 j))
end LevS
