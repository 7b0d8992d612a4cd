/-! ===== a day, as both do it ===== -/
def bitI (x : Int32) (D : Nat) : Bool := (nv x).testBit (D % 7)
/-- what the names say, by the rows B -/
def fcB (V B : VW) (kn : Nat → Int32) (D i : Nat) (x : Int32) : Int64 := if x = 13 then (V 26 i).toInt64 else if x = 20 then (nI D - B 2 i).toInt64 else if x = 21 then (B 3 i * V 26 i - (B 8 i + kn i)).toInt64 else if x = 22 then (B 3 i).toInt64 else if x = 23 then (V 24 i).toInt64 else (nI D).toInt64
theorem fcB_in (V B : VW) (kn : Nat → Int32) (D i : Nat) (x : Int32) : inL (fcB V B kn D i x) := by
  unfold fcB
  split
  · exact in_i32 _
  split
  · exact in_i32 _
  split
  · exact in_i32 _
  split
  · exact in_i32 _
  split
  · exact in_i32 _
  · exact in_i32 _
def ruB (V B : VW) (kn : Nat → Int32) (D i a n : Nat) : Prop := rulS (fun k => V 31 (a + k)) (fun k => V 32 (a + k)) (fcB V B kn D i) n
theorem rem7 {D : Nat} {Q : Int32 → Prop} (h : D < 2 ^ 31) : rmI (nI D) 7 Q = Q (nI (D % 7)) := by
  rw [rmI_eq (by decide), li_7, pk_rem h (by decide) (by decide)]
theorem wk_bit {x : Int32} {b D : Nat} (hx : x = nI b) (hb : b < 128) : (x >>> (nI (D % 7) &&& 31)) &&& 1 = if bitI x D = true then 1 else 0 := by
  have h7 := Nat.mod_lt D (show 0 < 7 by decide)
  unfold bitI
  rw [hx, bit_n (by omega) (by omega), nv_n (by omega)]
/-- who is left out with a letter -/
def outS (V B : VW) (kn : Nat → Int32) (D i b k : Nat) : Prop := bitI (V 25 i) D = true ∨ (V 27 i ≠ 0 ∧ ¬ bitI (V 29 i) D = true) ∨ (0 < k ∧ ¬ ruB V B kn D i b k)
/-- where a house is put among those that wait: behind those that wait as long or longer, looked for from the end -/
def posF (d : Nat → Int32) (T : Nat → Nat) (i : Nat) : Nat → Nat
  | 0 => 0
  | p + 1 => if d (T p) ≤ d i then p + 1 else posF d T i p
def insF (T : Nat → Nat) (p i : Nat) : Nat → Nat := fun k => if k < p then T k else if k = p then i else T (k - 1)
abbrev LSt : Type := VW × Nat × (Nat → Nat)
noncomputable def lsB (V : VW) (kn : Nat → Int32) (D man b k : Nat) (B0 : VW) : Nat → LSt
  | 0 => (B0, 0, fun _ => 0)
  | i + 1 => let s := lsB V kn D man b k B0 i
    if B0 1 i = nI man ∧ B0 2 i ≤ nI D then @ite _ (outS V s.1 kn D i b k) (Classical.propDecidable _) (up2 s.1 4 i (s.1 4 i + 1), s.2) (s.1, s.2.1 + 1, insF s.2.2 (posF (B0 2) s.2.2 i s.2.1) i) else s
theorem lsB_s {V : VW} {kn : Nat → Int32} {D man b k : Nat} {B0 : VW} {i : Nat} : lsB V kn D man b k B0 (i + 1) = if B0 1 i = nI man ∧ B0 2 i ≤ nI D then @ite _ (outS V (lsB V kn D man b k B0 i).1 kn D i b k) (Classical.propDecidable _) (up2 (lsB V kn D man b k B0 i).1 4 i ((lsB V kn D man b k B0 i).1 4 i + 1), (lsB V kn D man b k B0 i).2) ((lsB V kn D man b k B0 i).1, (lsB V kn D man b k B0 i).2.1 + 1, insF (lsB V kn D man b k B0 i).2.2 (posF (B0 2) (lsB V kn D man b k B0 i).2.2 i (lsB V kn D man b k B0 i).2.1) i) else lsB V kn D man b k B0 i := rfl
def hmS (V : VW) (man i : Nat) : Int32 := aI (V 17 man - V 23 i) + 10 * aI (V 16 man - V 22 i)
def btS (V : VW) (a i : Nat) : Int32 := aI (V 23 a - V 23 i) + 10 * aI (V 22 a - V 22 i)
/-- rows behind a wipe -/
def wpB (V B : VW) (kn : Nat → Int32) (D i : Nat) : VW :=
  let B1 := up2 (up2 (up2 (up2 B 3 i (B 3 i + 1)) 7 i (nI D)) 2 i (nI D + 7 * V 24 i)) 6 i 0
  if bitI (V 29 i) D = true then up2 B1 8 i (B 8 i + mxI 0 ((B 3 i + 1) * V 26 i - (B 8 i + kn i))) else B1
abbrev GSt : Type := Int32 × Int32 × VW × List (Nat × Nat)
def wkS (V : VW) (man i : Nat) (wh : Int32) : Int32 := if wh = -1 then hmS V man i else btS V (nv wh) i
def goB (V : VW) (kn tk : Nat → Int32) (D man : Nat) (T : Nat → Nat) (s0 : GSt) : Nat → GSt
  | 0 => s0
  | j + 1 => let s := goB V kn tk D man T s0 j
    if wkS V man (T j) s.2.1 + tk (T j) + hmS V man (T j) ≤ s.1 then (s.1 - (wkS V man (T j) s.2.1 + tk (T j)), nI (T j), wpB V s.2.2.1 kn D (T j), s.2.2.2 ++ [(T j, man)]) else s
theorem goB_s {V : VW} {kn tk : Nat → Int32} {D man : Nat} {T : Nat → Nat} {s0 : GSt} {j : Nat} : goB V kn tk D man T s0 (j + 1) = if wkS V man (T j) (goB V kn tk D man T s0 j).2.1 + tk (T j) + hmS V man (T j) ≤ (goB V kn tk D man T s0 j).1 then ((goB V kn tk D man T s0 j).1 - (wkS V man (T j) (goB V kn tk D man T s0 j).2.1 + tk (T j)), nI (T j), wpB V (goB V kn tk D man T s0 j).2.2.1 kn D (T j), (goB V kn tk D man T s0 j).2.2.2 ++ [(T j, man)]) else goB V kn tk D man T s0 j := rfl
/-! the class: its rows, and what stays -/
def KBr (K0 K : CT) (B : VW) (L : List (Nat × Nat)) (h D : Nat) : Prop := (∀ i j, i < h → 1 ≤ j → j ≤ 8 → K.1 j i = B j i) ∧ K.1 9 D = nI (mskL (L.map Prod.fst)) ∧ (∀ b, b < 3 → K.2 10 (3 * D + b) = lN (encL ((L.filter fun p => decide (p.2 = b)).map Prod.fst))) ∧ (∀ j k, (j = 0 ∨ (9 ≤ j ∧ j ≤ 13)) → ¬ (j = 9 ∧ k = D) → K.1 j k = K0.1 j k) ∧ ∀ j k, ¬ (j = 10 ∧ 3 * D ≤ k ∧ k < 3 * D + 3) → K.2 j k = K0.2 j k
theorem KBr.up {K0 K : CT} {B : VW} {L : List (Nat × Nat)} {h D j i : Nat} {x : Int32} (g : KBr K0 K B L h D) (hj : 1 ≤ j ∧ j ≤ 8) : KBr K0 (sI K j i x) (up2 B j i x) L h D := by
  obtain ⟨g1, g2, g3, g4, g5⟩ := g
  refine ⟨fun i' j' a b c => ?_, ?_, g3, fun j' k' a b => ?_, g5⟩
  · rw [sI_at]
    unfold up2
    split
    · rfl
    · exact g1 i' j' a b c
  · rw [sI_ne (by omega)]
    exact g2
  · rw [sI_ne (by omega)]
    exact g4 j' k' a b
section DayC
variable {P K0 K W M : CT} {V B : VW} {L : List (Nat × Nat)} {kn tk : Nat → Int32} {l q f m h D : Nat}
theorem letsIn_ok {i : Nat} {Q : Int32 → Prop} (g : PHou P.1 V f m i) : k_X4_letsIn P i (nI (D % 7)) Q = Q (if bitI (V 25 i) D = true ∨ (V 27 i ≠ 0 ∧ ¬ bitI (V 29 i) D = true) then 0 else 1) := by
  obtain ⟨-, -, -, -, -, ⟨e6, b6, h6, v6⟩, -, ⟨e8, z8⟩, -, ⟨e10, b10, h10, v10⟩⟩ := g
  unfold k_X4_letsIn k_X4_isOpen
  simp only [jn_eq, e6, e8, e10, wk_bit v6 h6, wk_bit v10 h10, it1n, it10, Classical.not_not, rZ_ite]
  by_cases c1 : bitI (V 25 i) D = true
  · rw [if_pos c1, if_pos (Or.inl c1), rZ_0]
  · rw [if_neg c1]
    by_cases c2 : V 27 i = 0
    · rw [if_pos c2, if_neg (fun z => z.elim c1 fun y => y.1 c2), rZ_1]
    · rw [if_neg c2]
      by_cases c3 : bitI (V 29 i) D = true
      · simp only [c3, if_true, i1z, if_false, rZ_1, not_true_eq_false, and_false, or_false, c1, Bool.false_eq_true]
      · simp only [c3, if_false, if_true, rZ_0, c1, c2, ne_eq, not_false_eq_true, and_self, or_true, Bool.false_eq_true]
theorem isOpenC {i : Nat} {Q : Int32 → Prop} (g : PHou P.1 V f m i) : k_X4_isOpen P i (nI (D % 7)) Q = Q (if bitI (V 29 i) D = true then 1 else 0) := by
  obtain ⟨-, -, -, -, -, -, -, -, -, ⟨e10, b10, h10, v10⟩⟩ := g
  unfold k_X4_isOpen
  simp only [e10, wk_bit v10 h10, it10, Classical.not_not, rZ_ite]
theorem owesC {i : Nat} {Q : Int32 → Prop} (g : PHou P.1 V f m i) (hi : i < 10) (h1 : W.1 1 i = kn i) : k_X10_owes P K W (nI i) Q = Q (K.1 3 i * V 26 i - (K.1 8 i + kn i)) := by
  unfold k_X10_owes
  simp (disch := omega) only [rdI_n, ixN_n, g.2.2.2.2.2.2.1.1, h1, i32_ss]
theorem holds_ok {i r a n : Nat} {Q : Int32 → CT → Prop} (g : PHou P.1 V f m i) (hi : i < 10) (hr : r < 2) (hn : P.1 (11 + 2 * r) 0 = nI n) (h0 : 0 < n) (hR : RulR (P.1 (11 + 2 * r + 1)) V a n) (h1 : W.1 1 i = kn i) (e2 : K.1 2 i = B 2 i) (e3 : K.1 3 i = B 3 i) (e8 : K.1 8 i = B 8 i)
    (hQ : ∀ W', W'.1 = W.1 → (ruB V B kn D i a n → Q 1 W') ∧ (¬ ruB V B kn D i a n → Q 0 W')) : k_X10_holds P K W r (nI i) (nI D) Q := by
  unfold k_X10_holds
  rw [show (0 : Int32) = nI 0 from rfl, show (1 : Int32) = nI 1 from rfl, show (2 : Int32) = nI 2 from rfl, show (3 : Int32) = nI 3 from rfl, show (4 : Int32) = nI 4 from rfl, show (5 : Int32) = nI 5 from rfl]
  simp (disch := omega) only [rdI_n, wrL_n, ixN_n, owesC (kn := kn) g hi (W := sL W _ _ _) h1, g.2.2.2.2.2.2.1.1, g.2.2.2.2.1.1, e2, e3, e8]
  refine work_ok (fc := fcB V B kn D i) hr hn h0 hR (fcB_in V B kn D i) ?_ fun z W' hX c1 c2 => ?_
  · intro p hp
    simp only [nameL, List.mem_cons, List.not_mem_nil, or_false] at hp
    rcases hp with rfl | rfl | rfl | rfl | rfl | rfl
    · show _ = fcB V B kn D i (nI 20)
      unfold fcB
      rw [if_neg (by decide), if_pos (by decide)]
      show (sL _ _ _ _).2 4 0 = _
      rw [sL_ne (by decide), sL_ne (by decide), sL_ne (by decide), sL_ne (by decide), sL_ne (by decide), sL_same]
    · show _ = fcB V B kn D i (nI 21)
      unfold fcB
      rw [if_neg (by decide), if_neg (by decide), if_pos (by decide)]
      show (sL _ _ _ _).2 4 1 = _
      rw [sL_ne (by decide), sL_ne (by decide), sL_ne (by decide), sL_ne (by decide), sL_same]
    · show _ = fcB V B kn D i (nI 22)
      unfold fcB
      rw [if_neg (by decide), if_neg (by decide), if_neg (by decide), if_pos (by decide)]
      show (sL _ _ _ _).2 4 2 = _
      rw [sL_ne (by decide), sL_ne (by decide), sL_ne (by decide), sL_same]
    · show _ = fcB V B kn D i (nI 13)
      unfold fcB
      rw [if_pos (by decide)]
      show (sL _ _ _ _).2 4 3 = _
      rw [sL_ne (by decide), sL_ne (by decide), sL_same]
    · show _ = fcB V B kn D i (nI 23)
      unfold fcB
      rw [if_neg (by decide), if_neg (by decide), if_neg (by decide), if_neg (by decide), if_pos (by decide)]
      show (sL _ _ _ _).2 4 4 = _
      rw [sL_ne (by decide), sL_same]
    · show _ = fcB V B kn D i (nI 24)
      unfold fcB
      rw [if_neg (by decide), if_neg (by decide), if_neg (by decide), if_neg (by decide), if_neg (by decide)]
      show (sL _ _ _ _).2 4 5 = _
      rw [sL_same]
  · have hW : W'.1 = W.1 := hX.1
    have q := hQ W' hW
    by_cases hru : ruB V B kn D i a n
    · obtain ⟨z1, z2⟩ := c1 hru
      rw [if_pos ⟨fun e => z1 ((lg_cmp_eq _ _).mp e), fun e => err_out (by rw [← (lg_cmp_eq _ _).mp e]; exact z2)⟩]
      show rZ 1 _
      rw [rZ_1]
      exact q.1 hru
    · rw [if_neg]
      · show rZ 0 _
        rw [rZ_0]
        exact q.2 hru
      · rintro ⟨y1, y2⟩
        rcases c2 hru with e | e
        · exact y1 ((lg_cmp_eq _ _).mpr e)
        · exact y2 ((lg_cmp_eq _ _).mpr e)
end DayC
