/-! ===== what holds of the rows all day ===== -/
theorem nodup_le : ∀ (h : Nat) (l : List Nat), l.Nodup → (∀ a ∈ l, a < h) → l.length ≤ h
  | 0, l, _, ha => by
    cases l with
    | nil => exact Nat.le_refl 0
    | cons a r => exact absurd (ha a List.mem_cons_self) (Nat.not_lt_zero a)
  | h + 1, l, hn, ha => by
    by_cases hm : h ∈ l
    · have ih := nodup_le h (l.erase h) (hn.erase h) fun a q => by
        have q1 := (List.Nodup.mem_erase_iff hn).mp q
        have := ha a q1.2
        omega
      rw [List.length_erase_of_mem hm] at ih
      omega
    · have ih := nodup_le h l hn fun a q => by
        have := ha a q
        have : a ≠ h := fun e => hm (by rw [← e]; exact q)
        omega
      omega
/-- numbers of a house in bounds -/
def NBo (B : VW) (m i : Nat) : Prop := (∃ a : Nat, a < m ∧ B 1 i = nI a) ∧ (∃ d t p : Nat, d ≤ 262 ∧ (7 * t ≤ d ∧ t ≤ 29) ∧ p ≤ 999 * t ∧ B 2 i = nI d ∧ B 3 i = nI t ∧ B 8 i = nI p) ∧ (B 6 i = 0 ∨ B 6 i = 1)
def DI (B : VW) (L : List (Nat × Nat)) (h m D : Nat) : Prop := (∀ i, i < h → NBo B m i) ∧ (∀ p ∈ L, p.1 < h ∧ p.2 < m) ∧ (L.map Prod.fst).Nodup ∧ ∀ a ∈ L.map Prod.fst, ¬ B 2 a ≤ nI D
theorem DI.len {B : VW} {L : List (Nat × Nat)} {h m D : Nat} (g : DI B L h m D) : L.length ≤ h := by
  have := nodup_le h (L.map Prod.fst) g.2.2.1 fun a ha => by
    rw [List.mem_map] at ha
    obtain ⟨p, hp, rfl⟩ := ha
    exact (g.2.1 p hp).1
  rwa [List.length_map] at this
theorem DI.lt {B : VW} {L : List (Nat × Nat)} {h m D : Nat} (g : DI B L h m D) : ∀ a ∈ L.map Prod.fst, a < h := fun a ha => by
  rw [List.mem_map] at ha
  obtain ⟨p, hp, rfl⟩ := ha
  exact (g.2.1 p hp).1
theorem up2_at {B : VW} {j k j' k' : Nat} {x : Int32} : up2 B j k x j' k' = if j' = j ∧ k' = k then x else B j' k' := rfl
section Abs
variable {V B : VW} {L : List (Nat × Nat)} {kn tk : Nat → Int32} {h m D : Nat}
theorem wpB_o {i j x : Nat} (hx : x ≠ i) : wpB V B kn D i j x = B j x := by
  unfold wpB
  split
  · rw [up2_at, if_neg (by omega), up2_at, if_neg (by omega), up2_at, if_neg (by omega), up2_at, if_neg (by omega), up2_at, if_neg (by omega)]
  · rw [up2_at, if_neg (by omega), up2_at, if_neg (by omega), up2_at, if_neg (by omega), up2_at, if_neg (by omega)]
theorem wpB_2 {i : Nat} : wpB V B kn D i 2 i = nI D + 7 * V 24 i := by
  unfold wpB
  split
  · rw [up2_at, if_neg (by omega), up2_at, if_neg (by omega), up2_at, if_pos ⟨rfl, rfl⟩]
  · rw [up2_at, if_neg (by omega), up2_at, if_pos ⟨rfl, rfl⟩]
theorem wpB_3 {i : Nat} : wpB V B kn D i 3 i = B 3 i + 1 := by
  unfold wpB
  split
  · rw [up2_at, if_neg (by omega), up2_at, if_neg (by omega), up2_at, if_neg (by omega), up2_at, if_neg (by omega), up2_at, if_pos ⟨rfl, rfl⟩]
  · rw [up2_at, if_neg (by omega), up2_at, if_neg (by omega), up2_at, if_neg (by omega), up2_at, if_pos ⟨rfl, rfl⟩]
theorem wpB_6 {i : Nat} : wpB V B kn D i 6 i = 0 := by
  unfold wpB
  split
  · rw [up2_at, if_neg (by omega), up2_at, if_pos ⟨rfl, rfl⟩]
  · rw [up2_at, if_pos ⟨rfl, rfl⟩]
theorem wpB_1 {i x : Nat} : wpB V B kn D i 1 x = B 1 x := by
  unfold wpB
  split
  · rw [up2_at, if_neg (by omega), up2_at, if_neg (by omega), up2_at, if_neg (by omega), up2_at, if_neg (by omega), up2_at, if_neg (by omega)]
  · rw [up2_at, if_neg (by omega), up2_at, if_neg (by omega), up2_at, if_neg (by omega), up2_at, if_neg (by omega)]
theorem wpB_8 {i : Nat} : wpB V B kn D i 8 i = if bitI (V 29 i) D = true then B 8 i + mxI 0 ((B 3 i + 1) * V 26 i - (B 8 i + kn i)) else B 8 i := by
  unfold wpB
  split
  · rw [up2_at, if_pos ⟨rfl, rfl⟩]
  · rw [up2_at, if_neg (by omega), up2_at, if_neg (by omega), up2_at, if_neg (by omega), up2_at, if_neg (by omega)]
theorem mx_sub {a b : Nat} (ha : a < 2 ^ 30) (hb : b < 2 ^ 30) : mxI 0 (nI a - nI b) = nI (a - b) := by
  unfold mxI
  by_cases h : b ≤ a
  · rw [pk_sub h]
    by_cases e : a - b = 0
    · rw [e]
      rfl
    · rw [if_pos (by rw [show (0 : Int32) = nI 0 from rfl, nI_lt' (by omega) (by omega)]; omega)]
  · have hn := pk_sneg (a := a) (b := b) hb (by omega)
    rw [if_neg (fun z => Int32.lt_irrefl (Int32.lt_trans z hn)), show a - b = 0 by omega]
    rfl
theorem due_gt {e : Nat} (he : 1 ≤ e) (h9 : e ≤ 9) (hD : D < 200) : ¬ nI D + 7 * nI e ≤ nI D := by
  rw [li_7, pk_mul, nI_add, nI_le' (by omega) (by omega)]
  omega
theorem wpB_DI {i man f : Nat} {P : CT} (hD : D < 200) (hh : h ≤ 10) (hm3 : m ≤ 3) (g : DI B L h m D) (gp : PHou P.1 V f m i) (hi : i < h) (hm : man < m) (hdue : B 2 i ≤ nI D) (hk : ∃ s : Nat, s ≤ 600000 ∧ kn i = nI s) : DI (wpB V B kn D i) (L ++ [(i, man)]) h m D := by
  obtain ⟨g1, g2, g3, g4⟩ := g
  obtain ⟨-, -, -, -, ⟨-, e, he1, he9, v24⟩, -, ⟨-, p, hp, v26⟩, -, -, -⟩ := gp
  have hni : i ∉ L.map Prod.fst := fun q => g4 i q hdue
  refine ⟨fun x hx => ?_, fun p hp => ?_, ?_, fun a ha => ?_⟩
  · by_cases ex : x = i
    · subst ex
      obtain ⟨n1, ⟨d, t, pd, hd, ht, hpd, ed, et, ep⟩, -⟩ := g1 x hx
      have hdD : d ≤ D := by rw [ed, nI_le' (by omega) (by omega)] at hdue; exact hdue
      refine ⟨by rw [wpB_1]; exact n1, ?_, Or.inl wpB_6⟩
      rw [wpB_2, wpB_3, wpB_8, v24, et, ep]
      have e2 : nI D + 7 * nI e = nI (D + 7 * e) := by rw [li_7, pk_mul, nI_add]
      rw [e2, nI_1]
      split
      · obtain ⟨s, hs, es⟩ := hk
        have hmul : (t + 1) * p ≤ (t + 1) * 999 := Nat.mul_le_mul_left _ hp
        rw [v26, es, pk_mul, nI_add, mx_sub (by omega) (by omega), nI_add]
        exact ⟨D + 7 * e, t + 1, _, by omega, by omega, by omega, rfl, rfl, rfl⟩
      · exact ⟨D + 7 * e, t + 1, pd, by omega, by omega, by omega, rfl, rfl, rfl⟩
    · have := g1 x hx
      unfold NBo at this ⊢
      rw [wpB_o ex, wpB_o ex, wpB_o ex, wpB_o ex, wpB_o ex]
      exact this
  · rcases List.mem_append.mp hp with q | q
    · exact g2 p q
    · rw [List.mem_singleton] at q
      rw [q]
      exact ⟨hi, hm⟩
  · rw [List.map_append, List.nodup_append]
    refine ⟨g3, by simp, fun a ha b hb => ?_⟩
    simp at hb
    rw [hb]
    exact fun q => hni (by rw [← q]; exact ha)
  · by_cases ex : a = i
    · subst ex
      rw [wpB_2, v24]
      exact due_gt he1 he9 hD
    · rw [wpB_o ex]
      rw [List.map_append] at ha
      rcases List.mem_append.mp ha with q | q
      · exact g4 a q
      · simp at q
        exact absurd q ex
theorem lsB_inj {man b k : Nat} {B0 : VW} : ∀ i x y, x < y → y < (lsB V kn D man b k B0 i).2.1 → (lsB V kn D man b k B0 i).2.2 x ≠ (lsB V kn D man b k B0 i).2.2 y
  | 0, x, y, _, hy => absurd hy (Nat.not_lt_zero y)
  | i + 1, x, y, hxy, hy => by
    have ih := lsB_inj (man := man) (b := b) (k := k) (B0 := B0) i
    obtain ⟨i1, i2⟩ := lsB_T (V := V) (kn := kn) (D := D) (man := man) (b := b) (k := k) (B0 := B0) i
    rw [lsB_s] at hy ⊢
    split at hy
    · rename_i hc
      rw [if_pos hc]
      split at hy
      · rename_i ho
        rw [if_pos ho]
        exact ih x y hxy hy
      · rename_i ho
        rw [if_neg ho]
        dsimp only at hy ⊢
        have hp := posF_le (B0 2) (lsB V kn D man b k B0 i).2.2 i (lsB V kn D man b k B0 i).2.1
        unfold insF
        by_cases a1 : y < posF (B0 2) (lsB V kn D man b k B0 i).2.2 i (lsB V kn D man b k B0 i).2.1
        · rw [if_pos (by omega), if_pos a1]
          exact ih x y hxy (by omega)
        · rw [if_neg a1]
          by_cases a2 : y = posF (B0 2) (lsB V kn D man b k B0 i).2.2 i (lsB V kn D man b k B0 i).2.1
          · rw [if_pos a2, if_pos (by omega)]
            have := (i2 x (by omega)).1
            omega
          · rw [if_neg a2]
            by_cases b1 : x < posF (B0 2) (lsB V kn D man b k B0 i).2.2 i (lsB V kn D man b k B0 i).2.1
            · rw [if_pos b1]
              exact ih x (y - 1) (by omega) (by omega)
            · rw [if_neg b1]
              by_cases b2 : x = posF (B0 2) (lsB V kn D man b k B0 i).2.2 i (lsB V kn D man b k B0 i).2.1
              · rw [if_pos b2]
                have := (i2 (y - 1) (by omega)).1
                omega
              · rw [if_neg b2]
                exact ih (x - 1) (y - 1) (by omega) (by omega)
    · rename_i hc
      rw [if_neg hc]
      exact ih x y hxy hy
theorem lsB_DI {man b k : Nat} {B0 : VW} {i : Nat} (g : DI B0 L h m D) : DI (lsB V kn D man b k B0 i).1 L h m D := by
  have row := lsB_row (V := V) (kn := kn) (D := D) (man := man) (b := b) (k := k) (B0 := B0) i
  obtain ⟨g1, g2, g3, g4⟩ := g
  refine ⟨fun x hx => ?_, g2, g3, fun a ha => by rw [row 2 a (by decide)]; exact g4 a ha⟩
  have := g1 x hx
  unfold NBo at this ⊢
  rw [row 1 x (by decide), row 2 x (by decide), row 3 x (by decide), row 6 x (by decide), row 8 x (by decide)]
  exact this
/-- a round keeps all that -/
theorem goB_DI {man f tn : Nat} {P : CT} {T : Nat → Nat} {B0 : VW} {L0 : List (Nat × Nat)} {lf : Int32} (hD : D < 200) (hh : h ≤ 10) (hm3 : m ≤ 3) (g : DI B0 L0 h m D) (gh : ∀ i, i < h → PHou P.1 V f m i) (hm : man < m) (hk : ∀ i, i < h → ∃ s : Nat, s ≤ 600000 ∧ kn i = nI s) (hT : ∀ x, x < tn → T x < h ∧ B0 2 (T x) ≤ nI D) (hinj : ∀ x y, x < y → y < tn → T x ≠ T y) : ∀ j, j ≤ tn →
    DI (goB V kn tk D man T (lf, -1, B0, L0) j).2.2.1 (goB V kn tk D man T (lf, -1, B0, L0) j).2.2.2 h m D ∧ ((goB V kn tk D man T (lf, -1, B0, L0) j).2.1 = -1 ∨ ∃ a : Nat, a < h ∧ (goB V kn tk D man T (lf, -1, B0, L0) j).2.1 = nI a) ∧ ∀ x, j ≤ x → x < tn → (goB V kn tk D man T (lf, -1, B0, L0) j).2.2.1 2 (T x) ≤ nI D
  | 0, _ => ⟨g, Or.inl rfl, fun x _ hx => (hT x hx).2⟩
  | j + 1, hj => by
    obtain ⟨i1, i2, i3⟩ := goB_DI (lf := lf) hD hh hm3 g gh hm hk hT hinj j (by omega)
    have hTj := hT j (by omega)
    rw [goB_s]
    split
    · refine ⟨wpB_DI hD hh hm3 i1 (gh _ hTj.1) hTj.1 hm (i3 j (Nat.le_refl j) (by omega)) (hk _ hTj.1), Or.inr ⟨T j, hTj.1, rfl⟩, fun x h1 h2 => ?_⟩
      show wpB _ _ _ _ _ 2 (T x) ≤ _
      rw [wpB_o (fun e => hinj j x (by omega) h2 e.symm)]
      exact i3 x (by omega) h2
    · exact ⟨i1, i2, fun x h1 h2 => i3 x (by omega) h2⟩
end Abs
