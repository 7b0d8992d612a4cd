/-! ===== how many settings a set takes at least: the class's table ===== -/
theorem p1m (x : Int32) : x + -1 + 1 = x := by
  rw [Int32.add_assoc, show (-1 : Int32) + 1 = 0 by decide, Int32.add_zero]
theorem dnl2 {α : Type} {f : (Int32 → α → Prop) → Int32 → α → Prop} {N : Nat} (hN : N < 2 ^ 31) (Inv : Nat → α → Prop) (hs : ∀ R j c, j < N → Inv (j + 1) c → (∀ c', Inv j c' → R (nI j + -1) c') → f R (nI j) c) (he : ∀ R c, Inv 0 c → f R (-1) c) {c : α} (h0 : Inv N c) {v : Int32} (hv : v = nI N + -1) : LP2 f v c := by
  refine LP2.ind (fun v c => ∃ j, j ≤ N ∧ v = nI j + -1 ∧ Inv j c) (fun v _ => (v + 1).toNatClampNeg) ?_ ⟨N, Nat.le_refl _, hv, h0⟩
  rintro R v c ⟨j, hj, rfl, hi⟩ ih
  cases j with
  | zero =>
    rw [show nI 0 + -1 = -1 by decide]
    exact he R c hi
  | succ j =>
    rw [m1_add]
    refine hs R j c (by omega) hi fun c' hc => ih _ _ ⟨j, by omega, rfl, hc⟩ ?_
    rw [p1m, p1m, nI_clamp (by omega), nI_clamp (by omega)]
    omega
def mnF (c0 : Nat) (val : Nat → Nat) : Nat → Nat
  | 0 => c0
  | i + 1 => if 1 + val i < mnF c0 val i then 1 + val i else mnF c0 val i
theorem mnF_le {c0 : Nat} {val : Nat → Nat} : ∀ {k : Nat}, mnF c0 val k ≤ c0
  | 0 => Nat.le_refl _
  | k + 1 => by
    have h := mnF_le (c0 := c0) (val := val) (k := k)
    show (if 1 + val k < mnF c0 val k then _ else _) ≤ c0
    split <;> omega
theorem mnF_at {c0 : Nat} {val : Nat → Nat} : ∀ {k p : Nat}, p < k → mnF c0 val k ≤ 1 + val p
  | 0, p, h => absurd h (by omega)
  | k + 1, p, h => by
    show (if 1 + val k < mnF c0 val k then _ else _) ≤ _
    by_cases e : p = k
    · subst e
      split <;> omega
    · have := mnF_at (c0 := c0) (val := val) (k := k) (p := p) (by omega)
      split <;> omega
theorem mnF_ge {c0 m : Nat} {val : Nat → Nat} (h0 : m ≤ c0) : ∀ {k : Nat}, (∀ p, p < k → m ≤ val p + 1) → m ≤ mnF c0 val k
  | 0, _ => h0
  | k + 1, h => by
    have h1 := mnF_ge h0 (k := k) fun p hp => h p (by omega)
    have h2 := h k (by omega)
    show m ≤ (if 1 + val k < mnF c0 val k then _ else _)
    split <;> omega
theorem mnF_eq {c0 m k p : Nat} {val : Nat → Nat} (h0 : m ≤ c0) (h1 : ∀ p, p < k → m ≤ val p + 1) (hp : p < k) (e : val p + 1 = m) : mnF c0 val k = m := by
  have a := mnF_ge h0 h1
  have b := mnF_at (c0 := c0) (val := val) hp
  omega
theorem mnI_n {a b : Nat} (ha : a < 2 ^ 31) (hb : b < 2 ^ 31) : mnI (nI a) (nI b) = nI (if b < a then b else a) := by
  unfold mnI
  by_cases h : b < a
  · rw [if_pos h, if_pos (nI_lt h (by omega))]
  · rw [if_neg h, if_neg (nI_nlt (by omega) (by omega))]
theorem m2_n : (-2 : Int32) = nI 1 ^^^ (-1) := by decide
theorem mul_lt2 {x b n : Nat} (h : x < 2 ^ (n - b)) (hb : b ≤ n) : x * 2 ^ b < 2 ^ n := by
  have h1 : x * 2 ^ b < 2 ^ (n - b) * 2 ^ b := Nat.mul_lt_mul_of_pos_right h (Nat.two_pow_pos b)
  rw [← Nat.pow_add, Nat.sub_add_cancel hb] at h1
  exact h1
theorem lt_mul2 {x b n : Nat} (h : x * 2 ^ b < 2 ^ n) (hb : b ≤ n) : x < 2 ^ (n - b) := by
  apply Nat.lt_of_not_le
  intro h1
  have h2 : 2 ^ (n - b) * 2 ^ b ≤ x * 2 ^ b := Nat.mul_le_mul_right _ h1
  rw [← Nat.pow_add, Nat.sub_add_cancel hb] at h2
  omega
theorem leastFor_ok {F : CT} {k b x m : Nat} {e val : Nat → Nat} {Q : Int32 → Prop} (hk : k ≤ 756) (hb : b < 12) (hx : x < 2 ^ (12 - b)) (he : ∀ p, p < k → F.1 12 p = nI (e p) ∧ e p < 4096 ∧ F.1 13 (dif x (e p) * 2 ^ b) = nI (val p) ∧ val p ≤ 12) (h0 : k = 0 → F.1 13 (dif x 1 * 2 ^ b) = nI m) (h1 : 0 < k → m ≤ 12 ∧ (∀ p, p < k → m ≤ val p + 1) ∧ ∃ p, p < k ∧ val p + 1 = m) (hQ : Q (nI m)) : k_X1_leastFor F (nI x) (nI b) (nI k) Q := by
  have x12 : x < 2 ^ 12 := Nat.lt_of_lt_of_le hx (Nat.pow_le_pow_right (by omega) (by omega))
  have dl : ∀ y, dif x y * 2 ^ b < 4096 := fun y => mul_lt2 (n := 12) (dif_lt hx) (by omega)
  unfold k_X1_leastFor
  by_cases kz : k = 0
  · subst kz
    have d1 := dl 1
    rw [if_neg (fun z => z rfl), m2_n, dif_n (by omega) (by omega), shl_n (by omega) (by omega), rdI_n (by omega) (by omega), h0 rfl]
    exact hQ
  · rw [if_pos (show nI k ≠ 0 from fun z => kz ((nI_eq (b := 0) (by omega) (by omega)).mp z))]
    obtain ⟨a1, a2, p, a3, a4⟩ := h1 (by omega)
    have hQ' : Q (nI (mnF 12 val k)) := by
      rw [mnF_eq a1 a2 a3 a4]
      exact hQ
    refine LP2.ind (fun s v => ∃ i, i ≤ k ∧ v = nI i ∧ s = nI (mnF 12 val i)) (fun _ v => k - v.toNatClampNeg) ?_ ⟨0, by omega, rfl, rfl⟩
    rintro R s v ⟨i, hi, rfl, rfl⟩ ih
    by_cases hin : i < k
    · obtain ⟨e1, e2, e3, e4⟩ := he i hin
      have d1 := dl (e i)
      have ml := mnF_le (c0 := 12) (val := val) (k := i)
      rw [if_neg (nI_ge hin (by omega)), rdI_n (by omega) (by omega), e1, dif_n (by omega) (by omega), shl_n (by omega) (by omega), rdI_n (by omega) (by omega), e3, li_1, nI_add, mnI_n (by omega) (by omega), vK_eq, nI_add]
      exact ih _ _ ⟨i + 1, by omega, rfl, rfl⟩ (by rw [nI_clamp (by omega), nI_clamp (by omega)]; omega)
    · have e : i = k := by omega
      subst e
      rw [if_pos (Int32.le_refl _)]
      exact hQ'
theorem odd_n {v : Nat} (h : v < 2 ^ 20) : (nI v <<< ((1 : Int32) &&& 31)) ||| 1 = nI (2 * v + 1) := by
  have e := shl_n (m := v) (i := 1) (by omega) (by omega)
  rw [← li_1] at e
  rw [e, li_1, or_n]
  have := Nat.two_pow_add_eq_or_of_lt (show 1 < 2 ^ 1 by decide) v
  rw [Nat.mul_comm v, ← this]
section CountL
variable {ms : Nat → Nat} {N p : Nat}
def famN (ms : Nat → Nat) (N : Nat) (a : Nat) : Prop := ∃ i, i < N ∧ ms i = a ∧ a ≠ 0
theorem lstA (hp : p ≤ 12) {s : Nat} (hs : s < 2 ^ p) : ∃ m, m ≤ 12 ∧ IsL (famN ms N) (s &&& orN ms N) m ∧ lst (famN ms N) (s &&& orN ms N) = m := by
  have h1 : s &&& orN ms N < 2 ^ p := Nat.lt_of_le_of_lt Nat.and_le_left hs
  obtain ⟨m, h2, h3⟩ := IsL.of (ms := ms) (N := N) h1 (fun k hk => by rw [Nat.testBit_and] at hk; exact (Bool.and_eq_true_iff.mp hk).2)
  exact ⟨m, by omega, h3, IsL.lst h3⟩
theorem and_dif (s a A : Nat) : dif s a &&& A = dif (s &&& A) a := by
  apply Nat.eq_of_testBit_eq
  intro k
  rw [Nat.testBit_and, dif_bit, dif_bit, Nat.testBit_and]
  cases s.testBit k <;> cases a.testBit k <;> cases A.testBit k <;> rfl
theorem even_of {d : Nat} (h : d.testBit 0 = false) : d = 2 * (d / 2) := by
  rw [Nat.testBit_zero] at h
  have := of_decide_eq_false h
  omega
/-- one set's number, from those without its lowest member -/
theorem least_step (hp : p ≤ 12) {F : CT} {b v k : Nat} {e : Nat → Nat} {n : Nat} (hb : b < p) (hv : v < 2 ^ (p - 1 - b)) (hms : ∀ i, ms i < 2 ^ p)
    (w1 : ∀ x, x < n → famN ms N (e x)) (w3 : ∀ x, famN ms N x → ∃ y, y < n ∧ sbs x (e y)) (W : WD F 12 k (fun y => ∃ x, x < n ∧ (e x).testBit b = true ∧ y = e x / 2 ^ b)) (hk : k ≤ 756)
    (tb : ∀ x, x * 2 ^ (b + 1) < 2 ^ p → F.1 13 (x * 2 ^ (b + 1)) = nI (lst (famN ms N) (x * 2 ^ (b + 1) &&& orN ms N))) {Q : Int32 → Prop} (hQ : Q (nI (lst (famN ms N) ((2 * v + 1) * 2 ^ b &&& orN ms N)))) : k_X1_leastFor F (nI (2 * v + 1)) (nI b) (nI k) Q := by
  obtain ⟨e', c1, -, c3⟩ := W
  have p2 : 2 ^ (p - b) = 2 * 2 ^ (p - 1 - b) := by
    rw [show p - b = (p - 1 - b) + 1 by omega, Nat.pow_succ]
    omega
  have vb : 2 * v + 1 < 2 ^ (p - b) := by omega
  have v12 : 2 * v + 1 < 2 ^ (12 - b) := Nat.lt_of_lt_of_le vb (Nat.pow_le_pow_right (by omega) (by omega))
  have sl : (2 * v + 1) * 2 ^ b < 2 ^ p := mul_lt2 vb (by omega)
  have sb : ((2 * v + 1) * 2 ^ b).testBit b = true := by
    rw [mul_bit, decide_eq_true (Nat.le_refl b), Nat.sub_self, Nat.testBit_zero]
    exact decide_eq_true (by omega)
  obtain ⟨m, m12, hm, em⟩ := lstA (ms := ms) (N := N) hp sl
  rw [em] at hQ
  have tb2 : ∀ d, (dif (2 * v + 1) d).testBit 0 = false → F.1 13 (dif (2 * v + 1) d * 2 ^ b) = nI (lst (famN ms N) (dif (2 * v + 1) d * 2 ^ b &&& orN ms N)) := fun d hd => by
    have e0 := even_of hd
    have e1 : dif (2 * v + 1) d * 2 ^ b = (dif (2 * v + 1) d / 2) * 2 ^ (b + 1) := by
      rw [Nat.pow_succ, Nat.mul_comm (2 ^ b) 2, ← Nat.mul_assoc, Nat.mul_comm _ 2, ← e0]
    rw [e1]
    refine tb _ ?_
    rw [← e1]
    exact mul_lt2 (dif_lt vb) (by omega)
  have key : ∀ q, q < k → ∃ a, famN ms N a ∧ a.testBit b = true ∧ e' q = a / 2 ^ b ∧ dif (2 * v + 1) (e' q) * 2 ^ b = dif ((2 * v + 1) * 2 ^ b) a := fun q hq => by
    obtain ⟨-, -, x, x1, x2, x3⟩ := c1 q hq
    exact ⟨e x, w1 x x1, x2, x3, by rw [x3, dif_shift]⟩
  have od : ∀ {a : Nat}, a.testBit b = true → (a / 2 ^ b).testBit 0 = true := fun h => by
    rw [Nat.testBit_div_two_pow, Nat.zero_add]
    exact h
  have dz : ∀ {y : Nat}, y.testBit 0 = true → (dif (2 * v + 1) y).testBit 0 = false := fun h => by
    rw [dif_bit, h]
    cases (2 * v + 1).testBit 0 <;> rfl
  have vl : ∀ q, q < k → ∃ r, r ≤ 12 ∧ lst (famN ms N) (dif (2 * v + 1) (e' q) * 2 ^ b &&& orN ms N) = r ∧ ∃ a, famN ms N a ∧ a.testBit b = true ∧ e' q = a / 2 ^ b ∧ IsL (famN ms N) (dif ((2 * v + 1) * 2 ^ b &&& orN ms N) a) r := fun q hq => by
    obtain ⟨a, a1, a2, a3, a4⟩ := key q hq
    obtain ⟨r, r1, r2, r3⟩ := lstA (ms := ms) (N := N) (s := dif ((2 * v + 1) * 2 ^ b) a) hp (dif_lt sl)
    refine ⟨r, r1, by rw [a4]; exact r3, a, a1, a2, a3, ?_⟩
    rw [and_dif] at r2
    exact r2
  refine leastFor_ok (e := e') (val := fun q => lst (famN ms N) (dif (2 * v + 1) (e' q) * 2 ^ b &&& orN ms N)) hk (by omega) v12 (fun q hq => ?_) (fun kz => ?_) (fun kp => ?_) hQ
  · obtain ⟨a, a1, a2, a3, a4⟩ := key q hq
    obtain ⟨r, r1, r2, -⟩ := vl q hq
    refine ⟨(c1 q hq).1, (c1 q hq).2.1, tb2 _ (dz (by rw [a3]; exact od a2)), ?_⟩
    show lst _ _ ≤ 12
    rw [r2]
    exact r1
  · subst kz
    rw [tb2 1 (dz (by decide)), ← em]
    congr 2
    have ds := dif_shift (x := 2 * v + 1) (a := 2 ^ b) (b := b)
    rw [Nat.div_self (Nat.two_pow_pos b)] at ds
    rw [← ds]
    have no : (orN ms N).testBit b = false := by
      cases h : (orN ms N).testBit b with
      | false => rfl
      | true =>
        obtain ⟨i, i1, i2⟩ := or_bit.mp h
        obtain ⟨y, y1, y2⟩ := w3 (ms i) ⟨i, i1, rfl, nz_bit i2⟩
        obtain ⟨q, q1, -⟩ := c3 _ ⟨y, y1, y2 b i2, rfl⟩
        exact absurd q1 (by omega)
    apply Nat.eq_of_testBit_eq
    intro j
    rw [Nat.testBit_and, Nat.testBit_and, dif_bit, Nat.testBit_two_pow]
    by_cases hj : b = j
    · subst hj
      rw [no, Bool.and_false, Bool.and_false]
    · rw [decide_eq_false hj]
      simp
  · refine ⟨m12, fun q hq => ?_, ?_⟩
    · obtain ⟨r, -, r2, a, a1, -, -, a4⟩ := vl q hq
      show m ≤ lst _ _ + 1
      rw [r2]
      exact (hm.less a1 a4).1
    · obtain ⟨a, a1, a2, -, -⟩ := key 0 kp
      have tb : ((2 * v + 1) * 2 ^ b &&& orN ms N).testBit b = true := by
        obtain ⟨i, i1, i2, -⟩ := a1
        rw [Nat.testBit_and, sb, Bool.true_and]
        exact or_bit.mpr ⟨i, i1, by rw [i2]; exact a2⟩
      obtain ⟨x, m', x1, x2, x3, x4⟩ := hm.bit tb
      obtain ⟨y, y1, y2⟩ := w3 x x1
      obtain ⟨q, q1, q2⟩ := c3 _ ⟨y, y1, y2 b x2, rfl⟩
      obtain ⟨r, -, r2, a, a1, -, a3, a4⟩ := vl q q1
      refine ⟨q, q1, ?_⟩
      show lst _ _ + 1 = m
      rw [r2]
      have l1 := (hm.less a1 a4).1
      have l2 : r ≤ m' := a4.mono x3 fun j hj => by
        rw [dif_bit] at hj ⊢
        obtain ⟨j1, j2⟩ := Bool.and_eq_true_iff.mp hj
        rw [j1, Bool.true_and]
        cases xj : x.testBit j with
        | false => rfl
        | true =>
          exfalso
          have jb : b ≤ j := by
            rw [Nat.testBit_and, mul_bit] at j1
            have := (Bool.and_eq_true_iff.mp (Bool.and_eq_true_iff.mp j1).1).1
            exact of_decide_eq_true this
          have z := q2 (j - b) (by rw [Nat.testBit_div_two_pow, Nat.sub_add_cancel jb]; exact y2 j xj)
          rw [a3, Nat.testBit_div_two_pow, Nat.sub_add_cancel jb] at z
          rw [z] at j2
          cases j2
      omega
end CountL
