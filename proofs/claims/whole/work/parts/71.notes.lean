/-! ===== notes: what is struck, what is paid ===== -/
theorem am1 (x : Int32) : x + -1 = x - 1 := (Int32.sub_eq_add_neg x 1).symm
theorem m1_lt : ((-1 : Int32) < 0) = True := by decide
theorem m0_1 : nI 0 - 1 = -1 := by decide
def stf (nh tg : Nat → Int32) (k : Nat) (f : Nat → Int32) : Nat → Int32 := if f k = 0 ∧ nh k = -1 then (fun q => if q = (tg k).toNatClampNeg then 1 else f q) else f
def stn (nh tg : Nat → Int32) : Nat → (Nat → Int32) → Nat → Int32
  | 0, f => f
  | k + 1, f => stn nh tg k (stf nh tg k f)
/-- strikes aim below themselves -/
def AimB (nh tg : Nat → Int32) (n : Nat) : Prop := ∀ k, k < n → nh k = -1 → ∃ t : Nat, t < k ∧ tg k = nI t
theorem stf_congr {nh tg : Nat → Int32} {n k : Nat} {f g : Nat → Int32} (hk : k < n) (h : ∀ q, q < n → f q = g q) : ∀ q, q < n → stf nh tg k f q = stf nh tg k g q := by
  intro q hq
  unfold stf
  rw [h k hk]
  split
  · dsimp only
    split
    · rfl
    · exact h q hq
  · exact h q hq
theorem stn_congr {nh tg : Nat → Int32} {n : Nat} : ∀ (k : Nat) {f g : Nat → Int32}, k ≤ n → (∀ q, q < n → f q = g q) → ∀ q, q < n → stn nh tg k f q = stn nh tg k g q
  | 0, _, _, _, h => h
  | k + 1, _, _, hk, h => stn_congr k (by omega) (stf_congr (by omega) h)
theorem stf_hi {nh tg : Nat → Int32} {n k : Nat} {f : Nat → Int32} (ha : AimB nh tg n) (hn : n < 2 ^ 31) (hk : k < n) {q : Nat} (hq : k ≤ q) : stf nh tg k f q = f q := by
  unfold stf
  split
  · rename_i h
    obtain ⟨t, ht, e⟩ := ha k hk h.2
    dsimp only
    rw [e, nI_clamp (by omega), if_neg (by omega)]
  · rfl
theorem stn_hi {nh tg : Nat → Int32} {n : Nat} (ha : AimB nh tg n) (hn : n < 2 ^ 31) : ∀ (k : Nat) {f : Nat → Int32} {q : Nat}, k ≤ n → k ≤ q + 1 → stn nh tg k f q = f q
  | 0, _, _, _, _ => rfl
  | k + 1, f, q, hk, hq => (stn_hi ha hn k (by omega) (by omega)).trans (stf_hi ha hn (by omega) (by omega))
def psum (nh ns : Nat → Int32) (f : Nat → Int32) (h : Int32) : Nat → Int32
  | 0 => 0
  | k + 1 => psum nh ns f h k + if f k = 0 ∧ nh k = h then ns k else 0
theorem psum_s {nh ns f : Nat → Int32} {h : Int32} {k : Nat} : psum nh ns f h (k + 1) = psum nh ns f h k + if f k = 0 ∧ nh k = h then ns k else 0 := rfl
/-- flags at the end -/
def stFs (nh ns : Nat → Int32) (n : Nat) : Nat → Int32 := stn nh ns n (fun _ => 0)
theorem counts_ok {c : CT} {n : Nat} {Q : CT → Prop} (hn : n ≤ 60) (ha : AimB (c.1 49) (c.1 50) n)
    (hQ : ∀ c' : CT, c'.2 = c.2 → (∀ j k, j ≠ 51 → c'.1 j k = c.1 j k) → (∀ k, k < n → c'.1 51 k = stFs (c.1 49) (c.1 50) n k) → Q c') : k_X12_counts c (nI n) Q := by
  unfold k_X12_counts
  refine LP2.ind (fun v c1 => ∃ i, i ≤ n ∧ v = nI i ∧ c1.2 = c.2 ∧ (∀ j k, j ≠ 51 → c1.1 j k = c.1 j k) ∧ ∀ k, k < i → c1.1 51 k = 0) (fun v _ => n - v.toNatClampNeg) ?_ ⟨0, by omega, rfl, rfl, fun _ _ _ => rfl, fun k h => absurd h (Nat.not_lt_zero k)⟩
  rintro R v c1 ⟨i, hi, rfl, h1, h2, h3⟩ ih
  by_cases hin : i < n
  · simp (disch := omega) only [rdI_n, rdL_n, wrI_n, wrL_n, ixN_n, wrF_eq, vK_eq, jn_eq, rZ_ite, rZ_ite', rZ_0, rZ_1, bo0, bo1, it10, it11, it1n, nI_lt', nI_le', nI_eq', nI_add, nI_in0, nI_nn, nI_eqm, pk_mul, show (n ≤ i) = False from eq_false (by omega), if_false]
    rw [nI_1]
    refine ih _ _ ⟨i + 1, by omega, rfl, h1, fun j k hj => ?_, fun k hk => ?_⟩ (by rw [nI_clamp (by omega), nI_clamp (by omega)]; omega)
    · rw [sI_ne (fun q => hj q.1)]
      exact h2 j k hj
    · rw [sI_at]
      by_cases e : k = i
      · rw [if_pos ⟨rfl, e⟩]
      · rw [if_neg (fun q => e q.2)]
        exact h3 k (by omega)
  · have e : i = n := by omega
    subst e
    simp (disch := omega) only [rdI_n, rdL_n, wrI_n, wrL_n, ixN_n, wrF_eq, vK_eq, jn_eq, rZ_ite, rZ_ite', rZ_0, rZ_1, bo0, bo1, it10, it11, it1n, nI_lt', nI_le', nI_eq', nI_add, nI_in0, nI_nn, nI_eqm, pk_mul, Nat.le_refl, if_true]
    refine LP2.ind (fun v c2 => ∃ k, k ≤ i ∧ v = nI k - 1 ∧ c2.2 = c.2 ∧ (∀ j k, j ≠ 51 → c2.1 j k = c.1 j k) ∧ ∀ q, q < i → stn (c.1 49) (c.1 50) k (c2.1 51) q = stFs (c.1 49) (c.1 50) i q) (fun v _ => (v + 1).toNatClampNeg) ?_ ⟨i, by omega, rfl, h1, h2, stn_congr i (by omega) h3⟩
    rintro R2 v c2 ⟨k, hk, rfl, g1, g2, g3⟩ ih2
    cases k with
    | zero =>
      simp only [m0_1, m1_lt, if_true]
      exact hQ c2 g1 g2 g3
    | succ k =>
      have e1 : nI (k + 1) - 1 = nI k := nI_pred k
      have em : ∀ c3 : CT, c3.2 = c.2 → (∀ j k, j ≠ 51 → c3.1 j k = c.1 j k) → (∀ q, q < i → stn (c.1 49) (c.1 50) k (c3.1 51) q = stFs (c.1 49) (c.1 50) i q) → R2 (nI k - 1) c3 := fun c3 q1 q2 q3 => ih2 _ _ ⟨k, by omega, rfl, q1, q2, q3⟩ (by rw [e1, nI_1, nI_clamp (by omega), Int32.sub_add_cancel, nI_clamp (by omega)]; omega)
      rw [e1]
      simp (disch := omega) only [rdI_n, rdL_n, wrI_n, wrL_n, ixN_n, wrF_eq, vK_eq, jn_eq, rZ_ite, rZ_ite', rZ_0, rZ_1, bo0, bo1, it10, it11, it1n, nI_lt', nI_le', nI_eq', nI_add, nI_in0, nI_nn, nI_eqm, pk_mul, if_false, am1]
      have g3' := g3
      unfold stn at g3'
      by_cases f0 : c2.1 51 k = 0
      · by_cases fh : c.1 49 k = -1
        · obtain ⟨t, ht, et⟩ := ha k (by omega) fh
          simp (disch := omega) only [f0, g2 49 k (by decide), g2 50 k (by decide), fh, et, rdI_n, rdL_n, wrI_n, wrL_n, ixN_n, wrF_eq, vK_eq, jn_eq, rZ_ite, rZ_ite', rZ_0, rZ_1, bo0, bo1, it10, it11, it1n, ne_eq, not_true_eq_false, if_false]
          refine em _ g1 (fun j q hj => ?_) fun q hq => ?_
          · rw [sI_ne (fun z => hj z.1)]
            exact g2 j q hj
          · refine Eq.trans (stn_congr k (by omega) (fun q2 hq2 => ?_) q hq) (g3' q hq)
            unfold stf
            rw [if_pos ⟨f0, fh⟩, sI_at, et, nI_clamp (by omega)]
            simp only [true_and]
        · simp (disch := omega) only [f0, g2 49 k (by decide), fh, rdI_n, rdL_n, wrI_n, wrL_n, ixN_n, wrF_eq, vK_eq, jn_eq, rZ_ite, rZ_ite', rZ_0, rZ_1, bo0, bo1, it10, it11, it1n, ne_eq, not_true_eq_false, not_false_eq_true, if_true, if_false]
          refine em _ g1 g2 fun q hq => Eq.trans (stn_congr k (by omega) (fun q2 hq2 => ?_) q hq) (g3' q hq)
          unfold stf
          rw [if_neg (fun z => fh z.2)]
      · simp (disch := omega) only [f0, ne_eq, not_false_eq_true, if_true]
        refine em _ g1 g2 fun q hq => Eq.trans (stn_congr k (by omega) (fun q2 hq2 => ?_) q hq) (g3' q hq)
        unfold stf
        rw [if_neg (fun z => f0 z.1)]
theorem paidBy_ok {c : CT} {n h : Nat} {Q : Int32 → CT → Prop} (hn : n ≤ 60) (hh : h < 10) (ha : AimB (c.1 49) (c.1 50) n)
    (hQ : ∀ c' : CT, c'.2 = c.2 → (∀ j k, j ≠ 51 → c'.1 j k = c.1 j k) → Q (c.1 43 h + psum (c.1 49) (c.1 50) (stFs (c.1 49) (c.1 50) n) (nI h) n) c') : k_X12_paidBy c (nI h) (nI n) Q := by
  unfold k_X12_paidBy
  refine counts_ok hn ha fun c1 h1 h2 h3 => ?_
  simp (disch := omega) only [rdI_n, rdL_n, wrI_n, wrL_n, ixN_n, wrF_eq, vK_eq, jn_eq, rZ_ite, rZ_ite', rZ_0, rZ_1, bo0, bo1, it10, it11, it1n]
  refine LP2.ind (fun s v => ∃ i, i ≤ n ∧ v = nI i ∧ s = c.1 43 h + psum (c.1 49) (c.1 50) (stFs (c.1 49) (c.1 50) n) (nI h) i) (fun _ v => n - v.toNatClampNeg) ?_ ⟨0, by omega, rfl, by rw [h2 43 h (by decide)]; exact (Int32.add_zero _).symm⟩
  rintro R s v ⟨i, hi, rfl, rfl⟩ ih
  by_cases hin : i < n
  · simp (disch := omega) only [rdI_n, rdL_n, wrI_n, wrL_n, ixN_n, wrF_eq, vK_eq, jn_eq, rZ_ite, rZ_ite', rZ_0, rZ_1, bo0, bo1, it10, it11, it1n, nI_lt', nI_le', nI_eq', nI_add, nI_in0, nI_nn, nI_eqm, pk_mul, show (n ≤ i) = False from eq_false (by omega), if_false, h2 49 i (by decide), h2 50 i (by decide), h3 i hin, nI_1]
    have em : ∀ x, x = c.1 43 h + psum (c.1 49) (c.1 50) (stFs (c.1 49) (c.1 50) n) (nI h) (i + 1) → R x (nI (i + 1)) := fun x hx => ih _ _ ⟨i + 1, by omega, rfl, hx⟩ (by rw [nI_clamp (by omega), nI_clamp (by omega)]; omega)
    by_cases f0 : stFs (c.1 49) (c.1 50) n i = 0
    · by_cases fh : c.1 49 i = nI h
      · rw [if_neg (fun z => z f0), if_neg (fun z => z fh)]
        exact em _ (by rw [psum_s, if_pos ⟨f0, fh⟩, Int32.add_assoc])
      · rw [if_neg (fun z => z f0), if_pos fh]
        exact em _ (by rw [psum_s, if_neg (fun z => fh z.2), Int32.add_zero, Int32.add_zero])
    · rw [if_pos f0]
      exact em _ (by rw [psum_s, if_neg (fun z => f0 z.1), Int32.add_zero, Int32.add_zero])
  · have e : i = n := by omega
    subst e
    simp (disch := omega) only [nI_lt', nI_le', nI_eq', nI_add, nI_in0, nI_nn, nI_eqm, pk_mul, Nat.le_refl, if_true]
    exact hQ c1 h1 h2
/-- the class's notes and the reference's -/
def NRel (K M : CT) (o n : Nat) : Prop := ∀ i, i < n → K.1 11 i = M.1 49 (o + i) ∧ (M.1 49 (o + i) = -1 → K.1 13 i = M.1 50 (o + i) ∧ ∃ t : Nat, t < i ∧ M.1 50 (o + i) = nI t) ∧ (M.1 49 (o + i) ≠ -1 → K.1 13 i = -1 ∧ K.1 12 i = M.1 50 (o + i))
theorem NRel.aim {K M : CT} {n : Nat} (h : NRel K M 0 n) : AimB (M.1 49) (M.1 50) n := fun k hk e => by
  have := h k hk
  rw [Nat.zero_add] at this
  exact (this.2.1 e).2
theorem known_ok {K M : CT} {n h : Nat} {Q : Int32 → CT → Prop} (hn : n ≤ 60) (hh : h < 10) (hr : NRel K M 0 n)
    (hQ : ∀ K' : CT, K'.2 = K.2 → (∀ j k, j ≠ 14 → K'.1 j k = K.1 j k) → Q (psum (M.1 49) (M.1 50) (stFs (M.1 49) (M.1 50) n) (nI h) n) K') : k_X0_known K (nI h) (nI n) Q := by
  have ha := hr.aim
  have hr' : ∀ i, i < n → K.1 11 i = M.1 49 i ∧ (M.1 49 i = -1 → K.1 13 i = M.1 50 i) ∧ (M.1 49 i ≠ -1 → K.1 13 i = -1 ∧ K.1 12 i = M.1 50 i) := fun i hi => by
    have := hr i hi
    rw [Nat.zero_add] at this
    exact ⟨this.1, fun e => (this.2.1 e).1, this.2.2⟩
  unfold k_X0_known
  refine LP2.ind (fun v c1 => ∃ i, i ≤ n ∧ v = nI i ∧ c1.2 = K.2 ∧ (∀ j k, j ≠ 14 → c1.1 j k = K.1 j k) ∧ ∀ k, k < i → c1.1 14 k = 0) (fun v _ => n - v.toNatClampNeg) ?_ ⟨0, by omega, rfl, rfl, fun _ _ _ => rfl, fun k h => absurd h (Nat.not_lt_zero k)⟩
  rintro R v c1 ⟨i, hi, rfl, h1, h2, h3⟩ ih
  by_cases hin : i < n
  · simp (disch := omega) only [rdI_n, rdL_n, wrI_n, wrL_n, ixN_n, wrF_eq, vK_eq, jn_eq, rZ_ite, rZ_ite', rZ_0, rZ_1, bo0, bo1, it10, it11, it1n, nI_lt', nI_le', nI_eq', nI_add, nI_in0, nI_nn, nI_eqm, pk_mul, show (n ≤ i) = False from eq_false (by omega), if_false]
    rw [nI_1]
    refine ih _ _ ⟨i + 1, by omega, rfl, h1, fun j k hj => ?_, fun k hk => ?_⟩ (by rw [nI_clamp (by omega), nI_clamp (by omega)]; omega)
    · rw [sI_ne (fun q => hj q.1)]
      exact h2 j k hj
    · rw [sI_at]
      by_cases e : k = i
      · rw [if_pos ⟨rfl, e⟩]
      · rw [if_neg (fun q => e q.2)]
        exact h3 k (by omega)
  · have e : i = n := by omega
    subst e
    simp (disch := omega) only [rdI_n, rdL_n, wrI_n, wrL_n, ixN_n, wrF_eq, vK_eq, jn_eq, rZ_ite, rZ_ite', rZ_0, rZ_1, bo0, bo1, it10, it11, it1n, nI_lt', nI_le', nI_eq', nI_add, nI_in0, nI_nn, nI_eqm, pk_mul, Nat.le_refl, if_true]
    refine LP3.ind (fun s v c2 => ∃ k, k ≤ i ∧ v = nI k - 1 ∧ s + psum (M.1 49) (M.1 50) (stFs (M.1 49) (M.1 50) i) (nI h) k = psum (M.1 49) (M.1 50) (stFs (M.1 49) (M.1 50) i) (nI h) i ∧ c2.2 = K.2 ∧ (∀ j k, j ≠ 14 → c2.1 j k = K.1 j k) ∧ ∀ q, q < i → stn (M.1 49) (M.1 50) k (c2.1 14) q = stFs (M.1 49) (M.1 50) i q) (fun _ v _ => (v + 1).toNatClampNeg) ?_ ⟨i, by omega, rfl, Int32.zero_add _, h1, h2, stn_congr i (by omega) h3⟩
    rintro R2 s v c2 ⟨k, hk, rfl, hs, g1, g2, g3⟩ ih2
    cases k with
    | zero =>
      simp only [m0_1, m1_lt, if_true]
      have e : s = psum (M.1 49) (M.1 50) (stFs (M.1 49) (M.1 50) i) (nI h) i := by rw [← hs]; exact (Int32.add_zero s).symm
      rw [e]
      exact hQ c2 g1 g2
    | succ k =>
      have e1 : nI (k + 1) - 1 = nI k := nI_pred k
      have em : ∀ (x : Int32) (c3 : CT), x + psum (M.1 49) (M.1 50) (stFs (M.1 49) (M.1 50) i) (nI h) k = psum (M.1 49) (M.1 50) (stFs (M.1 49) (M.1 50) i) (nI h) i → c3.2 = K.2 → (∀ j k, j ≠ 14 → c3.1 j k = K.1 j k) → (∀ q, q < i → stn (M.1 49) (M.1 50) k (c3.1 14) q = stFs (M.1 49) (M.1 50) i q) → R2 x (nI k - 1) c3 := fun x c3 q0 q1 q2 q3 => ih2 _ _ _ ⟨k, by omega, rfl, q0, q1, q2, q3⟩ (by rw [e1, nI_1, nI_clamp (by omega), Int32.sub_add_cancel, nI_clamp (by omega)]; omega)
      rw [e1]
      obtain ⟨r1, r2, r3⟩ := hr' k (by omega)
      have hfk : c2.1 14 k = stFs (M.1 49) (M.1 50) i k := (stn_hi ha (by omega) (k + 1) hk (by omega)).symm.trans (g3 k (by omega))
      simp (disch := omega) only [rdI_n, rdL_n, wrI_n, wrL_n, ixN_n, wrF_eq, vK_eq, jn_eq, rZ_ite, rZ_ite', rZ_0, rZ_1, bo0, bo1, it10, it11, it1n, nI_lt', nI_le', nI_eq', nI_add, nI_in0, nI_nn, nI_eqm, pk_mul, if_false, am1, g2 11 k (by decide), g2 12 k (by decide), g2 13 k (by decide), r1]
      have g3' := g3
      unfold stn at g3'
      rw [psum_s] at hs
      have hne : ¬ (nI h = -1) := by rw [m1_ne (by omega)]; exact id
      by_cases f0 : c2.1 14 k = 0
      · by_cases fh : M.1 49 k = -1
        · obtain ⟨t, ht, et⟩ := ha k (by omega) fh
          rw [if_pos f0, r2 fh, et, if_neg (by rw [m1_ne (by omega)]; exact id)]
          simp (disch := omega) only [rdI_n, rdL_n, wrI_n, wrL_n, ixN_n, wrF_eq, vK_eq, jn_eq, rZ_ite, rZ_ite', rZ_0, rZ_1, bo0, bo1, it10, it11, it1n]
          refine em _ _ ?_ g1 (fun j q hj => ?_) fun q hq => ?_
          · rw [← hs, if_neg (fun z => hne (z.2.symm.trans fh)), Int32.add_zero]
          · rw [sI_ne (fun z => hj z.1)]
            exact g2 j q hj
          · refine Eq.trans (stn_congr k (by omega) (fun q2 hq2 => ?_) q hq) (g3' q hq)
            unfold stf
            rw [if_pos ⟨f0, fh⟩, sI_at, et, nI_clamp (by omega)]
            simp only [true_and]
        · have ge : ∀ q, q < i → stn (M.1 49) (M.1 50) k (c2.1 14) q = stFs (M.1 49) (M.1 50) i q := fun q hq => Eq.trans (stn_congr k (by omega) (fun q2 hq2 => by unfold stf; rw [if_neg (fun z => fh z.2)]) q hq) (g3' q hq)
          rw [if_pos f0, if_pos (r3 fh).1, (r3 fh).2]
          by_cases fe : M.1 49 k = nI h
          · rw [if_neg (fun z => z fe)]
            refine em _ _ ?_ g1 g2 ge
            rw [← hs, if_pos ⟨hfk.symm.trans f0, fe⟩, Int32.add_assoc, Int32.add_comm (M.1 50 k)]
          · rw [if_pos fe]
            refine em _ _ ?_ g1 g2 ge
            rw [← hs, if_neg (fun z => fe z.2), Int32.add_zero]
      · rw [if_neg f0]
        refine em _ _ ?_ g1 g2 fun q hq => Eq.trans (stn_congr k (by omega) (fun q2 hq2 => ?_) q hq) (g3' q hq)
        · rw [← hs, if_neg (fun z => f0 (hfk.trans z.1)), Int32.add_zero]
        · unfold stf
          rw [if_neg (fun z => f0 z.1)]
