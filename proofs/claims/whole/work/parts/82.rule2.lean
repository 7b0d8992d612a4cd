/-! ===== a rule worked out, on both sides ===== -/
def upL (g : Nat → Int64) (k : Nat) (x : Int64) : Nat → Int64 := fun q => if q = k then x else g q
theorem upL_s {g : Nat → Int64} {k : Nat} {x : Int64} : upL g k x k = x := if_pos rfl
theorem upL_n {g : Nat → Int64} {k q : Nat} {x : Int64} (h : q ≠ k) : upL g k x q = g q := if_neg h
noncomputable def evR (s v : Nat → Int32) (fc : Int32 → Int64) : Nat → Option (Nat → Int64)
  | 0 => some (fun _ => 0)
  | i + 1 => (evR s v fc i).bind fun g => if s i = 2 then (if v i = 260 then some (upL g (dpK s v i - 1) (tf (g (dpK s v i - 1) = 0))) else (opS (v i) (g (dpK s v i - 2)) (g (dpK s v i - 1))).map (upL g (dpK s v i - 2))) else some (upL g (dpK s v i) (if s i = 0 then (v i).toInt64 else fc (v i)))
theorem evR_s {s v : Nat → Int32} {fc : Int32 → Int64} {i : Nat} : evR s v fc (i + 1) = (evR s v fc i).bind fun g => if s i = 2 then (if v i = 260 then some (upL g (dpK s v i - 1) (tf (g (dpK s v i - 1) = 0))) else (opS (v i) (g (dpK s v i - 2)) (g (dpK s v i - 1))).map (upL g (dpK s v i - 2))) else some (upL g (dpK s v i) (if s i = 0 then (v i).toInt64 else fc (v i))) := rfl
theorem evR_none {s v : Nat → Int32} {fc : Int32 → Int64} {i : Nat} (h : evR s v fc i = none) : ∀ n, i ≤ n → evR s v fc n = none := by
  intro n hn
  induction hn with
  | refl => exact h
  | step _ ih => rw [evR_s, ih]; rfl
/-- does the rule hold -/
noncomputable def rulS (s v : Nat → Int32) (fc : Int32 → Int64) (n : Nat) : Prop := ∃ g, evR s v fc n = some g ∧ g 0 ≠ 0
/-- the depth suffices for each sign -/
def dpOK (s v : Nat → Int32) (n : Nat) : Prop := ∀ i, i < n → s i = 2 → (if v i = 260 then 1 else 2) ≤ dpK s v i
theorem dpK_s {s v : Nat → Int32} {k : Nat} : dpK s v (k + 1) = if s k = 2 then (if v k = 260 then dpK s v k else dpK s v k - 1) else dpK s v k + 1 := rfl
theorem dpK_le {s v : Nat → Int32} : ∀ k, dpK s v k ≤ k
  | 0 => Nat.le_refl 0
  | k + 1 => by
    have := dpK_le (s := s) (v := v) k
    rw [dpK_s]
    split
    · split <;> omega
    · omega
theorem dpK_pos {s v : Nat → Int32} {n i : Nat} (h : dpOK s v n) (hi : i < n) : 1 ≤ dpK s v (i + 1) := by
  rw [dpK_s]
  by_cases e : s i = 2
  · have := h i hi e
    rw [if_pos e]
    by_cases e2 : v i = 260
    · rw [if_pos e2] at this ⊢; exact this
    · rw [if_neg e2] at this ⊢; omega
  · rw [if_neg e]; omega
theorem opS_in {v : Int32} {x y z : Int64} (h : opS v x y = some z) : inL z := by
  unfold opS at h
  have c : ∀ u, chk u = some z → inL z := fun u e => by
    by_cases q : inL u
    · rw [chk_t q] at e; cases e; exact q
    · rw [chk_f q] at e; cases e
  split at h
  · exact c _ h
  split at h
  · exact c _ h
  split at h
  · split at h
    · exact c _ h
    · cases h
  split at h
  · split at h
    · cases h
    · exact c _ h
  · cases h
    exact in_tf
theorem evR_in {s v : Nat → Int32} {fc : Int32 → Int64} (hf : ∀ x, inL (fc x)) {n : Nat} (hd : dpOK s v n) : ∀ i, i ≤ n → ∀ g, evR s v fc i = some g → ∀ k, k < dpK s v i → inL (g k)
  | 0, _, _, _, k, hk => absurd hk (Nat.not_lt_zero k)
  | i + 1, hi, g, hg, k, hk => by
    rw [evR_s] at hg
    obtain ⟨g0, h0, h1⟩ := Option.bind_eq_some_iff.mp hg
    have ih := evR_in hf hd i (by omega) g0 h0
    rw [dpK_s] at hk
    by_cases e : s i = 2
    · have hp := hd i (by omega) e
      rw [if_pos e] at h1 hk
      by_cases e2 : v i = 260
      · rw [if_pos e2] at h1 hk hp
        cases h1
        by_cases q : k = dpK s v i - 1
        · rw [q, upL_s]; exact in_tf
        · rw [upL_n q]; exact ih k hk
      · rw [if_neg e2] at h1 hk hp
        obtain ⟨z, hz, hz2⟩ := Option.map_eq_some_iff.mp h1
        cases hz2
        by_cases q : k = dpK s v i - 2
        · rw [q, upL_s]; exact opS_in hz
        · rw [upL_n q]; exact ih k (by omega)
    · rw [if_neg e] at h1 hk
      cases h1
      by_cases q : k = dpK s v i
      · rw [q, upL_s]
        split
        · exact in_i32 _
        · exact hf _
      · rw [upL_n q]; exact ih k (by omega)
/-! the reference -/
def MR (M M' : CT) : Prop := (∀ j k, ¬ (j = 0 ∧ k = 99) → j ≠ 51 → M'.1 j k = M.1 j k) ∧ ∀ j k, j ≠ 53 → M'.2 j k = M.2 j k
theorem MR.refl (M : CT) : MR M M := ⟨fun _ _ _ _ => rfl, fun _ _ _ => rfl⟩
theorem MR.trans {A B C : CT} (h : MR A B) (g : MR B C) : MR A C := ⟨fun j k a b => (g.1 j k a b).trans (h.1 j k a b), fun j k a => (g.2 j k a).trans (h.2 j k a)⟩
theorem MR.MA {M M' : CT} (h : MR M M') : MA M M' := fun j k r => h.1 j k (by rintro ⟨rfl, rfl⟩; unfold RV at r; omega) (by rintro rfl; unfold RV at r; omega)
/-- what a name says of a house -/
def nmF (M : CT) (h n : Nat) (x : Int32) : Int64 := if x = 13 then (M.1 26 h).toInt64 else if x = 20 then (M.1 0 77 - M.1 37 h).toInt64 else if x = 21 then (balS M n h).toInt64 else if x = 22 then (M.1 38 h).toInt64 else if x = 23 then (M.1 24 h).toInt64 else (M.1 0 77).toInt64
theorem nmF_in (M : CT) (h n : Nat) (x : Int32) : inL (nmF M h n x) := by
  unfold nmF
  split
  · exact in_i32 _
  split
  · exact in_i32 _
  split
  · exact in_i32 _
  split
  · exact in_i32 _
  split
  · exact in_i32 _
  · exact in_i32 _
theorem nameOf_ok {M : CT} {h n : Nat} {x : Int32} {Q : Int64 → CT → Prop} (hh : h < 10) (hn : n ≤ 60) (h78 : M.1 0 78 = nI n) (ha : AimB (M.1 49) (M.1 50) n) (hQ : ∀ M', M'.2 = M.2 → (∀ j k, j ≠ 51 → M'.1 j k = M.1 j k) → Q (nmF M h n x) M') : k_X12_nameOf M x (nI h) Q := by
  unfold k_X12_nameOf
  have h0 := hQ M rfl (fun _ _ _ => rfl)
  unfold nmF at hQ h0
  refine ite_b (fun z => ?_) fun z1 => ite_b (fun z => ?_) fun z2 => ite_b (fun z => ?_) fun z3 => ite_b (fun z => ?_) fun z4 => ite_b (fun z => ?_) fun z5 => ?_
  · rw [if_pos z] at h0
    rw [rdI_n (by omega) (by omega)]
    exact h0
  · rw [if_neg z1, if_pos z] at h0
    rw [rdI_n (by omega) (by omega)]
    exact h0
  · rw [if_neg z1, if_neg z2, if_pos z] at hQ
    rw [h78]
    exact balanceOf_ok hn hh ha fun M' q1 q2 => hQ M' q1 q2
  · rw [if_neg z1, if_neg z2, if_neg z3, if_pos z] at h0
    rw [rdI_n (by omega) (by omega)]
    exact h0
  · rw [if_neg z1, if_neg z2, if_neg z3, if_neg z4, if_pos z] at h0
    rw [rdI_n (by omega) (by omega)]
    exact h0
  · rw [if_neg z1, if_neg z2, if_neg z3, if_neg z4, if_neg z5] at h0
    exact h0
theorem nmF_mv {M M' : CT} {h n : Nat} (g : MR M M') : nmF M' h n = nmF M h n := by
  funext x
  have hf : ∀ j, ¬ j = 51 → ¬ j = 0 → M'.1 j = M.1 j := fun j h1 h2 => funext fun k => g.1 j k (fun q => h2 q.1) h1
  unfold nmF balS knS
  rw [hf 26 (by decide) (by decide), hf 37 (by decide) (by decide), hf 38 (by decide) (by decide), hf 24 (by decide) (by decide), hf 43 (by decide) (by decide), hf 49 (by decide) (by decide), hf 50 (by decide) (by decide), g.1 0 77 (by decide) (by decide)]
theorem ruled_ok {M : CT} {a n h k : Nat} {Q : Int32 → CT → Prop} (hn : n ≤ 64) (han : a + n ≤ 64) (h0 : 0 < n) (hd : dpOK (fun i => M.1 31 (a + i)) (fun i => M.1 32 (a + i)) n) (hd1 : dpK (fun i => M.1 31 (a + i)) (fun i => M.1 32 (a + i)) n = 1) (hh : h < 10) (hk : k ≤ 60) (h78 : M.1 0 78 = nI k) (ha : AimB (M.1 49) (M.1 50) k)
    (hQ : ∀ M', MR M M' → (rulS (fun i => M.1 31 (a + i)) (fun i => M.1 32 (a + i)) (nmF M h k) n → Q 1 M') ∧ (¬ rulS (fun i => M.1 31 (a + i)) (fun i => M.1 32 (a + i)) (nmF M h k) n → Q 0 M')) : k_X12_ruled M (nI a) (nI (a + n)) (nI h) Q := by
  unfold k_X12_ruled
  rw [wrF_eq]
  generalize hs : (fun i => M.1 31 (a + i)) = s at *
  generalize hv : (fun i => M.1 32 (a + i)) = v at *
  refine LP2.ind (fun u c => ∃ i g, i ≤ n ∧ u = nI (a + i) ∧ evR s v (nmF M h k) i = some g ∧ MR M c ∧ c.1 0 99 = nI (dpK s v i) ∧ ∀ q, q < dpK s v i → c.2 53 q = g q) (fun u _ => a + n - u.toNatClampNeg) ?_ ⟨0, _, by omega, rfl, rfl, ⟨fun j k q _ => sI_ne q, fun _ _ _ => rfl⟩, sI_same, fun q hq => absurd hq (Nat.not_lt_zero q)⟩
  rintro R u c ⟨i, g, hi, rfl, hg, hX, h99, h53⟩ ih
  have dle := dpK_le (s := s) (v := v) i
  by_cases hin : i < n
  · have es : c.1 31 (a + i) = s i := by rw [hX.1 31 _ (by omega) (by decide), ← hs]
    have ev : c.1 32 (a + i) = v i := by rw [hX.1 32 _ (by omega) (by decide), ← hv]
    rw [if_neg (nI_ge (by omega) (by omega))]
    simp (disch := omega) only [rdI_n, es, ev, nI_1, jn_eq]
    have nx : ∀ c' g', evR s v (nmF M h k) (i + 1) = some g' → MR M c' → c'.1 0 99 = nI (dpK s v (i + 1)) → (∀ q, q < dpK s v (i + 1) → c'.2 53 q = g' q) → R (nI (a + i + 1)) c' := fun c' g' q1 q2 q3 q4 => ih _ _ ⟨i + 1, g', by omega, rfl, q1, q2, q3, q4⟩ (by rw [nI_clamp (by omega), nI_clamp (by omega)]; omega)
    have er : evR s v (nmF M h k) (i + 1) = if s i = 2 then (if v i = 260 then some (upL g (dpK s v i - 1) (tf (g (dpK s v i - 1) = 0))) else (opS (v i) (g (dpK s v i - 2)) (g (dpK s v i - 1))).map (upL g (dpK s v i - 2))) else some (upL g (dpK s v i) (if s i = 0 then (v i).toInt64 else nmF M h k (v i))) := by rw [evR_s, hg]; rfl
    refine ite_b (fun z => ?_) fun z => ?_
    · rw [if_neg z] at er
      have push : ∀ (x : Int64) (c1 : CT), x = (if s i = 0 then (v i).toInt64 else nmF M h k (v i)) → MR M c1 → c1.1 0 99 = nI (dpK s v i) → (∀ q, q < dpK s v i → c1.2 53 q = g q) → wrL c1 53 64 (c.1 0 99) x (fun c77 => wrF c77 0 99 ((c77.1 0 99) + (1 : Int32)) (fun c78 => R (nI (a + i + 1)) c78)) := by
        intro x c1 hx hX1 q99 q53
        rw [h99, wrL_n (by omega) (by omega), wrF_eq, sL_1, q99, nI_1]
        refine nx _ _ er ?_ ?_ ?_
        · refine hX1.trans ⟨fun j k q _ => sI_ne q, fun j k q => ?_⟩
          rw [sI_2]
          exact sL_ne fun w => q w.1
        · rw [sI_same, dpK_s, if_neg z]
        · intro q hq
          rw [dpK_s, if_neg z] at hq
          rw [sI_2, sL_at]
          by_cases e : q = dpK s v i
          · rw [if_pos ⟨rfl, e⟩, e, upL_s, hx]
          · rw [if_neg (fun w => e w.2), upL_n e]
            exact q53 q (by omega)
      refine ite_b (fun z0 => ?_) fun z0 => ?_
      · have hf : ∀ j, ¬ j = 51 → ¬ j = 0 → c.1 j = M.1 j := fun j h1 h2 => funext fun k => hX.1 j k (fun q => h2 q.1) h1
        refine nameOf_ok hh hk ((hX.1 0 78 (by decide) (by decide)).trans h78) (by rw [hf 49 (by decide) (by decide), hf 50 (by decide) (by decide)]; exact ha) fun M' q1 q2 => ?_
        rw [nmF_mv hX]
        refine push _ M' (by rw [if_neg z0]) (hX.trans ⟨fun j k _ q => q2 j k q, fun j k _ => by rw [q1]⟩) ((q2 0 99 (by decide)).trans h99) fun q hq => by rw [q1]; exact h53 q hq
      · exact push _ c (by rw [if_pos (Classical.not_not.mp z0)]) hX h99 h53
    · have z2 : s i = 2 := Classical.not_not.mp z
      have hp := hd i hin z2
      rw [if_pos z2] at er
      by_cases e : v i = 260
      · rw [if_pos e] at er hp
        obtain ⟨d, hdd⟩ : ∃ d, dpK s v i = d + 1 := ⟨dpK s v i - 1, by omega⟩
        rw [hdd] at h99 er h53
        rw [e]
        refine works_not h99 (by omega) ?_
        rw [if_pos (by decide)]
        refine nx _ _ er ?_ ?_ ?_
        · exact hX.trans ⟨fun _ _ _ _ => rfl, fun j k q => sL_ne fun w => q w.1⟩
        · rw [dpK_s, if_pos z2, if_pos e, hdd]
          exact h99
        · intro q hq
          rw [dpK_s, if_pos z2, if_pos e, hdd] at hq
          rw [sL_at]
          by_cases w : q = d
          · rw [if_pos ⟨rfl, w⟩, w, Nat.add_sub_cancel, upL_s, h53 d (by omega)]
          · rw [if_neg (fun y => w y.2), Nat.add_sub_cancel, upL_n w]
            exact h53 q hq
      · rw [if_neg e] at er hp
        obtain ⟨d, hdd⟩ : ∃ d, dpK s v i = d + 2 := ⟨dpK s v i - 2, by omega⟩
        have hin2 := evR_in (nmF_in M h k) hd i (by omega) g hg
        rw [hdd] at h99 er h53 hin2
        rw [show d + 2 - 2 = d from rfl, show d + 2 - 1 = d + 1 from rfl, ← h53 d (by omega), ← h53 (d + 1) (by omega)] at er
        refine works_ok h99 (by omega) e (by rw [h53 d (by omega)]; exact hin2 d (by omega)) (by rw [h53 _ (by omega)]; exact hin2 _ (by omega)) (fun w hw => ?_) (fun hw c' hc' => ?_)
        · rw [if_pos (by decide)]
          rw [hw] at er
          refine nx _ _ er ?_ ?_ ?_
          · exact hX.trans ⟨fun j k q _ => sI_ne q, fun j k q => sL_ne fun y => q y.1⟩
          · rw [dpK_s, if_pos z2, if_neg e, hdd]
            show (sI c 0 99 (nI (d + 1))).1 0 99 = nI (d + 1)
            exact sI_same
          · intro q hq
            rw [dpK_s, if_pos z2, if_neg e, hdd] at hq
            rw [sL_at]
            by_cases y : q = d
            · rw [if_pos ⟨rfl, y⟩, y, upL_s]
            · rw [if_neg (fun u => y u.2), upL_n y]
              exact h53 q (by omega)
        · rw [if_neg (by decide)]
          rw [hw] at er
          refine (hQ c' (hX.trans ⟨fun j k q _ => hc'.1 j k q, hc'.2⟩)).2 ?_
          rintro ⟨g', hg', -⟩
          rw [evR_none er n (by omega)] at hg'
          cases hg'
  · have e : i = n := by omega
    subst e
    rw [if_pos (Int32.le_refl _), jn_eq]
    show rdL c 53 64 (nI 0) _
    rw [rdL_n (by omega) (by omega), h53 0 (by omega)]
    refine ite_b (fun z => ?_) fun z => ?_
    · show rZ 0 _
      rw [rZ_0]
      rw [lg_cmp_eq] at z
      refine (hQ c hX).2 ?_
      rintro ⟨g', hg', hne⟩
      rw [hg] at hg'
      cases hg'
      exact hne z
    · show rZ 1 _
      rw [rZ_1]
      rw [lg_cmp_eq] at z
      exact (hQ c hX).1 ⟨g, hg, z⟩
