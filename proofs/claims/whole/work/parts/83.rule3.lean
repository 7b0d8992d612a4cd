/-! the class -/
theorem err_out : ¬ inL (-9223372036854775808) := by unfold inL; decide
theorem m1m (x : Int32) : -1 - (-1 - x) = x := by grind
theorem join_ok {c w : Nat} {x y : Int64} {Q : Int64 → Prop} (hp : (c, w) ∈ signL) (hx : inL x) (hy : inL y) (hQ : ∀ z, (∀ u, opS (nI w) x y = some u → z = u) → (opS (nI w) x y = none → ¬ inL z) → Q z) : k_X2_join (nI c) x y Q := by
  have rel : ∀ p : Prop, opS (nI w) x y = some (tf p) → Q (tf p) := fun p e => hQ _ (fun u h => by rw [e] at h; cases h; rfl) (fun h => by rw [e] at h; cases h)
  have val : ∀ z, opS (nI w) x y = chk z → Q z := fun z e => hQ _ (fun u h => by
    rw [e] at h
    by_cases q : inL z
    · rw [chk_t q] at h; cases h; rfl
    · rw [chk_f q] at h; cases h) (fun h q => by rw [e, chk_t q] at h; cases h)
  unfold k_X2_join
  simp only [signL, List.mem_cons, Prod.mk.injEq, List.not_mem_nil, or_false] at hp
  rcases hp with ⟨rfl, rfl⟩ | ⟨rfl, rfl⟩ | ⟨rfl, rfl⟩ | ⟨rfl, rfl⟩ | ⟨rfl, rfl⟩ | ⟨rfl, rfl⟩ | ⟨rfl, rfl⟩ | ⟨rfl, rfl⟩ | ⟨rfl, rfl⟩ | ⟨rfl, rfl⟩ | ⟨rfl, rfl⟩ | ⟨rfl, rfl⟩
  · rw [if_pos (by decide)]
    exact truth_ok (or_congr lc_ne lc_ne) (rel _ (by unfold opS relS; rw [if_neg (by decide), if_neg (by decide), if_neg (by decide), if_neg (by decide), if_neg (by decide), if_neg (by decide), if_neg (by decide), if_neg (by decide), if_neg (by decide), if_neg (by decide), if_neg (by decide)]))
  · rw [if_neg (by decide), if_pos (by decide)]
    exact truth_ok (and_congr lc_ne lc_ne) (rel _ (by unfold opS relS; rw [if_neg (by decide), if_neg (by decide), if_neg (by decide), if_neg (by decide), if_neg (by decide), if_neg (by decide), if_neg (by decide), if_neg (by decide), if_neg (by decide), if_neg (by decide), if_pos (by decide)]))
  · rw [if_neg (by decide), if_neg (by decide), if_pos (by decide)]
    exact truth_ok lc_lt (rel _ (by unfold opS relS; rw [if_neg (by decide), if_neg (by decide), if_neg (by decide), if_neg (by decide), if_pos (by decide)]))
  · rw [if_neg (by decide), if_neg (by decide), if_neg (by decide), if_pos (by decide)]
    exact truth_ok lc_le (rel _ (by unfold opS relS; rw [if_neg (by decide), if_neg (by decide), if_neg (by decide), if_neg (by decide), if_neg (by decide), if_neg (by decide), if_neg (by decide), if_pos (by decide)]))
  · rw [if_neg (by decide), if_neg (by decide), if_neg (by decide), if_neg (by decide), if_pos (by decide)]
    exact truth_ok lc_eq (rel _ (by unfold opS relS; rw [if_neg (by decide), if_neg (by decide), if_neg (by decide), if_neg (by decide), if_neg (by decide), if_pos (by decide)]))
  · rw [if_neg (by decide), if_neg (by decide), if_neg (by decide), if_neg (by decide), if_neg (by decide), if_pos (by decide)]
    exact truth_ok lc_ne (rel _ (by unfold opS relS; rw [if_neg (by decide), if_neg (by decide), if_neg (by decide), if_neg (by decide), if_neg (by decide), if_neg (by decide), if_neg (by decide), if_neg (by decide), if_pos (by decide)]))
  · rw [if_neg (by decide), if_neg (by decide), if_neg (by decide), if_neg (by decide), if_neg (by decide), if_neg (by decide), if_pos (by decide)]
    exact truth_ok lc_ge (rel _ (by unfold opS relS; rw [if_neg (by decide), if_neg (by decide), if_neg (by decide), if_neg (by decide), if_neg (by decide), if_neg (by decide), if_neg (by decide), if_neg (by decide), if_neg (by decide), if_pos (by decide)]))
  · rw [if_neg (by decide), if_neg (by decide), if_neg (by decide), if_neg (by decide), if_neg (by decide), if_neg (by decide), if_neg (by decide), if_pos (by decide)]
    exact truth_ok lc_gt (rel _ (by unfold opS relS; rw [if_neg (by decide), if_neg (by decide), if_neg (by decide), if_neg (by decide), if_neg (by decide), if_neg (by decide), if_pos (by decide)]))
  · rw [if_neg (by decide), if_neg (by decide), if_neg (by decide), if_neg (by decide), if_neg (by decide), if_neg (by decide), if_neg (by decide), if_neg (by decide), if_pos (by decide)]
    exact val _ (by unfold opS; rw [if_pos (by decide)])
  · rw [if_neg (by decide), if_neg (by decide), if_neg (by decide), if_neg (by decide), if_neg (by decide), if_neg (by decide), if_neg (by decide), if_neg (by decide), if_neg (by decide), if_pos (by decide)]
    exact val _ (by unfold opS; rw [if_neg (by decide), if_pos (by decide)])
  · rw [if_neg (by decide), if_neg (by decide), if_neg (by decide), if_neg (by decide), if_neg (by decide), if_neg (by decide), if_neg (by decide), if_neg (by decide), if_neg (by decide), if_neg (by decide), if_pos (by decide), jn_eq]
    have e : opS (nI 42) x y = (@ite _ (mok x y) (Classical.propDecidable _) (chk (x * y)) none) := by unfold opS; rw [if_neg (by decide), if_neg (by decide), if_pos (by decide)]
    refine isWithin_ok hx hy (fun mm => ?_) (fun mm => ?_)
    · rw [if_neg (by decide)]
      exact val _ (by rw [e, if_pos mm])
    · rw [if_pos rfl]
      refine hQ _ (fun u h => ?_) (fun _ => err_out)
      rw [e, if_neg mm] at h
      cases h
  · rw [if_neg (by decide), if_neg (by decide), if_neg (by decide), if_neg (by decide), if_neg (by decide), if_neg (by decide), if_neg (by decide), if_neg (by decide), if_neg (by decide), if_neg (by decide), if_neg (by decide), if_pos (by decide), jn_eq]
    have e : opS (nI 47) x y = (if y = 0 then none else chk (x / y)) := by unfold opS; rw [if_neg (by decide), if_neg (by decide), if_neg (by decide), if_pos (by decide)]
    refine ite_b (fun z => ?_) fun z => ?_
    · have z' : ¬ y = 0 := fun q => z ((lg_cmp_eq y 0).mpr q)
      exact ⟨z', val _ (by rw [e, if_neg z'])⟩
    · have z' : y = 0 := (lg_cmp_eq y 0).mp (Classical.not_not.mp z)
      refine hQ _ (fun u h => ?_) (fun _ => err_out)
      rw [e, if_pos z'] at h
      cases h
theorem at_ok {W : CT} {d : Nat} {Q : Int64 → Prop} (h : d < 64) : k_X2_at W (nI d) Q = Q (W.2 5 d) := by
  unfold k_X2_at
  simp (disch := omega) only [rdI_n, rdL_n, wrI_n, wrL_n, ixN_n, wrF_eq, vK_eq, jn_eq, rZ_ite, rZ_ite', rZ_0, rZ_1, bo0, bo1, it10, it11, it1n, nI_lt', nI_le', nI_eq', nI_add, nI_in0, nI_nn, nI_eqm, pk_mul, li_64, nle_f, if_false]
theorem push_ok {W : CT} {d : Nat} {x : Int64} {Q : Int32 → CT → Prop} (h : d < 64) : k_X2_push W (nI d) x Q = Q (nI (d + 1)) (sL W 5 d x) := by
  unfold k_X2_push
  simp (disch := omega) only [rdI_n, rdL_n, wrI_n, wrL_n, ixN_n, wrF_eq, vK_eq, jn_eq, rZ_ite, rZ_ite', rZ_0, rZ_1, bo0, bo1, it10, it11, it1n, nI_lt', nI_le', nI_eq', nI_add, nI_in0, nI_nn, nI_eqm, pk_mul, li_64, nle_f, if_false, nI_1]
def WX (W W' : CT) : Prop := W'.1 = W.1 ∧ ∀ j k, j ≠ 5 → W'.2 j k = W.2 j k
theorem WX.refl (W : CT) : WX W W := ⟨rfl, fun _ _ _ => rfl⟩
theorem WX.trans {A B C : CT} (h : WX A B) (g : WX B C) : WX A C := ⟨g.1.trans h.1, fun j k q => (g.2 j k q).trans (h.2 j k q)⟩
theorem WX.st {W : CT} {k : Nat} {x : Int64} : WX W (sL W 5 k x) := ⟨rfl, fun j q h => sL_ne fun e => h e.1⟩
theorem neg_1m {m : Nat} (h : m < 2 ^ 31) : ¬ (0 : Int32) ≤ -1 - nI m := by
  rw [Int32.le_iff_toInt_le, Int32.toInt_sub, nI_toInt h, show (-1 : Int32).toInt = -1 from by decide, show (0 : Int32).toInt = 0 from by decide, Int.bmod_eq_of_le (by omega) (by omega)]
  omega
/-- the class's facts are what the names say -/
def FcR (W : CT) (fc : Int32 → Int64) : Prop := ∀ p ∈ nameL, W.2 4 (p.1 - 19) = fc (nI p.2)
theorem sign_ge : ∀ p ∈ signL, 17 ≤ p.1 ∧ p.1 ≤ 39 ∧ (p.1 < 19 ∨ 25 ≤ p.1) ∧ p.2 ≠ 260 ∧ p.2 < 300 := by decide
theorem name_ge : ∀ p ∈ nameL, 19 ≤ p.1 ∧ p.1 < 25 := by decide
theorem work_ok {P W : CT} {a n r : Nat} {V : VW} {fc : Int32 → Int64} {Q : Int64 → CT → Prop} (hr : r < 2) (hn : P.1 (11 + 2 * r) 0 = nI n) (h0 : 0 < n) (hR : RulR (P.1 (11 + 2 * r + 1)) V a n) (hf : ∀ x, inL (fc x)) (hF : FcR W fc)
    (hQ : ∀ z W', WX W W' → (rulS (fun i => V 31 (a + i)) (fun i => V 32 (a + i)) fc n → z ≠ 0 ∧ inL z) → (¬ rulS (fun i => V 31 (a + i)) (fun i => V 32 (a + i)) fc n → z = 0 ∨ z = -9223372036854775808) → Q z W') : k_X2_work P W r Q := by
  obtain ⟨n64, -, hk, hd, hd1⟩ := hR
  replace hd1 := hd1 h0
  unfold k_X2_work
  generalize hs : (fun i => V 31 (a + i)) = s at *
  generalize hv : (fun i => V 32 (a + i)) = v at *
  have hdp : dpOK s v n := fun i hi e => by
    have := hd i hi (by rw [← hs] at e; exact e)
    rw [← hv]
    rw [← hv] at this
    exact this
  refine LP3.ind (fun dp u c => ∃ i g, i ≤ n ∧ u = nI i ∧ dp = nI (dpK s v i) ∧ evR s v fc i = some g ∧ WX W c ∧ ∀ q, q < dpK s v i → c.2 5 q = g q) (fun _ u _ => n - u.toNatClampNeg) ?_ ⟨0, _, by omega, rfl, rfl, rfl, WX.refl W, fun q hq => absurd hq (Nat.not_lt_zero q)⟩
  rintro R dp u c ⟨i, g, hi, rfl, rfl, hg, hX, h5⟩ ih
  have dle := dpK_le (s := s) (v := v) i
  by_cases hin : i < n
  · rw [hn, if_neg (nI_ge hin (by omega)), rdI_n (by omega) (by omega), vK_eq]
    have er : evR s v fc (i + 1) = if s i = 2 then (if v i = 260 then some (upL g (dpK s v i - 1) (tf (g (dpK s v i - 1) = 0))) else (opS (v i) (g (dpK s v i - 2)) (g (dpK s v i - 1))).map (upL g (dpK s v i - 2))) else some (upL g (dpK s v i) (if s i = 0 then (v i).toInt64 else fc (v i))) := by rw [evR_s, hg]; rfl
    have dpos := dpK_pos hdp hin
    have dle1 := dpK_le (s := s) (v := v) (i + 1)
    refine jn_of (fun J => ∀ c' : CT, WX W c' → (∀ g', evR s v fc (i + 1) = some g' → ∀ q, q < dpK s v (i + 1) → c'.2 5 q = g' q) → (evR s v fc (i + 1) = none → ¬ inL (c'.2 5 (dpK s v (i + 1) - 1))) → J (nI (dpK s v (i + 1))) c') ?_ ?_
    · intro c' hX' q1 q2
      obtain ⟨d, hdd⟩ : ∃ d, dpK s v (i + 1) = d + 1 := ⟨dpK s v (i + 1) - 1, by omega⟩
      rw [hdd] at q1 q2 ⊢
      rw [nI_pred, at_ok (by omega)]
      rw [Nat.add_sub_cancel] at q2
      have bad : ¬ inL (c'.2 5 d) → Q (-9223372036854775808) c' := fun hb => by
        refine hQ _ _ hX' (fun hr => ?_) (fun _ => Or.inr rfl)
        obtain ⟨g', hg', -⟩ := hr
        cases e : evR s v fc (i + 1) with
        | none => rw [evR_none e n (by omega)] at hg'; cases hg'
        | some g1 =>
          have := evR_in hf hdp (i + 1) (by omega) g1 e d (by omega)
          rw [← q1 g1 e d (by omega)] at this
          exact absurd this hb
      have good : inL (c'.2 5 d) → R (nI (d + 1)) (nI i + 1) c' := fun hb => by
        cases e : evR s v fc (i + 1) with
        | none => exact absurd hb (q2 e)
        | some g1 =>
          rw [nI_1]
          exact ih _ _ _ ⟨i + 1, g1, by omega, rfl, by rw [hdd], e, hX', by rw [hdd]; exact q1 g1 e⟩ (by rw [nI_clamp (by omega), nI_clamp (by omega)]; omega)
      refine ite_b (fun z => bad ?_) fun z => ite_b (fun y => good ?_) fun y => bad ?_
      · intro hb
        rw [lg_cmp_gt] at z
        exact Int64.not_lt.mpr hb.1 z
      · rw [lg_cmp_gt] at z
        rw [lg_cmp_ge] at y
        exact ⟨Int64.not_lt.mp z, y⟩
      · intro hb
        rw [lg_cmp_ge] at y
        exact y hb.2
    intro J hJ
    have fin : ∀ (x : Int64) (d : Nat), d < 64 → dpK s v (i + 1) = d + 1 → (∀ q, q < d → q < dpK s v i) → (∀ g', evR s v fc (i + 1) = some g' → g' d = x ∧ ∀ q, q < d → g' q = g q) → (evR s v fc (i + 1) = none → ¬ inL x) → ∀ c1 : CT, WX W c1 → (∀ q, q < dpK s v i → c1.2 5 q = g q) → k_X2_push c1 (nI d) x J := by
      intro x d h64 e1 e2 q1 q2 c1 hX1 h51
      rw [push_ok h64, ← e1]
      refine hJ _ (hX1.trans WX.st) (fun g' hg' q hq => ?_) (fun hno => ?_)
      · rw [e1] at hq
        rw [sL_at]
        by_cases e : q = d
        · rw [if_pos ⟨rfl, e⟩, e, (q1 g' hg').1]
        · rw [if_neg (fun w => e w.2), (q1 g' hg').2 q (by omega)]
          exact h51 q (e2 q (by omega))
      · rw [e1, Nat.add_sub_cancel, sL_same]
        exact q2 hno
    have hki := hk i hin
    have es : V 31 (a + i) = s i := by rw [← hs]
    have ev : V 32 (a + i) = v i := by rw [← hv]
    rw [es, ev] at hki
    rcases hki with ⟨k0, m, hm, kx, kv⟩ | ⟨k1, p, hp, kx, kv⟩ | ⟨k2, kx, kv⟩ | ⟨k2, p, hp, kx, kv⟩
    · -- a number
      have ns : ¬ s i = 2 := by rw [k0]; decide
      rw [if_neg ns, if_pos k0] at er
      rw [jn_eq, kx, if_neg (neg_1m (by omega)), rdI_n (by omega) (by omega), kx, ← kv]
      refine fin _ _ (by omega) (by rw [dpK_s, if_neg ns]) (fun q hq => hq) (fun g' hg' => ?_) (fun hno => by rw [er] at hno; cases hno) c hX h5
      rw [er] at hg'
      cases hg'
      exact ⟨upL_s, fun q hq => upL_n (by omega)⟩
    · -- a name
      obtain ⟨c1, c2⟩ := name_ge p hp
      have ns : ¬ s i = 2 := by rw [k1]; decide
      have n0 : ¬ s i = 0 := by rw [k1]; decide
      rw [if_neg ns, if_neg n0] at er
      rw [jn_eq, kx, m1m, if_pos (nI_pos' (by omega)), li_19, if_neg (nI_nlt c1 (by omega)), li_25, if_neg (nI_ge c2 (by omega)), pk_sub c1, rdL_n (by omega) (by omega), hX.2 4 _ (by decide), hF p hp, ← kv]
      refine fin _ _ (by omega) (by rw [dpK_s, if_neg ns]) (fun q hq => hq) (fun g' hg' => ?_) (fun hno => by rw [er] at hno; cases hno) c hX h5
      rw [er] at hg'
      cases hg'
      exact ⟨upL_s, fun q hq => upL_n (by omega)⟩
    · -- not
      have hp := hdp i hin k2
      rw [if_pos k2, if_pos kv] at er
      rw [if_pos kv] at hp
      obtain ⟨d, hdd⟩ : ∃ d, dpK s v i = d + 1 := ⟨dpK s v i - 1, by omega⟩
      rw [hdd, Nat.add_sub_cancel] at er
      have e1 : dpK s v (i + 1) = d + 1 := by rw [dpK_s, if_pos k2, if_pos kv, hdd]
      have kk : ∀ t : Int32, k_X2_truth t (fun t86 => k_X2_push c (nI (dpK s v i) - 1) t86 J) = k_X2_push c (nI d) (if ¬ (t = 0) then 1 else 0) J := by
        intro t
        unfold k_X2_truth
        rw [hdd, nI_pred]
      have go : ∀ x : Int64, x = tf (g d = 0) → k_X2_push c (nI d) x J := by
        intro x hx
        refine fin _ _ (by omega) e1 (fun q hq => by omega) (fun g' hg' => ?_) (fun hno => by rw [er] at hno; cases hno) c hX h5
        rw [er] at hg'
        cases hg'
        rw [hx]
        exact ⟨upL_s, fun q hq => upL_n (by omega)⟩
      rw [jn_eq, kx, if_pos (by decide), if_pos (by decide)]
      dsimp only
      rw [if_neg (by decide), jn_eq, hdd, nI_pred, at_ok (by omega), h5 d (by omega)]
      refine ite_b (fun z => ?_) fun z => ?_
      · show k_X2_truth 0 _
        unfold k_X2_truth
        refine go _ ?_
        rw [tf_f (fun e => z ((lg_cmp_eq _ _).mpr e))]
        rfl
      · show k_X2_truth 1 _
        unfold k_X2_truth
        refine go _ ?_
        rw [tf_t ((lg_cmp_eq _ _).mp (Classical.not_not.mp z))]
        rfl
    · -- a sign
      obtain ⟨c1, c2, c3, c4, c5⟩ := sign_ge p hp
      have nv : ¬ v i = 260 := by
        rw [kv, show (260 : Int32) = nI 260 from rfl, nI_eq (by omega) (by omega)]
        exact c4
      have hpp := hdp i hin k2
      rw [if_pos k2, if_neg nv] at er
      rw [if_neg nv] at hpp
      obtain ⟨d, hdd⟩ : ∃ d, dpK s v i = d + 2 := ⟨dpK s v i - 2, by omega⟩
      have e1 : dpK s v (i + 1) = d + 1 := by rw [dpK_s, if_pos k2, if_neg nv, hdd]; rfl
      rw [hdd, show d + 2 - 2 = d from rfl, show d + 2 - 1 = d + 1 from rfl] at er
      have hin2 := evR_in hf hdp i (by omega) g hg
      have ea : nI (d + 2) - 2 = nI d := by rw [li_2, pk_sub (by omega)]; rfl
      have eb : nI (d + 2) - 1 = nI (d + 1) := nI_pred (d + 1)
      have body : k_X2_at c (nI (dpK s v i) - 2) (fun t75 => k_X2_at c (nI (dpK s v i) - 1) (fun t76 => k_X2_join (nI p.1) t75 t76 (fun t77 => k_X2_push c (nI (dpK s v i) - 2) t77 (fun t79 c78 => J t79 c78)))) := by
        rw [hdd, ea, eb, at_ok (by omega), at_ok (by omega), h5 d (by omega), h5 (d + 1) (by omega)]
        refine join_ok hp (hin2 d (by omega)) (hin2 (d + 1) (by omega)) fun z q1 q2 => ?_
        rw [← kv] at q1 q2
        refine fin _ _ (by omega) e1 (fun q hq => by omega) (fun g' hg' => ?_) (fun hno => q2 ?_) c hX h5
        · rw [er] at hg'
          obtain ⟨u, hu, hu2⟩ := Option.map_eq_some_iff.mp hg'
          cases hu2
          rw [q1 u hu]
          exact ⟨upL_s, fun q hq => upL_n (by omega)⟩
        · rw [er] at hno
          exact Option.map_eq_none_iff.mp hno
      rw [jn_eq, kx, m1m, if_pos (nI_pos' (by omega)), li_19]
      have n16 : nI p.1 ≠ 16 := by rw [li_16, ne_eq, nI_eq (by omega) (by omega)]; omega
      refine ite_b (fun z => ?_) fun z => ?_
      · dsimp only
        rw [if_pos n16]
        exact body
      · rw [li_25, if_pos (nI_le (by rw [nI_lt' (by omega) (by omega)] at z; omega) (by omega))]
        dsimp only
        rw [if_pos n16]
        exact body
  · have e : i = n := by omega
    subst e
    rw [hn, if_pos (Int32.le_refl _), hd1]
    show k_X2_at c (nI 1 - 1) _
    rw [show nI 1 - 1 = nI 0 from nI_pred 0, at_ok (by omega), h5 0 (by omega)]
    refine hQ _ _ hX (fun hr => ?_) (fun hr => Or.inl (Classical.byContradiction fun hz => hr ⟨g, hg, hz⟩))
    obtain ⟨g', hg', hne⟩ := hr
    rw [hg] at hg'
    cases hg'
    exact ⟨hne, evR_in hf hdp i (by omega) g hg 0 (by omega)⟩
