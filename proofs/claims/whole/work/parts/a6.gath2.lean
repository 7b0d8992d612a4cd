/-! ===== gatherWidest ===== -/
theorem gather_ok {P F : CT} {V : VW} {l q f tools : Nat} {held : Bool} {Q : Int32 → CT → Prop} (T : TLS P.1 V l q) (g : PFro P.1 V f) (L : FLk F V l q f tools held) (hQ : ∀ s c, GW (msS V l f tools held) F (((l + q) * nv (V 8 f)) * 9) s c → Q s c) : k_X1_gatherWidest P F (nI (nv (V 8 f))) Q := by
  have l4 := T.1.1
  have q3 := T.1.2.1
  have ml := fun i => ms_lt (l := l) (tools := tools) (held := held) (i := i) g
  have hw : nv (V 8 f) ≤ 12 := by
    obtain ⟨-, w, u, p, b, s, hw, -, -, -, -, ⟨e8, -⟩, -⟩ := g
    rw [e8, nv_n (by omega)]
    omega
  have mv : ∀ {i s c}, GW (msS V l f tools held) F i s c → FLk c V l q f tools held := fun h => L.mv fun j k hj => h.2.1 j k (by omega) (by omega)
  unfold k_X1_gatherWidest
  rw [wrF_eq]
  refine upl3 (N := l + q) (a := 0) (s := (0 : Int32)) (by omega) (fun t s c => GW (msS V l f tools held) F ((t * nv (V 8 f)) * 9) s c) ?_ ?_ (by omega) ?_
  · intro R t s c _ ht hi ih
    rw [total_eq T, if_neg (nI_ge ht (by omega))]
    refine upl3 (N := nv (V 8 f)) (a := 0) (by omega) (fun k s c => GW (msS V l f tools held) F ((t * nv (V 8 f) + k) * 9) s c) ?_ ?_ (by omega) hi
    · intro R2 k s c _ hk hi2 ih2
      rw [if_neg (nI_ge hk (by omega))]
      refine upl3 (N := 10) (a := 1) (by omega) (fun d s c => GW (msS V l f tools held) F ((t * nv (V 8 f) + k) * 9 + (d - 1)) s c) ?_ ?_ (by omega) hi2
      · intro R3 d s c h1 h10 hi3 ih3
        have bd : (t + 1) * nv (V 8 f) ≤ 7 * 12 := Nat.mul_le_mul (by omega) hw
        rw [Nat.add_mul, Nat.one_mul] at bd
        have ed : (t * nv (V 8 f) + k) * 9 + (d + 1 - 1) = (t * nv (V 8 f) + k) * 9 + (d - 1) + 1 := by omega
        rw [li_9, if_neg (by rw [nI_lt' (by omega) (by omega)]; omega), panesOf_eq T g (mv hi3) ht hk h1 (by omega), nI_1]
        have mi := ml ((t * nv (V 8 f) + k) * 9 + (d - 1))
        by_cases hz : msS V l f tools held ((t * nv (V 8 f) + k) * 9 + (d - 1)) = 0
        · rw [if_pos (by rw [hz]; rfl)]
          refine ih3 _ _ ?_
          rw [ed]
          exact hi3.z hz
        · rw [if_neg (show ¬ nI _ = 0 from fun z => hz ((nI_eq (b := 0) (by omega) (by omega)).mp z))]
          refine hi3.s hz mi (by omega) fun x c' h => ?_
          rw [wrF_eq, vK_eq]
          refine ih3 _ _ ?_
          rw [ed]
          exact h
      · intro R3 s c hi3
        rw [li_9, if_pos (by rw [nI_lt' (by omega) (by omega)]; omega), nI_1]
        refine ih2 _ _ ?_
        have ed : (t * nv (V 8 f) + (k + 1)) * 9 = (t * nv (V 8 f) + k) * 9 + (10 - 1) := by omega
        rw [ed]
        exact hi3
    · intro R2 s c hi2
      rw [if_pos (Int32.le_refl _), nI_1]
      refine ih _ _ ?_
      rw [Nat.add_mul, Nat.one_mul]
      exact hi2
  · intro R s c hi
    rw [total_eq T, if_pos (Int32.le_refl _)]
    exact hQ s c hi
  · rw [Nat.zero_mul, Nat.zero_mul]
    exact ⟨rfl, fun j k h1 h2 => sI_ne h2, 0, by omega, sI_same, id, fun p h => absurd h (by omega), fun p p' h => absurd h (by omega), fun x ⟨i, h, _⟩ => absurd h (by omega)⟩
