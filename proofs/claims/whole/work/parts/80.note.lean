/-! ===== notes made; what was wiped ===== -/
def MB (M M' : CT) : Prop := ∀ j k, 37 ≤ j → j ≤ 48 → M'.1 j k = M.1 j k
theorem dayL.mv2 {M M' : CT} {u : Bool} {d : Nat} (h : MB M M') : dayL M' u d = dayL M u d := by
  unfold dayL
  rw [h 46 _ (by omega) (by omega)]
  refine List.map_congr_left fun k _ => ?_
  rw [h 47 _ (by omega) (by omega), h 48 _ (by omega) (by omega)]
theorem wipL.mv2 {M M' : CT} {u : Bool} {D i : Nat} (h : MB M M') : wipL M' u D i = wipL M u D i := by
  unfold wipL
  refine List.filter_congr fun d _ => ?_
  rw [dayL.mv2 h]
theorem BHou.mv2 {B : VW} {M M' : CT} {u : Bool} {m i : Nat} (g : BHou B M u m i) (h : MB M M') : BHou B M' u m i := by
  unfold BHou at *
  rw [h 44 _ (by omega) (by omega), h 37 _ (by omega) (by omega), h 38 _ (by omega) (by omega), h 39 _ (by omega) (by omega), h 40 _ (by omega) (by omega), h 41 _ (by omega) (by omega), h 42 _ (by omega) (by omega), h 43 _ (by omega) (by omega)]
  exact g
theorem BDay.mv2 {K K' M M' : CT} {u : Bool} {m h d : Nat} (g : BDay K M u m h d) (e : MB M M') (e9 : K'.1 9 d = K.1 9 d) (e10 : K'.2 = K.2) : BDay K' M' u m h d := by
  unfold BDay at *
  rw [dayL.mv2 e, e 46 _ (by omega) (by omega), e9, e10]
  obtain ⟨⟨n, g1, g2, g3⟩, g4⟩ := g
  refine ⟨⟨n, g1, g2, fun k hk => ?_⟩, g4⟩
  rw [e 47 _ (by omega) (by omega), e 48 _ (by omega) (by omega)]
  exact g3 k hk
/-- another note: number n, of the house x (-1: a strike), y its sum or aim -/
theorem CO.note {H P K I M K' M' : CT} {l q f m h D n : Nat} {x y s t : Int32} (g : CO H P K I M l q f m h D n) (hn : n < 60) (h1 : x = -1 → t = y ∧ ∃ k : Nat, k < n ∧ y = nI k) (h2 : x ≠ -1 → t = -1 ∧ s = y ∧ ∃ k : Nat, k ≤ 9999 ∧ y = nI k)
    (eK : K' = sI (sI (sI (sI K 11 n x) 12 n s) 13 n t) 0 1 (nI (n + 1))) (eM : M' = sI (sI (sI (sI M 0 0 0) 49 n x) 50 n y) 0 78 (nI (n + 1))) : CO H P K' I M' l q f m h D (n + 1) := by
  have mo : ∀ j k, ¬ (j = 49 ∧ k = n) → ¬ (j = 50 ∧ k = n) → ¬ (j = 0 ∧ (k = 0 ∨ k = 78)) → M'.1 j k = M.1 j k := by
    intro j k c1 c2 c3
    rw [eM, sI_ne (by omega), sI_ne c2, sI_ne c1, sI_ne (by omega)]
  have ko : ∀ j k, ¬ (j = 11 ∧ k = n) → ¬ (j = 12 ∧ k = n) → ¬ (j = 13 ∧ k = n) → ¬ (j = 0 ∧ k = 1) → K'.1 j k = K.1 j k := by
    intro j k c1 c2 c3 c4
    rw [eK, sI_ne c4, sI_ne c3, sI_ne c2, sI_ne c1]
  have k2 : K'.2 = K.2 := by rw [eK]; rfl
  have mb : MB M M' := fun j k c1 c2 => mo j k (by omega) (by omega) (by omega)
  have m49 : M'.1 49 n = x := by rw [eM, sI_ne (by omega), sI_ne (by omega), sI_same]
  have m50 : M'.1 50 n = y := by rw [eM, sI_ne (by omega), sI_same]
  have m78 : M'.1 0 78 = nI (n + 1) := by rw [eM, sI_same]
  have k11 : K'.1 11 n = x := by rw [eK, sI_ne (by omega), sI_ne (by omega), sI_ne (by omega), sI_same]
  have k12 : K'.1 12 n = s := by rw [eK, sI_ne (by omega), sI_ne (by omega), sI_same]
  have k13 : K'.1 13 n = t := by rw [eK, sI_ne (by omega), sI_same]
  have k01 : K'.1 0 1 = nI (n + 1) := by rw [eK, sI_same]
  obtain ⟨⟨tt, g1, g2, g3, g4⟩, g5, g6, ⟨g7, g8, g9, g10⟩, g11, g12⟩ := g
  have h9 := g6.1.1
  have e1 : M'.1 1 = M.1 1 := funext fun k => mo 1 k (by omega) (by omega) (by omega)
  have hcl : clV M' = clV M := by
    funext j k
    unfold clV
    split
    · exact mo j k (by omega) (by omega) (by omega)
    · rfl
  refine ⟨⟨tt, g1, g2, by rw [mo 0 2 (by omega) (by omega) (by omega)]; exact g3, by rw [e1]; exact g4⟩, by rw [mo 0 68 (by omega) (by omega) (by omega), mo 0 69 (by omega) (by omega) (by omega)]; exact g5, g6.mv (fun k h1 h2 => mo 0 k (by omega) (by omega) (by omega)) (fun j k h1 h2 hk => mo j k (by omega) (by omega) (by omega)), ⟨?_, by rw [mo 0 77 (by omega) (by omega) (by omega)]; exact g8, m78, fun i hi => ?_⟩, ?_, fun i hi => ?_⟩
  · obtain ⟨⟨b1, b2, b3, b4⟩, b5, b6, b7, b8, b9⟩ := g7
    refine ⟨⟨b1, by omega, by rw [ko 0 0 (by omega) (by omega) (by omega) (by omega)]; exact b3, k01⟩, fun i hi => ((b5 i hi).mv2 mb).mvB fun j c1 c2 => ko j i (by omega) (by omega) (by omega) (by omega), fun d hd => (b6 d hd).mv2 mb (ko 9 d (by omega) (by omega) (by omega) (by omega)) k2, fun i hi => ?_, fun i hi => ?_, fun i hi hne => ?_⟩
    · rw [wipL.mv2 mb, ko 3 i (by omega) (by omega) (by omega) (by omega)]
      refine ⟨(b7 i hi).1, fun k hk => ?_⟩
      rw [mb 45 _ (by omega) (by omega)]
      exact (b7 i hi).2 k hk
    · rw [show oN false + i = i from Nat.zero_add i]
      by_cases e : i = n
      · subst e
        rw [m49, m50, k11, k12, k13]
        exact ⟨rfl, h1, fun z => ⟨(h2 z).1, (h2 z).2.1⟩⟩
      · have := b8 i (by omega)
        rw [show oN false + i = i from Nat.zero_add i] at this
        rw [ko 11 i (by omega) (by omega) (by omega) (by omega), ko 12 i (by omega) (by omega) (by omega) (by omega), ko 13 i (by omega) (by omega) (by omega) (by omega), mo 49 i (by omega) (by omega) (by omega), mo 50 i (by omega) (by omega) (by omega)]
        exact this
    · rw [show oN false + i = i from Nat.zero_add i] at hne ⊢
      by_cases e : i = n
      · subst e
        rw [m49] at hne
        rw [m50]
        exact (h2 hne).2.2
      · have := b9 i (by omega)
        rw [show oN false + i = i from Nat.zero_add i] at this
        rw [mo 49 i (by omega) (by omega) (by omega)] at hne
        rw [mo 50 i (by omega) (by omega) (by omega)]
        exact this hne
  · rw [mo 21 i (by omega) (by omega) (by omega), mo 44 i (by omega) (by omega) (by omega)]
    exact g10 i hi
  · rw [mo 0 93 (by omega) (by omega) (by omega), mo 0 94 (by omega) (by omega) (by omega), mo 0 95 (by omega) (by omega) (by omega)]
    rcases g11 with g | ⟨a, b, D', n', c1, c2, ⟨b1, b5, b6, b7, b8, b9⟩, c4⟩
    · exact Or.inl g
    · refine Or.inr ⟨a, b, D', n', c1, by omega, ⟨b1, fun i hi => (b5 i hi).mv2 mb, fun d hd => (b6 d hd).mv2 mb (ko 9 d (by omega) (by omega) (by omega) (by omega)) k2, fun i hi => ?_, fun i hi => ?_, fun i hi hne => ?_⟩, c4⟩
      · rw [wipL.mv2 mb]
        refine ⟨(b7 i hi).1, fun k hk => ?_⟩
        rw [mb 45 _ (by omega) (by omega)]
        exact (b7 i hi).2 k hk
      · have := b8 i hi
        rw [show oN true + i = 60 + i from rfl] at this ⊢
        rw [ko 11 i (by omega) (by omega) (by omega) (by omega), ko 12 i (by omega) (by omega) (by omega) (by omega), ko 13 i (by omega) (by omega) (by omega) (by omega), mo 49 _ (by omega) (by omega) (by omega), mo 50 _ (by omega) (by omega) (by omega)]
        exact this
      · have := b9 i hi
        rw [show oN true + i = 60 + i from rfl] at this hne ⊢
        rw [mo 49 _ (by omega) (by omega) (by omega)] at hne
        rw [mo 50 _ (by omega) (by omega) (by omega)]
        exact this hne
  · rw [mo 52 i (by omega) (by omega) (by omega), hcl]
    exact g12 i hi
section Note
variable {H P K I M : CT} {l q f m h D n : Nat} {a1 a2 a3 : Int32}
theorem addNote_ok {x s t : Int32} {Q : Int32 → CT → Prop} (hk : K.1 0 1 = nI n) (hn : n ≤ 60) (hQ : if n = 60 then Q (-1) K else Q (nI n) (sI (sI (sI (sI K 11 n x) 12 n s) 13 n t) 0 1 (nI (n + 1)))) : k_X0_addNote K x s t Q := by
  unfold k_X0_addNote
  rw [hk, li_60]
  by_cases e : n = 60
  · rw [if_pos e] at hQ
    rw [if_neg (nI_nlt (by omega) (by omega))]
    exact hQ
  · rw [if_neg e] at hQ
    rw [if_pos (nI_lt (by omega) (by omega))]
    simp (disch := omega) only [wrI_n, wrF_eq, sI_ne, sI_same, hk, nI_1, nI_pred]
    exact hQ
theorem g_strike (g : CO H P K I M l q f m h D n) : k_X11_strike H K a1 fun x K' => k_X12_strike M a1 fun y M' => x = y ∧ ∃ n', CO H P K' I M' l q f m h D n' := by
  have g' := g
  obtain ⟨-, -, -, ⟨⟨⟨-, n6, k0, k1⟩, -⟩, -, d2, -⟩, -⟩ := g
  have v78 : (sI M 0 0 0).1 0 78 = nI n := (th_at (by omega)).trans d2
  have no : ¬ (∃ i, i < n ∧ a1 = nI i) → k_X12_strike M a1 fun y M' => -1 = y ∧ ∃ n', CO H P K I M' l q f m h D n' := by
    intro c
    unfold k_X12_strike
    rw [wrF_eq, v78]
    rcases i32_cases a1 with z | ⟨i, hi, rfl⟩
    · rw [if_pos z]
      exact ⟨rfl, n, g'.mv MA.th⟩
    · rw [if_neg (nI_pos hi), if_pos (nI_le (Nat.le_of_not_lt fun q => c ⟨i, q, rfl⟩) hi)]
      exact ⟨rfl, n, g'.mv MA.th⟩
  unfold k_X11_strike
  rw [k1]
  by_cases c : ∃ i, i < n ∧ a1 = nI i
  · obtain ⟨i, hi, rfl⟩ := c
    rw [if_neg (nI_pos (by omega)), if_pos (nI_lt hi (by omega))]
    refine addNote_ok k1 n6 ?_
    have hm : ¬ nI i < 0 := nI_pos (by omega)
    by_cases e : n = 60
    · rw [if_pos e]
      show k_X12_strike _ _ _
      unfold k_X12_strike
      rw [wrF_eq, v78, if_neg hm, if_neg (nI_ge hi (by omega)), if_neg (by rw [e]; exact fun z => z rfl)]
      exact ⟨rfl, n, g'.mv MA.th⟩
    · rw [if_neg e]
      show k_X12_strike _ _ _
      unfold k_X12_strike
      rw [wrF_eq, v78, if_neg hm, if_neg (nI_ge hi (by omega)), if_pos (by rw [li_60]; intro z; rw [nI_eq (by omega) (by omega)] at z; exact e z)]
      simp (disch := omega) only [wrI_n, wrF_eq, sI_ne, sI_same, d2, nI_1, nI_pred]
      exact ⟨trivial, n + 1, g'.note (x := -1) (y := nI i) (s := 0) (t := nI i) (by omega) (fun _ => ⟨rfl, i, hi, rfl⟩) (fun z => absurd rfl z) rfl rfl⟩
  · rcases i32_cases a1 with z | ⟨i, hi, rfl⟩
    · rw [if_pos z]
      exact no c
    · rw [if_neg (nI_pos hi), if_neg (nI_nlt (Nat.le_of_not_lt fun q => c ⟨i, q, rfl⟩) hi)]
      exact no c
theorem g_pay (g : CO H P K I M l q f m h D n) : k_X11_pay H P K a1 a2 a3 fun x K' => k_X12_pay M a1 a2 a3 fun y M' => x = y ∧ ∃ n', CO H P K' I M' l q f m h D n' := by
  have g' := g
  obtain ⟨-, -, ⟨⟨b, bp, bv⟩, -⟩, ⟨⟨⟨-, n6, k0, k1⟩, -⟩, -, d2, -⟩, -⟩ := g
  have v78 : (sI M 0 0 0).1 0 78 = nI n := (th_at (by omega)).trans d2
  have v38 : (sI M 0 0 0).1 0 38 = nI h := (th_at (by omega)).trans bv.2.2.2.2
  have fin : (fun (y : Int32) M' => -1 = y ∧ ∃ n', CO H P K I M' l q f m h D n') (-1) (sI M 0 0 0) := ⟨rfl, n, g'.mv MA.th⟩
  unfold k_X11_pay
  by_cases c1 : ∃ i, i < h ∧ a1 = nI i
  · obtain ⟨i, hi, rfl⟩ := c1
    rw [hasHouse_y bp.2.2.2.2 (by omega) hi, if_neg (by decide)]
    refine ite_b (fun z1 => ?_) fun z1 => ite_b (fun z2 => ?_) fun z2 => ite_b (fun z3 => ?_) fun z3 => ite_b (fun z4 => ?_) fun z4 => ?_
    · show k_X12_pay _ _ _ _ _
      unfold k_X12_pay
      rw [wrF_eq, isHouse_y v38 (by omega) hi, if_neg (by decide), if_pos z1]
      exact fin
    · show k_X12_pay _ _ _ _ _
      unfold k_X12_pay
      rw [wrF_eq, isHouse_y v38 (by omega) hi, if_neg (by decide), if_neg z1, if_pos z2]
      exact fin
    · show k_X12_pay _ _ _ _ _
      unfold k_X12_pay
      rw [wrF_eq, isHouse_y v38 (by omega) hi, if_neg (by decide), if_neg z1, if_neg z2, if_pos z3]
      exact fin
    · obtain ⟨s, hs, rfl⟩ := nI_of z3
      have hs9 : s ≤ 9999 := by rw [li_9999, nI_le' hs (by omega)] at z4; exact z4
      refine addNote_ok k1 n6 ?_
      have z5 : ¬ (9999 : Int32) < nI s := by rw [li_9999, nI_lt' (by omega) hs]; omega
      by_cases e : n = 60
      · rw [if_pos e]
        show k_X12_pay _ _ _ _ _
        unfold k_X12_pay
        rw [wrF_eq, isHouse_y v38 (by omega) hi, if_neg (by decide), if_neg z1, if_neg z2, if_neg z3, if_neg z5, v78, if_neg (by rw [e]; exact fun z => z rfl)]
        exact fin
      · rw [if_neg e]
        show k_X12_pay _ _ _ _ _
        unfold k_X12_pay
        rw [wrF_eq, isHouse_y v38 (by omega) hi, if_neg (by decide), if_neg z1, if_neg z2, if_neg z3, if_neg z5, v78, if_pos (by rw [li_60]; intro z; rw [nI_eq (by omega) (by omega)] at z; exact e z)]
        simp (disch := omega) only [wrI_n, wrF_eq, sI_ne, sI_same, d2, nI_1, nI_pred]
        exact ⟨trivial, n + 1, g'.note (x := nI i) (y := nI s) (s := nI s) (t := -1) (by omega) (fun z => by rw [m1_ne (by omega)] at z; exact z.elim) (fun _ => ⟨rfl, rfl, s, hs9, rfl⟩) rfl rfl⟩
    · show k_X12_pay _ _ _ _ _
      unfold k_X12_pay
      rw [wrF_eq, isHouse_y v38 (by omega) hi, if_neg (by decide), if_neg z1, if_neg z2, if_neg z3, if_pos (Int32.not_le.mp z4)]
      exact fin
  · rw [hasHouse_n bp.2.2.2.2 (by omega) c1, if_pos rfl]
    show k_X12_pay _ _ _ _ _
    unfold k_X12_pay
    rw [wrF_eq, isHouse_n v38 (by omega) c1, if_pos rfl]
    exact fin
end Note
