/-! ===== reading: the rules' lines, kinds of tokens ===== -/
def knd (t : T4) : Nat := (KT t).toNatClampNeg
theorem sK_all : ∀ v ∈ sgL, sK v = nI (sK v).toNatClampNeg ∧ (27 ≤ (sK v).toNatClampNeg ∧ (sK v).toNatClampNeg ≤ 39) ∧ ((30 ≤ (sK v).toNatClampNeg ∧ (sK v).toNatClampNeg ≤ 35) ↔ (v = 60 ∨ v = 62 ∨ v = 61 ∨ 256 ≤ v)) := by decide
theorem sK_sg : ∀ v ∈ sgL, 30 ≤ (sK v).toNatClampNeg → ∃ q ∈ signL, q.1 = (sK v).toNatClampNeg ∧ v = nI q.2 := by decide
theorem perm_all : ∀ m : Fin 25, (nI (permL.getD m.val 0)).toNatClampNeg = permL.getD m.val 0 ∧ permL.getD m.val 0 ≤ 24 ∧ ((19 ≤ permL.getD m.val 0) ↔ (nI m.val = 13 ∨ ¬ nI m.val < 20)) := by decide
theorem perm_nm : ∀ m : Fin 25, 19 ≤ permL.getD m.val 0 → ∃ q ∈ nameL, q.1 = permL.getD m.val 0 ∧ nI m.val = nI q.2 := by decide
section Knd
variable {t : T4}
theorem knd_0 (h : t.2.2.1 = 0) {m : Fin 25} (hm : t.2.2.2 = nI m.val) : knd t = permL.getD m.val 0 := by
  unfold knd
  rw [(KT_0 h hm).1]
  exact (perm_all m).1
theorem knd_1 (h : t.2.2.1 = 1) : knd t = 25 := by
  unfold knd
  rw [KT_1 h]
  decide
theorem knd_2 (h : t.2.2.1 = 2) : knd t = 26 := by
  unfold knd
  rw [KT_2 h]
  decide
theorem knd_3 (h : t.2.2.1 = 3) : knd t = (sK t.2.2.2).toNatClampNeg := by
  unfold knd
  rw [KT_3 h]
theorem knd_4 (h : t.2.2.1 = 4) : knd t = 41 := by
  unfold knd
  rw [KT_4 h]
  decide
theorem knd_5 (h : t.2.2.1 = 5) : knd t = 40 := by
  unfold knd
  rw [KT_5 h]
  decide
theorem knd_e (s : SHP t) : KT t = nI (knd t) ∧ knd t ≤ 41 := by
  rcases s with ⟨h, m, hm⟩ | h | h | ⟨h, hm⟩ | h | h
  · rw [knd_0 h hm]
    have := (perm_all m).2.1
    exact ⟨(KT_0 h hm).1, by omega⟩
  · rw [knd_1 h]
    exact ⟨KT_1 h, by omega⟩
  · rw [knd_2 h]
    exact ⟨KT_2 h, by omega⟩
  · rw [knd_3 h]
    have q := sK_all _ hm
    exact ⟨(KT_3 h).trans q.1, by omega⟩
  · rw [knd_4 h]
    exact ⟨KT_4 h, by omega⟩
  · rw [knd_5 h]
    exact ⟨KT_5 h, by omega⟩
theorem knd_k (s : SHP t) {k : Nat} (hk : k ≤ 41) : (knd t = k) = (KT t = nI k) := propext ⟨fun e => by rw [(knd_e s).1, e], fun e => by
  unfold knd
  rw [e]
  exact nI_clamp (by omega)⟩
theorem knd_16 (s : SHP t) : (knd t = 16) = (t.2.2.1 = 0 ∧ t.2.2.2 = 12) := (knd_k s (by omega)).trans (KT_w16 s)
theorem knd_17 (s : SHP t) : (knd t = 17) = (t.2.2.1 = 0 ∧ t.2.2.2 = 18) := (knd_k s (by omega)).trans (KT_w17 s)
theorem knd_18 (s : SHP t) : (knd t = 18) = (t.2.2.1 = 0 ∧ t.2.2.2 = 19) := (knd_k s (by omega)).trans (KT_w18 s)
theorem knd_26 (s : SHP t) : (knd t = 26) = (t.2.2.1 = 2) := (knd_k s (by omega)).trans (KT_numb s)
theorem knd_27 (s : SHP t) : (knd t = 27) = (t.2.2.1 = 3 ∧ t.2.2.2 = 59) := (knd_k s (by omega)).trans (KT_s27 s)
theorem knd_28 (s : SHP t) : (knd t = 28) = (t.2.2.1 = 3 ∧ t.2.2.2 = 40) := (knd_k s (by omega)).trans (KT_s28 s)
theorem knd_29 (s : SHP t) : (knd t = 29) = (t.2.2.1 = 3 ∧ t.2.2.2 = 41) := (knd_k s (by omega)).trans (KT_s29 s)
theorem knd_36 (s : SHP t) : (knd t = 36) = (t.2.2.1 = 3 ∧ t.2.2.2 = 43) := (knd_k s (by omega)).trans (KT_s36 s)
theorem knd_37 (s : SHP t) : (knd t = 37) = (t.2.2.1 = 3 ∧ t.2.2.2 = 45) := (knd_k s (by omega)).trans (KT_s37 s)
theorem knd_38 (s : SHP t) : (knd t = 38) = (t.2.2.1 = 3 ∧ t.2.2.2 = 42) := (knd_k s (by omega)).trans (KT_s38 s)
theorem knd_39 (s : SHP t) : (knd t = 39) = (t.2.2.1 = 3 ∧ t.2.2.2 = 47) := (knd_k s (by omega)).trans (KT_s39 s)
theorem knd_41 (s : SHP t) : (knd t = 41) = (t.2.2.1 = 4) := (knd_k s (by omega)).trans (KT_end s)
theorem knd_cmp (s : SHP t) : (30 ≤ knd t ∧ knd t ≤ 35) ↔ (t.2.2.1 = 3 ∧ (t.2.2.2 = 60 ∨ t.2.2.2 = 62 ∨ t.2.2.2 = 61 ∨ 256 ≤ t.2.2.2)) := by
  have no : ∀ x : Int32, t.2.2.1 = x → x ≠ 3 → ¬ (t.2.2.1 = 3 ∧ (t.2.2.2 = 60 ∨ t.2.2.2 = 62 ∨ t.2.2.2 = 61 ∨ 256 ≤ t.2.2.2)) := fun x h1 h2 h3 => h2 (h1.symm.trans h3.1)
  rcases s with ⟨h, m, hm⟩ | h | h | ⟨h, hm⟩ | h | h
  · have := (perm_all m).2.1
    rw [knd_0 h hm]
    exact ⟨fun y => absurd y (by omega), fun y => absurd y (no _ h (by decide))⟩
  · rw [knd_1 h]
    exact ⟨fun y => absurd y (by omega), fun y => absurd y (no _ h (by decide))⟩
  · rw [knd_2 h]
    exact ⟨fun y => absurd y (by omega), fun y => absurd y (no _ h (by decide))⟩
  · rw [knd_3 h, (sK_all _ hm).2.2]
    exact ⟨fun y => ⟨h, y⟩, fun y => y.2⟩
  · rw [knd_4 h]
    exact ⟨fun y => absurd y (by omega), fun y => absurd y (no _ h (by decide))⟩
  · rw [knd_5 h]
    exact ⟨fun y => absurd y (by omega), fun y => absurd y (no _ h (by decide))⟩
theorem knd_sg (s : SHP t) (h3 : 30 ≤ knd t) (h9 : knd t ≤ 39) : t.2.2.1 = 3 ∧ ∃ q ∈ signL, q.1 = knd t ∧ t.2.2.2 = nI q.2 := by
  rcases s with ⟨h, m, hm⟩ | h | h | ⟨h, hm⟩ | h | h
  · have := (perm_all m).2.1
    rw [knd_0 h hm] at h3
    omega
  · rw [knd_1 h] at h3
    omega
  · rw [knd_2 h] at h3
    omega
  · rw [knd_3 h] at h3 ⊢
    exact ⟨h, sK_sg _ hm h3⟩
  · rw [knd_4 h] at h9
    omega
  · rw [knd_5 h] at h9
    omega
theorem knd_nm (s : SHP t) : (19 ≤ knd t ∧ knd t ≤ 24) ↔ (t.2.2.1 = 0 ∧ (t.2.2.2 = 13 ∨ ¬ t.2.2.2 < 20)) := by
  have no : ∀ x : Int32, t.2.2.1 = x → x ≠ 0 → ¬ (t.2.2.1 = 0 ∧ (t.2.2.2 = 13 ∨ ¬ t.2.2.2 < 20)) := fun x h1 h2 h3 => h2 (h1.symm.trans h3.1)
  rcases s with ⟨h, m, hm⟩ | h | h | ⟨h, hm⟩ | h | h
  · have q := perm_all m
    rw [knd_0 h hm, hm]
    exact ⟨fun y => ⟨h, q.2.2.mp y.1⟩, fun y => ⟨q.2.2.mpr y.2, q.2.1⟩⟩
  · rw [knd_1 h]
    exact ⟨fun y => absurd y (by omega), fun y => absurd y (no _ h (by decide))⟩
  · rw [knd_2 h]
    exact ⟨fun y => absurd y (by omega), fun y => absurd y (no _ h (by decide))⟩
  · have q := sK_all _ hm
    rw [knd_3 h]
    exact ⟨fun y => absurd y (by omega), fun y => absurd y (no _ h (by decide))⟩
  · rw [knd_4 h]
    exact ⟨fun y => absurd y (by omega), fun y => absurd y (no _ h (by decide))⟩
  · rw [knd_5 h]
    exact ⟨fun y => absurd y (by omega), fun y => absurd y (no _ h (by decide))⟩
theorem knd_nv (s : SHP t) (h : 19 ≤ knd t ∧ knd t ≤ 24) : ∃ q ∈ nameL, q.1 = knd t ∧ t.2.2.2 = nI q.2 := by
  rcases s with ⟨e, m, hm⟩ | e | e | ⟨e, hm⟩ | e | e
  · rw [knd_0 e hm] at h ⊢
    rw [hm]
    exact perm_nm m h.1
  · rw [knd_1 e] at h
    omega
  · rw [knd_2 e] at h
    omega
  · have q := sK_all _ hm
    rw [knd_3 e] at h
    omega
  · rw [knd_4 e] at h
    omega
  · rw [knd_5 e] at h
    omega
end Knd
/-- rank of the latest waiting sign -/
def lk (W : List Nat) : Nat := rkN (W.getLast?.getD 28)
theorem lk_snoc {W : List Nat} {x : Nat} : lk (W ++ [x]) = rkN x := by
  unfold lk
  rw [List.getLast?_append]
  rfl
theorem lk_le (W : List Nat) : lk W ≤ 6 := rk_le _
theorem lk_at {W : List Nat} {a : Nat} (h : lk W ≤ a) : ∀ L' x, W = L' ++ [x] → rkN x ≤ a := fun L' x e => by
  rw [e, lk_snoc] at h
  exact h
theorem latest_ok {R : CT} {W : List Nat} {Q : Int32 → Prop} (h : STK R W) (hQ : Q (nI (lk W))) : k_X7_latestWaiting R (fun t => k_X7_rank t Q) := by
  rcases List.eq_nil_or_concat W with e | ⟨L, x, e⟩
  · subst e
    exact latest_0 h (rank_ok (by omega) hQ)
  · rw [List.concat_eq_append] at e
    subst e
    rw [lk_snoc] at hQ
    exact latest_s h (rank_ok (h.2.2.1 x (List.mem_append_right _ (List.mem_singleton.mpr rfl))) hQ)
/-- what the signs settled leave -/
theorem adL_0 {u : Nat} : ∀ (p : List Nat) (P : CT) (ne : Nat), P.1 (11 + 2 * u) 0 = nI ne → (adL P u ne p).1 (11 + 2 * u) 0 = nI (ne + p.length)
  | [], P, ne, h => h
  | x :: r, P, ne, h => by
    show (adL (ad1 P u ne (-1 - nI x)) u (ne + 1) r).1 (11 + 2 * u) 0 = _
    rw [adL_0 r _ (ne + 1) ad1_0, List.length_cons]
    congr 1
    omega
theorem ad1_ne {P : CT} {u ne j k : Nat} {x : Int32} (h : ¬ (j = 11 + 2 * u ∧ k = 0)) (h' : ¬ (j = 12 + 2 * u ∧ k = ne)) : (ad1 P u ne x).1 j k = P.1 j k := by
  unfold ad1
  rw [sI_ne (by omega), sI_ne (by omega)]
theorem ad1_at {P : CT} {u ne : Nat} {x : Int32} : (ad1 P u ne x).1 (12 + 2 * u) ne = x := by
  unfold ad1
  rw [sI_ne (by omega), show 11 + 2 * u + 1 = 12 + 2 * u by omega, sI_same]
theorem adL_ne {u j k : Nat} : ∀ (p : List Nat) (P : CT) (ne : Nat), ¬ (j = 11 + 2 * u ∧ k = 0) → (j = 12 + 2 * u → k < ne) → (adL P u ne p).1 j k = P.1 j k
  | [], P, ne, h, h' => rfl
  | x :: r, P, ne, h, h' => by
    show (adL (ad1 P u ne (-1 - nI x)) u (ne + 1) r).1 j k = _
    rw [adL_ne r _ (ne + 1) h (by omega)]
    exact ad1_ne h (by omega)
theorem adL_at {u j y : Nat} : ∀ (p : List Nat) (P : CT) (ne : Nat), p[j]? = some y → (adL P u ne p).1 (12 + 2 * u) (ne + j) = -1 - nI y
  | [], P, ne, h => by simp at h
  | x :: r, P, ne, h => by
    show (adL (ad1 P u ne (-1 - nI x)) u (ne + 1) r).1 (12 + 2 * u) (ne + j) = _
    rcases j with _ | j
    · rw [show ne + 0 = ne from rfl, adL_ne r _ (ne + 1) (by omega) (by omega), ad1_at]
      rw [List.getElem?_cons_zero] at h
      rw [Option.some.inj h]
    · rw [List.getElem?_cons_succ] at h
      rw [show ne + (j + 1) = ne + 1 + j by omega]
      exact adL_at r _ (ne + 1) h
