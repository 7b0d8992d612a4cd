/-! ===== both sides' tokens agree ===== -/
def permL : List Nat := [0, 1, 2, 3, 4, 5, 6, 7, 8, 9, 10, 11, 16, 22, 12, 13, 14, 15, 17, 18, 19, 20, 21, 23, 24]
def scI (v : Int32) : Int32 := v.toInt8.toInt32
theorem fa_or (a b : Nat) : nI a ||| nI b = nI (a ||| b) := by
  apply Int32.toBitVec_inj.1
  show BitVec.ofNat 32 a ||| BitVec.ofNat 32 b = BitVec.ofNat 32 (a ||| b)
  apply BitVec.eq_of_getLsbD_eq
  intro i hi
  simp [hi]
theorem fa_or_sum {a k : Nat} (b : Nat) (h : a < 2 ^ k) : nI (2 ^ k * b) ||| nI a = nI (2 ^ k * b + a) := by rw [fa_or, Nat.two_pow_add_eq_or_of_lt h]
theorem shl_amt : ∀ m : Fin 32, ((nI m.val &&& 31).toBitVec.smod 32).toNat = m.val := by decide +kernel
theorem shl_nI {v m : Nat} (hm : m < 32) (h : v * 2 ^ m < 2 ^ 32) : nI v <<< (nI m &&& 31) = nI (v * 2 ^ m) := pk_shlN _ m (shl_amt ⟨m, hm⟩) h
theorem by256 {v : Int32} (h0 : 0 ≤ v) (h1 : v < 256) : ∃ m : Fin 256, v = nI m.val := by
  obtain ⟨j, hj, rfl⟩ := nI_of (fun h => absurd h0 (Int32.not_le.mpr h))
  exact ⟨⟨j, by rw [show (256 : Int32) = nI 256 from rfl, nI_lt' hj (by decide)] at h1; exact h1⟩, rfl⟩
theorem sc_all : ∀ m : Fin 256, isB (scI (nI m.val)) = isB (nI m.val) ∧ isLt (scI (nI m.val)) = isLt (nI m.val) ∧ isDg (scI (nI m.val)) = isDg (nI m.val) ∧ (isLt (nI m.val) = true → scI (nI m.val) = nI m.val) ∧ (isDg (nI m.val) = true → scI (nI m.val) = nI m.val) ∧ (scI (nI m.val) = 61 ↔ nI m.val = 61) ∧ (scI (nI m.val) = 62 ↔ nI m.val = 62) := by decide +kernel
/-- the class's signs are the text's, as bytes -/
def TR (tp tx : Nat → Int32) (n : Nat) : Prop := ∀ i, i < n → 0 ≤ tx i ∧ tx i < 256 ∧ tp i = scI (tx i)
section TRel
variable {tp tx : Nat → Int32} {n : Nat}
theorem sp_congr {p : Int32 → Bool} (h : ∀ i, i < n → p (tp i) = p (tx i)) (i : Nat) : sp p tp n i = sp p tx n i := by
  refine sp_ind (p := p) (tx := tx) (n := n) (P := fun i => sp p tp n i = sp p tx n i) (fun i hi => ?_) (fun i g1 g2 ih => ?_) i
  · rw [sp_eq, sp_eq p tx, if_neg hi, if_neg]
    intro q
    exact hi ⟨q.1, by rw [← h i q.1]; exact q.2⟩
  · rw [sp_eq, sp_eq p tx n i, if_pos ⟨g1, by rw [h i g1]; exact g2⟩, if_pos ⟨g1, g2⟩]
    exact ih
theorem TR.all (h : TR tp tx n) {i : Nat} (hi : i < n) : isB (tp i) = isB (tx i) ∧ isLt (tp i) = isLt (tx i) ∧ isDg (tp i) = isDg (tx i) ∧ (isLt (tx i) = true → tp i = tx i) ∧ (isDg (tx i) = true → tp i = tx i) ∧ (tp i = 61 ↔ tx i = 61) ∧ (tp i = 62 ↔ tx i = 62) := by
  obtain ⟨h0, h1, h2⟩ := h i hi
  obtain ⟨m, hm⟩ := by256 h0 h1
  rw [h2, hm]
  exact sc_all m
theorem TR.B (h : TR tp tx n) (i : Nat) : sp isB tp n i = sp isB tx n i := sp_congr (fun i hi => (h.all hi).1) i
theorem TR.L (h : TR tp tx n) (i : Nat) : sp isLt tp n i = sp isLt tx n i := sp_congr (fun i hi => (h.all hi).2.1) i
theorem TR.D (h : TR tp tx n) (i : Nat) : sp isDg tp n i = sp isDg tx n i := sp_congr (fun i hi => (h.all hi).2.2.1) i
theorem cpl_congr {e : Nat} : ∀ (w : List Int32) (p : Nat), (∀ i, p ≤ i → i < e → tp i = tx i) → cpl tp e w p = cpl tx e w p
  | [], _, _ => rfl
  | a :: w, p, h => by
    show (if p < e ∧ tp p = a then 1 + cpl tp e w (p + 1) else 0) = (if p < e ∧ tx p = a then 1 + cpl tx e w (p + 1) else 0)
    by_cases hp : p < e
    · rw [h p (Nat.le_refl _) hp, cpl_congr w (p + 1) (fun i h1 h2 => h i (by omega) h2)]
    · rw [if_neg (fun q => hp q.1), if_neg (fun q => hp q.1)]
theorem eqW_congr {p e : Nat} (w : List Int32) (h : ∀ i, p ≤ i → i < e → tp i = tx i) : eqW tp p e w = eqW tx p e w := by
  unfold eqW
  rw [cpl_congr w p h]
theorem cpl_full {e : Nat} : ∀ (w : List Int32) (p : Nat), cpl tx e w p = w.length → ∀ i, i < w.length → w[i]? = some (tx (p + i))
  | [], _, _ => fun i hi => by simp at hi
  | a :: w, p, h => by
    have hc : cpl tx e (a :: w) p = if p < e ∧ tx p = a then 1 + cpl tx e w (p + 1) else 0 := rfl
    by_cases hp : p < e ∧ tx p = a
    · rw [hc, if_pos hp, List.length_cons] at h
      intro i hi
      cases i with
      | zero => rw [List.getElem?_cons_zero, Nat.add_zero, hp.2]
      | succ i =>
        rw [List.getElem?_cons_succ, cpl_full (e := e) w (p + 1) (by omega) i (by rw [List.length_cons] at hi; omega), show p + 1 + i = p + (i + 1) by omega]
    · rw [hc, if_neg hp, List.length_cons] at h
      omega
theorem eqW_uniq {p e : Nat} {w w' : List Int32} (h : eqW tx p e w = true) (h' : eqW tx p e w' = true) : w = w' := by
  obtain ⟨a1, a2⟩ := of_decide_eq_true h
  obtain ⟨b1, b2⟩ := of_decide_eq_true h'
  apply List.ext_getElem?
  intro i
  by_cases hi : i < w.length
  · rw [cpl_full w p a1 i hi, cpl_full w' p b1 i (by omega)]
  · rw [List.getElem?_eq_none (by omega), List.getElem?_eq_none (by omega)]
theorem wfind_none {p e : Nat} : ∀ (ws : List (List Int32)) (m : Nat), (∀ w ∈ ws, eqW tx p e w = false) → wfind tx p e ws m = -1
  | [], _, _ => rfl
  | w :: ws, m, h => by
    show (if eqW tx p e w = true then nI m else wfind tx p e ws (m + 1)) = -1
    rw [if_neg (by rw [h w List.mem_cons_self]; decide)]
    exact wfind_none ws (m + 1) (fun w' hw' => h w' (List.mem_cons_of_mem _ hw'))
theorem wfind_some {p e : Nat} {w : List Int32} (hw : eqW tx p e w = true) : ∀ (ws : List (List Int32)) (m k : Nat), ws[k]? = some w → (∀ j, j < k → ws[j]? ≠ some w) → wfind tx p e ws m = nI (m + k)
  | [], _, _, h, _ => by simp at h
  | v :: ws, m, k, h, hn => by
    show (if eqW tx p e v = true then nI m else wfind tx p e ws (m + 1)) = nI (m + k)
    cases k with
    | zero =>
      rw [List.getElem?_cons_zero] at h
      cases h
      rw [if_pos hw]
      rfl
    | succ k =>
      have hv : ¬ eqW tx p e v = true := fun q => hn 0 (by omega) (by rw [List.getElem?_cons_zero, eqW_uniq q hw])
      rw [if_neg hv, wfind_some hw ws (m + 1) k (by rw [List.getElem?_cons_succ] at h; exact h) (fun j hj => by
        have := hn (j + 1) (by omega)
        rw [List.getElem?_cons_succ] at this
        exact this), show m + 1 + k = m + (k + 1) by omega]
theorem perm_ok : ∀ m : Fin 25, ∃ w, wl1[m.val]? = some w ∧ wl0[permL.getD m.val 0]? = some w ∧ (∀ j : Fin 25, j.val < m.val → wl1[j.val]? ≠ some w) ∧ (∀ j : Fin 25, j.val < permL.getD m.val 0 → wl0[j.val]? ≠ some w) ∧ permL.getD m.val 0 < 25 := by
  intro m
  refine ⟨wl1.getD m.val [], ?_⟩
  revert m
  decide +kernel
theorem wl01 : ∀ w ∈ wl0, w ∈ wl1 := by decide +kernel
/-- the word's number in the class's row, by that in the reference's -/
theorem wfind_01 {p e : Nat} (h : ∀ i, p ≤ i → i < e → tp i = tx i) : (wfind tx p e wl1 0 = -1 ∧ wfind tp p e wl0 0 = -1) ∨ ∃ m : Fin 25, wfind tx p e wl1 0 = nI m.val ∧ wfind tp p e wl0 0 = nI (permL.getD m.val 0) := by
  by_cases hx : ∃ w ∈ wl1, eqW tx p e w = true
  · obtain ⟨w, hw, he⟩ := hx
    obtain ⟨k, hk⟩ := List.getElem?_of_mem hw
    have hk25 : k < 25 := by
      have := (List.getElem?_eq_some_iff.mp hk).1
      exact this
    obtain ⟨w', p1, p2, p3, p4, p5⟩ := perm_ok ⟨k, hk25⟩
    dsimp only at p1 p2 p3 p4 p5
    rw [hk] at p1
    cases p1
    right
    refine ⟨⟨k, hk25⟩, ?_, ?_⟩
    · rw [wfind_some he wl1 0 k hk (fun j hj => p3 ⟨j, by omega⟩ hj), Nat.zero_add]
    · rw [wfind_some (tx := tp) (by rw [eqW_congr w h]; exact he) wl0 0 _ p2 (fun j hj => p4 ⟨j, by omega⟩ hj), Nat.zero_add]
  · left
    refine ⟨wfind_none wl1 0 (fun w hw => ?_), wfind_none wl0 0 (fun w hw => ?_)⟩
    · exact Bool.eq_false_iff.mpr fun q => hx ⟨w, hw, q⟩
    · rw [eqW_congr w h]
      exact Bool.eq_false_iff.mpr fun q => hx ⟨w, wl01 w hw, q⟩
/-! numbers -/
def NR (v1 v0 : Int32) : Prop := (∃ m : Nat, m ≤ 9999 ∧ v1 = nI m ∧ v0 = nI m) ∨ ∃ m1 m0 : Nat, 9999 < m1 ∧ m1 < 100000 ∧ 9999 < m0 ∧ m0 ≤ 100000 ∧ v1 = nI m1 ∧ v0 = nI m0
theorem NR.step {v1 v0 d : Int32} (h : NR v1 v0) (hd : isDg d = true) : NR (numS v1 d) (numC v0 d) := by
  obtain ⟨d1, d2⟩ := of_decide_eq_true hd
  obtain ⟨q, hq, rfl⟩ : ∃ q : Nat, q < 2 ^ 31 ∧ d = nI q := nI_of (fun h => absurd d1 (Int32.not_le.mpr (Int32.lt_trans h (by decide))))
  rw [show (48 : Int32) = nI 48 from rfl, nI_le' (by decide) hq] at d1
  rw [show (57 : Int32) = nI 57 from rfl, nI_le' hq (by decide)] at d2
  rcases h with ⟨m, hm, rfl, rfl⟩ | ⟨m1, m0, h1, h2, h3, h4, rfl, rfl⟩
  · have e1 : numS (nI m) (nI q) = nI (10 * m + q - 48) := by
      unfold numS
      rw [show (9999 : Int32) = nI 9999 from rfl, if_neg (by rw [nI_lt' (by decide) (by omega)]; omega), show (10 : Int32) = nI 10 from rfl, pk_mul, nI_add, show (48 : Int32) = nI 48 from rfl, nI_sub' (by omega)]
    have e0 : numC (nI m) (nI q) = nI (10 * m + q - 48) := by
      unfold numC
      rw [show (10 : Int32) = nI 10 from rfl, pk_mul, nI_add, show (48 : Int32) = nI 48 from rfl, nI_sub' (by omega), show (100000 : Int32) = nI 100000 from rfl, if_pos (by rw [nI_lt' (by omega) (by decide)]; omega), Nat.mul_comm m 10]
    rw [e1, e0]
    by_cases hs : 10 * m + q - 48 ≤ 9999
    · exact Or.inl ⟨_, hs, rfl, rfl⟩
    · exact Or.inr ⟨_, _, by omega, by omega, by omega, by omega, rfl, rfl⟩
  · right
    have e1 : numS (nI m1) (nI q) = nI m1 := by
      unfold numS
      rw [show (9999 : Int32) = nI 9999 from rfl, if_pos (by rw [nI_lt' (by decide) (by omega)]; omega)]
    rw [e1]
    unfold numC
    rw [show (10 : Int32) = nI 10 from rfl, pk_mul, nI_add, show (48 : Int32) = nI 48 from rfl, nI_sub' (by omega), show (100000 : Int32) = nI 100000 from rfl]
    by_cases hs : m0 * 10 + q - 48 < 100000
    · rw [if_pos (by rw [nI_lt' (by omega) (by decide)]; exact hs)]
      exact ⟨m1, _, h1, h2, by omega, by omega, rfl, rfl⟩
    · rw [if_neg (by rw [nI_lt' (by omega) (by decide)]; exact hs)]
      exact ⟨m1, 100000, h1, h2, by omega, by omega, rfl, rfl⟩
theorem NR.fold : ∀ (l i : Nat) (v1 v0 : Int32), NR v1 v0 → (∀ q, i ≤ q → q < i + l → isDg (tx q) = true ∧ tp q = tx q) → NR (numF tx l i v1) (numCF tp l i v0)
  | 0, _, _, _, h, _ => h
  | l + 1, i, v1, v0, h, hd => by
    show NR (numF tx l (i + 1) (numS v1 (tx i))) (numCF tp l (i + 1) (numC v0 (tp i)))
    obtain ⟨g1, g2⟩ := hd i (Nat.le_refl _) (by omega)
    rw [g2]
    exact NR.fold l (i + 1) _ _ (h.step g1) (fun q h1 h2 => hd q (by omega) (by omega))
/-! names -/
def nmN (tx : Nat → Int32) (p e : Nat) : Nat → Nat
  | 0 => 0
  | k + 1 => 32 * nmN tx p e k + (if p + k < e then (tx (p + k)).toNatClampNeg - 96 else 0)
theorem lt_nat {v : Int32} (h : isLt v = true) : ∃ q : Nat, 97 ≤ q ∧ q ≤ 122 ∧ v = nI q := by
  obtain ⟨d1, d2⟩ := of_decide_eq_true h
  obtain ⟨q, hq, rfl⟩ : ∃ q : Nat, q < 2 ^ 31 ∧ v = nI q := nI_of (fun h => absurd d1 (Int32.not_le.mpr (Int32.lt_trans h (by decide))))
  rw [show (97 : Int32) = nI 97 from rfl, nI_le' (by decide) hq] at d1
  rw [show (122 : Int32) = nI 122 from rfl, nI_le' hq (by decide)] at d2
  exact ⟨q, d1, d2, rfl⟩
theorem lt_val {v : Int32} (h : isLt v = true) : v - 97 + 1 = nI (v.toNatClampNeg - 96) ∧ v.toNatClampNeg - 96 < 32 := by
  obtain ⟨q, h1, h2, rfl⟩ := lt_nat h
  rw [nI_clamp (by omega), show (97 : Int32) = nI 97 from rfl, nI_sub' h1, nI_1, show q - 97 + 1 = q - 96 by omega]
  exact ⟨rfl, by omega⟩
theorem nmN_lt {p e : Nat} (h : ∀ i, p ≤ i → i < e → isLt (tx i) = true) : ∀ k, nmN tx p e k < 32 ^ k
  | 0 => Nat.zero_lt_one
  | k + 1 => by
    have ih := nmN_lt h k
    have hl : (if p + k < e then (tx (p + k)).toNatClampNeg - 96 else 0) < 32 := by
      split
      · rename_i hk
        exact (lt_val (h (p + k) (by omega) hk)).2
      · decide
    show 32 * nmN tx p e k + (if p + k < e then (tx (p + k)).toNatClampNeg - 96 else 0) < 32 ^ (k + 1)
    rw [Nat.pow_succ]
    omega
theorem nmV_N {p e : Nat} (h : ∀ i, p ≤ i → i < e → isLt (tx i) = true) : ∀ k, k ≤ 6 → nmV tx p e k = nI (nmN tx p e k)
  | 0, _ => rfl
  | k + 1, hk => by
    have ih := nmV_N h k (by omega)
    have hlt := nmN_lt h k
    have hp : 32 ^ k ≤ 32 ^ 5 := Nat.pow_le_pow_right (by decide) (by omega)
    have hl : (if p + k < e then tx (p + k) - 97 + 1 else 0) = nI (if p + k < e then (tx (p + k)).toNatClampNeg - 96 else 0) ∧ (if p + k < e then (tx (p + k)).toNatClampNeg - 96 else 0) < 2 ^ 5 := by
      by_cases hk : p + k < e
      · rw [if_pos hk, if_pos hk]
        exact lt_val (h (p + k) (by omega) hk)
      · rw [if_neg hk, if_neg hk]
        exact ⟨rfl, by decide⟩
    show (nmV tx p e k <<< ((5 : Int32) &&& 31)) ||| (if p + k < e then tx (p + k) - 97 + 1 else 0) = nI (32 * nmN tx p e k + (if p + k < e then (tx (p + k)).toNatClampNeg - 96 else 0))
    rw [ih, hl.1, show (5 : Int32) = nI 5 from rfl, shl_nI (by decide) (by omega), Nat.mul_comm (nmN tx p e k), fa_or_sum _ hl.2]
theorem letF_N {p e : Nat} (h : ∀ i, p ≤ i → i < e → isLt (tx i) = true ∧ tp i = tx i) (h6 : e ≤ p + 6) : ∀ (l j : Nat), p + j + l = e → letF tp p l (p + j) (nI (2 ^ (30 - 5 * j) * nmN tx p e j)) = nI (2 ^ (30 - 5 * (j + l)) * nmN tx p e (j + l))
  | 0, j, _ => rfl
  | l + 1, j, hj => by
    obtain ⟨g1, g2⟩ := h (p + j) (by omega) (by omega)
    obtain ⟨v1, v2⟩ := lt_val g1
    have hlt := nmN_lt (fun i a b => (h i a b).1) j
    have hj5 : j ≤ 5 := by omega
    show letF tp p l (p + j + 1) (if p + j - p < 6 then nI (2 ^ (30 - 5 * j) * nmN tx p e j) ||| ((tp (p + j) - 97 + 1) <<< ((25 - 5 * nI (p + j - p)) &&& 31)) else nI (2 ^ (30 - 5 * j) * nmN tx p e j)) = _
    rw [if_pos (by omega), show p + j - p = j by omega, g2, v1]
    have hsh : (25 : Int32) - 5 * nI j = nI (25 - 5 * j) := by
      rw [show (5 : Int32) = nI 5 from rfl, pk_mul, show (25 : Int32) = nI 25 from rfl, nI_sub' (by omega)]
    have hpw : (tx (p + j)).toNatClampNeg - 96 < 2 ^ 5 := v2
    have h30 : 2 ^ (30 - 5 * j) = 2 ^ 5 * 2 ^ (25 - 5 * j) := by rw [← Nat.pow_add, show 5 + (25 - 5 * j) = 30 - 5 * j by omega]
    have hb : ((tx (p + j)).toNatClampNeg - 96) * 2 ^ (25 - 5 * j) < 2 ^ (30 - 5 * j) := by
      rw [h30]
      exact Nat.mul_lt_mul_of_pos_right hpw (Nat.two_pow_pos _)
    have hmx : 2 ^ (30 - 5 * j) ≤ 2 ^ 30 := Nat.pow_le_pow_right (by decide) (by omega)
    rw [hsh, shl_nI (by omega) (by omega), fa_or_sum _ hb]
    have hN : nmN tx p e (j + 1) = 32 * nmN tx p e j + ((tx (p + j)).toNatClampNeg - 96) := by
      show 32 * nmN tx p e j + (if p + j < e then (tx (p + j)).toNatClampNeg - 96 else 0) = _
      rw [if_pos (by omega)]
    have he : 2 ^ (30 - 5 * j) * nmN tx p e j + ((tx (p + j)).toNatClampNeg - 96) * 2 ^ (25 - 5 * j) = 2 ^ (30 - 5 * (j + 1)) * nmN tx p e (j + 1) := by
      rw [hN, h30, show 30 - 5 * (j + 1) = 25 - 5 * j by omega, Nat.mul_add, Nat.mul_comm ((tx (p + j)).toNatClampNeg - 96)]
      rw [show 2 ^ 5 * 2 ^ (25 - 5 * j) * nmN tx p e j = 2 ^ (25 - 5 * j) * (32 * nmN tx p e j) by rw [Nat.mul_comm (2 ^ 5), Nat.mul_assoc]]
    rw [he, show p + j + 1 = p + (j + 1) by omega, letF_N h h6 l (j + 1) (by omega), show j + 1 + l = j + (l + 1) by omega]
theorem nmN_pad {p e : Nat} (j : Nat) (hj : e ≤ p + j) : ∀ d, nmN tx p e (j + d) = nmN tx p e j * 32 ^ d
  | 0 => by simp
  | d + 1 => by
    show 32 * nmN tx p e (j + d) + (if p + (j + d) < e then (tx (p + (j + d))).toNatClampNeg - 96 else 0) = _
    rw [if_neg (by omega), nmN_pad j hj d, Nat.pow_succ, Nat.add_zero, Nat.mul_comm 32, Nat.mul_assoc]
theorem let_eq {p e : Nat} (hpe : p ≤ e) (h : ∀ i, p ≤ i → i < e → isLt (tx i) = true ∧ tp i = tx i) (h6 : e ≤ p + 6) : letF tp p (e - p) p 0 = nmV tx p e 6 := by
  have h1 := letF_N h h6 (e - p) 0 (by omega)
  rw [show nmN tx p e 0 = 0 from rfl, Nat.mul_zero, Nat.add_zero, Nat.zero_add] at h1
  rw [nmV_N (fun i a b => (h i a b).1) 6 (Nat.le_refl _)]
  refine h1.trans ?_
  have h2 := nmN_pad (tx := tx) (p := p) (e := e) (e - p) (by omega) (6 - (e - p))
  rw [show e - p + (6 - (e - p)) = 6 by omega] at h2
  rw [h2, Nat.mul_comm, show (32 : Nat) = 2 ^ 5 from rfl, ← Nat.pow_mul, show 5 * (6 - (e - p)) = 30 - 5 * (e - p) by omega]
end TRel
