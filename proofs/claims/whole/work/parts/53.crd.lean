/-! ===== the class's reading by a cursor ===== -/
/-- the reader's content R, with its cursor at token i, got, fault and its place -/
def wC (R : BC) (i : Nat) (g : Int32) (f : F2) : BC := (fun j k => if j = 0 then (if k = 0 then f.1 else if k = 1 then f.2 else if k = 7 then nI i else if k = 8 then R.1 1 i else if k = 9 then R.1 3 i else if k = 10 then g else R.1 0 k) else R.1 j k, R.2)
section WC
variable {R : BC} {i : Nat} {g x : Int32} {f : F2}
theorem wC_0 : (wC R i g f).1 0 0 = f.1 := rfl
theorem wC_1 : (wC R i g f).1 0 1 = f.2 := rfl
theorem wC_7 : (wC R i g f).1 0 7 = nI i := rfl
theorem wC_8 : (wC R i g f).1 0 8 = R.1 1 i := rfl
theorem wC_9 : (wC R i g f).1 0 9 = R.1 3 i := rfl
theorem wC_10 : (wC R i g f).1 0 10 = g := rfl
theorem wC_2 : (wC R i g f).1 0 2 = R.1 0 2 := rfl
theorem wC_6 : (wC R i g f).1 0 6 = R.1 0 6 := rfl
theorem wC_13 : (wC R i g f).1 0 13 = R.1 0 13 := rfl
theorem wC_14 : (wC R i g f).1 0 14 = R.1 0 14 := rfl
theorem wC_a {j k : Nat} : (wC R i g f).1 (j + 1) k = R.1 (j + 1) k := rfl
theorem wC_r : (wC R i g f).2 = R.2 := rfl
theorem wC_out {j k : Nat} (h : ¬ (j = 0 ∧ (k = 0 ∨ k = 1 ∨ k = 7 ∨ k = 8 ∨ k = 9 ∨ k = 10))) : (wC R i g f).1 j k = R.1 j k := by
  unfold wC
  dsimp only
  by_cases hj : j = 0
  · subst hj
    rw [if_pos rfl, if_neg (by omega), if_neg (by omega), if_neg (by omega), if_neg (by omega), if_neg (by omega), if_neg (by omega)]
  · rw [if_neg hj]
theorem wC_ext {c' : BC} (h2 : c'.2 = R.2) (ho : ∀ j k, ¬ (j = 0 ∧ (k = 0 ∨ k = 1 ∨ k = 7 ∨ k = 8 ∨ k = 9 ∨ k = 10)) → c'.1 j k = R.1 j k) (e0 : c'.1 0 0 = f.1) (e1 : c'.1 0 1 = f.2) (e7 : c'.1 0 7 = nI i) (e8 : c'.1 0 8 = R.1 1 i) (e9 : c'.1 0 9 = R.1 3 i) (e10 : c'.1 0 10 = g) : c' = wC R i g f := by
  obtain ⟨a, b⟩ := c'
  dsimp only at *
  subst h2
  unfold wC
  congr 1
  funext j k
  by_cases h : j = 0 ∧ (k = 0 ∨ k = 1 ∨ k = 7 ∨ k = 8 ∨ k = 9 ∨ k = 10)
  · obtain ⟨rfl, h⟩ := h
    rcases h with rfl | rfl | rfl | rfl | rfl | rfl
    · exact e0
    · exact e1
    · exact e7
    · exact e8
    · exact e9
    · exact e10
  · rw [ho j k h]
    exact (wC_out (i := i) (g := g) (f := f) h).symm
theorem vC_0 : setI (wC R i g f) 0 0 x = wC R i g (x, f.2) := wC_ext rfl (fun j k h => (setI_ne (by omega)).trans (wC_out h)) rfl rfl rfl rfl rfl rfl
theorem vC_1 : setI (wC R i g f) 0 1 x = wC R i g (f.1, x) := wC_ext rfl (fun j k h => (setI_ne (by omega)).trans (wC_out h)) rfl rfl rfl rfl rfl rfl
theorem vC_10 : setI (wC R i g f) 0 10 x = wC R i x f := wC_ext rfl (fun j k h => (setI_ne (by omega)).trans (wC_out h)) rfl rfl rfl rfl rfl rfl
theorem vC_adv : setI (setI (setI (wC R i g f) 0 7 (nI (i + 1))) 0 8 (R.1 1 (i + 1))) 0 9 (R.1 3 (i + 1)) = wC R (i + 1) g f := wC_ext rfl (fun j k h => (setI_ne (by omega)).trans ((setI_ne (by omega)).trans ((setI_ne (by omega)).trans (wC_out h)))) rfl rfl rfl rfl rfl rfl
end WC
--
/-- a token's shape: a word of the language, a free word, a number, a sign, the end, none -/
def sgL : List Int32 := [59, 40, 41, 43, 45, 42, 47, 61, 256, 257, 60, 258, 62]
def SHP (t : T4) : Prop := (t.2.2.1 = 0 ∧ ∃ m : Fin 25, t.2.2.2 = nI m.val) ∨ t.2.2.1 = 1 ∨ t.2.2.1 = 2 ∨ (t.2.2.1 = 3 ∧ t.2.2.2 ∈ sgL) ∨ t.2.2.1 = 4 ∨ t.2.2.1 = 5
theorem perm_cl (m : Fin 25) : (nI m.val).toNatClampNeg = m.val := nI_clamp (by omega)
theorem perm_lt : ∀ m : Fin 25, permL.getD m.val 0 < 25 := by decide
theorem perm_inj : ∀ m k : Fin 25, permL.getD m.val 0 = permL.getD k.val 0 → m = k := by decide
theorem sK_ge : ∀ v ∈ sgL, 27 ≤ sK v ∧ sK v ≤ 39 := by decide
theorem sK_inj : ∀ v ∈ sgL, ∀ w ∈ sgL, sK v = sK w → v = w := by decide
theorem nI_small_lt : ∀ m : Fin 25, nI m.val < 25 := by decide
theorem nI_inj25 : ∀ m k : Fin 25, nI m.val = nI k.val → m = k := by decide
section KTs
variable {t : T4}
theorem KT_0 {m : Fin 25} (h : t.2.2.1 = 0) (hm : t.2.2.2 = nI m.val) : KT t = nI (permL.getD m.val 0) ∧ KT t < 25 := by
  have e : KT t = nI (permL.getD m.val 0) := by
    unfold KT
    rw [if_pos h, hm, perm_cl]
  exact ⟨e, by rw [e]; exact nI_small_lt ⟨_, perm_lt m⟩⟩
theorem KT_1 (h : t.2.2.1 = 1) : KT t = 25 := by
  unfold KT
  rw [h]
  rfl
theorem KT_2 (h : t.2.2.1 = 2) : KT t = 26 := by
  unfold KT
  rw [h]
  rfl
theorem KT_3 (h : t.2.2.1 = 3) : KT t = sK t.2.2.2 := by
  unfold KT
  rw [h]
  rfl
theorem KT_4 (h : t.2.2.1 = 4) : KT t = 41 := by
  unfold KT
  rw [h]
  rfl
theorem KT_5 (h : t.2.2.1 = 5) : KT t = 40 := by
  unfold KT
  rw [h]
  rfl
theorem KT_name (hs : SHP t) : (KT t = 25) = (t.2.2.1 = 1) := by
  rcases hs with ⟨h, m, hm⟩ | h | h | ⟨h, hm⟩ | h | h
  · have := (KT_0 h hm).2
    rw [h]
    exact propext ⟨fun q => by rw [q] at this; exact absurd this (by decide), fun q => absurd q (by decide)⟩
  · rw [KT_1 h, h]; decide
  · rw [KT_2 h, h]; decide
  · have := sK_ge _ hm
    rw [KT_3 h, h]
    exact propext ⟨fun q => by rw [q] at this; exact absurd this (by decide), fun q => absurd q (by decide)⟩
  · rw [KT_4 h, h]; decide
  · rw [KT_5 h, h]; decide
theorem KT_numb (hs : SHP t) : (KT t = 26) = (t.2.2.1 = 2) := by
  rcases hs with ⟨h, m, hm⟩ | h | h | ⟨h, hm⟩ | h | h
  · have := (KT_0 h hm).2
    rw [h]
    exact propext ⟨fun q => by rw [q] at this; exact absurd this (by decide), fun q => absurd q (by decide)⟩
  · rw [KT_1 h, h]; decide
  · rw [KT_2 h, h]; decide
  · have := sK_ge _ hm
    rw [KT_3 h, h]
    exact propext ⟨fun q => by rw [q] at this; exact absurd this (by decide), fun q => absurd q (by decide)⟩
  · rw [KT_4 h, h]; decide
  · rw [KT_5 h, h]; decide
theorem KT_end (hs : SHP t) : (KT t = 41) = (t.2.2.1 = 4) := by
  rcases hs with ⟨h, m, hm⟩ | h | h | ⟨h, hm⟩ | h | h
  · have := (KT_0 h hm).2
    rw [h]
    exact propext ⟨fun q => by rw [q] at this; exact absurd this (by decide), fun q => absurd q (by decide)⟩
  · rw [KT_1 h, h]; decide
  · rw [KT_2 h, h]; decide
  · have := sK_ge _ hm
    rw [KT_3 h, h]
    exact propext ⟨fun q => by rw [q] at this; exact absurd this (by decide), fun q => absurd q (by decide)⟩
  · rw [KT_4 h, h]; decide
  · rw [KT_5 h, h]; decide
theorem KT_word (hs : SHP t) (k : Fin 25) : (KT t = nI (permL.getD k.val 0)) = (t.2.2.1 = 0 ∧ t.2.2.2 = nI k.val) := by
  have hk := nI_small_lt ⟨_, perm_lt k⟩
  dsimp only at hk
  have no : ∀ {a b : Int32}, b = KT t → ¬ b < 25 → t.2.2.1 = a → a ≠ 0 → (KT t = nI (permL.getD k.val 0)) = (t.2.2.1 = 0 ∧ t.2.2.2 = nI k.val) := by
    intro a b hb h25 ha h0
    exact propext ⟨fun q => absurd hk (by rw [← q, ← hb]; exact h25), fun q => absurd (ha.symm.trans q.1) h0⟩
  rcases hs with ⟨h, m, hm⟩ | h | h | ⟨h, hm⟩ | h | h
  · rw [(KT_0 h hm).1, hm, h]
    refine propext ⟨fun q => ⟨rfl, ?_⟩, fun q => ?_⟩
    · have := nI_inj25 ⟨_, perm_lt m⟩ ⟨_, perm_lt k⟩ q
      rw [perm_inj m k (by injection this)]
    · rw [nI_inj25 m k q.2]
  · exact no (KT_1 h).symm (by decide) h (by decide)
  · exact no (KT_2 h).symm (by decide) h (by decide)
  · have := (sK_ge _ hm).1
    refine no (KT_3 h).symm ?_ h (by decide)
    intro q
    exact absurd (Int32.lt_of_le_of_lt this q) (by decide)
  · exact no (KT_4 h).symm (by decide) h (by decide)
  · exact no (KT_5 h).symm (by decide) h (by decide)
theorem KT_sign (hs : SHP t) {v : Int32} (hv : v ∈ sgL) : (KT t = sK v) = (t.2.2.1 = 3 ∧ t.2.2.2 = v) := by
  have hk := sK_ge v hv
  have no : ∀ {a b : Int32}, b = KT t → ¬ (27 ≤ b ∧ b ≤ 39) → t.2.2.1 = a → a ≠ 3 → (KT t = sK v) = (t.2.2.1 = 3 ∧ t.2.2.2 = v) := by
    intro a b hb h25 ha h0
    exact propext ⟨fun q => absurd hk (by rw [← q, ← hb]; exact h25), fun q => absurd (ha.symm.trans q.1) h0⟩
  rcases hs with ⟨h, m, hm⟩ | h | h | ⟨h, hm⟩ | h | h
  · have := (KT_0 h hm).2
    refine no rfl ?_ h (by decide)
    intro q
    exact absurd (Int32.lt_of_le_of_lt q.1 this) (by decide)
  · exact no (KT_1 h).symm (by decide) h (by decide)
  · exact no (KT_2 h).symm (by decide) h (by decide)
  · rw [KT_3 h, h]
    exact propext ⟨fun q => ⟨rfl, sK_inj _ hm _ hv q⟩, fun q => by rw [q.2]⟩
  · exact no (KT_4 h).symm (by decide) h (by decide)
  · exact no (KT_5 h).symm (by decide) h (by decide)
theorem KT_w0 (hs : SHP t) : (KT t = 0) = (t.2.2.1 = 0 ∧ t.2.2.2 = 0) := KT_word hs ⟨0, by decide⟩
theorem KT_w1 (hs : SHP t) : (KT t = 1) = (t.2.2.1 = 0 ∧ t.2.2.2 = 1) := KT_word hs ⟨1, by decide⟩
theorem KT_w2 (hs : SHP t) : (KT t = 2) = (t.2.2.1 = 0 ∧ t.2.2.2 = 2) := KT_word hs ⟨2, by decide⟩
theorem KT_w3 (hs : SHP t) : (KT t = 3) = (t.2.2.1 = 0 ∧ t.2.2.2 = 3) := KT_word hs ⟨3, by decide⟩
theorem KT_w4 (hs : SHP t) : (KT t = 4) = (t.2.2.1 = 0 ∧ t.2.2.2 = 4) := KT_word hs ⟨4, by decide⟩
theorem KT_w5 (hs : SHP t) : (KT t = 5) = (t.2.2.1 = 0 ∧ t.2.2.2 = 5) := KT_word hs ⟨5, by decide⟩
theorem KT_w6 (hs : SHP t) : (KT t = 6) = (t.2.2.1 = 0 ∧ t.2.2.2 = 6) := KT_word hs ⟨6, by decide⟩
theorem KT_w7 (hs : SHP t) : (KT t = 7) = (t.2.2.1 = 0 ∧ t.2.2.2 = 7) := KT_word hs ⟨7, by decide⟩
theorem KT_w8 (hs : SHP t) : (KT t = 8) = (t.2.2.1 = 0 ∧ t.2.2.2 = 8) := KT_word hs ⟨8, by decide⟩
theorem KT_w9 (hs : SHP t) : (KT t = 9) = (t.2.2.1 = 0 ∧ t.2.2.2 = 9) := KT_word hs ⟨9, by decide⟩
theorem KT_w10 (hs : SHP t) : (KT t = 10) = (t.2.2.1 = 0 ∧ t.2.2.2 = 10) := KT_word hs ⟨10, by decide⟩
theorem KT_w11 (hs : SHP t) : (KT t = 11) = (t.2.2.1 = 0 ∧ t.2.2.2 = 11) := KT_word hs ⟨11, by decide⟩
theorem KT_w16 (hs : SHP t) : (KT t = 16) = (t.2.2.1 = 0 ∧ t.2.2.2 = 12) := KT_word hs ⟨12, by decide⟩
theorem KT_w22 (hs : SHP t) : (KT t = 22) = (t.2.2.1 = 0 ∧ t.2.2.2 = 13) := KT_word hs ⟨13, by decide⟩
theorem KT_w12 (hs : SHP t) : (KT t = 12) = (t.2.2.1 = 0 ∧ t.2.2.2 = 14) := KT_word hs ⟨14, by decide⟩
theorem KT_w13 (hs : SHP t) : (KT t = 13) = (t.2.2.1 = 0 ∧ t.2.2.2 = 15) := KT_word hs ⟨15, by decide⟩
theorem KT_w14 (hs : SHP t) : (KT t = 14) = (t.2.2.1 = 0 ∧ t.2.2.2 = 16) := KT_word hs ⟨16, by decide⟩
theorem KT_w15 (hs : SHP t) : (KT t = 15) = (t.2.2.1 = 0 ∧ t.2.2.2 = 17) := KT_word hs ⟨17, by decide⟩
theorem KT_w17 (hs : SHP t) : (KT t = 17) = (t.2.2.1 = 0 ∧ t.2.2.2 = 18) := KT_word hs ⟨18, by decide⟩
theorem KT_w18 (hs : SHP t) : (KT t = 18) = (t.2.2.1 = 0 ∧ t.2.2.2 = 19) := KT_word hs ⟨19, by decide⟩
theorem KT_w19 (hs : SHP t) : (KT t = 19) = (t.2.2.1 = 0 ∧ t.2.2.2 = 20) := KT_word hs ⟨20, by decide⟩
theorem KT_w20 (hs : SHP t) : (KT t = 20) = (t.2.2.1 = 0 ∧ t.2.2.2 = 21) := KT_word hs ⟨21, by decide⟩
theorem KT_w21 (hs : SHP t) : (KT t = 21) = (t.2.2.1 = 0 ∧ t.2.2.2 = 22) := KT_word hs ⟨22, by decide⟩
theorem KT_w23 (hs : SHP t) : (KT t = 23) = (t.2.2.1 = 0 ∧ t.2.2.2 = 23) := KT_word hs ⟨23, by decide⟩
theorem KT_w24 (hs : SHP t) : (KT t = 24) = (t.2.2.1 = 0 ∧ t.2.2.2 = 24) := KT_word hs ⟨24, by decide⟩
theorem KT_s27 (hs : SHP t) : (KT t = 27) = (t.2.2.1 = 3 ∧ t.2.2.2 = 59) := KT_sign (v := 59) hs (by decide)
theorem KT_s28 (hs : SHP t) : (KT t = 28) = (t.2.2.1 = 3 ∧ t.2.2.2 = 40) := KT_sign (v := 40) hs (by decide)
theorem KT_s29 (hs : SHP t) : (KT t = 29) = (t.2.2.1 = 3 ∧ t.2.2.2 = 41) := KT_sign (v := 41) hs (by decide)
theorem KT_s36 (hs : SHP t) : (KT t = 36) = (t.2.2.1 = 3 ∧ t.2.2.2 = 43) := KT_sign (v := 43) hs (by decide)
theorem KT_s37 (hs : SHP t) : (KT t = 37) = (t.2.2.1 = 3 ∧ t.2.2.2 = 45) := KT_sign (v := 45) hs (by decide)
theorem KT_s38 (hs : SHP t) : (KT t = 38) = (t.2.2.1 = 3 ∧ t.2.2.2 = 42) := KT_sign (v := 42) hs (by decide)
theorem KT_s39 (hs : SHP t) : (KT t = 39) = (t.2.2.1 = 3 ∧ t.2.2.2 = 47) := KT_sign (v := 47) hs (by decide)
theorem KT_s32 (hs : SHP t) : (KT t = 32) = (t.2.2.1 = 3 ∧ t.2.2.2 = 61) := KT_sign (v := 61) hs (by decide)
theorem KT_s31 (hs : SHP t) : (KT t = 31) = (t.2.2.1 = 3 ∧ t.2.2.2 = 256) := KT_sign (v := 256) hs (by decide)
theorem KT_s33 (hs : SHP t) : (KT t = 33) = (t.2.2.1 = 3 ∧ t.2.2.2 = 257) := KT_sign (v := 257) hs (by decide)
theorem KT_s30 (hs : SHP t) : (KT t = 30) = (t.2.2.1 = 3 ∧ t.2.2.2 = 60) := KT_sign (v := 60) hs (by decide)
theorem KT_s34 (hs : SHP t) : (KT t = 34) = (t.2.2.1 = 3 ∧ t.2.2.2 = 258) := KT_sign (v := 258) hs (by decide)
theorem KT_s35 (hs : SHP t) : (KT t = 35) = (t.2.2.1 = 3 ∧ t.2.2.2 = 62) := KT_sign (v := 62) hs (by decide)
end KTs
/-- the reader's tables hold the tokens T 0 .. T K, the last one the text's end -/
def RK (R : BC) (T : Nat → T4) (K n : Nat) : Prop := R.1 0 6 = nI (K + 1) ∧ R.1 0 2 = nI n ∧ K ≤ n ∧ n ≤ 900 ∧ (∀ i, i ≤ K → R.1 1 i = KT (T i) ∧ R.1 2 i = (T i).2.1 ∧ VR (T i) (R.1 3 i)) ∧ (T K).2.2.1 = 4 ∧ (∀ i, i < K → (T i).2.2.1 ≠ 4) ∧ ∀ i, SHP (T i)
section CRd
variable {y : Nat} {rest : HP} {z : Nat × Nat} {R : BC} {T : Nat → T4} {K n i : Nat} {g : Int32} {f : F2}
theorem cr_advance (h : RK R T K n) (hi : i < K) : m_X7_advance [.ref y] (rs y rest z (wC R i g f)) = some (none, rs y rest z (wC R (i + 1) g f)) := by
  obtain ⟨h1, h2, h3, h4, -⟩ := h
  rw [e_X7_advance]
  unfold b_X7_advance
  have e1 : nI (K + 1) - 1 = nI K := nI_pred K
  have e2 : nI i + 1 = nI (i + 1) := nI_1 i
  have q1 : (setI (wC R i g f) 0 7 (nI (i + 1))).1 0 7 = nI (i + 1) := setI_get
  have q2 : ∀ k, (setI (wC R i g f) 0 7 (nI (i + 1))).1 1 k = R.1 1 k := fun k => setI_ne (by omega)
  have q3 : (setI (setI (wC R i g f) 0 7 (nI (i + 1))) 0 8 (R.1 1 (i + 1))).1 0 7 = nI (i + 1) := (setI_ne (by omega)).trans q1
  have q4 : ∀ k, (setI (setI (wC R i g f) 0 7 (nI (i + 1))) 0 8 (R.1 1 (i + 1))).1 3 k = R.1 3 k := fun k => (setI_ne (by omega)).trans (setI_ne (by omega))
  simp only [eK, eI, eA, eL, eU, eB, c1, c2, cT, cF, evL, eC, sStI, sStA, sStL, sInc, sP2, sP3, sUF, sUA, sC, sCp, sRI, sRZ, sRL, sRA, sR0, sNop, sBr, sSw, sSeq_t, sBlk_t, sBrIf_t, eT_t, cIf_t, thn_0, thn_1, thn_2, thn_3, thn_4, thn_5, thn_r, thn_n, thn_ite, dn_0, dn_1, dn_2, dn_3, dn_4, dn_5, thn_6, dn_6, thn_7, dn_7, thn_8, dn_8, thn_9, dn_9, thn_10, dn_10, thn_11, dn_11, thn_12, dn_12, thn_13, dn_13, thn_14, dn_14, thn_15, dn_15, thn_16, dn_16, thn_17, dn_17, dn_r, dn_n, dn_ite, fin_r, fin_ite, bind_ite', map_ite', Option.bind_some, Option.bind_none, Option.map_some, Option.map_none, List.getElem?_cons_zero, List.getElem?_cons_succ, sto1, sto2, clr, List.set_cons_zero, List.set_cons_succ, q_eq, q_ne, q_lt, q_ge, q_gt, q_le, z_eq, z_ne, z_lt, z_ge, z_gt, z_le, z_null, z_nonnull, o_iadd, o_isub, o_imul, o_iand, o_ior, o_ixor, o_ishl, o_ishr, o_ladd, o_lsub, o_lmul, o_land, o_lor, o_iushr, o_lushr, o_lshl, o_lcmp, o_idiv, o_irem, o_ldiv, o_ineg, o_lneg, o_i2l, o_l2i, o_i2b, o_imax, o_imin, o_iabs, o_labs, decide_eq_true_eq, Nat.sub_self, Nat.add_one_sub_one, Nat.reduceSub, ite_true, ite_false, if_true, if_false, Bool.false_eq_true, eq_self, true_or, or_true, false_or, or_false, and_true, true_and, false_and, and_false, not_true_eq_false, not_false_eq_true, ite_self, ne_eq, Classical.not_not, reduceCtorEq, Bool.not_true, Bool.not_false, rg_fault, rp_fault, rg_faultPlace, rp_faultPlace, rg_length, rp_length, rg_kinds, rg_starts, rg_values, rg_tokens, rp_tokens, rg_token, rp_token, rg_kind, rp_kind, rg_value, rp_value, rg_got, rp_got, rg_plan, rp_plan, rg_waiting, rg_waitings, rp_waitings, rg_open, rp_open, rV_reader, rl_kinds, rt_kinds, rn_kinds, rl_starts, rt_starts, rn_starts, rl_values, rt_values, rn_values, rl_waiting, rt_waiting, rn_waiting, wC_0, wC_1, wC_7, wC_8, wC_9, wC_10, wC_2, wC_6, wC_13, wC_14, wC_r, vC_0, vC_1, vC_10, h1, e1, e2, nI_le' (show K < 2 ^ 31 by omega) (show i < 2 ^ 31 by omega), show (K ≤ i) = False from eq_false (by omega), q1, q2, q3, q4, nI_neg' (show i + 1 < 2 ^ 31 by omega), nI_clamp (show i + 1 < 2 ^ 31 by omega), show (901 ≤ i + 1) = False from eq_false (by omega), vC_adv]
theorem cr_fail (h : RK R T K n) (hi : i ≤ K) (k : Int32) : m_X7_fail [.ref y, .int k] (rs y rest z (wC R i g f)) = some (some (.int 0), rs y rest z (wC R i g (k, (T i).2.1))) := by
  obtain ⟨h1, h2, h3, h4, h5, -⟩ := h
  rw [e_X7_fail]
  unfold b_X7_fail
  have q : ∀ i g f k, (wC R i g f).1 2 k = R.1 2 k := fun _ _ _ _ => rfl
  simp only [eK, eI, eA, eL, eU, eB, c1, c2, cT, cF, evL, eC, sStI, sStA, sStL, sInc, sP2, sP3, sUF, sUA, sC, sCp, sRI, sRZ, sRL, sRA, sR0, sNop, sBr, sSw, sSeq_t, sBlk_t, sBrIf_t, eT_t, cIf_t, thn_0, thn_1, thn_2, thn_3, thn_4, thn_5, thn_r, thn_n, thn_ite, dn_0, dn_1, dn_2, dn_3, dn_4, dn_5, thn_6, dn_6, thn_7, dn_7, thn_8, dn_8, thn_9, dn_9, thn_10, dn_10, thn_11, dn_11, thn_12, dn_12, thn_13, dn_13, thn_14, dn_14, thn_15, dn_15, thn_16, dn_16, thn_17, dn_17, dn_r, dn_n, dn_ite, fin_r, fin_ite, bind_ite', map_ite', Option.bind_some, Option.bind_none, Option.map_some, Option.map_none, List.getElem?_cons_zero, List.getElem?_cons_succ, sto1, sto2, clr, List.set_cons_zero, List.set_cons_succ, q_eq, q_ne, q_lt, q_ge, q_gt, q_le, z_eq, z_ne, z_lt, z_ge, z_gt, z_le, z_null, z_nonnull, o_iadd, o_isub, o_imul, o_iand, o_ior, o_ixor, o_ishl, o_ishr, o_ladd, o_lsub, o_lmul, o_land, o_lor, o_iushr, o_lushr, o_lshl, o_lcmp, o_idiv, o_irem, o_ldiv, o_ineg, o_lneg, o_i2l, o_l2i, o_i2b, o_imax, o_imin, o_iabs, o_labs, decide_eq_true_eq, Nat.sub_self, Nat.add_one_sub_one, Nat.reduceSub, ite_true, ite_false, if_true, if_false, Bool.false_eq_true, eq_self, true_or, or_true, false_or, or_false, and_true, true_and, false_and, and_false, not_true_eq_false, not_false_eq_true, ite_self, ne_eq, Classical.not_not, reduceCtorEq, Bool.not_true, Bool.not_false, rg_fault, rp_fault, rg_faultPlace, rp_faultPlace, rg_length, rp_length, rg_kinds, rg_starts, rg_values, rg_tokens, rp_tokens, rg_token, rp_token, rg_kind, rp_kind, rg_value, rp_value, rg_got, rp_got, rg_plan, rp_plan, rg_waiting, rg_waitings, rp_waitings, rg_open, rp_open, rV_reader, rl_kinds, rt_kinds, rn_kinds, rl_starts, rt_starts, rn_starts, rl_values, rt_values, rn_values, rl_waiting, rt_waiting, rn_waiting, wC_0, wC_1, wC_7, wC_8, wC_9, wC_10, wC_2, wC_6, wC_13, wC_14, wC_r, vC_0, vC_1, vC_10, q, nI_neg' (show i < 2 ^ 31 by omega), nI_clamp (show i < 2 ^ 31 by omega), show (901 ≤ i) = False from eq_false (by omega), (h5 i hi).2.1]
end CRd
