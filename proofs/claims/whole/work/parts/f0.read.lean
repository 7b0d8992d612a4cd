/-! ===== reading: where both readers stand; the class's steps ===== -/
def txB (tx : Nat → Int32) (n : Nat) : BC := (fun j k => if j = 0 then nI n else tx k, fun _ _ => 0, fun _ _ => none)
theorem txB_1 (tx : Nat → Int32) (n : Nat) : (txB tx n).1 1 = tx := by
  funext k
  show (if (1:Nat) = 0 then nI n else tx k) = tx k
  exact if_neg (by decide)
/-- a text of n signs -/
def TXT (tx : Nat → Int32) (n : Nat) : Prop := n ≤ 900 ∧ ∀ i, i < n → 0 ≤ tx i ∧ tx i < 256
theorem TXT.b {tx : Nat → Int32} {n : Nat} (h : TXT tx n) : TX (txB tx n) n := ⟨rfl, h.1, by rw [txB_1]; exact h.2⟩
theorem TXT.pos {tx : Nat → Int32} {n : Nat} (h : TXT tx n) (i : Nat) : posM tx n i ≤ n := by
  have := posM_le h.b i
  rw [txB_1] at this
  exact this
theorem TXT.at_ {tx : Nat → Int32} {n : Nat} {v0 : Int32} (h : TXT tx n) (i : Nat) : (cur tx n v0 i).1 = nI (posM tx n (i + 1)) := by
  have := cur_at (v0 := v0) h.b i
  rw [txB_1] at this
  exact this
theorem TXT.shp {tx : Nat → Int32} {n : Nat} {v0 : Int32} (h : TXT tx n) (i : Nat) : SHP (cur tx n v0 i) := by
  have := cur_shp (v0 := v0) h.b i
  rw [txB_1] at this
  exact this
/-- the class's tables of tokens -/
def RKc (R : CT) (T : Nat → T4) (K n : Nat) : Prop := R.1 0 6 = nI (K + 1) ∧ R.1 0 2 = nI n ∧ K ≤ n ∧ n ≤ 900 ∧ (∀ i, i ≤ K → R.1 1 i = KT (T i) ∧ R.1 2 i = (T i).2.1 ∧ VR (T i) (R.1 3 i)) ∧ (T K).2.2.1 = 4 ∧ (∀ i, i < K → (T i).2.2.1 ≠ 4) ∧ ∀ i, SHP (T i)
/-- it stands at token i -/
def RDc (R : CT) (T : Nat → T4) (K n i : Nat) : Prop := RKc R T K n ∧ i ≤ K ∧ R.1 0 7 = nI i ∧ R.1 0 8 = KT (T i) ∧ R.1 0 9 = R.1 3 i ∧ R.1 0 0 = 0 ∧ R.1 0 1 = -1
/-- what waits, what is open, what was got -/
def SMW (R R' : CT) : Prop := R'.1 0 13 = R.1 0 13 ∧ R'.1 0 14 = R.1 0 14 ∧ ∀ k, R'.1 4 k = R.1 4 k
theorem SMW.refl (R : CT) : SMW R R := ⟨rfl, rfl, fun _ => rfl⟩
theorem SMW.trans {A B C : CT} (h : SMW A B) (g : SMW B C) : SMW A C := ⟨g.1.trans h.1, g.2.1.trans h.2.1, fun k => (g.2.2 k).trans (h.2.2 k)⟩
def FLc (R : CT) (k p : Int32) : Prop := R.1 0 0 = k ∧ R.1 0 1 = p
section RdC
variable {R : CT} {T : Nat → T4} {K n i : Nat}
theorem RKc.mv {R' : CT} (h : RKc R T K n) (e : ∀ j k, (1 ≤ j ∧ j ≤ 3) ∨ (j = 0 ∧ (k = 6 ∨ k = 2)) → R'.1 j k = R.1 j k) : RKc R' T K n := by
  obtain ⟨h1, h2, h3, h4, h5, h6⟩ := h
  refine ⟨(e 0 6 (by omega)).trans h1, (e 0 2 (by omega)).trans h2, h3, h4, fun i hi => ?_, h6⟩
  rw [e 1 i (by omega), e 2 i (by omega), e 3 i (by omega)]
  exact h5 i hi
theorem adv_ok {Q : CT → Prop} (h : RDc R T K n i) (hi : i < K) (hQ : ∀ R', RDc R' T K n (i + 1) → SMW R R' → R'.1 0 10 = R.1 0 10 → Q R') : k_X7_advance R Q := by
  obtain ⟨hk, -, h7, -, -, h0, h1⟩ := h
  have hk' := hk
  obtain ⟨k1, k2, k3, k4, k5, -⟩ := hk'
  unfold k_X7_advance
  rw [jn_eq, k1, h7, li_1, pk_sub (by omega), if_neg (nI_ge (by omega) (by omega)), nI_add, wrF_eq]
  dsimp only
  rw [sI_same, rdI_n (by omega) (by omega), sI_ne (by omega), wrF_eq, sI_ne (by omega), sI_same, rdI_n (by omega) (by omega), sI_ne (by omega), sI_ne (by omega), wrF_eq]
  have fr : ∀ j k, ¬ (j = 0 ∧ (k = 7 ∨ k = 8 ∨ k = 9)) → (sI (sI (sI R 0 7 (nI (i + 1))) 0 8 (R.1 1 (i + 1))) 0 9 (R.1 3 (i + 1))).1 j k = R.1 j k := fun j k z => by
    rw [sI_ne (by omega), sI_ne (by omega), sI_ne (by omega)]
  refine hQ _ ⟨hk.mv fun j k z => fr j k (by omega), by omega, ?_, ?_, ?_, (fr 0 0 (by omega)).trans h0, (fr 0 1 (by omega)).trans h1⟩ ⟨fr 0 13 (by omega), fr 0 14 (by omega), fun k => fr 4 k (by omega)⟩ (fr 0 10 (by omega))
  · rw [sI_ne (by omega), sI_ne (by omega), sI_same]
  · rw [sI_ne (by omega), sI_same]
    exact (k5 (i + 1) (by omega)).1
  · rw [sI_same, fr 3 _ (by omega)]
theorem fail_ok {k : Int32} {Q : Int32 → CT → Prop} (h : RDc R T K n i) (hQ : ∀ R', FLc R' k (T i).2.1 → Q 0 R') : k_X7_fail R k Q := by
  obtain ⟨⟨k1, k2, k3, k4, k5, -⟩, hi, h7, -⟩ := h
  unfold k_X7_fail
  rw [wrF_eq, sI_ne (by omega), h7, rdI_n (by omega) (by omega), sI_ne (by omega), (k5 i hi).2.1, wrF_eq]
  exact hQ _ ⟨by rw [sI_ne (by omega), sI_same], sI_same⟩
theorem RDc.lt (h : RDc R T K n i) (h4 : (T i).2.2.1 ≠ 4) : i < K := by
  obtain ⟨⟨-, -, -, -, -, k6, -⟩, hi, -⟩ := h
  by_cases e : i = K
  · subst e
    exact absurd k6 h4
  · omega
theorem RDc.val (h : RDc R T K n i) {lo up : Int32} (hup : up ≤ 9999) (hf : nf (T i) lo up = 0) : R.1 0 9 = (T i).2.2.2 := by
  obtain ⟨⟨-, -, -, -, k5, -⟩, hi, -, -, h9, -⟩ := h
  have vr := (k5 i hi).2.2.2 (nf_2 hf)
  rw [h9]
  unfold nf at hf
  rw [if_pos (nf_2 (lo := lo) (up := up) (by unfold nf; exact hf))] at hf
  by_cases z : (T i).2.2.2 < lo ∨ up < (T i).2.2.2
  · rw [if_pos z] at hf
    exact absurd hf (by decide)
  · exact NR_eq vr hup (Int32.not_lt.mp fun y => z (Or.inr y))
theorem RDc.name (h : RDc R T K n i) (h1 : (T i).2.2.1 = 1) : R.1 0 9 = (T i).2.2.2 := by
  obtain ⟨⟨-, -, -, -, k5, -⟩, hi, -, -, h9, -⟩ := h
  rw [h9]
  exact (k5 i hi).2.2.1 h1
theorem isNumber_ok {lo up : Int32} {Q : Int32 → CT → Prop} (h : RDc R T K n i) (hlo : lo ≤ 9999) (hup : up ≤ 9999) (hy : nf (T i) lo up = 0 → Q 1 R) (hn : nf (T i) lo up ≠ 0 → ∀ R', FLc R' (nf (T i) lo up) (T i).2.1 → Q 0 R') : k_X7_isNumber R lo up Q := by
  have hh := h
  obtain ⟨⟨-, -, -, -, k5, -, -, shp⟩, hi, -, h8, h9, -⟩ := h
  unfold k_X7_isNumber
  unfold nf at hy hn
  rw [h8]
  refine ite_b (fun z => ?_) fun z => ?_
  · rw [KT_numb (shp i)] at z
    rw [if_pos z] at hy hn
    have vr := (k5 i hi).2.2.2 z
    rw [jn_eq, h9]
    have bad : (T i).2.2.2 < lo ∨ up < (T i).2.2.2 → k_X7_fail R 2 (fun t38 c37 => (if t38 = (0 : Int32) then rZ 0 (fun t34 => Q t34 c37) else rZ 1 (fun t34 => Q t34 c37))) := fun y => by
      rw [if_pos y] at hn
      refine fail_ok hh fun R' f' => ?_
      rw [if_pos rfl, rZ_0]
      exact hn (by decide) R' f'
    have ge := NR_ge vr hlo
    have le := NR_le vr hup
    refine ite_b (fun y => ?_) fun y => ?_
    · refine bad (Or.inl ?_)
      apply Int32.not_le.mp
      rw [← ge]
      exact Int32.not_le.mpr y
    · refine ite_b (fun x => ?_) fun x => ?_
      · rw [if_neg] at hy
        · rw [rZ_1]
          exact hy rfl
        · rintro (q | q)
          · have : lo ≤ R.1 3 i := Int32.not_lt.mp y
            rw [ge] at this
            exact Int32.not_le.mpr q this
          · rw [le] at x
            exact Int32.not_le.mpr q x
      · refine bad (Or.inr ?_)
        apply Int32.not_le.mp
        rw [← le]
        exact x
  · rw [KT_numb (shp i)] at z
    rw [if_neg z] at hn
    refine fail_ok hh fun R' f' => ?_
    rw [rZ_0]
    exact hn (by decide) R' f'
theorem takeNumber_ok {lo up : Int32} {Q : Int32 → CT → Prop} (h : RDc R T K n i) (hlo : lo ≤ 9999) (hup : up ≤ 9999) (hy : nf (T i) lo up = 0 → ∀ R', RDc R' T K n (i + 1) → SMW R R' → R'.1 0 10 = (T i).2.2.2 → Q 1 R') (hn : nf (T i) lo up ≠ 0 → ∀ R', FLc R' (nf (T i) lo up) (T i).2.1 → Q 0 R') : k_X7_takeNumber R lo up Q := by
  unfold k_X7_takeNumber
  refine isNumber_ok h hlo hup (fun z => ?_) fun z R' f' => ?_
  · have v := h.val hup z
    have s2 := nf_2 z
    have lt := h.lt (by rw [s2]; decide)
    rw [if_pos (by decide), wrF_eq]
    have h' : RDc (sI R 0 10 (R.1 0 9)) T K n i := by
      obtain ⟨hk, hi, h7, h8, h9, h0, h1⟩ := h
      exact ⟨hk.mv fun j k y => sI_ne (by omega), hi, (sI_ne (by omega)).trans h7, (sI_ne (by omega)).trans h8, by rw [sI_ne (by omega), sI_ne (by omega)]; exact h9, (sI_ne (by omega)).trans h0, (sI_ne (by omega)).trans h1⟩
    refine adv_ok h' lt fun R' r1 r2 r3 => hy z R' r1 ?_ ?_
    · exact SMW.trans ⟨sI_ne (by omega), sI_ne (by omega), fun k => sI_ne (by omega)⟩ r2
    · rw [r3, sI_same]
      exact v
  · rw [if_neg (fun y => y rfl)]
    exact hn z R' f'
theorem isNewName_ok {q : Int32} {Q : Int32 → CT → Prop} (h : RDc R T K n i) (hy : ff (T i) q = 0 → Q 1 R) (hn : ff (T i) q ≠ 0 → ∀ R', FLc R' (ff (T i) q) (T i).2.1 → Q 0 R') : k_X7_isNewName R q Q := by
  have hh := h
  obtain ⟨⟨-, -, -, -, k5, -, -, shp⟩, hi, -, h8, h9, -⟩ := h
  unfold k_X7_isNewName
  unfold ff at hy hn
  rw [h8]
  refine ite_b (fun z => ?_) fun z => ?_
  · rw [KT_name (shp i)] at z
    rw [if_pos z] at hy hn
    rw [jn_eq]
    refine ite_b (fun y => ?_) fun y => ?_
    · rw [if_pos y] at hy
      rw [rZ_1]
      exact hy rfl
    · rw [if_neg y] at hn
      refine fail_ok hh fun R' f' => ?_
      rw [if_pos rfl]
      dsimp only
      rw [rZ_0]
      exact hn (by decide) R' f'
  · rw [KT_name (shp i)] at z
    rw [if_neg z] at hn
    refine fail_ok hh fun R' f' => ?_
    rw [rZ_0]
    exact hn (by decide) R' f'
theorem isToldName_ok {q : Int32} {Q : Int32 → CT → Prop} (h : RDc R T K n i) (hy : fa (T i) q = 0 → Q 1 R) (hn : fa (T i) q ≠ 0 → ∀ R', FLc R' (fa (T i) q) (T i).2.1 → Q 0 R') : k_X7_isToldName R q Q := by
  have hh := h
  obtain ⟨⟨-, -, -, -, k5, -, -, shp⟩, hi, -, h8, h9, -⟩ := h
  unfold k_X7_isToldName
  unfold fa at hy hn
  rw [h8]
  refine ite_b (fun z => ?_) fun z => ?_
  · rw [KT_name (shp i)] at z
    rw [if_pos z] at hy hn
    rw [jn_eq]
    refine ite_b (fun y => ?_) fun y => ?_
    · rw [if_neg y] at hy
      rw [rZ_1]
      exact hy rfl
    · have y := Classical.not_not.mp y
      rw [if_pos y] at hn
      refine fail_ok hh fun R' f' => ?_
      rw [if_pos rfl]
      dsimp only
      rw [rZ_0]
      exact hn (by decide) R' f'
  · rw [KT_name (shp i)] at z
    rw [if_neg z] at hn
    refine fail_ok hh fun R' f' => ?_
    rw [rZ_0]
    exact hn (by decide) R' f'
theorem isFreshBit_ok {s up : Int32} {Q : Int32 → CT → Prop} (h : RDc R T K n i) (hup : up ≤ 9999) (hy : fb (T i) s up = 0 → R.1 0 9 = (T i).2.2.2 → Q 1 R) (hn : fb (T i) s up ≠ 0 → ∀ R', FLc R' (fb (T i) s up) (T i).2.1 → Q 0 R') : k_X7_isFreshBit R s up Q := by
  have hh := h
  obtain ⟨⟨-, -, -, -, k5, -, -, shp⟩, hi, -, h8, h9, -⟩ := h
  unfold k_X7_isFreshBit
  unfold fb at hy hn
  rw [h8]
  refine ite_b (fun z => ?_) fun z => ?_
  · rw [KT_numb (shp i)] at z
    have vr := (k5 i hi).2.2.2 z
    have nn := NR_nn vr
    have le := NR_le vr hup
    have enf : nf (T i) 0 up = if up < (T i).2.2.2 then 2 else 0 := by
      unfold nf
      rw [if_pos z]
      by_cases q : up < (T i).2.2.2
      · rw [if_pos (Or.inr q), if_pos q]
      · rw [if_neg q, if_neg]
        rintro (y | y)
        · exact Int32.not_le.mpr y nn
        · exact q y
    refine ite_b (fun x => ?_) fun x => ?_
    · have x' := x
      rw [h9, le] at x'
      have q : ¬ up < (T i).2.2.2 := Int32.not_lt.mpr x'
      rw [if_neg q] at enf
      have v := hh.val (lo := 0) hup enf
      rw [if_pos enf] at hy hn
      rw [jn_eq, v]
      refine ite_b (fun y => ?_) fun y => ?_
      · rw [if_neg (by rw [bit01] at y; exact y)] at hy
        rw [rZ_1]
        exact hy rfl v
      · rw [bit01] at y
        have y := Classical.not_not.mp y
        rw [if_pos y] at hn
        refine fail_ok hh fun R' f' => ?_
        rw [if_pos rfl]
        dsimp only
        rw [rZ_0]
        exact hn (by decide) R' f'
    · have x' := x
      rw [h9, le] at x'
      have q : up < (T i).2.2.2 := Int32.not_le.mp x'
      rw [if_pos q] at enf
      rw [enf, if_neg (by decide)] at hn
      refine fail_ok hh fun R' f' => ?_
      rw [rZ_0]
      exact hn (by decide) R' f'
  · rw [KT_numb (shp i)] at z
    have enf : nf (T i) 0 up = 1 := by
      unfold nf
      rw [if_neg z]
    rw [enf, if_neg (by decide)] at hn
    refine fail_ok hh fun R' f' => ?_
    rw [rZ_0]
    exact hn (by decide) R' f'
end RdC
