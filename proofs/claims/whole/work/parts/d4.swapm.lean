/-! ===== swaps: what may be passed over ===== -/
def sumN (f : Nat → Nat) : Nat → Nat
  | 0 => 0
  | b + 1 => sumN f b + f b
theorem sumN_s {f : Nat → Nat} {b : Nat} : sumN f (b + 1) = sumN f b + f b := rfl
theorem sumN_cg {f g : Nat → Nat} : ∀ {m : Nat}, (∀ b, b < m → f b = g b) → sumN f m = sumN g m
  | 0, _ => rfl
  | m + 1, e => by rw [sumN_s, sumN_s, sumN_cg fun b hb => e b (by omega), e m (by omega)]
theorem sumN_le {f g : Nat → Nat} : ∀ {m : Nat}, (∀ b, b < m → f b ≤ g b) → sumN f m ≤ sumN g m
  | 0, _ => Nat.le_refl _
  | m + 1, e => by
    have h1 := sumN_le (m := m) fun b hb => e b (by omega)
    have h2 := e m (by omega)
    rw [sumN_s, sumN_s]
    omega
theorem sumN_at {f : Nat → Nat} : ∀ {m b : Nat}, b < m → f b ≤ sumN f m
  | 0, b, h => absurd h (by omega)
  | m + 1, b, h => by
    rw [sumN_s]
    by_cases e : b = m
    · subst e
      omega
    · have := sumN_at (f := f) (m := m) (b := b) (by omega)
      omega
theorem sumN_add {f g : Nat → Nat} : ∀ m, sumN (fun b => f b + g b) m = sumN f m + sumN g m
  | 0 => rfl
  | m + 1 => by
    rw [sumN_s, sumN_s, sumN_s, sumN_add m]
    omega
theorem sumN_upd {f f' : Nat → Nat} {b0 : Nat} : ∀ {m : Nat}, b0 < m → (∀ b, b < m → b ≠ b0 → f' b = f b) → sumN f' m + f b0 = sumN f m + f' b0
  | 0, h, _ => absurd h (by omega)
  | m + 1, h, e => by
    rw [sumN_s, sumN_s]
    by_cases q : b0 = m
    · subst q
      rw [sumN_cg (m := b0) (f := f') (g := f) fun b hb => e b (by omega) (by omega)]
      omega
    · have ih := sumN_upd (m := m) (b0 := b0) (f := f) (f' := f') (by omega) fun b hb hn => e b (by omega) hn
      rw [e m (by omega) (by omega)]
      omega
theorem sumN_one {x v : Nat} : ∀ m, sumN (fun b => if x = b then v else 0) m = if x < m then v else 0
  | 0 => by rw [if_neg (by omega)]; rfl
  | m + 1 => by
    rw [sumN_s, sumN_one m]
    by_cases e : x = m
    · subst e
      rw [if_neg (by omega), if_pos rfl, if_pos (by omega)]
      omega
    · rw [if_neg e]
      by_cases q : x < m
      · rw [if_pos q, if_pos (by omega), Nat.add_zero]
      · rw [if_neg q, if_neg (by omega)]
section Prn
variable {V : VW} {h m loss : Nat} {wn : Nat → Nat}
def pdk (V : VW) (h : Nat) (sh : Nat → Nat) (b k : Nat) : Nat → Bool := fun r => decide (sq V h r < k ∧ sh (sq V h r) = b)
def rmN (V : VW) (h : Nat) (sh : Nat → Nat) (b k : Nat) : Nat := bm (pdk V h sh b k) h
def ptN (V : VW) (h : Nat) (sh : Nat → Nat) (k m : Nat) : Nat := sumN (fun b => trN V h b (pdk V h sh b k)) m
def lkN (V : VW) (loss : Nat) (wn : Nat → Nat) (sh : Nat → Nat) (k m : Nat) : Nat := sumN (fun b => wn b - (loss + woN V sh b k)) m
def vbN (V : VW) (h : Nat) : Nat → Nat
  | 0 => 0
  | n + 1 => vbN V h n + wvN V (h - (n + 1))
def woR (V : VW) (h : Nat) (sh : Nat → Nat) (b : Nat) : Nat → Nat
  | 0 => 0
  | n + 1 => woR V h sh b n + (if sh (h - (n + 1)) = b then wvN V (h - (n + 1)) else 0)
theorem wo_split {sh : Nat → Nat} {b : Nat} : ∀ n, n ≤ h → woN V sh b h = woN V sh b (h - n) + woR V h sh b n
  | 0, _ => (Nat.add_zero _).symm
  | n + 1, hn => by
    have ih := wo_split (sh := sh) (b := b) n (by omega)
    obtain ⟨x, hx⟩ : ∃ x, h - (n + 1) = x := ⟨_, rfl⟩
    have e : woN V sh b (h - n) = woN V sh b x + (if sh x = b then wvN V x else 0) := by
      rw [show h - n = x + 1 by omega]
      rfl
    show woN V sh b h = woN V sh b (h - (n + 1)) + (woR V h sh b n + (if sh (h - (n + 1)) = b then wvN V (h - (n + 1)) else 0))
    rw [hx, ih, e]
    omega
theorem woR_sum {sh : Nat → Nat} : ∀ n, n ≤ h → (∀ x, h - n ≤ x → x < h → sh x < m) → sumN (fun b => woR V h sh b n) m = vbN V h n
  | 0, _, _ => by
    show sumN (fun _ => 0) m = 0
    have : ∀ m, sumN (fun _ => 0) m = 0 := fun m => by
      induction m with
      | zero => rfl
      | succ m ih => rw [sumN_s, ih]
    exact this m
  | n + 1, hn, hs => by
    have ih := woR_sum (sh := sh) n (by omega) fun x h1 h2 => hs x (by omega) h2
    show sumN (fun b => woR V h sh b n + (if sh (h - (n + 1)) = b then wvN V (h - (n + 1)) else 0)) m = vbN V h n + wvN V (h - (n + 1))
    rw [sumN_add, ih, sumN_one, if_pos (hs _ (Nat.le_refl _) (by omega))]
theorem va_t {sh : Nat → Nat} : ∀ {m : Nat}, vaB V h loss wn sh m = true ↔ ∀ b, b < m → wn b ≤ woN V sh b h + loss
  | 0 => ⟨fun _ b hb => absurd hb (by omega), fun _ => rfl⟩
  | m + 1 => by
    show (vaB V h loss wn sh m && decide (wn m ≤ woN V sh m h + loss)) = true ↔ _
    rw [Bool.and_eq_true_iff, va_t, decide_eq_true_iff]
    constructor
    · rintro ⟨a, c⟩ b hb
      by_cases e : b = m
      · subst e
        exact c
      · exact a b (by omega)
    · intro a
      exact ⟨fun b hb => a b (by omega), a m (by omega)⟩
theorem toN_pt {sh : Nat → Nat} : ∀ m, toN V h sh m = ptN V h sh h m
  | 0 => rfl
  | m + 1 => by
    show toN V h sh m + trN V h m (shP V h sh m) = sumN (fun b => trN V h b (pdk V h sh b h)) m + trN V h m (pdk V h sh m h)
    rw [toN_pt m]
    congr 1
    refine trN_cg fun r hr => ?_
    have := (sq_ok V h).1 r hr
    unfold shP pdk
    exact decide_eq_decide.mpr ⟨fun z => ⟨this, z⟩, fun z => z.2⟩
theorem prune {sh : Nat → Nat} {k n : Nat} {st : Nat × (Nat → Nat)} (hk : k + n = h) (hp : st.1 ≤ ptN V h sh k m ∨ vbN V h n < lkN V loss wn sh k m) : swpF (upC V h loss wn m) m h n sh st = st := by
  refine sw_no n (by omega) fun sh' e1 e2 => ?_
  rintro ⟨v, t⟩
  rcases hp with hp | hp
  · have : ptN V h sh k m ≤ toN V h sh' m := by
      rw [toN_pt]
      refine sumN_le fun b hb => tr_mono fun r hr q => ?_
      have q := of_decide_eq_true q
      refine decide_eq_true ⟨by omega, ?_⟩
      rw [e1 _ (by omega)]
      exact q.2
    omega
  · have v := va_t.mp v
    have : lkN V loss wn sh k m ≤ vbN V h n := by
      rw [← woR_sum (V := V) (h := h) (m := m) (sh := sh') n (by omega) e2]
      refine sumN_le fun b hb => ?_
      have := v b hb
      rw [wo_split n (by omega), show h - n = k by omega, woN_cg (k := k) fun x hx => e1 x (by omega)] at this
      omega
    omega
/-! one house given to one man -/
section One
variable {sh : Nat → Nat} {b k i : Nat}
theorem one_o {b' : Nat} (hb : b' ≠ b) (r : Nat) : pdk V h (setF sh k b) b' (k + 1) r = pdk V h sh b' k r := by
  unfold pdk setF
  refine decide_eq_decide.mpr ⟨?_, ?_⟩
  · rintro ⟨a, c⟩
    by_cases e : sq V h r = k
    · rw [if_pos e] at c
      exact absurd c.symm hb
    · rw [if_neg e] at c
      exact ⟨by omega, c⟩
  · rintro ⟨a, c⟩
    exact ⟨by omega, by rw [if_neg (by omega)]; exact c⟩
theorem one_s (hi : i < h) (ei : sq V h i = k) {r : Nat} (hr : r < h) : pdk V h (setF sh k b) b (k + 1) r = (pdk V h sh b k r || decide (r = i)) := by
  have inj : sq V h r = k → r = i := fun e => by
    apply Classical.byContradiction
    intro z
    rcases Nat.lt_or_gt_of_ne z with y | y
    · exact (sq_ok V h).2 r i y hi (e.trans ei.symm)
    · exact (sq_ok V h).2 i r y hr (ei.trans e.symm)
  unfold pdk setF
  rw [← Bool.decide_or]
  refine decide_eq_decide.mpr ⟨?_, ?_⟩
  · rintro ⟨a, c⟩
    by_cases e : sq V h r = k
    · exact Or.inr (inj e)
    · rw [if_neg e] at c
      exact Or.inl ⟨by omega, c⟩
  · rintro (⟨a, c⟩ | rfl)
    · exact ⟨by omega, by rw [if_neg (by omega)]; exact c⟩
    · exact ⟨by omega, if_pos ei⟩
theorem rm_o {b' : Nat} (hb : b' ≠ b) : rmN V h (setF sh k b) b' (k + 1) = rmN V h sh b' k := by
  unfold rmN
  exact bm_congr fun r _ => one_o hb r
theorem rm_s (hi : i < h) (ei : sq V h i = k) : rmN V h (setF sh k b) b (k + 1) = rmN V h sh b k ||| 2 ^ i := by
  apply Nat.eq_of_testBit_eq
  intro r
  unfold rmN
  rw [Nat.testBit_or, bm_bit, bm_bit, Nat.testBit_two_pow]
  by_cases hr : r < h
  · rw [one_s hi ei hr, decide_eq_true hr, Bool.true_and, Bool.true_and]
    congr 1
    exact decide_eq_decide.mpr eq_comm
  · rw [decide_eq_false hr, Bool.false_and, Bool.false_and, Bool.false_or, decide_eq_false (by omega)]
theorem rm_b (hi : i < h) (ei : sq V h i = k) : dif (rmN V h sh b k ||| 2 ^ i) (2 ^ i) = rmN V h sh b k := by
  apply Nat.eq_of_testBit_eq
  intro r
  rw [dif_bit, Nat.testBit_or, Nat.testBit_two_pow]
  by_cases e : i = r
  · subst e
    have : (rmN V h sh b k).testBit i = false := by
      unfold rmN
      rw [bm_bit]
      have : pdk V h sh b k i = false := decide_eq_false (by omega)
      rw [this, Bool.and_false]
    rw [this, decide_eq_true rfl]
    rfl
  · rw [decide_eq_false e]
    simp
theorem tr_rm : trN V h b ((rmN V h sh b k).testBit) = trN V h b (pdk V h sh b k) := trN_cg fun r hr => by
  unfold rmN
  rw [bm_bit, decide_eq_true hr, Bool.true_and]
theorem rm_lt : rmN V h sh b k < 2 ^ h := bm_lt _ _
theorem pt_one {hbm : b < m} : ptN V h (setF sh k b) (k + 1) m + trN V h b (pdk V h sh b k) = ptN V h sh k m + trN V h b (pdk V h (setF sh k b) b (k + 1)) := sumN_upd (f := fun b => trN V h b (pdk V h sh b k)) (f' := fun b' => trN V h b' (pdk V h (setF sh k b) b' (k + 1))) hbm fun b' _ hn => trN_cg fun r _ => one_o hn r
theorem wo_o {b' : Nat} (hb : b' ≠ b) : woN V (setF sh k b) b' (k + 1) = woN V sh b' k := by
  show woN V (setF sh k b) b' k + (if setF sh k b k = b' then wvN V k else 0) = _
  rw [woN_cg (k := k) (sh := setF sh k b) (sh' := sh) fun x hx => by unfold setF; rw [if_neg (by omega)]]
  unfold setF
  rw [if_pos rfl, if_neg (fun z => hb z.symm), Nat.add_zero]
theorem wo_s : woN V (setF sh k b) b (k + 1) = woN V sh b k + wvN V k := by
  show woN V (setF sh k b) b k + (if setF sh k b k = b then wvN V k else 0) = _
  rw [woN_cg (k := k) (sh := setF sh k b) (sh' := sh) fun x hx => by unfold setF; rw [if_neg (by omega)]]
  unfold setF
  rw [if_pos rfl, if_pos rfl]
end One
end Prn
