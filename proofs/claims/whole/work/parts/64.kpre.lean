/-! ===== what the printed formulas' proofs use ===== -/
def mxI (x y : Int32) : Int32 := if x < y then y else x
def mnI (x y : Int32) : Int32 := if y < x then y else x
def aI (x : Int32) : Int32 := if 0 ≤ x then x else 0 - x
def aL (x : Int64) : Int64 := if 0 < x then x else -x
theorem tt2 {A B : Prop} (h : A) : (true = true → A) ∧ (true = false → B) := ⟨fun _ => h, fun e => Bool.noConfusion e⟩
theorem ff2 {A B : Prop} (h : B) : (false = true → A) ∧ (false = false → B) := ⟨fun e => Bool.noConfusion e, fun _ => h⟩
theorem jn_do {T : Type} {K : T} {f : T → Prop} (h : jn K f) : f K := h _ id
theorem vK_do {α : Type} {x : α} {F : α → Prop} (h : vK x F) : F x := h _ id
theorem vK_op {α : Type} {x : α} {F : α → Prop} {G : Prop} (h : vK x F) (k : ∀ v, v = x → F v → G) : G := k x rfl (h _ id)
theorem of_1 : Int32.ofInt 1 = 1 := rfl
theorem of_m1 : Int32.ofInt (-1) = -1 := rfl
theorem pLay_form {q : Nat} (h : q < 2) : pLay[11 + 2 * q]? = some (.inr (2, [0, 14 + 2 * q])) ∧ pLay[11 + 2 * q + 1]? = some (.inl (.int, 64)) := by
  rcases q with _ | _ | q
  · exact ⟨rfl, rfl⟩
  · exact ⟨rfl, rfl⟩
  · omega
theorem pk_front1 (q : Nat) : ([0, 0, 0, 0, 0, 0, 18 + 3 * q, 19 + 3 * q] : List Nat).getD 6 0 = (15 + 3 * q + 1) + 2 := by show 18 + 3 * q = _; omega
theorem pk_front2 (q : Nat) : ([0, 0, 0, 0, 0, 0, 18 + 3 * q, 19 + 3 * q] : List Nat).getD 7 0 = (15 + 3 * q + 2) + 2 := by show 19 + 3 * q = _; omega
theorem pk_form (q : Nat) : ([0, 14 + 2 * q] : List Nat).getD 1 0 = (11 + 2 * q + 1) + 2 := by show 14 + 2 * q = _; omega
section Pre
variable {w : WR} {L L' : List Value} {C C' : List CT} {Q : Value → List CT → Prop} {QS : XO → List Value → List CT → Prop}
theorem st_L {o : XO} (e : L = L') (h : QS o L' C) : QS o L C := by rw [e]; exact h
theorem st_C {o : XO} (e : C = C') (h : QS o L C') : QS o L C := by rw [e]; exact h
theorem sw_incK {i : Nat} {n : Int} {x m : Int32} (hm : Int32.ofInt n = m) (hi : L[i]? = some (.int x)) (h : QS (.inl 0) (sto1 L i (.int (x + m))) C) : SW w (sInc i n) L C QS := sw_inc hi (by rw [hm]; exact h)
theorem sw_seqN {a b : XS} (h : ∀ q : XO → List Value → List CT → Prop, (∀ o L C, sqK w b QS o L C → q o L C) → SW w a L C q) : SW w (sSeq a b) L C QS := sw_seq (h _ fun _ _ _ h => h)
theorem sw_nm {s : XS} (h : ∀ q : XO → List Value → List CT → Prop, (∀ o L C, QS o L C → q o L C) → SW w s L C q) : SW w s L C QS := h _ fun _ _ _ h => h
theorem ew_N {e : XE} (h : ∀ q : Value → List CT → Prop, (∀ v C, Q v C → q v C) → EW w e L C q) : EW w e L C Q := h _ fun _ _ h => h
theorem qv_t {q : Value → List CT → Prop} {p : Prop} [Decidable p] {a b : Int32} (hp : p) (h : q (.int (if p then a else b)) C) : q (.int a) C := by rw [if_pos hp] at h; exact h
theorem qv_f {q : Value → List CT → Prop} {p : Prop} [Decidable p] {a b : Int32} (hp : ¬ p) (h : q (.int (if p then a else b)) C) : q (.int b) C := by rw [if_neg hp] at h; exact h
theorem qv_tL {q : Value → List CT → Prop} {p : Prop} [Decidable p] {a b : Int64} (hp : p) (h : q (.long (if p then a else b)) C) : q (.long a) C := by rw [if_pos hp] at h; exact h
theorem qv_fL {q : Value → List CT → Prop} {p : Prop} [Decidable p] {a b : Int64} (hp : ¬ p) (h : q (.long (if p then a else b)) C) : q (.long b) C := by rw [if_neg hp] at h; exact h
theorem sw_lit {f : Int32 → Nat} {x a : Int32} {m : Nat} (e : x = a) (h : f a = m) : f x = m := by rw [e]; exact h
theorem sw_RA {e : XE} (h : EW w e L C fun v C' => ∃ x, v = .ref x ∧ QS (.inr (some (.ref x))) L C') : SW w (sRA e) L C QS := fun σ hσ => by
  obtain ⟨v, σ1, C1, h1, h2, h3, x, h4, h5⟩ := h σ hσ
  subst h4
  exact ⟨_, L, σ1, C1, by unfold sRA; rw [h1]; rfl, h2, h3, h5⟩
end Pre
theorem lk_nil {dk : Nat} {x : Int32} : lkF [] dk x = dk := rfl
theorem lk_no {a : Int} {l dk m : Nat} {r : List (Int × Nat)} {x a' : Int32} (h : ¬ x = a') (ha : a'.toInt = a) (k : lkF r dk x = m) : lkF ((a, l) :: r) dk x = m := by
  unfold lkF
  rw [if_neg]
  · exact k
  · intro e
    exact h (Int32.toInt_inj.mp (e.symm.trans ha.symm))
theorem lk_dk {a : Int} {dk : Nat} {r : List (Int × Nat)} {x : Int32} (k : lkF r dk x = dk) : lkF ((a, dk) :: r) dk x = dk := by
  unfold lkF
  rw [k, ite_self]
def enF : Int → List Nat → List (Int × Nat)
  | _, [] => []
  | lo, a :: r => (lo, a) :: enF (lo + 1) r
theorem swF_lk (tbl : List Nat) : ∀ (lo : Int) (dk : Nat) (x : Int32), swF lo tbl dk x = lkF (enF lo tbl) dk x := by
  induction tbl with
  | nil =>
    intro lo dk x
    unfold swF enF lkF
    split
    · rfl
    · rfl
  | cons a r ih =>
    intro lo dk x
    unfold enF lkF
    rw [← ih]
    unfold swF
    by_cases h : lo = x.toInt
    · rw [if_pos h, if_neg (by simp only [List.length_cons]; omega), ← h]
      simp
    · rw [if_neg h]
      by_cases h2 : x.toInt < lo ∨ lo + (a :: r).length ≤ x.toInt
      · rw [if_pos h2, if_pos (by simp only [List.length_cons] at h2; omega)]
      · rw [if_neg h2, if_neg (by simp only [List.length_cons] at h2; omega)]
        obtain ⟨k, hk⟩ : ∃ k : Nat, x.toInt - lo = k + 1 := ⟨(x.toInt - lo - 1).toNat, by omega⟩
        rw [show x.toInt - (lo + 1) = k by omega, hk]
        rfl
section PreR
variable {w : WR} {C : List CT} {b r j : Nat} {lay : LY} {c : CT} {PC : List CT → Prop}
theorem pw_R {ci k a : Nat} {ks : List Nat} {ty : FieldType} (hw : w.1[b]? = some (r, lay)) (hc : C[b]? = some c) (hl : lay[j]? = some (.inr (ci, ks))) (hk : ks.getD k 0 = 1) (hv : vfit ty (.ref a) = true) (hr : w.2 b j k = some a) (h : PC C) (b3 : b < 13 := by decide) : P2W w (pF ci k ty) (.ref (r + j)) (.ref a) C PC := fun σ hσ => by
  refine ⟨σ, C, ?_, hσ, rfl, h⟩
  have e := hσ.ov b3 hw hc
  have e2 := pF_r (r := r) (lay := lay) (c := bc w b c) (rest := σ.1) (z := σ.2) (j := j) (ty := ty) (x := some a) hl hk hv
  have e3 : setR (bc w b c) j k (some a) = bc w b c := by
    unfold setR bc
    dsimp only
    congr 2
    funext j' k'
    unfold up2
    split
    · rename_i q; rw [q.1, q.2, hr]
    · rfl
  rw [e3, ← e] at e2
  exact e2
end PreR
