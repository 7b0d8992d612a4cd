/-! ===== swaps: mathematics ===== -/
theorem adN_tri (a b c : Nat) : adN a c ≤ adN a b + adN b c := by
  unfold adN
  omega
theorem adN_comm (a b : Nat) : adN a b = adN b a := by
  unfold adN
  omega
section SwM
variable {V : VW} {h man : Nat}
theorem st_tri {o : Option Nat} {x y : Nat} : stN V man o y ≤ stN V man o x + btN V x y := by
  cases o with
  | none =>
    show hmN V man y ≤ hmN V man x + btN V x y
    unfold hmN btN
    have h1 := adN_tri (nv (V 17 man)) (nv (V 23 x)) (nv (V 23 y))
    have h2 := adN_tri (nv (V 16 man)) (nv (V 22 x)) (nv (V 22 y))
    omega
  | some a =>
    show btN V a y ≤ btN V a x + btN V x y
    unfold btN
    have h1 := adN_tri (nv (V 23 a)) (nv (V 23 x)) (nv (V 23 y))
    have h2 := adN_tri (nv (V 22 a)) (nv (V 22 x)) (nv (V 22 y))
    omega
theorem bk_tri {o : Option Nat} {x : Nat} : bkN V man o ≤ stN V man o x + hmN V man x := by
  cases o with
  | none => exact Nat.zero_le _
  | some a =>
    show hmN V man a ≤ btN V a x + hmN V man x
    unfold hmN btN
    have h1 := adN_tri (nv (V 17 man)) (nv (V 23 x)) (nv (V 23 a))
    have h2 := adN_tri (nv (V 16 man)) (nv (V 22 x)) (nv (V 22 a))
    have h3 := adN_comm (nv (V 23 x)) (nv (V 23 a))
    have h4 := adN_comm (nv (V 22 x)) (nv (V 22 a))
    omega
theorem tp_cg {p p' : Nat → Bool} : ∀ {k : Nat}, (∀ r, r < k → p r = p' r) → tp V h man p k = tp V h man p' k
  | 0, _ => rfl
  | k + 1, e => by rw [tp_s, tp_s, tp_cg fun r hr => e r (by omega), e k (by omega)]
theorem trN_cg {p p' : Nat → Bool} (e : ∀ r, r < h → p r = p' r) : trN V h man p = trN V h man p' := by
  unfold trN
  rw [tp_cg e]
/-- one house more never makes a round shorter -/
theorem tr_more {p : Nat → Bool} {r : Nat} : trN V h man p ≤ trN V h man (fun i => p i || decide (i = r)) := by
  by_cases pr : p r = true
  · refine Nat.le_of_eq (trN_cg fun i _ => ?_)
    by_cases e : i = r
    · subst e
      rw [pr]
      rfl
    · rw [decide_eq_false e, Bool.or_false]
  · have pr : p r = false := by
      cases q : p r with
      | false => rfl
      | true => exact absurd q pr
    by_cases hr : r < h
    · have key : ∀ k, r < k → (((tp V h man p k).1 = (tp V h man (fun i => p i || decide (i = r)) k).1 ∧ (tp V h man p k).2 ≤ (tp V h man (fun i => p i || decide (i = r)) k).2) ∨ ((tp V h man (fun i => p i || decide (i = r)) k).1 = some (sq V h r) ∧ (tp V h man (fun i => p i || decide (i = r)) k).2 = (tp V h man p k).2 + stN V man (tp V h man p k).1 (sq V h r))) := by
        intro k
        induction k with
        | zero => intro z; exact absurd z (by omega)
        | succ k ih =>
          intro hk
          rw [tp_s, tp_s]
          by_cases e : k = r
          · subst e
            have cg : tp V h man (fun i => p i || decide (i = k)) k = tp V h man p k := tp_cg fun i hi => by rw [decide_eq_false (by omega), Bool.or_false]
            rw [if_neg (by rw [pr]; decide), if_pos (by rw [decide_eq_true rfl, Bool.or_true]), cg]
            exact Or.inr ⟨rfl, rfl⟩
          · have ih := ih (by omega)
            have pk : (p k || decide (k = r)) = p k := by rw [decide_eq_false e, Bool.or_false]
            by_cases q : p k = true
            · rw [if_pos q, if_pos (by rw [pk]; exact q)]
              left
              refine ⟨rfl, ?_⟩
              dsimp only
              rcases ih with ⟨i1, i2⟩ | ⟨i1, i2⟩
              · rw [← i1]
                omega
              · rw [i1, i2]
                have := st_tri (V := V) (man := man) (o := (tp V h man p k).1) (x := sq V h r) (y := sq V h k)
                show _ ≤ _ + btN V (sq V h r) (sq V h k)
                omega
            · rw [if_neg q, if_neg (by rw [pk]; exact q)]
              exact ih
      unfold trN
      rcases key h hr with ⟨i1, i2⟩ | ⟨i1, i2⟩
      · rw [← i1]
        omega
      · rw [i1, i2]
        have := bk_tri (V := V) (man := man) (o := (tp V h man p h).1) (x := sq V h r)
        show _ ≤ _ + hmN V man (sq V h r)
        omega
    · refine Nat.le_of_eq (trN_cg fun i hi => ?_)
      rw [decide_eq_false (by omega), Bool.or_false]
theorem tr_mono {p p' : Nat → Bool} (e : ∀ r, r < h → p r = true → p' r = true) : trN V h man p ≤ trN V h man p' := by
  have key : ∀ k, k ≤ h → trN V h man p ≤ trN V h man (fun i => p i || (decide (i < k) && p' i)) := by
    intro k
    induction k with
    | zero =>
      intro _
      refine Nat.le_of_eq (trN_cg fun i hi => ?_)
      rw [decide_eq_false (by omega), Bool.false_and, Bool.or_false]
    | succ k ih =>
      intro hk
      have ih := ih (by omega)
      cases q : p' k with
      | false =>
        have : trN V h man (fun i => p i || (decide (i < k) && p' i)) = trN V h man (fun i => p i || (decide (i < k + 1) && p' i)) := trN_cg fun i hi => by
          by_cases z : i = k
          · subst z
            rw [q, Bool.and_false, Bool.and_false]
          · rw [show decide (i < k + 1) = decide (i < k) from decide_eq_decide.mpr (by omega)]
        omega
      | true =>
        have a := tr_more (V := V) (h := h) (man := man) (p := fun i => p i || (decide (i < k) && p' i)) (r := k)
        have : trN V h man (fun i => (p i || (decide (i < k) && p' i)) || decide (i = k)) = trN V h man (fun i => p i || (decide (i < k + 1) && p' i)) := trN_cg fun i hi => by
          by_cases z : i = k
          · subst z
            rw [q, decide_eq_true (show i = i from rfl), Bool.or_true, decide_eq_true (show i < i + 1 by omega), Bool.true_and, Bool.or_true]
          · rw [show decide (i < k + 1) = decide (i < k) from decide_eq_decide.mpr (by omega), decide_eq_false z, Bool.or_false]
        omega
  have a := key h (Nat.le_refl h)
  have b : trN V h man (fun i => p i || (decide (i < h) && p' i)) = trN V h man p' := trN_cg fun i hi => by
    rw [decide_eq_true hi, Bool.true_and]
    cases q : p i with
    | false => rw [Bool.false_or]
    | true => rw [e i hi q]; rfl
  omega
end SwM
/-! all shares in order -/
def fo {β : Type} (g : Nat → β → β) : Nat → β → β
  | 0, st => st
  | b + 1, st => g b (fo g b st)
theorem fo_s {β : Type} {g : Nat → β → β} {b : Nat} {st : β} : fo g (b + 1) st = g b (fo g b st) := rfl
def setF (sh : Nat → Nat) (k b : Nat) : Nat → Nat := fun x => if x = k then b else sh x
def swpF {β : Type} (up : β → (Nat → Nat) → β) (m h : Nat) : Nat → (Nat → Nat) → β → β
  | 0, sh, st => up st sh
  | n + 1, sh, st => fo (fun b st => swpF up m h n (setF sh (h - (n + 1)) b) st) m st
theorem swpF_s {β : Type} {up : β → (Nat → Nat) → β} {m h n : Nat} {sh : Nat → Nat} {st : β} : swpF up m h (n + 1) sh st = fo (fun b st => swpF up m h n (setF sh (h - (n + 1)) b) st) m st := rfl
section SwS
variable (V : VW) (h loss : Nat) (wn : Nat → Nat)
def toN (sh : Nat → Nat) : Nat → Nat
  | 0 => 0
  | b + 1 => toN sh b + trN V h b (shP V h sh b)
def vaB (sh : Nat → Nat) : Nat → Bool
  | 0 => true
  | b + 1 => vaB sh b && decide (wn b ≤ woN V sh b h + loss)
def upC (m : Nat) (st : Nat × (Nat → Nat)) (sh : Nat → Nat) : Nat × (Nat → Nat) := if (vaB V h loss wn sh m && decide (toN V h sh m < st.1)) = true then (toN V h sh m, sh) else st
def upR (m : Nat) (o : Option (Nat × (Nat → Nat))) (sh : Nat → Nat) : Option (Nat × (Nat → Nat)) := if (vaB V h loss wn sh m && (match o with | none => true | some p => decide (toN V h sh m < p.1))) = true then some (toN V h sh m, sh) else o
end SwS
section SwT
variable {V : VW} {h loss m : Nat} {wn : Nat → Nat}
def RB (c : Nat) (o : Option (Nat × (Nat → Nat))) (st : Nat × (Nat → Nat)) : Prop := (st.1 = c + 1 ∧ (o = none ∨ ∃ p, o = some p ∧ c < p.1)) ∨ (o = some st ∧ st.1 ≤ c)
theorem RB.up {c : Nat} {o : Option (Nat × (Nat → Nat))} {st : Nat × (Nat → Nat)} {sh : Nat → Nat} (g : RB c o st) : RB c (upR V h loss wn m o sh) (upC V h loss wn m st sh) := by
  unfold upR upC
  cases va : vaB V h loss wn sh m with
  | false =>
    rw [Bool.false_and, Bool.false_and, if_neg (by decide), if_neg (by decide)]
    exact g
  | true =>
    rw [Bool.true_and, Bool.true_and]
    generalize toN V h sh m = t
    rcases g with ⟨g1, rfl | ⟨p, rfl, g2⟩⟩ | ⟨rfl, g1⟩
    · dsimp only
      rw [if_pos rfl]
      by_cases z : t < st.1
      · rw [if_pos (decide_eq_true z)]
        exact Or.inr ⟨rfl, by show t ≤ c; omega⟩
      · rw [if_neg (fun y => z (of_decide_eq_true y))]
        exact Or.inl ⟨g1, Or.inr ⟨_, rfl, by show c < t; omega⟩⟩
    · dsimp only
      by_cases z : t < st.1
      · rw [if_pos (decide_eq_true z), if_pos (decide_eq_true (by omega))]
        exact Or.inr ⟨rfl, by show t ≤ c; omega⟩
      · rw [if_neg (fun y => z (of_decide_eq_true y))]
        by_cases y : t < p.1
        · rw [if_pos (decide_eq_true y)]
          exact Or.inl ⟨g1, Or.inr ⟨_, rfl, by show c < t; omega⟩⟩
        · rw [if_neg (fun x => y (of_decide_eq_true x))]
          exact Or.inl ⟨g1, Or.inr ⟨_, rfl, g2⟩⟩
    · dsimp only
      by_cases z : t < st.1
      · rw [if_pos (decide_eq_true z), if_pos (decide_eq_true z)]
        exact Or.inr ⟨rfl, by show t ≤ c; omega⟩
      · rw [if_neg (fun y => z (of_decide_eq_true y)), if_neg (fun y => z (of_decide_eq_true y))]
        exact Or.inr ⟨rfl, g1⟩
theorem RB.sw {c : Nat} : ∀ (n : Nat) {o : Option (Nat × (Nat → Nat))} {st : Nat × (Nat → Nat)} {sh : Nat → Nat}, RB c o st → RB c (swpF (upR V h loss wn m) m h n sh o) (swpF (upC V h loss wn m) m h n sh st) := by
  intro n
  induction n with
  | zero => intro o st sh g; exact g.up
  | succ n ih =>
    intro o st sh g
    rw [swpF_s, swpF_s]
    have key : ∀ b, RB c (fo (fun b st => swpF (upR V h loss wn m) m h n (setF sh (h - (n + 1)) b) st) b o) (fo (fun b st => swpF (upC V h loss wn m) m h n (setF sh (h - (n + 1)) b) st) b st) := by
      intro b
      induction b with
      | zero => exact g
      | succ b ihb =>
        rw [fo_s, fo_s]
        exact ih ihb
    exact key m
theorem woN_cg {sh sh' : Nat → Nat} {b : Nat} : ∀ {k : Nat}, (∀ x, x < k → sh x = sh' x) → woN V sh b k = woN V sh' b k
  | 0, _ => rfl
  | k + 1, e => by
    show woN V sh b k + (if sh k = b then wvN V k else 0) = woN V sh' b k + (if sh' k = b then wvN V k else 0)
    rw [woN_cg fun x hx => e x (by omega), e k (by omega)]
theorem shP_cg {sh sh' : Nat → Nat} {b r : Nat} (e : ∀ x, x < h → sh x = sh' x) (hr : r < h) : shP V h sh b r = shP V h sh' b r := by
  unfold shP
  rw [e _ ((sq_ok V h).1 r hr)]
theorem toN_cg {sh sh' : Nat → Nat} (e : ∀ x, x < h → sh x = sh' x) : ∀ b, toN V h sh b = toN V h sh' b
  | 0 => rfl
  | b + 1 => by
    show toN V h sh b + trN V h b (shP V h sh b) = toN V h sh' b + trN V h b (shP V h sh' b)
    rw [toN_cg e b, trN_cg fun r hr => shP_cg e hr]
theorem vaB_cg {sh sh' : Nat → Nat} (e : ∀ x, x < h → sh x = sh' x) : ∀ b, vaB V h loss wn sh b = vaB V h loss wn sh' b
  | 0 => rfl
  | b + 1 => by
    show (vaB V h loss wn sh b && decide (wn b ≤ woN V sh b h + loss)) = (vaB V h loss wn sh' b && decide (wn b ≤ woN V sh' b h + loss))
    rw [vaB_cg e b, woN_cg e]
/-- the search finds nothing worse than any share that may be -/
theorem sw_le {sh0 : Nat → Nat} (h0 : ∀ x, x < h → sh0 x < m) (v0 : vaB V h loss wn sh0 m = true) : ∀ (n : Nat) {sh : Nat → Nat} {st : Nat × (Nat → Nat)}, n ≤ h → (swpF (upC V h loss wn m) m h n sh st).1 ≤ st.1 ∧ ((∀ x, x < h - n → sh0 x = sh x) → (swpF (upC V h loss wn m) m h n sh st).1 ≤ toN V h sh0 m) := by
  intro n
  induction n with
  | zero =>
    intro sh st hn
    show (upC V h loss wn m st sh).1 ≤ st.1 ∧ _
    refine ⟨?_, fun e => ?_⟩
    · unfold upC
      split
      · rename_i z
        have := of_decide_eq_true (Bool.and_eq_true_iff.mp z).2
        show toN V h sh m ≤ st.1
        omega
      · exact Nat.le_refl _
    · show (upC V h loss wn m st sh).1 ≤ _
      unfold upC
      rw [← toN_cg (sh := sh0) (sh' := sh) (fun x hx => e x (by omega)) m, ← vaB_cg (sh := sh0) (sh' := sh) (fun x hx => e x (by omega)) m, v0, Bool.true_and]
      by_cases z : toN V h sh0 m < st.1
      · rw [if_pos (decide_eq_true z)]
        exact Nat.le_refl _
      · rw [if_neg (fun y => z (of_decide_eq_true y))]
        omega
  | succ n ih =>
    intro sh st hn
    rw [swpF_s]
    have down : ∀ b, (fo (fun b st => swpF (upC V h loss wn m) m h n (setF sh (h - (n + 1)) b) st) b st).1 ≤ st.1 := by
      intro b
      induction b with
      | zero => exact Nat.le_refl _
      | succ b ihb =>
        rw [fo_s]
        exact Nat.le_trans (ih (by omega)).1 ihb
    refine ⟨down m, fun e => ?_⟩
    have k0 := h0 (h - (n + 1)) (by omega)
    have key : ∀ b, sh0 (h - (n + 1)) < b → (fo (fun b st => swpF (upC V h loss wn m) m h n (setF sh (h - (n + 1)) b) st) b st).1 ≤ toN V h sh0 m := by
      intro b
      induction b with
      | zero => intro z; exact absurd z (by omega)
      | succ b ihb =>
        intro z
        rw [fo_s]
        by_cases y : sh0 (h - (n + 1)) = b
        · refine (ih (by omega)).2 fun x hx => ?_
          unfold setF
          by_cases w : x = h - (n + 1)
          · rw [if_pos w, w, y]
          · rw [if_neg w]
            exact e x (by omega)
        · exact Nat.le_trans (ih (by omega)).1 (ihb (by omega))
    exact key m k0
/-- what can't help leaves things as they are -/
theorem sw_no : ∀ (n : Nat) {sh : Nat → Nat} {st : Nat × (Nat → Nat)}, n ≤ h → (∀ sh', (∀ x, x < h - n → sh' x = sh x) → (∀ x, h - n ≤ x → x < h → sh' x < m) → ¬ (vaB V h loss wn sh' m = true ∧ toN V h sh' m < st.1)) → swpF (upC V h loss wn m) m h n sh st = st := by
  intro n
  induction n with
  | zero =>
    intro sh st hn no
    show upC V h loss wn m st sh = st
    unfold upC
    refine if_neg fun z => no sh (fun _ _ => rfl) (fun x h1 h2 => absurd h2 (by omega)) ?_
    obtain ⟨z1, z2⟩ := Bool.and_eq_true_iff.mp z
    exact ⟨z1, of_decide_eq_true z2⟩
  | succ n ih =>
    intro sh st hn no
    rw [swpF_s]
    have key : ∀ b, b ≤ m → fo (fun b st => swpF (upC V h loss wn m) m h n (setF sh (h - (n + 1)) b) st) b st = st := by
      intro b
      induction b with
      | zero => intro _; rfl
      | succ b ihb =>
        intro hb
        rw [fo_s, ihb (by omega)]
        refine ih (by omega) fun sh' e1 e2 => no sh' (fun x hx => ?_) (fun x h1 h2 => ?_)
        · have := e1 x (by omega)
          unfold setF at this
          rw [if_neg (by omega)] at this
          exact this
        · by_cases w : x = h - (n + 1)
          · have := e1 x (by omega)
            unfold setF at this
            rw [if_pos w] at this
            omega
          · exact e2 x (by omega) h2
    exact key m (Nat.le_refl m)
end SwT
