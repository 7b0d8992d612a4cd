/-! ===== the reference's day ===== -/
def mr (j : Nat) : Nat := if j = 1 then 44 else 35 + j
theorem mr_in {j : Nat} (h : 1 ≤ j ∧ j ≤ 8) : 37 ≤ mr j ∧ mr j ≤ 44 := by
  unfold mr
  split <;> omega
theorem mr_inj {j j' : Nat} (h : 1 ≤ j ∧ j ≤ 8) (h' : 1 ≤ j' ∧ j' ≤ 8) (e : mr j = mr j') : j = j' := by
  unfold mr at e
  split at e <;> split at e <;> omega
/-- what a day leaves as it is -/
def MFr (M0 M : CT) (D : Nat) : Prop := ∀ j k, RV j k → ¬ ((37 ≤ j ∧ j ≤ 44) ∧ k < 10) → ¬ (j = 45 ∧ k < 300) → ¬ (j = 46 ∧ k = D) → ¬ ((j = 47 ∨ j = 48) ∧ 10 * D ≤ k ∧ k < 10 * D + 10) → M.1 j k = M0.1 j k
/-- the days of wipes -/
def MWd (M0 M : CT) (L : List (Nat × Nat)) (h D : Nat) : Prop := ∀ i t, i < h → M0.1 38 i = nI t → t < 30 → (∀ x, x < t → M.1 45 (30 * i + x) = M0.1 45 (30 * i + x)) ∧ (i ∈ L.map Prod.fst → M.1 38 i = nI (t + 1) ∧ M.1 45 (30 * i + t) = nI D) ∧ (i ∉ L.map Prod.fst → M.1 38 i = nI t)
def MBr (M0 M : CT) (B : VW) (L : List (Nat × Nat)) (h D : Nat) : Prop := (∀ i j, i < h → 1 ≤ j → j ≤ 8 → M.1 (mr j) i = B j i) ∧ (M.1 46 D = nI L.length ∧ ∀ x, x < L.length → M.1 47 (10 * D + x) = nI (L.getD x (0, 0)).1 ∧ M.1 48 (10 * D + x) = nI (L.getD x (0, 0)).2) ∧ MWd M0 M L h D ∧ MFr M0 M D
/-- a change of nothing that counts -/
theorem MBr.mv {M0 M M' : CT} {B : VW} {L : List (Nat × Nat)} {h D : Nat} (g : MBr M0 M B L h D) (e : MA M M') : MBr M0 M' B L h D := by
  obtain ⟨g1, ⟨g2, g3⟩, g4, g5⟩ := g
  refine ⟨fun i j a b c => ?_, ⟨?_, fun x hx => ?_⟩, fun i t a b c => ?_, fun j k r a b c d => ?_⟩
  · have := mr_in ⟨b, c⟩
    rw [e.row _ _ (by omega)]
    exact g1 i j a b c
  · rw [e.row 46 _ (by omega)]; exact g2
  · rw [e.row 47 _ (by omega), e.row 48 _ (by omega)]; exact g3 x hx
  · rw [e.row 38 _ (by omega), e.row 45 _ (by omega)]
    refine ⟨fun x hx => ?_, (g4 i t a b c).2⟩
    rw [e.row 45 _ (by omega)]
    exact (g4 i t a b c).1 x hx
  · rw [e j k r]; exact g5 j k r a b c d
theorem MBr.up {M0 M : CT} {B : VW} {L : List (Nat × Nat)} {h D j i : Nat} {x : Int32} (g : MBr M0 M B L h D) (hj : 1 ≤ j ∧ j ≤ 8) (h3 : j ≠ 3) (hi : i < 10) : MBr M0 (sI M (mr j) i x) (up2 B j i x) L h D := by
  have hm := mr_in hj
  have m38 : mr j ≠ 38 := fun e => h3 (mr_inj hj (show 1 ≤ 3 ∧ 3 ≤ 8 by omega) (e.trans rfl))
  obtain ⟨g1, ⟨g2, g3⟩, g4, g5⟩ := g
  refine ⟨fun i' j' a b c => ?_, ⟨?_, fun y hy => ?_⟩, fun i' t a b c => ?_, fun j' k r a b c d => ?_⟩
  · rw [sI_at, up2_at]
    by_cases e : j' = j ∧ i' = i
    · rw [if_pos e, if_pos ⟨by rw [e.1], e.2⟩]
    · rw [if_neg e, if_neg (fun q => e ⟨mr_inj ⟨b, c⟩ hj q.1, q.2⟩)]
      exact g1 i' j' a b c
  · rw [sI_ne (by omega)]; exact g2
  · rw [sI_ne (by omega), sI_ne (by omega)]; exact g3 y hy
  · rw [sI_ne (by omega), sI_ne (by omega)]
    refine ⟨fun x hx => ?_, (g4 i' t a b c).2⟩
    rw [sI_ne (by omega)]
    exact (g4 i' t a b c).1 x hx
  · rw [sI_ne (by omega)]
    exact g5 j' k r a b c d
/-- what the reference's day reads besides its rows -/
def RE (M : CT) (V : VW) (kn tk : Nat → Int32) (N49 N50 : Nat → Int32) (nn D m h a n b k : Nat) : Prop := ((∀ j x, 2 ≤ j → j ≤ 32 → x < half j → M.1 j x = V j x) ∧ ∀ x, 34 ≤ x → x ≤ 45 → M.1 0 x = V 0 x) ∧ (M.1 0 77 = nI D ∧ M.1 0 78 = nI nn ∧ M.1 49 = N49 ∧ M.1 50 = N50) ∧ (∀ i, i < h → ∃ y : Nat, y < 5 ∧ V 20 i = nI y ∧ M.1 52 y = tk i) ∧ (nn ≤ 60 ∧ AimB N49 N50 nn ∧ ∀ i, i < h → kn i = psum N49 N50 (stFs N49 N50 nn) (nI i) nn) ∧ (V 0 37 = nI m ∧ V 0 38 = nI h ∧ V 0 39 = nI a ∧ V 0 40 = nI (a + n) ∧ V 0 41 = nI b ∧ V 0 42 = nI (b + k))
theorem RE.mv {M0 M : CT} {V : VW} {kn tk N49 N50 : Nat → Int32} {nn D m h a n b k : Nat} (g : RE M0 V kn tk N49 N50 nn D m h a n b k) (e : MFr M0 M D) : RE M V kn tk N49 N50 nn D m h a n b k := by
  obtain ⟨⟨g1, g2⟩, ⟨g3, g4, g5, g6⟩, g7, g8, g9⟩ := g
  refine ⟨⟨fun j x h1 h2 hx => ?_, fun x h1 h2 => ?_⟩, ⟨?_, ?_, ?_, ?_⟩, fun i hi => ?_, g8, g9⟩
  · rw [e j x (Or.inr (Or.inr (Or.inl ⟨h1, h2, hx⟩))) (by omega) (by omega) (by omega) (by omega)]
    exact g1 j x h1 h2 hx
  · rw [e 0 x (Or.inl ⟨rfl, by omega⟩) (by omega) (by omega) (by omega) (by omega)]
    exact g2 x h1 h2
  · rw [e 0 77 (Or.inl ⟨rfl, by omega⟩) (by omega) (by omega) (by omega) (by omega)]; exact g3
  · rw [e 0 78 (Or.inl ⟨rfl, by omega⟩) (by omega) (by omega) (by omega) (by omega)]; exact g4
  · rw [← g5]
    funext x
    exact e 49 x (Or.inr (Or.inr (Or.inr (Or.inl (by omega))))) (by omega) (by omega) (by omega) (by omega)
  · rw [← g6]
    funext x
    exact e 50 x (Or.inr (Or.inr (Or.inr (Or.inl (by omega))))) (by omega) (by omega) (by omega) (by omega)
  · obtain ⟨y, hy, e1, e2⟩ := g7 i hi
    refine ⟨y, hy, e1, ?_⟩
    rw [e 52 y (Or.inr (Or.inr (Or.inr (Or.inr rfl)))) (by omega) (by omega) (by omega) (by omega)]
    exact e2
theorem evR_cg {s v s' v' : Nat → Int32} {fc : Int32 → Int64} : ∀ {n : Nat}, (∀ i, i < n → s' i = s i ∧ v' i = v i) → evR s' v' fc n = evR s v fc n
  | 0, _ => rfl
  | n + 1, e => by
    rw [evR_s, evR_s, evR_cg fun i hi => e i (by omega), dpK.mv fun i hi => e i (by omega), (e n (by omega)).1, (e n (by omega)).2]
theorem dpOK.mv {s v s' v' : Nat → Int32} {n : Nat} (g : dpOK s v n) (e : ∀ i, i < n → s' i = s i ∧ v' i = v i) : dpOK s' v' n := fun i hi hs => by
  rw [(e i hi).1] at hs
  rw [(e i hi).2, dpK.mv fun j hj => e j (by omega)]
  exact g i hi hs
section DayR
variable {P M0 M : CT} {V B : VW} {L : List (Nat × Nat)} {kn tk N49 N50 : Nat → Int32} {f m h D a n b k nn : Nat}
theorem nmF_fc {i : Nat} (R : RE M V kn tk N49 N50 nn D m h a n b k) (g : MBr M0 M B L h D) (hi : i < h) (h9 : h ≤ 10) : nmF M i nn = fcB V B kn D i := by
  obtain ⟨⟨r1, -⟩, ⟨r3, r4, r5, r6⟩, -, ⟨-, -, r8⟩, -⟩ := R
  funext x
  unfold nmF fcB balS knS
  rw [r1 26 i (by omega) (by omega) (show i < 10 by omega), r1 24 i (by omega) (by omega) (show i < 10 by omega), r3, r5, r6, ← r8 i hi, show M.1 37 i = B 2 i from g.1 i 2 hi (by omega) (by omega), show M.1 38 i = B 3 i from g.1 i 3 hi (by omega) (by omega), show M.1 43 i = B 8 i from g.1 i 8 hi (by omega) (by omega)]
theorem isOpenR {i : Nat} {Q : Int32 → Prop} (R : RE M V kn tk N49 N50 nn D m h a n b k) (gp : PHou P.1 V f m i) (hi : i < h) (h9 : h ≤ 10) (hD : D < 200) : k_X12_isOpen M (nI i) Q = Q (if bitI (V 29 i) D = true then 1 else 0) := by
  obtain ⟨⟨r1, -⟩, ⟨r3, -⟩, -⟩ := R
  obtain ⟨-, -, -, -, -, -, -, -, -, ⟨-, b10, h10, v10⟩⟩ := gp
  unfold k_X12_isOpen
  rw [jn_eq, rdI_n (by omega) (by omega), r1 29 i (by omega) (by omega) (show i < 10 by omega), r3, rem7 (by omega), wk_bit v10 h10]
  by_cases c : bitI (V 29 i) D = true
  · rw [if_pos c, if_neg (fun z => z rfl)]
    show rZ 1 _ = _
    rw [rZ_1]
  · rw [if_neg c, if_pos (by decide)]
    show rZ 0 _ = _
    rw [rZ_0]
/-- a rule, as the reference's rows have it -/
theorem ruledR {i a' n' : Nat} {Q : Int32 → CT → Prop} {x : Nat → Int32} (R : RE M V kn tk N49 N50 nn D m h a n b k) (g : MBr M0 M B L h D) (hi : i < h) (h9 : h ≤ 10) (hR : RulR x V a' n') (h0 : 0 < n') (hQ : ∀ M', MR M M' → (ruB V B kn D i a' n' → Q 1 M') ∧ (¬ ruB V B kn D i a' n' → Q 0 M')) : k_X12_ruled M (nI a') (nI (a' + n')) (nI i) Q := by
  have hfc := nmF_fc R g hi h9
  obtain ⟨⟨r1, -⟩, ⟨r3, r4, r5, r6⟩, -, ⟨n6, aim, r8⟩, -⟩ := R
  obtain ⟨q1, q2, q3, q4, q5⟩ := hR
  have e31 : ∀ y, y < n' → M.1 31 (a' + y) = V 31 (a' + y) := fun y hy => r1 31 _ (by omega) (by omega) (show a' + y < 64 by omega)
  have e32 : ∀ y, y < n' → M.1 32 (a' + y) = V 32 (a' + y) := fun y hy => r1 32 _ (by omega) (by omega) (show a' + y < 64 by omega)
  have ee : ∀ y, y < n' → (fun i => M.1 31 (a' + i)) y = (fun i => V 31 (a' + i)) y ∧ (fun i => M.1 32 (a' + i)) y = (fun i => V 32 (a' + i)) y := fun y hy => ⟨e31 y hy, e32 y hy⟩
  have rue : rulS (fun i => M.1 31 (a' + i)) (fun i => M.1 32 (a' + i)) (nmF M i nn) n' ↔ ruB V B kn D i a' n' := by
    unfold ruB rulS
    rw [hfc, evR_cg ee]
  refine ruled_ok (k := nn) q1 q2 h0 (dpOK.mv q4 ee) ((dpK.mv ee).trans (q5 h0)) (by omega) n6 r4 (by rw [r5, r6]; exact aim) fun M' hM' => ?_
  rw [rue]
  exact hQ M' hM'
end DayR
