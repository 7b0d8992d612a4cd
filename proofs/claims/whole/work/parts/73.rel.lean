/-! ===== what the class holds and what the reference holds ===== -/
/-- the reference's plan (lower halves), and the one that is being read (upper halves) -/
def lowV (M : CT) : VW := M.1
def half (j : Nat) : Nat := if j < 2 then 0 else if j ≤ 3 then 4 else if j ≤ 6 then 3 else if j ≤ 12 then 5 else if j ≤ 14 then 60 else if j ≤ 18 then 3 else if j ≤ 29 then 10 else if j = 30 then 200 else if j ≤ 32 then 64 else 0
def uppV (M : CT) : VW := fun j k => if j = 0 then M.1 0 (k + 12) else M.1 j (half j + k)
def PNum (P V : VW) (l q f m h : Nat) : Prop := (l ≤ 4 ∧ q ≤ 3 ∧ f ≤ 5 ∧ m ≤ 3 ∧ h ≤ 10) ∧ (P 1 0 = nI l ∧ P 1 1 = nI q ∧ P 0 1 = nI f ∧ P 0 2 = nI m ∧ P 0 3 = nI h) ∧ (V 0 34 = nI l ∧ V 0 35 = nI q ∧ V 0 36 = nI f ∧ V 0 37 = nI m ∧ V 0 38 = nI h)
def PLad (P V : VW) (i : Nat) : Prop := P 2 i = V 2 i ∧ P 3 i = V 3 i ∧ ∃ n : Nat, 4 ≤ n ∧ n ≤ 30 ∧ V 3 i = nI n
def PPol (P V : VW) (i : Nat) : Prop := P 4 i = V 4 i ∧ P 5 i = V 5 i ∧ P 6 i = V 6 i ∧ (∃ n : Nat, 4 ≤ n ∧ n ≤ 40 ∧ V 5 i = nI n) ∧ ∃ n : Nat, n ≤ 9 ∧ V 6 i = nI n
def PPan (P V : VW) (i w g k : Nat) : Prop := P (15 + 3 * i + 1) k = V 13 (12 * i + k) ∧ P (15 + 3 * i + 2) k = V 14 (12 * i + k) ∧ (∃ n : Nat, n < w ∧ V 13 (12 * i + k) = nI n) ∧ ∃ n : Nat, 1 ≤ n ∧ n ≤ g ∧ V 14 (12 * i + k) = nI n
def PFro (P V : VW) (i : Nat) : Prop := P (15 + 3 * i) 0 = V 7 i ∧ ∃ w g p b s : Nat, (1 ≤ w ∧ w ≤ 12) ∧ (1 ≤ g ∧ g ≤ 24) ∧ p ≤ 12 ∧ b < 4096 ∧ s < 4096 ∧ (V 8 i = nI w ∧ V 9 i = nI g ∧ V 12 i = nI p ∧ V 10 i = nI b ∧ V 11 i = nI s) ∧ (P (15 + 3 * i) 1 = nI w ∧ P (15 + 3 * i) 2 = nI g ∧ P (15 + 3 * i) 3 = nI p ∧ P (15 + 3 * i) 4 = nI b ∧ P (15 + 3 * i) 5 = nI s) ∧ ∀ k, k < p → PPan P V i w g k
def PMan (P V : VW) (i : Nat) : Prop := P (30 + i) 0 = V 15 i ∧ P (30 + i) 1 = V 16 i ∧ P (30 + i) 2 = V 17 i ∧ P (30 + i) 3 = V 18 i ∧ (∃ n : Nat, n ≤ 9 ∧ V 16 i = nI n) ∧ (∃ n : Nat, n ≤ 99 ∧ V 17 i = nI n) ∧ ∃ n : Nat, 10 ≤ n ∧ n ≤ 600 ∧ V 18 i = nI n
def PHou (P V : VW) (f m i : Nat) : Prop := P (33 + i) 0 = V 19 i ∧ (P (33 + i) 1 = V 20 i ∧ ∃ n : Nat, n < f ∧ V 20 i = nI n) ∧ (P (33 + i) 3 = V 22 i ∧ ∃ n : Nat, n ≤ 9 ∧ V 22 i = nI n) ∧ (P (33 + i) 4 = V 23 i ∧ ∃ n : Nat, n ≤ 99 ∧ V 23 i = nI n) ∧ (P (33 + i) 5 = V 24 i ∧ ∃ n : Nat, 1 ≤ n ∧ n ≤ 9 ∧ V 24 i = nI n) ∧ (P (33 + i) 6 = V 25 i ∧ ∃ n : Nat, n < 128 ∧ V 25 i = nI n) ∧ (P (33 + i) 7 = V 26 i ∧ ∃ n : Nat, n ≤ 999 ∧ V 26 i = nI n) ∧ (P (33 + i) 8 = V 27 i ∧ (V 27 i = 0 ∨ V 27 i = 1)) ∧ (P (33 + i) 9 = V 28 i ∧ ∃ n : Nat, n < 200 ∧ V 28 i = nI n) ∧ (P (33 + i) 10 = V 29 i ∧ ∃ n : Nat, n < 128 ∧ V 29 i = nI n)
/-- a knot as the class writes it, and as the reference does -/
def nameL : List (Nat × Nat) := [(19, 20), (20, 21), (21, 22), (22, 13), (23, 23), (24, 24)]
def signL : List (Nat × Nat) := [(17, 262), (18, 261), (30, 60), (31, 256), (32, 61), (33, 257), (34, 258), (35, 62), (36, 43), (37, 45), (38, 42), (39, 47)]
def KnR (x s v : Int32) : Prop := (s = 0 ∧ ∃ n : Nat, n ≤ 9999 ∧ x = nI n ∧ v = nI n) ∨ (s = 1 ∧ ∃ p ∈ nameL, x = -1 - nI p.1 ∧ v = nI p.2) ∨ (s = 2 ∧ x = -1 - 16 ∧ v = 260) ∨ (s = 2 ∧ ∃ p ∈ signL, x = -1 - nI p.1 ∧ v = nI p.2)
/-- how many values wait behind k knots -/
def dpK (s v : Nat → Int32) : Nat → Nat
  | 0 => 0
  | k + 1 => if s k = 2 then (if v k = 260 then dpK s v k else dpK s v k - 1) else dpK s v k + 1
/-- a rule: n knots of the class's row x, the reference's from a on -/
def RulR (x : Nat → Int32) (V : VW) (a n : Nat) : Prop := n ≤ 64 ∧ a + n ≤ 64 ∧ (∀ i, i < n → KnR (x i) (V 31 (a + i)) (V 32 (a + i))) ∧ (∀ i, i < n → V 31 (a + i) = 2 → (if V 32 (a + i) = 260 then 1 else 2) ≤ dpK (fun k => V 31 (a + k)) (fun k => V 32 (a + k)) i) ∧ (0 < n → dpK (fun k => V 31 (a + k)) (fun k => V 32 (a + k)) n = 1)
def PRul (P V : VW) : Prop := ∃ a n b k : Nat, P 11 0 = nI n ∧ V 0 39 = nI a ∧ V 0 40 = nI (a + n) ∧ RulR (P 12) V a n ∧ P 13 0 = nI k ∧ V 0 41 = nI b ∧ V 0 42 = nI (b + k) ∧ RulR (P 14) V b k ∧ V 0 45 = nI (n + k) ∧ n + k ≤ 64
def PTan (P V : VW) : Prop := P 0 10 = V 0 43 ∧ P 0 11 = V 0 44 ∧ ∃ n k : Nat, n ≤ 999 ∧ k ≤ 99 ∧ V 0 43 = nI n ∧ V 0 44 = nI k
def PRel (P V : VW) (l q f m h : Nat) : Prop := PNum P V l q f m h ∧ (∀ i, i < l → PLad P V i) ∧ (∀ i, i < q → PPol P V i) ∧ (∀ i, i < f → PFro P V i) ∧ (∀ i, i < m → PMan P V i) ∧ (∀ i, i < h → PHou P V f m i) ∧ (∀ d, d < 200 → P 10 d = V 30 d ∧ (V 30 d = 0 ∨ V 30 d = 1)) ∧ PRul P V ∧ PTan P V
/-! the same plan in another view -/
section Mv
variable {P V V' : VW} {l q f m h i : Nat}
theorem PNum.mv (g : PNum P V l q f m h) (e : ∀ k, 34 ≤ k → k ≤ 38 → V' 0 k = V 0 k) : PNum P V' l q f m h := by
  unfold PNum at *
  rw [e 34 (by omega) (by omega), e 35 (by omega) (by omega), e 36 (by omega) (by omega), e 37 (by omega) (by omega), e 38 (by omega) (by omega)]
  exact g
theorem PLad.mv (g : PLad P V i) (e : ∀ j, 2 ≤ j → j ≤ 3 → V' j i = V j i) : PLad P V' i := by
  unfold PLad at *
  rw [e 2 (by omega) (by omega), e 3 (by omega) (by omega)]
  exact g
theorem PPol.mv (g : PPol P V i) (e : ∀ j, 4 ≤ j → j ≤ 6 → V' j i = V j i) : PPol P V' i := by
  unfold PPol at *
  rw [e 4 (by omega) (by omega), e 5 (by omega) (by omega), e 6 (by omega) (by omega)]
  exact g
theorem PPan.mv {w g k : Nat} (p : PPan P V i w g k) (e : ∀ j, 13 ≤ j → j ≤ 14 → V' j (12 * i + k) = V j (12 * i + k)) : PPan P V' i w g k := by
  unfold PPan at *
  rw [e 13 (by omega) (by omega), e 14 (by omega) (by omega)]
  exact p
theorem PFro.mv (g : PFro P V i) (e : ∀ j, 7 ≤ j → j ≤ 12 → V' j i = V j i) (e2 : ∀ j k, 13 ≤ j → j ≤ 14 → k < 12 → V' j (12 * i + k) = V j (12 * i + k)) : PFro P V' i := by
  unfold PFro at *
  rw [e 7 (by omega) (by omega), e 8 (by omega) (by omega), e 9 (by omega) (by omega), e 10 (by omega) (by omega), e 11 (by omega) (by omega), e 12 (by omega) (by omega)]
  obtain ⟨g0, w, u, p, b, s, g1, g2, g3, g4, g5, g6, g7, g8⟩ := g
  exact ⟨g0, w, u, p, b, s, g1, g2, g3, g4, g5, g6, g7, fun k hk => (g8 k hk).mv fun j h1 h2 => e2 j k h1 h2 (by omega)⟩
theorem PMan.mv (g : PMan P V i) (e : ∀ j, 15 ≤ j → j ≤ 18 → V' j i = V j i) : PMan P V' i := by
  unfold PMan at *
  rw [e 15 (by omega) (by omega), e 16 (by omega) (by omega), e 17 (by omega) (by omega), e 18 (by omega) (by omega)]
  exact g
theorem PHou.mv (g : PHou P V f m i) (e : ∀ j, 19 ≤ j → j ≤ 29 → V' j i = V j i) : PHou P V' f m i := by
  unfold PHou at *
  rw [e 19 (by omega) (by omega), e 20 (by omega) (by omega), e 22 (by omega) (by omega), e 23 (by omega) (by omega), e 24 (by omega) (by omega), e 25 (by omega) (by omega), e 26 (by omega) (by omega), e 27 (by omega) (by omega), e 28 (by omega) (by omega), e 29 (by omega) (by omega)]
  exact g
theorem dpK.mv {s v s' v' : Nat → Int32} : ∀ {k : Nat}, (∀ i, i < k → s' i = s i ∧ v' i = v i) → dpK s' v' k = dpK s v k
  | 0, _ => rfl
  | k + 1, e => by
    unfold dpK
    rw [(e k (by omega)).1, (e k (by omega)).2, dpK.mv fun i hi => e i (by omega)]
theorem RulR.mv {x : Nat → Int32} {a n : Nat} (g : RulR x V a n) (e : ∀ j k, 31 ≤ j → j ≤ 32 → k < 64 → V' j k = V j k) : RulR x V' a n := by
  obtain ⟨g1, g2, g3, g4, g5⟩ := g
  have ee : ∀ i, i < n → V' 31 (a + i) = V 31 (a + i) ∧ V' 32 (a + i) = V 32 (a + i) := fun i hi => ⟨e _ _ (by omega) (by omega) (by omega), e _ _ (by omega) (by omega) (by omega)⟩
  refine ⟨g1, g2, fun i hi => ?_, fun i hi h2 => ?_, fun h0 => ?_⟩
  · rw [(ee i hi).1, (ee i hi).2]
    exact g3 i hi
  · rw [(ee i hi).1] at h2
    rw [(ee i hi).2, dpK.mv fun k hk => ee k (by omega)]
    exact g4 i hi h2
  · rw [dpK.mv fun k hk => ee k hk]
    exact g5 h0
theorem PRul.mv (g : PRul P V) (e0 : ∀ k, 39 ≤ k → k ≤ 45 → V' 0 k = V 0 k) (e : ∀ j k, 31 ≤ j → j ≤ 32 → k < 64 → V' j k = V j k) : PRul P V' := by
  obtain ⟨a, n, b, k, g1, g2, g3, g4, g5, g6, g7, g8, g9⟩ := g
  refine ⟨a, n, b, k, g1, ?_, ?_, g4.mv e, g5, ?_, ?_, g8.mv e, ?_⟩
  · rw [e0 39 (by omega) (by omega)]; exact g2
  · rw [e0 40 (by omega) (by omega)]; exact g3
  · rw [e0 41 (by omega) (by omega)]; exact g6
  · rw [e0 42 (by omega) (by omega)]; exact g7
  · rw [e0 45 (by omega) (by omega)]; exact g9
theorem PTan.mv (g : PTan P V) (e0 : ∀ k, 43 ≤ k → k ≤ 44 → V' 0 k = V 0 k) : PTan P V' := by
  unfold PTan at *
  rw [e0 43 (by omega) (by omega), e0 44 (by omega) (by omega)]
  exact g
theorem PRel.mv (g : PRel P V l q f m h) (e0 : ∀ k, 34 ≤ k → k ≤ 45 → V' 0 k = V 0 k) (e : ∀ j k, 2 ≤ j → j ≤ 32 → k < half j → V' j k = V j k) : PRel P V' l q f m h := by
  obtain ⟨g1, g2, g3, g4, g5, g6, g7, g8, g9⟩ := g
  have b := g1.1
  refine ⟨g1.mv fun k h1 h2 => e0 k (by omega) (by omega), fun i hi => (g2 i hi).mv fun j h1 h2 => e j i (by omega) (by omega) ?_, fun i hi => (g3 i hi).mv fun j h1 h2 => e j i (by omega) (by omega) ?_, fun i hi => (g4 i hi).mv (fun j h1 h2 => e j i (by omega) (by omega) ?_) (fun j k h1 h2 hk => e j _ (by omega) (by omega) ?_), fun i hi => (g5 i hi).mv fun j h1 h2 => e j i (by omega) (by omega) ?_, fun i hi => (g6 i hi).mv fun j h1 h2 => e j i (by omega) (by omega) ?_, fun d hd => ?_, g8.mv (fun k h1 h2 => e0 k (by omega) (by omega)) (fun j k h1 h2 hk => e j k (by omega) (by omega) ?_), g9.mv fun k h1 h2 => e0 k (by omega) (by omega)⟩
  · rcases (show j = 2 ∨ j = 3 by omega) with rfl | rfl <;> (show i < 4; omega)
  · rcases (show j = 4 ∨ j = 5 ∨ j = 6 by omega) with rfl | rfl | rfl <;> (show i < 3; omega)
  · rcases (show j = 7 ∨ j = 8 ∨ j = 9 ∨ j = 10 ∨ j = 11 ∨ j = 12 by omega) with rfl | rfl | rfl | rfl | rfl | rfl <;> (show i < 5; omega)
  · rcases (show j = 13 ∨ j = 14 by omega) with rfl | rfl <;> (show 12 * i + k < 60; omega)
  · rcases (show j = 15 ∨ j = 16 ∨ j = 17 ∨ j = 18 by omega) with rfl | rfl | rfl | rfl <;> (show i < 3; omega)
  · rcases (show j = 19 ∨ j = 20 ∨ j = 21 ∨ j = 22 ∨ j = 23 ∨ j = 24 ∨ j = 25 ∨ j = 26 ∨ j = 27 ∨ j = 28 ∨ j = 29 by omega) with rfl | rfl | rfl | rfl | rfl | rfl | rfl | rfl | rfl | rfl | rfl <;> (show i < 10; omega)
  · rw [e 30 d (by omega) (by omega) (show d < 200 from hd)]
    exact g7 d hd
  · rcases (show j = 31 ∨ j = 32 by omega) with rfl | rfl <;> exact hk
end Mv
/-! ===== the book ===== -/
def oT (u : Bool) : Nat := if u = true then 10 else 0
def oD (u : Bool) : Nat := if u = true then 200 else 0
def oH (u : Bool) : Nat := if u = true then 2000 else 0
def oW (u : Bool) : Nat := if u = true then 300 else 0
def oN (u : Bool) : Nat := if u = true then 60 else 0
/-- of a house: the class's B (a book, or its image) and the reference's halves -/
def BHou (B : VW) (M : CT) (u : Bool) (m i : Nat) : Prop := (B 1 i = M.1 44 (oT u + i) ∧ ∃ n : Nat, n < m ∧ B 1 i = nI n) ∧ (B 2 i = M.1 37 (oT u + i) ∧ B 3 i = M.1 38 (oT u + i) ∧ ∃ d t p : Nat, d ≤ 262 ∧ (7 * t ≤ d ∧ t ≤ 29) ∧ p ≤ 999 * t ∧ B 2 i = nI d ∧ B 3 i = nI t ∧ B 8 i = nI p) ∧ B 4 i = M.1 39 (oT u + i) ∧ B 5 i = M.1 40 (oT u + i) ∧ (B 6 i = M.1 41 (oT u + i) ∧ (B 6 i = 0 ∨ B 6 i = 1)) ∧ B 7 i = M.1 42 (oT u + i) ∧ B 8 i = M.1 43 (oT u + i)
/-- a day's houses, each with its man, in order -/
def dayL (M : CT) (u : Bool) (d : Nat) : List (Nat × Nat) := (List.range (nv (M.1 46 (oD u + d)))).map fun k => (nv (M.1 47 (oH u + 10 * d + k)), nv (M.1 48 (oH u + 10 * d + k)))
def mskL : List Nat → Nat
  | [] => 0
  | a :: r => 2 ^ a ||| mskL r
def hxL : List Nat → Nat
  | [] => 0
  | a :: r => a + 16 * hxL r
/-- a way as one number -/
def encL (l : List Nat) : Nat := l.length + 16 * hxL l
/-- days below D on which a house was wiped -/
def wipL (M : CT) (u : Bool) (D i : Nat) : List Nat := (List.range D).filter fun d => decide (i ∈ (dayL M u d).map Prod.fst)
def BDay (K M : CT) (u : Bool) (m h d : Nat) : Prop := (∃ n : Nat, n ≤ 10 ∧ M.1 46 (oD u + d) = nI n ∧ ∀ k, k < n → ∃ a b : Nat, a < h ∧ b < m ∧ M.1 47 (oH u + 10 * d + k) = nI a ∧ M.1 48 (oH u + 10 * d + k) = nI b) ∧ ((dayL M u d).map Prod.fst).Nodup ∧ K.1 9 d = nI (mskL ((dayL M u d).map Prod.fst)) ∧ ∀ b, b < 3 → K.2 10 (3 * d + b) = lN (encL (((dayL M u d).filter fun p => decide (p.2 = b)).map Prod.fst))
def BRel (B : VW) (K M : CT) (u : Bool) (m h D n : Nat) : Prop := (D ≤ 200 ∧ n ≤ 60 ∧ B 0 0 = nI D ∧ B 0 1 = nI n) ∧ (∀ i, i < h → BHou B M u m i) ∧ (∀ d, d < D → BDay K M u m h d) ∧ (∀ i, i < h → B 3 i = nI (wipL M u D i).length ∧ ∀ k, k < (wipL M u D i).length → M.1 45 (oW u + 30 * i + k) = nI ((wipL M u D i).getD k 0)) ∧ NRel K M (oN u) n ∧ ∀ i, i < n → M.1 49 (oN u + i) ≠ -1 → ∃ s : Nat, s ≤ 9999 ∧ M.1 50 (oN u + i) = nI s
/-- the reference's plan and nothing else -/
def clV (M : CT) : VW := fun j k => if (j = 0 ∧ 34 ≤ k ∧ k ≤ 45) ∨ (2 ≤ j ∧ j ≤ 32 ∧ k < half j) then M.1 j k else 0
theorem clV_0 {M : CT} {k : Nat} (h : 34 ≤ k ∧ k ≤ 45) : clV M 0 k = M.1 0 k := if_pos (Or.inl ⟨rfl, h⟩)
theorem clV_r {M : CT} {j k : Nat} (h : 2 ≤ j ∧ j ≤ 32) (hk : k < half j) : clV M j k = M.1 j k := if_pos (Or.inr ⟨h.1, h.2, hk⟩)
/-- class and reference: H the object with its tape, P its plan, K its book, I its image; M the reference -/
def CO (H P K I M : CT) (l q f m h D n : Nat) : Prop :=
  (∃ t : Nat, t ≤ 900 ∧ H.1 0 1 = nI t ∧ M.1 0 2 = nI t ∧ TR (H.1 1) (M.1 1) t) ∧
  (H.1 0 11 = M.1 0 68 ∧ H.1 0 12 = M.1 0 69) ∧
  PRel P.1 M.1 l q f m h ∧
  (BRel K.1 K M false m h D n ∧ M.1 0 77 = nI D ∧ M.1 0 78 = nI n ∧ ∀ i, i < h → M.1 21 i = M.1 44 i) ∧
  ((H.1 0 7 = 0 ∧ M.1 0 93 = 0) ∨ (H.1 0 7 = 1 ∧ M.1 0 93 = 1 ∧ ∃ D' n' : Nat, D' ≤ D ∧ n' ≤ n ∧ BRel I.1 K M true m h D' n' ∧ M.1 0 94 = nI D' ∧ M.1 0 95 = nI n')) ∧
  ∀ i, i < f → M.1 52 i = nI (minS (clV M) l q i (2 ^ (l + q) - 1) false)
/-- what of the reference counts between calls -/
def RV (j k : Nat) : Prop := (j = 0 ∧ (k = 2 ∨ (34 ≤ k ∧ k ≤ 45) ∨ k = 68 ∨ k = 69 ∨ k = 77 ∨ k = 78 ∨ (93 ≤ k ∧ k ≤ 95))) ∨ j = 1 ∨ (2 ≤ j ∧ j ≤ 32 ∧ k < half j) ∨ (37 ≤ j ∧ j ≤ 50) ∨ j = 52
def MA (M M' : CT) : Prop := ∀ j k, RV j k → M'.1 j k = M.1 j k
theorem MA.refl (M : CT) : MA M M := fun _ _ _ => rfl
theorem MA.trans {A B C : CT} (h : MA A B) (g : MA B C) : MA A C := fun j k r => (g j k r).trans (h j k r)
theorem MA.at0 {M M' : CT} (h : MA M M') (k : Nat) (hk : k = 2 ∨ (34 ≤ k ∧ k ≤ 45) ∨ k = 68 ∨ k = 69 ∨ k = 77 ∨ k = 78 ∨ (93 ≤ k ∧ k ≤ 95)) : M'.1 0 k = M.1 0 k := h 0 k (Or.inl ⟨rfl, hk⟩)
theorem MA.row {M M' : CT} (h : MA M M') (j k : Nat) (hj : 37 ≤ j ∧ j ≤ 50) : M'.1 j k = M.1 j k := h j k (Or.inr (Or.inr (Or.inr (Or.inl hj))))
theorem MA.sc {M : CT} {j k : Nat} {x : Int32} (h : ¬ RV j k) : MA M (sI M j k x) := fun j' k' r => sI_ne (fun e => h (by rw [← e.1, ← e.2]; exact r))
theorem MA.th {M : CT} {x : Int32} : MA M (sI M 0 0 x) := MA.sc (by unfold RV; omega)
theorem dayL.mv {M M' : CT} {u : Bool} {d : Nat} (h : MA M M') : dayL M' u d = dayL M u d := by
  unfold dayL
  rw [h.row 46 _ (by omega)]
  refine List.map_congr_left fun k _ => ?_
  rw [h.row 47 _ (by omega), h.row 48 _ (by omega)]
theorem wipL.mv {M M' : CT} {u : Bool} {D i : Nat} (h : MA M M') : wipL M' u D i = wipL M u D i := by
  unfold wipL
  refine List.filter_congr fun d _ => ?_
  rw [dayL.mv h]
theorem BHou.mv {B : VW} {M M' : CT} {u : Bool} {m i : Nat} (g : BHou B M u m i) (h : MA M M') : BHou B M' u m i := by
  unfold BHou at *
  rw [h.row 44 _ (by omega), h.row 37 _ (by omega), h.row 38 _ (by omega), h.row 39 _ (by omega), h.row 40 _ (by omega), h.row 41 _ (by omega), h.row 42 _ (by omega), h.row 43 _ (by omega)]
  exact g
theorem BDay.mv {K M M' : CT} {u : Bool} {m h d : Nat} (g : BDay K M u m h d) (e : MA M M') : BDay K M' u m h d := by
  unfold BDay at *
  rw [dayL.mv e, e.row 46 _ (by omega)]
  obtain ⟨⟨n, g1, g2, g3⟩, g4⟩ := g
  refine ⟨⟨n, g1, g2, fun k hk => ?_⟩, g4⟩
  rw [e.row 47 _ (by omega), e.row 48 _ (by omega)]
  exact g3 k hk
theorem NRel.mv {K M M' : CT} {o n : Nat} (g : NRel K M o n) (e : MA M M') : NRel K M' o n := fun i hi => by
  rw [e.row 49 _ (by omega), e.row 50 _ (by omega)]
  exact g i hi
theorem BRel.mv {B : VW} {K M M' : CT} {u : Bool} {m h D n : Nat} (g : BRel B K M u m h D n) (e : MA M M') : BRel B K M' u m h D n := by
  obtain ⟨g1, g2, g3, g4, g5, g6⟩ := g
  refine ⟨g1, fun i hi => (g2 i hi).mv e, fun d hd => (g3 d hd).mv e, fun i hi => ?_, g5.mv e, fun i hi hn => ?_⟩
  · rw [wipL.mv e]
    refine ⟨(g4 i hi).1, fun k hk => ?_⟩
    rw [e.row 45 _ (by omega)]
    exact (g4 i hi).2 k hk
  · rw [e.row 49 _ (by omega)] at hn
    rw [e.row 50 _ (by omega)]
    exact g6 i hi hn
theorem clV.mv {M M' : CT} (h : MA M M') : clV M' = clV M := by
  funext j k
  unfold clV
  split
  · rename_i r
    rcases r with ⟨rfl, r⟩ | r
    · exact h.at0 k (by omega)
    · exact h j k (Or.inr (Or.inr (Or.inl r)))
  · rfl
theorem PRel.cl {P : VW} {M : CT} {l q f m h : Nat} (g : PRel P M.1 l q f m h) : PRel P (clV M) l q f m h := g.mv (fun k h1 h2 => clV_0 ⟨h1, h2⟩) fun j k h1 h2 hk => clV_r ⟨h1, h2⟩ hk
theorem CO.mv {H P K I M M' : CT} {l q f m h D n : Nat} (g : CO H P K I M l q f m h D n) (e : MA M M') : CO H P K I M' l q f m h D n := by
  obtain ⟨⟨t, g1, g2, g3, g4⟩, g5, g6, ⟨g7, g8, g9, g10⟩, g11, g12⟩ := g
  have e1 : M'.1 1 = M.1 1 := by
    funext k
    exact e 1 k (Or.inr (Or.inl rfl))
  refine ⟨⟨t, g1, g2, by rw [e.at0 2 (by omega)]; exact g3, by rw [e1]; exact g4⟩, by rw [e.at0 68 (by omega), e.at0 69 (by omega)]; exact g5, g6.mv (fun k h1 h2 => e.at0 k (by omega)) (fun j k h1 h2 hk => e j k (Or.inr (Or.inr (Or.inl ⟨h1, h2, hk⟩)))), ⟨g7.mv e, by rw [e.at0 77 (by omega)]; exact g8, by rw [e.at0 78 (by omega)]; exact g9, fun i hi => ?_⟩, ?_, fun i hi => ?_⟩
  · rw [e 21 i (Or.inr (Or.inr (Or.inl ⟨by omega, by omega, show i < 10 by have := g6.1.1; omega⟩))), e.row 44 _ (by omega)]
    exact g10 i hi
  · rw [e.at0 93 (by omega), e.at0 94 (by omega), e.at0 95 (by omega)]
    rcases g11 with g | ⟨a, b, D', n', c1, c2, c3, c4⟩
    · exact Or.inl g
    · exact Or.inr ⟨a, b, D', n', c1, c2, c3.mv e, c4⟩
  · rw [e 52 i (Or.inr (Or.inr (Or.inr (Or.inr rfl)))), clV.mv e]
    exact g12 i hi
