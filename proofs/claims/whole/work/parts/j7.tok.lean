/-! ===== what the walker knows, from call to call ===== -/
section Tok
variable {V V' : VW} {T T' U : CT} {m h : Nat} {sh sh' : Nat → Nat}
theorem bhS_cg (e : ∀ j k, j ≠ 21 → V' j k = V j k) : bhS V' = bhS V := by
  funext a b
  unfold bhS
  simp only [e _ _ (by decide : (22 : Nat) ≠ 21), e _ _ (by decide : (23 : Nat) ≠ 21)]
theorem sq_cg (e : ∀ j k, j ≠ 21 → V' j k = V j k) : ∀ k, sq V' k = sq V k
  | 0 => rfl
  | k + 1 => by
    show insF (sq V' k) (posB (bhS V') (sq V' k) k k) k = insF (sq V k) (posB (bhS V) (sq V k) k k) k
    rw [sq_cg e k, bhS_cg e]
theorem hmN_cg (e : ∀ j k, j ≠ 21 → V' j k = V j k) (b i : Nat) : hmN V' b i = hmN V b i := by
  unfold hmN
  rw [e 17 b (by decide), e 23 i (by decide), e 16 b (by decide), e 22 i (by decide)]
theorem btN_cg (e : ∀ j k, j ≠ 21 → V' j k = V j k) (b i : Nat) : btN V' b i = btN V b i := by
  unfold btN
  rw [e 23 b (by decide), e 23 i (by decide), e 22 b (by decide), e 22 i (by decide)]
theorem stN_cg (e : ∀ j k, j ≠ 21 → V' j k = V j k) (b : Nat) : ∀ o i, stN V' b o i = stN V b o i
  | none, i => hmN_cg e b i
  | some a, i => btN_cg e a i
theorem bkN_cg (e : ∀ j k, j ≠ 21 → V' j k = V j k) (b : Nat) : ∀ o, bkN V' b o = bkN V b o
  | none => rfl
  | some a => hmN_cg e b a
theorem tpV_cg (e : ∀ j k, j ≠ 21 → V' j k = V j k) (b : Nat) (p : Nat → Bool) : ∀ k, tp V' h b p k = tp V h b p k
  | 0 => rfl
  | k + 1 => by rw [tp_s, tp_s, tpV_cg e b p k, sq_cg e h, stN_cg e]
theorem trV_cg (e : ∀ j k, j ≠ 21 → V' j k = V j k) (b : Nat) (p : Nat → Bool) : trN V' h b p = trN V h b p := by
  unfold trN
  rw [tpV_cg e, bkN_cg e]
theorem TTB.cg (t : TTB T U V m h) (e : ∀ j k, j ≠ 21 → V' j k = V j k) : TTB T U V' m h := by
  refine ⟨fun i hi => ?_, fun b hb S hS => ?_⟩
  · rw [sq_cg e]
    exact t.1 i hi
  · rw [trV_cg e]
    exact t.2 b hb S hS
/-- what counts of the walker is as it was -/
theorem TOK.fr (t : TOK T U V m h sh) (e : ∀ j k, (j = 0 ∧ (k = 8 ∨ k = 10 ∨ k = 11)) ∨ j = 3 ∨ j = 4 ∨ j = 5 → T'.1 j k = T.1 j k) : TOK T' U V m h sh := by
  unfold TOK at t ⊢
  rw [e 0 8 (by omega), e 0 10 (by omega), e 0 11 (by omega)]
  refine ⟨t.1.imp id fun z => ⟨z.1, fun i hi => ?_, z.2.2⟩, t.2.imp id fun ⟨loss, B, S, z1, z2, z3, z4, z5⟩ => ⟨loss, B, S, z1, z2, z3, z4, fun x hx => ?_⟩⟩
  · rw [e 3 i (by omega), e 4 _ (by omega)]
    exact z.2.1 i hi
  · rw [e 5 x (by omega)]
    exact z5 x hx
/-- the houses are sorted anew -/
theorem TOK.srt (t : TOK T U V m h sh) (s : SRT V h T T') : TOK T' U V m h sh := by
  obtain ⟨s1, s2⟩ := s
  unfold TOK at t ⊢
  rw [s1 0 8 (by omega) (by omega), s1 0 10 (by omega) (by omega), s1 0 11 (by omega) (by omega)]
  refine ⟨t.1.imp id fun z => ⟨z.1, s2, z.2.2⟩, t.2.imp id fun ⟨loss, B, S, z1, z2, z3, z4, z5⟩ => ⟨loss, B, S, z1, z2, z3, z4, fun x hx => ?_⟩⟩
  rw [s1 5 x (by omega) (by omega)]
  exact z5 x hx
/-- who swaps with whom is forgotten -/
theorem TOK.fgt (t : TOK T U V m h sh) (e : ∀ j k, j ≠ 21 → V' j k = V j k) : TOK (sI T 0 10 (-1)) U V' m h sh' := by
  refine ⟨?_, Or.inl sI_same⟩
  rw [sI_ne (by omega)]
  refine t.1.imp id fun z => ⟨z.1, fun i hi => ?_, (z.2.cg e).2⟩
  rw [sI_ne (by omega), sI_ne (by omega)]
  exact (z.2.cg e).1 i hi
/-- a new walker knows nothing -/
theorem TOK.fresh : TOK frT U V m h sh := ⟨Or.inl rfl, Or.inl rfl⟩
theorem cwN_cg {K K' : CT} (e : ∀ x, x < h → K'.1 1 x = K.1 1 x) : cwN K' h = cwN K h := by
  funext x
  unfold cwN
  by_cases z : x < h
  · rw [if_pos z, if_pos z, e x z]
  · rw [if_neg z, if_neg z]
end Tok
theorem FOK.fresh {V : VW} {l q f : Nat} (hf : f ≤ 5) : FOK frF V l q f := fun i hi => Or.inl (if_pos ⟨rfl, by omega⟩)
