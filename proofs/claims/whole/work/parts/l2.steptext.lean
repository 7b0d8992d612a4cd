/-! ===== the step of text ===== -/
theorem st_text {a1 : Int32} : STP m_X11_text m_X12_text [.int a1] := by
  rintro c0 s0 x y o σ ⟨A, d, H, P, S, R, K, F, W, T, N, U, I, M, O, rfl, rfl, rfl, hσ, i1, ⟨l, q, f, m, h, D, n, co, fo, to⟩, i3, i4, i5⟩
  obtain ⟨_, σ1, e1, v, sw, H', P', S', R', K', F', T', A', d', rfl, e2, k, eA, ed, es, zF, zT⟩ := z_text i3.1 i3.2.2.1 (g_text (rule_ok (by decide)) (rule_ok (by decide)) co fo to) hσ
  obtain ⟨_, σ2, _, f1, f2, f3, w, M', rfl, rfl, rfl, ⟨k0, k1⟩, l', q', f', m', h', D', n', co', fo', to'⟩ := s2_X12_text q_bM k σ1 e2.1
  have a0 : ∀ b, b = 0 ∨ b = 11 ∨ b = 12 → A' b = A b := fun b hb => by
    rw [eA]
    cases sw with
    | true =>
      rw [if_pos rfl]
      rcases hb with rfl | rfl | rfl <;> rfl
    | false => rw [if_neg (by decide)]
  rw [a0 11 (by decide)] at f1
  have gz : IVz d' ∧ potC d' = c0 ∧ potS d' = s0 := by
    have z1 : IVz d' ↔ IVz d := by unfold IVz; rw [ed]
    have z2 : potC d' = potC d := by unfold potC; rw [ed, es]
    have z3 : potS d' = potS d := by unfold potS; rw [ed, es]
    rw [z1, z2, z3]
    exact i1
  have t8 : ¬ T'.1 0 8 = 0 → d'.1 9 = true := fun z => by
    rw [ed]
    cases sw with
    | true => exact absurd (k1 rfl).1 z
    | false =>
      rw [(k0 rfl).2.2.2.1] at z
      exact i4 z
  have h7 : ¬ H'.1 0 7 = 0 → d'.1 10 = true := fun z => by
    rw [ed]
    cases sw with
    | true => exact absurd (k1 rfl).2 z
    | false =>
      rw [(k0 rfl).2.2.2.2] at z
      exact i5 z
  refine ⟨v, σ1, σ2, e1, (by have := mObj e2.1; rw [a0 11 (by decide)] at this; exact this), f1, A', d', H', P', S', R', K', F', W, T', N, U, I, M', O, a0 0 (by decide), a0 11 (by decide), a0 12 (by decide), ⟨f2, f3.trans e2.2⟩, gz, ⟨_, _, _, _, _, _, _, co', fo', to'⟩, ?_, t8, h7⟩
  rw [ed]
  exact ⟨zF, i3.2.1, zT, i3.2.2.2.1, i3.2.2.2.2.1, i3.2.2.2.2.2⟩
