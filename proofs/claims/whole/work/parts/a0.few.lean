/-! ===== the class's look at a front: heights and columns ===== -/
theorem upl2 {α : Type} {f : (Int32 → α → Prop) → Int32 → α → Prop} {N a : Nat} (hN : N < 2 ^ 31) (Inv : Nat → α → Prop) (hs : ∀ R i c, a ≤ i → i < N → Inv i c → (∀ c', Inv (i + 1) c' → R (nI (i + 1)) c') → f R (nI i) c) (he : ∀ R c, Inv N c → f R (nI N) c) (ha : a ≤ N) {c : α} (h0 : Inv a c) : LP2 f (nI a) c := by
  refine LP2.ind (fun v c => ∃ i, a ≤ i ∧ i ≤ N ∧ v = nI i ∧ Inv i c) (fun v _ => N - v.toNatClampNeg) ?_ ⟨a, by omega, ha, rfl, h0⟩
  rintro R v c ⟨i, h1, h2, rfl, hi⟩ ih
  by_cases hin : i < N
  · exact hs R i c h1 hin hi fun c' hc => ih _ _ ⟨i + 1, by omega, by omega, rfl, hc⟩ (by rw [nI_clamp (by omega), nI_clamp (by omega)]; omega)
  · have e : i = N := by omega
    subst e
    exact he R c hi
theorem upl3 {α β : Type} {f : (β → Int32 → α → Prop) → β → Int32 → α → Prop} {N a : Nat} (hN : N < 2 ^ 31) (Inv : Nat → β → α → Prop) (hs : ∀ R i s c, a ≤ i → i < N → Inv i s c → (∀ s' c', Inv (i + 1) s' c' → R s' (nI (i + 1)) c') → f R s (nI i) c) (he : ∀ R s c, Inv N s c → f R s (nI N) c) (ha : a ≤ N) {s : β} {c : α} (h0 : Inv a s c) : LP3 f s (nI a) c := by
  refine LP3.ind (fun s v c => ∃ i, a ≤ i ∧ i ≤ N ∧ v = nI i ∧ Inv i s c) (fun _ v _ => N - v.toNatClampNeg) ?_ ⟨a, by omega, ha, rfl, h0⟩
  rintro R s v c ⟨i, h1, h2, rfl, hi⟩ ih
  by_cases hin : i < N
  · exact hs R i s c h1 hin hi fun s' c' hc => ih _ _ _ ⟨i + 1, by omega, by omega, rfl, hc⟩ (by rw [nI_clamp (by omega), nI_clamp (by omega)]; omega)
  · have e : i = N := by omega
    subst e
    exact he R s c hi
/-- panes a tool of a choice reaches from a distance; panes near a column where it may stand -/
def tlS (V : VW) (l f tools t d : Nat) : Nat := if tools.testBit t = true then (match rchS V l t d with | none => 0 | some h => bm (tallS V l f t h) (nv (V 12 f))) else 0
def nrS (V : VW) (f : Nat) (lad held : Bool) (c : Nat) : Nat := if (!((nv (V 10 f)).testBit c) && (!lad || held || !((nv (V 11 f)).testBit c))) = true then bm (nearS V f c) (nv (V 12 f)) else 0
section Few1
variable {P F : CT} {V : VW} {l q f t d c tools : Nat} {a2 : Int32} {held : Bool}
theorem total_eq {Q : Int32 → Prop} (T : TLS P.1 V l q) : k_X8_total P Q = Q (nI (l + q)) := by
  unfold k_X8_total
  rw [T.1.2.2.1, T.1.2.2.2, nI_add]
theorem columns_ok {Q : CT → Prop} (g : PFro P.1 V f) (hf : f < 5) (h2 : (a2 ≠ 0) ↔ held = true) (hQ : ∀ F', (∀ j k, ¬ (j = 9 ∨ j = 10) → F'.1 j k = F.1 j k) → (∀ c, c < nv (V 8 f) → F'.1 9 c = nI (nrS V f true held c) ∧ F'.1 10 c = nI (nrS V f false held c)) → Q F') : k_X1_lookAtColumns P F f a2 Q := by
  have g' := g
  obtain ⟨-, w, u, p, b, s, hw, -, -, -, -, ⟨e8, -⟩, ⟨p8, -⟩, -⟩ := g'
  have ew : nv (V 8 f) = w := by rw [e8, nv_n (by omega)]
  unfold k_X1_lookAtColumns
  refine upl2 (N := w) (a := 0) (by omega) (fun i F' => (∀ j k, ¬ (j = 9 ∨ j = 10) → F'.1 j k = F.1 j k) ∧ ∀ c, c < i → F'.1 9 c = nI (nrS V f true held c) ∧ F'.1 10 c = nI (nrS V f false held c)) ?_ ?_ (by omega) ⟨fun _ _ _ => rfl, fun c hc => absurd hc (by omega)⟩
  · rintro R i F' - hi ⟨i1, i2⟩ ih
    rw [p8, if_neg (nI_ge hi (by omega))]
    refine near_ok g hf (by omega) ?_
    rw [jn_eq, bears_ok (lad := true) (held := held) g hf (by omega) (by simp) h2]
    have fin : ∀ x y : Int32, x = nI (nrS V f true held i) → y = nI (nrS V f false held i) → R (nI i + 1) (sI (sI F' 9 i x) 10 i y) := fun x y ex ey => by
      rw [nI_1]
      refine ih _ ⟨fun j k h => ?_, fun c hc => ?_⟩
      · rw [sI_ne (by omega), sI_ne (by omega)]
        exact i1 j k h
      · by_cases hci : c = i
        · subst hci
          rw [sI_same, sI_ne (by omega), sI_same]
          exact ⟨ex, ey⟩
        · rw [sI_ne (by omega), sI_ne (by omega), sI_ne (by omega), sI_ne (by omega)]
          exact i2 c (by omega)
    have two : ∀ x : Int32, x = nI (nrS V f true held i) → jn (fun (t24 : Int32) => wrI (sI F' 9 i x) 10 12 (nI i) t24 (fun c26 => R (nI i + 1) c26)) (fun J28 => k_X3_bears P f (nI i) (0 : Int32) a2 (fun t30 => (if t30 = (0 : Int32) then J28 (0 : Int32) else J28 (nI (bm (nearS V f i) (nv (V 12 f))))))) := fun x ex => by
      rw [jn_eq, bears_ok (lad := false) (held := held) g hf (by omega) (by simp) h2]
      unfold nrS at fin
      by_cases hb : (!((nv (V 10 f)).testBit i) && (!false || held || !((nv (V 11 f)).testBit i))) = true
      · rw [if_pos hb, if_neg (by decide)]
        dsimp only
        rw [wrI_n (by omega) (by omega)]
        exact fin _ _ ex (by rw [if_pos hb])
      · rw [if_neg hb, if_pos rfl]
        dsimp only
        rw [wrI_n (by omega) (by omega)]
        exact fin _ _ ex (by rw [if_neg hb]; rfl)
    by_cases ha : (!((nv (V 10 f)).testBit i) && (!true || held || !((nv (V 11 f)).testBit i))) = true
    · rw [if_pos ha, if_neg (by decide)]
      dsimp only
      rw [wrI_n (by omega) (by omega)]
      refine two _ ?_
      unfold nrS
      rw [if_pos ha]
    · rw [if_neg ha, if_pos rfl]
      dsimp only
      rw [wrI_n (by omega) (by omega)]
      refine two _ ?_
      unfold nrS
      rw [if_neg ha]
      rfl
  · rintro R F' ⟨i1, i2⟩
    rw [p8, if_pos (Int32.le_refl _)]
    exact hQ F' i1 fun c hc => i2 c (by omega)
theorem heights_ok {Q : CT → Prop} (T : TLS P.1 V l q) (g : PFro P.1 V f) (hf : f < 5) (h7 : tools < 128) (hQ : ∀ F', (∀ j k, ¬ j = 8 → F'.1 j k = F.1 j k) → (∀ t d, t < l + q → 1 ≤ d → d ≤ 9 → F'.1 8 (9 * t + d - 1) = nI (tlS V l f tools t d)) → Q F') : k_X1_lookAtHeights P F f (nI tools) Q := by
  have l4 := T.1.1
  have q3 := T.1.2.1
  unfold k_X1_lookAtHeights
  refine upl2 (N := l + q) (a := 0) (by omega) (fun i F' => (∀ j k, ¬ j = 8 → F'.1 j k = F.1 j k) ∧ ∀ t d, t < i → 1 ≤ d → d ≤ 9 → F'.1 8 (9 * t + d - 1) = nI (tlS V l f tools t d)) ?_ ?_ (by omega) ⟨fun _ _ _ => rfl, fun t d hc => absurd hc (by omega)⟩
  · rintro R i F' - hi ⟨i1, i2⟩ ih
    rw [total_eq T, if_neg (nI_ge hi (by omega))]
    refine upl2 (N := 10) (a := 1) (by omega) (fun e F' => (∀ j k, ¬ j = 8 → F'.1 j k = F.1 j k) ∧ (∀ t d, t < i → 1 ≤ d → d ≤ 9 → F'.1 8 (9 * t + d - 1) = nI (tlS V l f tools t d)) ∧ ∀ d, 1 ≤ d → d < e → F'.1 8 (9 * i + d - 1) = nI (tlS V l f tools i d)) ?_ ?_ (by omega) ⟨i1, i2, fun d h1 h2 => absurd h2 (by omega)⟩
    · rintro R2 e F2 he1 he2 ⟨j1, j2, j3⟩ ih2
      rw [li_9, if_neg (by rw [nI_lt' (by omega) (by omega)]; omega), bit_n (by omega) (by omega)]
      have fin : ∀ x : Int32, x = nI (tlS V l f tools i e) → wrI F2 8 63 (nI i * nI 9 + nI e - 1) x (fun c47 => R2 (nI e + 1) c47) := fun x ex => by
        rw [pk_mul, nI_add, li_1, pk_sub (by omega), wrI_n (by omega) (by omega), ← li_1, nI_1]
        have ix : i * 9 + e - 1 = 9 * i + e - 1 := by omega
        rw [ix]
        refine ih2 _ ⟨fun j k h => ?_, fun t d ht h1 h9 => ?_, fun d h1 hd => ?_⟩
        · rw [sI_ne (by omega)]
          exact j1 j k h
        · rw [sI_ne (by omega)]
          exact j2 t d ht h1 h9
        · by_cases hde : d = e
          · subst hde
            rw [sI_same]
            exact ex
          · rw [sI_ne (by omega)]
            exact j3 d h1 (by omega)
      unfold tlS at fin
      rw [jn_eq]
      cases hb : tools.testBit i with
      | false =>
        rw [hb] at fin
        rw [if_pos (by decide)]
        dsimp only
        rw [jn_eq, if_neg (fun z => z rfl)]
        exact fin _ rfl
      | true =>
        rw [hb, if_pos rfl] at fin
        rw [if_neg (by decide)]
        refine reach_ok T hi (by omega) (by omega) ?_
        dsimp only
        rw [jn_eq]
        cases hr : rchS V l i e with
        | none =>
          rw [hr] at fin
          show (if (-1 : Int32) ≠ -1 then _ else _)
          rw [if_neg (fun z => z rfl)]
          exact fin _ rfl
        | some y =>
          have hy := rch_b T hi (by omega) (by omega) hr
          rw [hr] at fin
          show (if nI y ≠ -1 then _ else _)
          rw [if_pos (by rw [ne_eq, m1_ne (by omega)]; exact id), lowest_eq T (by omega), highest_eq T (by omega)]
          exact between_ok (pr := tallS V l f i y) g hf (fun z k hz ez => tall_iff hy hz ez) (fin _ rfl)
    · rintro R2 F2 ⟨j1, j2, j3⟩
      rw [li_9, if_pos (by rw [nI_lt' (by omega) (by omega)]; omega), nI_1]
      refine ih _ ⟨j1, fun t d ht h1 h9 => ?_⟩
      by_cases hti : t = i
      · subst hti
        exact j3 d h1 (by omega)
      · exact j2 t d (by omega) h1 h9
  · rintro R F' ⟨i1, i2⟩
    rw [total_eq T, if_pos (Int32.le_refl _)]
    exact hQ F' i1 i2
end Few1
