/-! ===== text on both sides, given the rules' lines ===== -/
section GText
variable {H P S R K F T U I M : CT} {l q f m h D n : Nat} {a : Int32}
/-- text of the class: what must hold so that Q holds of its answer; the flag says that plan and spare change places -/
def k3_text (H P S R K F T : CT) (a : Int32) (Q : Int32 → Bool → CT → CT → CT → CT → CT → CT → CT → Prop) : Prop := if a < 0 then Q (-2) false H P S R K F T else if H.1 0 1 < a then Q (-2) false H P S R K F T else k2_X7_readAll (sI H 0 1 0) S R a (fun t S' R' => if t = 0 then Q (-1) false (sI (sI (sI H 0 1 0) 0 11 (R'.1 0 0)) 0 12 (R'.1 0 1)) P S' R' K F T else k_X11_startAnew (sI (sI (sI H 0 1 0) 0 11 (R'.1 0 0)) 0 12 (R'.1 0 1)) S' K F T (fun H2 K' F' T' => Q (S'.1 0 12) true H2 S' P R' K' F' T'))
/-- only the tape's size and the last fault changed -/
theorem CO.tx {H' M' : CT} (g : CO H P K I M l q f m h D n) (e : ∀ j k, RV j k → ¬ (j = 0 ∧ (k = 2 ∨ k = 68 ∨ k = 69)) → M'.1 j k = M.1 j k) (h1 : H'.1 0 1 = 0) (h2 : M'.1 0 2 = 0) (h7 : H'.1 0 7 = H.1 0 7) (h11 : H'.1 0 11 = M'.1 0 68) (h12 : H'.1 0 12 = M'.1 0 69) : CO H' P K I M' l q f m h D n ∧ clV M' = clV M := by
  obtain ⟨-, -, g6, ⟨g7, g8, g9, g10⟩, g11, g12⟩ := g
  have b := g6.1.1
  have at0 : ∀ k, (34 ≤ k ∧ k ≤ 45) ∨ k = 77 ∨ k = 78 ∨ (93 ≤ k ∧ k ≤ 95) → M'.1 0 k = M.1 0 k := fun k hk => e 0 k (Or.inl ⟨rfl, by omega⟩) (by omega)
  have low : ∀ j k, 2 ≤ j → j ≤ 32 → k < half j → M'.1 j k = M.1 j k := fun j k a1 a2 a3 => e j k (Or.inr (Or.inr (Or.inl ⟨a1, a2, a3⟩))) (by omega)
  have book : ∀ j k, 37 ≤ j → j ≤ 50 → M'.1 j k = M.1 j k := fun j k a1 a2 => e j k (Or.inr (Or.inr (Or.inr (Or.inl ⟨a1, a2⟩)))) (by omega)
  have clv : clV M' = clV M := by
    funext j k
    unfold clV
    by_cases z : (j = 0 ∧ 34 ≤ k ∧ k ≤ 45) ∨ (2 ≤ j ∧ j ≤ 32 ∧ k < half j)
    · rw [if_pos z, if_pos z]
      rcases z with ⟨rfl, z⟩ | ⟨z1, z2, z3⟩
      · exact at0 k (by omega)
      · exact low j k z1 z2 z3
    · rw [if_neg z, if_neg z]
  refine ⟨⟨⟨0, by omega, h1, h2, fun i hi => absurd hi (by omega)⟩, ⟨h11, h12⟩, g6.mv (fun k a1 a2 => at0 k (by omega)) low, ⟨g7.mv44 (fun j k a1 a2 _ => book j k a1 a2) (fun i hi => book 44 _ (by omega) (by omega)), (at0 77 (by omega)).trans g8, (at0 78 (by omega)).trans g9, fun i hi => ?_⟩, ?_, fun i hi => ?_⟩, clv⟩
  · rw [low 21 i (by omega) (by omega) (show i < 10 by omega), book 44 i (by omega) (by omega)]
    exact g10 i hi
  · rw [h7, at0 93 (by omega), at0 94 (by omega), at0 95 (by omega)]
    rcases g11 with z | ⟨z1, z2, D', n', z3, z4, z5, z6⟩
    · exact Or.inl z
    · exact Or.inr ⟨z1, z2, D', n', z3, z4, z5.mv44 (fun j k a1 a2 _ => book j k a1 a2) (fun i hi => book 44 _ (by omega) (by omega)), z6⟩
  · rw [clv, e 52 i (Or.inr (Or.inr (Or.inr (Or.inr rfl)))) (by omega)]
    exact g12 i hi
theorem g_text (hR0 : RuleOk 0) (hR1 : RuleOk 1) (g : CO H P K I M l q f m h D n) (hF : FOK F (clV M) l q f) (hT : TOK T U (clV M) m h (cwN K h)) : k3_text H P S R K F T a fun x sw H' P' S' R' K' F' T' => k2_X12_text M a fun y M' => x = y ∧ ((sw = false → P' = P ∧ K' = K ∧ F' = F ∧ T' = T ∧ H'.1 0 7 = H.1 0 7) ∧ (sw = true → T'.1 0 8 = 0 ∧ H'.1 0 7 = 0)) ∧ ∃ l' q' f' m' h' D' n', CO H' P' K' I M' l' q' f' m' h' D' n' ∧ FOK F' (clV M') l' q' f' ∧ TOK T' U (clV M') m' h' (cwN K' h') := by
  have gg := g
  obtain ⟨⟨t, t9, ht, mt, tr⟩, -, gp, -⟩ := g
  have ma : MA M (sI M 0 0 0) := fun j k r => sI_ne (by rintro ⟨rfl, rfl⟩; unfold RV at r; omega)
  have early : ∀ y, y = (-2 : Int32) → (-2 : Int32) = y ∧ (((false = false) → P = P ∧ K = K ∧ F = F ∧ T = T ∧ H.1 0 7 = H.1 0 7) ∧ ((false = true) → T.1 0 8 = 0 ∧ H.1 0 7 = 0)) ∧ ∃ l' q' f' m' h' D' n', CO H P K I (sI M 0 0 0) l' q' f' m' h' D' n' ∧ FOK F (clV (sI M 0 0 0)) l' q' f' ∧ TOK T U (clV (sI M 0 0 0)) m' h' (cwN K h') := fun y hy => ⟨hy.symm, ⟨fun _ => ⟨rfl, rfl, rfl, rfl, rfl⟩, fun y => absurd y (by decide)⟩, l, q, f, m, h, D, n, gg.mv ma, by rw [clV.mv ma]; exact hF, by rw [clV.mv ma]; exact hT⟩
  unfold k3_text
  refine ite_b (fun z => ?_) fun z0 => ite_b (fun z => ?_) fun z1 => ?_
  · dsimp only
    unfold k2_X12_text
    rw [wrF_eq, if_pos z]
    exact early _ rfl
  · dsimp only
    unfold k2_X12_text
    rw [wrF_eq, if_neg z0, sI_ne (by omega), mt, if_neg (by rw [← ht]; exact Int32.not_le.mpr z)]
    exact early _ rfl
  · rcases i32_cases a with q | ⟨k, hk, ek⟩
    · exact absurd q z0
    · subst ek
      rw [ht, nI_lt' (by omega) hk] at z1
      have fr : ∀ (c' : CT) (kk pp : Int32), FLr (tSt M k) c' kk pp → ∀ j x, RV j x → ¬ (j = 0 ∧ (x = 2 ∨ x = 68 ∨ x = 69)) → (sI (sI c' 0 68 kk) 0 69 pp).1 j x = M.1 j x := fun c' kk pp fl j x r z => by
        rw [sI_ne (by omega), sI_ne (by omega), fl.1 j x r]
        refine tSt_ne ?_ ?_
        · unfold hdC
          unfold RV at r
          omega
        · rintro ⟨rfl, y⟩
          have := rv30 r
          omega
      have c2 : ∀ (c' : CT) (kk pp : Int32), FLr (tSt M k) c' kk pp → c'.1 0 2 = 0 := fun c' kk pp fl => by
        rw [fl.1 0 2 (Or.inl ⟨rfl, by omega⟩)]
        exact (zF_ne (by omega)).trans (hd_0 (by omega))
      refine readAll_ok (s := t) hR0 hR1 (fun i hi => by
        have := tr i (by omega)
        rw [show (sI H 0 1 0).1 1 = H.1 1 from funext fun x => sI_ne (by omega)]
        exact this) (by omega) (by omega) t9 mt (fun S' R' c' l' q' f' m' h' a1 a2 a3 a4 a5 => ?_) fun S' R' c' kk pp a1 a2 a3 a4 => ?_
      · rw [if_neg (by decide)]
        refine startAnew_ok (f := f') a3.1.1.2.2.1 fun K' F' T' b1 b2 b3 b4 b5 => a5 _ ?_
        unfold tFin
        have e67 : (sI c' 0 68 0).1 0 67 = -1 := (sI_ne (by omega)).trans a2.2.2
        have e66 : (sI (sI c' 0 68 0) 0 69 (-1)).1 0 66 = 0 := (sI_ne (by omega)).trans ((sI_ne (by omega)).trans a2.2.1)
        rw [wrF_eq, wrF_eq, a2.2.1, e67, e66, if_pos rfl]
        have p' : PRel S'.1 (uppV (sI (sI c' 0 68 0) 0 69 (-1))) l' q' f' m' h' := a3.mv (fun x y1 y2 => by rw [upp_f (by omega), upp_f (by omega)]) fun j x y1 y2 _ => by rw [upp_f (by omega), upp_f (by omega)]
        refine laid_ok p' fun c1 ld => ?_
        refine begins_ok (P := S') (l := l') (q := q') (f := f') (m := m') (h := h') (p'.vb fun j x w z => ld.1 j x w z) fun c3 bg => ?_
        have x' : EXR S' (sI (sI c' 0 68 0) 0 69 (-1)) m' h' := by
          have s : ∀ j x, ¬ (j = 0 ∧ (x = 68 ∨ x = 69)) → (sI (sI c' 0 68 0) 0 69 (-1)).1 j x = c'.1 j x := fun j x z => by rw [sI_ne (by omega), sI_ne (by omega)]
          unfold EXR at *
          rw [s 0 59 (by omega), s 0 58 (by omega), s 0 57 (by omega), s 0 60 (by omega), s 0 70 (by omega), s 0 53 (by omega), s 0 51 (by omega)]
          refine ⟨a4.1, a4.2.1, a4.2.2.1, a4.2.2.2.1, fun i hi => ?_⟩
          rw [s 21 _ (by omega)]
          exact a4.2.2.2.2 i hi
        obtain ⟨co, e60⟩ := CO.anew (H := sI (sI (sI (sI H 0 1 0) 0 11 (R'.1 0 0)) 0 12 (R'.1 0 1)) 0 7 0) (I := I) (K := K') ⟨by rw [sI_ne (by omega), sI_ne (by omega), sI_ne (by omega), sI_same], sI_same, by rw [sI_ne (by omega), sI_ne (by omega), sI_same]; exact a1.1, by rw [sI_ne (by omega), sI_same]; exact a1.2⟩ p' x' ⟨by rw [sI_ne (by omega), sI_ne (by omega)]; exact c2 c' _ _ a2, by rw [sI_ne (by omega), sI_same], sI_same⟩ ld bg b1 b2
        exact ⟨e60.symm, ⟨fun y => absurd y (by decide), fun _ => ⟨b5, sI_same⟩⟩, l', q', f', m', h', 0, 0, co, b3 _ _ _, b4 _ _ _ _ _⟩
      · rw [if_pos rfl]
        refine a4 _ ?_
        unfold tFin
        have e67 : (sI c' 0 68 kk).1 0 67 = pp := (sI_ne (by omega)).trans a3.2.2
        have e66 : (sI (sI c' 0 68 kk) 0 69 pp).1 0 66 = kk := (sI_ne (by omega)).trans ((sI_ne (by omega)).trans a3.2.1)
        rw [wrF_eq, wrF_eq, a3.2.1, e67, e66, if_neg a1]
        obtain ⟨co, clv⟩ := gg.tx (H' := sI (sI (sI H 0 1 0) 0 11 (R'.1 0 0)) 0 12 (R'.1 0 1)) (fr c' kk pp a3) (by rw [sI_ne (by omega), sI_ne (by omega), sI_same]) (by rw [sI_ne (by omega), sI_ne (by omega)]; exact c2 c' _ _ a3) (by rw [sI_ne (by omega), sI_ne (by omega), sI_ne (by omega)]) (by rw [sI_ne (by omega), sI_same, sI_ne (by omega), sI_same]; exact a2.1) (by rw [sI_same, sI_same]; exact a2.2)
        refine ⟨rfl, ⟨fun _ => ⟨rfl, rfl, rfl, rfl, by rw [sI_ne (by omega), sI_ne (by omega), sI_ne (by omega)]⟩, fun y => absurd y (by decide)⟩, l, q, f, m, h, D, n, co, ?_, ?_⟩
        · rw [clv]
          exact hF
        · rw [clv]
          exact hT
end GText
