/-! ===== the reference's list, wipes, round ===== -/
def MLr (M : CT) (tn : Nat) (T : Nat → Nat) : Prop := M.1 0 101 = nI tn ∧ ∀ x, x < tn → M.1 54 x = nI (T x)
theorem MLr.mv {M M' : CT} {tn : Nat} {T : Nat → Nat} (g : MLr M tn T) (e : MR M M') : MLr M' tn T := ⟨(e.1 0 101 (by decide) (by decide)).trans g.1, fun x hx => (e.1 54 x (by omega) (by decide)).trans (g.2 x hx)⟩
section DayS
variable {P M0 M : CT} {V B : VW} {L : List (Nat × Nat)} {kn tk N49 N50 : Nat → Int32} {f m h D a n b k nn : Nat}
theorem insertR {i tn : Nat} {T : Nat → Nat} {c : CT} {d : Nat → Int32} {Q : CT → Prop} (hi : i < 10) (ht : tn < 10) (hT : ∀ x, x < tn → T x < 10) (hL : MLr c tn T) (hd : ∀ x, x < tn → c.1 37 (T x) = d (T x)) (hdi : c.1 37 i = d i)
    (hQ : ∀ c', (∀ j x, ¬ (j = 54 ∨ (j = 0 ∧ x = 101)) → c'.1 j x = c.1 j x) → MLr c' (tn + 1) (insF T (posF d T i tn) i) → Q c') : vK (c.1 0 101) (fun v172 => jn (fun (v174 : Int32) (c175 : CT) => wrI c175 54 10 v174 (nI i) (fun c176 => wrF c176 0 101 ((c176.1 0 101) + (1 : Int32)) (fun c177 => Q c177))) (fun J181 => LP2 (fun R185 (v183 : Int32) (c184 : CT) => (if v183 ≤ (0 : Int32) then J181 v183 c184 else rdI c184 54 10 (v183 - (1 : Int32)) (fun t193 => rdI c184 37 20 t193 (fun t195 => rdI c184 37 20 (nI i) (fun t197 => (if t195 ≤ t197 then J181 v183 c184 else rdI c184 54 10 (v183 - (1 : Int32)) (fun t199 => wrI c184 54 10 v183 t199 (fun c201 => R185 (v183 + (-1)) c201)))))))) v172 c)) := by
  obtain ⟨w1, w2⟩ := hL
  rw [vK_eq, w1]
  refine jn_of (fun J => ∀ p c', p ≤ tn → posF d T i tn = p → (∀ j x, j ≠ 54 → c'.1 j x = c.1 j x) → (∀ x, x < p → c'.1 54 x = nI (T x)) → (∀ x, p ≤ x → x < tn → c'.1 54 (x + 1) = nI (T x)) → J (nI p) c') ?_ ?_
  · intro p c' hp e c1 c2 c3
    rw [wrI_n (by omega) (by omega), wrF_eq, sI_ne (by omega), c1 0 101 (by decide), w1, nI_1]
    refine hQ _ (fun j x q => ?_) ⟨sI_same, fun x hx => ?_⟩
    · rw [sI_ne (fun z => q (Or.inr z)), sI_ne (fun z => q (Or.inl z.1))]
      exact c1 j x fun z => q (Or.inl z)
    · rw [sI_ne (by omega), sI_at, e]
      unfold insF
      by_cases k1 : x < p
      · rw [if_neg (by omega), if_pos k1]
        exact c2 x k1
      · by_cases k2 : x = p
        · rw [if_pos ⟨rfl, k2⟩, if_neg k1, if_pos k2]
        · rw [if_neg (by omega), if_neg k1, if_neg k2]
          obtain ⟨x', rfl⟩ : ∃ x', x = x' + 1 := ⟨x - 1, by omega⟩
          exact c3 x' (by omega) (by omega)
  intro J hJ
  refine LP2.ind (fun v c' => ∃ p, p ≤ tn ∧ v = nI p ∧ posF d T i p = posF d T i tn ∧ (∀ j x, j ≠ 54 → c'.1 j x = c.1 j x) ∧ (∀ x, x < p → c'.1 54 x = nI (T x)) ∧ ∀ x, p ≤ x → x < tn → c'.1 54 (x + 1) = nI (T x)) (fun v _ => v.toNatClampNeg) ?_ ⟨tn, by omega, rfl, rfl, fun _ _ _ => rfl, w2, fun x h1 h2 => by omega⟩
  rintro R v c' ⟨p, hp, rfl, e, c1, c2, c3⟩ ih
  cases p with
  | zero =>
    rw [if_pos (show nI 0 ≤ 0 from by decide)]
    exact hJ 0 c' hp e.symm c1 c2 c3
  | succ p =>
    have hTp := hT p (by omega)
    rw [if_neg (nI_nle (by omega) (by omega)), nI_pred]
    simp (disch := omega) only [rdI_n, c2 p (by omega), c1 37 _ (show 37 ≠ 54 by decide), hd p (by omega), hdi]
    refine ite_b (fun z => ?_) fun z => ?_
    · rw [posF_s, if_pos z] at e
      exact hJ (p + 1) c' hp e.symm c1 c2 c3
    · rw [posF_s, if_neg z] at e
      rw [wrI_n (by omega) (by omega), m1_add]
      refine ih _ _ ⟨p, by omega, rfl, e, fun j x q => ?_, fun x hx => ?_, fun x h1 h2 => ?_⟩ (by rw [nI_clamp (by omega), nI_clamp (by omega)]; omega)
      · rw [sI_ne (fun z => q z.1)]; exact c1 j x q
      · rw [sI_ne (by omega)]; exact c2 x (by omega)
      · rw [sI_at]
        by_cases y : x = p
        · rw [if_pos ⟨rfl, by omega⟩, y]
        · rw [if_neg (by omega)]
          exact c3 x (by omega) h2
theorem lists_ok {man : Nat} {B0 : VW} {Q : CT → Prop} (E : ENV P V kn f m h a n b k) (R0 : RE M0 V kn tk N49 N50 nn D m h a n b k) (hD : D < 200) (g : MBr M0 M B0 L h D)
    (hQ : ∀ M', MBr M0 M' (lsB V kn D man b k B0 h).1 L h D → MLr M' (lsB V kn D man b k B0 h).2.1 (lsB V kn D man b k B0 h).2.2 → Q M') : k_X12_lists M (nI man) Q := by
  obtain ⟨⟨h9, m3, -, -⟩, -, gh, -, ⟨-, r13⟩, -, -⟩ := E
  unfold k_X12_lists
  rw [wrF_eq]
  refine LP2.ind (fun v c => ∃ i, i ≤ h ∧ v = nI i ∧ MBr M0 c (lsB V kn D man b k B0 i).1 L h D ∧ MLr c (lsB V kn D man b k B0 i).2.1 (lsB V kn D man b k B0 i).2.2) (fun v _ => h - v.toNatClampNeg) ?_ ⟨0, by omega, rfl, g.mv (MA.sc (by unfold RV; omega)), sI_same, fun x hx => absurd hx (Nat.not_lt_zero x)⟩
  rintro R v c ⟨i, hi, rfl, gc, gl⟩ ih
  have Rc := R0.mv gc.2.2.2
  obtain ⟨⟨c1, c0⟩, ⟨c77, c78, -, -⟩, -, -, ⟨v37, v38, -, -, v41, v42⟩⟩ := Rc
  rw [c0 38 (by omega) (by omega), v38]
  by_cases hin : i < h
  · obtain ⟨t1, t2⟩ := lsB_T (V := V) (kn := kn) (D := D) (man := man) (b := b) (k := k) (B0 := B0) i
    have row := lsB_row (V := V) (kn := kn) (D := D) (man := man) (b := b) (k := k) (B0 := B0) i
    have w1 : c.1 44 i = B0 1 i := (gc.1 i 1 hin (by omega) (by omega)).trans (row 1 i (by decide))
    have w2 : ∀ x, x < h → c.1 37 x = B0 2 x := fun x hx => (gc.1 x 2 hx (by omega) (by omega)).trans (row 2 x (by decide))
    have nx : ∀ c', MBr M0 c' (lsB V kn D man b k B0 (i + 1)).1 L h D → MLr c' (lsB V kn D man b k B0 (i + 1)).2.1 (lsB V kn D man b k B0 (i + 1)).2.2 → R (nI (i + 1)) c' := fun c' q1 q2 => ih _ _ ⟨i + 1, by omega, rfl, q1, q2⟩ (by rw [nI_clamp (by omega), nI_clamp (by omega)]; omega)
    rw [if_neg (nI_ge hin (by omega)), rdI_n (by omega) (by omega), w1, rdI_n (by omega) (by omega), w2 i hin, c77, nI_1]
    refine ite_b (fun z1 => ?_) fun z1 => ite_b (fun z2 => ?_) fun z2 => ?_
    · rw [lsB_s, if_neg (fun y => z1 y.1)] at nx
      exact nx c gc gl
    · rw [lsB_s, if_pos ⟨Classical.not_not.mp z1, z2⟩] at nx
      have hp := gh i hin
      obtain ⟨-, -, -, -, -, ⟨-, b6, h6, v6⟩, -, ⟨-, z8⟩, -, -⟩ := gh i hin
      refine jn_of (fun J => ∀ c', MR c c' → (outS V (lsB V kn D man b k B0 i).1 kn D i b k → J 1 c') ∧ (¬ outS V (lsB V kn D man b k B0 i).1 kn D i b k → J 0 c')) ?_ ?_
      · intro c' hX
        have gc' := gc.mv hX.MA
        have gl' := gl.mv hX
        refine ⟨fun ho => ?_, fun ho => ?_⟩
        · rw [if_pos ho] at nx
          rw [if_neg (by decide), rdI_n (by omega) (by omega), wrI_n (by omega) (by omega)]
          refine nx _ ?_ ?_
          · have := gc'.up (j := 4) (i := i) (x := c'.1 39 i + 1) (by omega) (by decide) (by omega)
            rw [show c'.1 39 i = (lsB V kn D man b k B0 i).1 4 i from gc'.1 i 4 hin (by omega) (by omega)] at this ⊢
            exact this
          · exact ⟨(sI_ne (by omega)).trans gl'.1, fun x hx => (sI_ne (by omega)).trans (gl'.2 x hx)⟩
        · rw [if_neg ho] at nx
          rw [if_pos rfl]
          refine insertR (d := B0 2) (by omega) (by omega) (fun x hx => by have := (t2 x hx).1; omega) gl' (fun x hx => (hX.1 37 _ (by omega) (by decide)).trans (w2 _ (by have := (t2 x hx).1; omega))) ((hX.1 37 _ (by omega) (by decide)).trans (w2 i hin)) fun c2 hc2 gl2 => nx c2 (gc'.mv fun j x r => hc2 j x fun y => ?_) gl2
          unfold RV at r
          omega
      intro J hJ
      have tr : ∀ c', c' = c → (¬ (bitI (V 25 i) D = true ∨ (V 27 i ≠ 0 ∧ ¬ bitI (V 29 i) D = true))) → (if (c.1 0 42) ≤ (c.1 0 41) then J (0 : Int32) c else k_X12_ruled c (c.1 0 41) (c.1 0 42) (nI i) (fun t226 c225 => (if t226 ≠ (0 : Int32) then J (0 : Int32) c225 else J (1 : Int32) c225))) := by
        intro c' _ hno
        rw [c0 41 (by omega) (by omega), c0 42 (by omega) (by omega), v41, v42]
        have k64 := r13.1
        have bk := r13.2.1
        refine ite_b (fun y => ?_) fun y => ?_
        · rw [nI_le' (by omega) (by omega)] at y
          refine (hJ c (MR.refl c)).2 ?_
          rintro (u | u | u)
          · exact hno (Or.inl u)
          · exact hno (Or.inr u)
          · omega
        · rw [nI_le' (by omega) (by omega)] at y
          refine ruledR (R0.mv gc.2.2.2) gc hin h9 r13 (by omega) fun M' hM' => ⟨fun hr => ?_, fun hr => ?_⟩
          · rw [if_pos (by decide)]
            refine (hJ M' hM').2 ?_
            rintro (u | u | u)
            · exact hno (Or.inl u)
            · exact hno (Or.inr u)
            · exact u.2 hr
          · rw [if_neg (by decide)]
            exact (hJ M' hM').1 (Or.inr (Or.inr ⟨by omega, hr⟩))
      rw [rdI_n (by omega) (by omega), c1 25 i (by omega) (by omega) (show i < 10 by omega), rem7 (by omega), wk_bit v6 h6]
      refine ite_b (fun y => ?_) fun y => ?_
      · rw [it11] at y
        exact (hJ c (MR.refl c)).1 (Or.inl y)
      · rw [it11] at y
        rw [rdI_n (by omega) (by omega), c1 27 i (by omega) (by omega) (show i < 10 by omega)]
        refine ite_b (fun u => ?_) fun u => ?_
        · refine tr c rfl ?_
          rintro (q | q)
          · exact y q
          · exact q.1 u
        · rw [isOpenR (R0.mv gc.2.2.2) hp hin h9 hD]
          refine ite_b (fun u2 => ?_) fun u2 => ?_
          · rw [it10] at u2
            exact (hJ c (MR.refl c)).1 (Or.inr (Or.inl ⟨u, u2⟩))
          · rw [it10] at u2
            refine tr c rfl ?_
            rintro (q | q)
            · exact y q
            · exact u2 q.2
    · rw [lsB_s, if_neg (fun y => z2 y.2)] at nx
      exact nx c gc gl
  · have e : i = h := by omega
    subst e
    rw [if_pos (Int32.le_refl _)]
    exact hQ _ gc gl
end DayS
