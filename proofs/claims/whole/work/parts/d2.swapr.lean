/-! ===== swaps: the reference ===== -/
theorem sub_le {a l w : Nat} (ha : a < 2 ^ 29) (hl : l < 2 ^ 29) (hw : w < 2 ^ 29) : (nI a - nI l ≤ nI w) ↔ a ≤ w + l := by
  rw [Int32.le_iff_toInt_le, pk_sub_toInt (by omega) (by omega), nI_toInt (by omega)]
  omega
def BST (M : CT) (h : Nat) : Option (Nat × (Nat → Nat)) → Prop
  | none => M.1 0 107 = -1
  | some p => M.1 0 107 = nI p.1 ∧ p.1 ≤ 10000 ∧ ∀ x, x < h → M.1 58 x = nI (p.2 x)
def FR2 (M c : CT) : Prop := ∀ j k, j ≠ 56 → j ≠ 58 → ¬ (j = 0 ∧ k = 107) → c.1 j k = M.1 j k
section SwR
variable {P M0 : CT} {V : VW} {f m h loss : Nat} {wn : Nat → Nat}
theorem vaB_f {sh : Nat → Nat} {b : Nat} (hz : vaB V h loss wn sh b = false) : ∀ k, b ≤ k → vaB V h loss wn sh k = false
  | 0, hk => by rw [show b = 0 by omega] at hz; exact hz
  | k + 1, hk => by
    by_cases e : b = k + 1
    · rw [← e]
      exact hz
    · show (vaB V h loss wn sh k && _) = false
      rw [vaB_f hz k (by omega), Bool.false_and]
theorem toN_b {sh : Nat → Nat} (gm : ∀ b, b < m → PMan P.1 V b) (gh : ∀ i, i < h → PHou P.1 V f m i) (h9 : h ≤ 10) : ∀ b, b ≤ m → toN V h sh b ≤ 2079 * b
  | 0, _ => Nat.le_refl _
  | b + 1, hb => by
    have ih := toN_b (sh := sh) gm gh h9 b (by omega)
    have := trN_b (p := shP V h sh b) (gm b (by omega)) gh
    show toN V h sh b + trN V h b (shP V h sh b) ≤ _
    omega
theorem leafR {c : CT} {sh : Nat → Nat} {o : Option (Nat × (Nat → Nat))} {Q : CT → Prop} (m3 : m ≤ 3) (h9 : h ≤ 10) (l9 : loss ≤ 9999) (v37 : M0.1 0 37 = nI m) (v38 : M0.1 0 38 = nI h) (pv : PV M0 V) (gm : ∀ b, b < m → PMan P.1 V b) (gh : ∀ i, i < h → PHou P.1 V f m i) (r57 : ∀ i, i < h → M0.1 57 i = nI (sq V h i)) (r59 : ∀ b, b < m → M0.1 59 b = nI (wn b) ∧ wn b ≤ 800000)
    (fr : FR2 M0 c) (r56 : ∀ x, x < h → c.1 56 x = nI (sh x) ∧ sh x < m) (bs : BST c h o) (hQ : ∀ c', FR2 M0 c' → (∀ x, c'.1 56 x = c.1 56 x) → BST c' h (upR V h loss wn m o sh) → Q c') :
    LP2 (fun R158 (v156 : Int32) (v157 : Int32) => (if (c.1 0 37) ≤ v157 then jn (wrF c 0 107 v156 (fun c167 => LP2 (fun R176 (v174 : Int32) (c175 : CT) => (if (c175.1 0 38) ≤ v174 then Q c175 else rdI c175 56 10 v174 (fun t184 => wrI c175 58 10 v174 t184 (fun c186 => R176 (v174 + 1) c186)))) (0 : Int32) c167)) (fun (J193 : Prop) => (if (c.1 0 107) = (-1 : Int32) then J193 else (if v156 < (c.1 0 107) then J193 else Q c))) else k_X12_worthBy c v157 (fun t209 => rdI c 59 3 v157 (fun t210 => (if (t210 - nI loss) ≤ t209 then k_X12_tourOf c v157 (fun t212 => vK (v156 + t212) (fun v213 => R158 v213 (v157 + 1))) else Q c))))) (0 : Int32) (0 : Int32) := by
  have w37 : c.1 0 37 = nI m := (fr 0 37 (by omega) (by omega) (by omega)).trans v37
  have w38 : c.1 0 38 = nI h := (fr 0 38 (by omega) (by omega) (by omega)).trans v38
  have pvc : PV c V := fun j x h1 h2 hx => (fr j x (by omega) (by omega) (by omega)).trans (pv j x h1 h2 hx)
  have r56' : ∀ x, x < h → c.1 56 x = nI (sh x) ∧ sh x < 3 := fun x hx => ⟨(r56 x hx).1, by have := (r56 x hx).2; omega⟩
  have shr : SHR c V h sh := ⟨fun i hi => (fr 57 i (by omega) (by omega) (by omega)).trans (r57 i hi), r56'⟩
  refine LP2.ind (fun s v => ∃ b, b ≤ m ∧ v = nI b ∧ s = nI (toN V h sh b) ∧ vaB V h loss wn sh b = true) (fun _ v => m - v.toNatClampNeg) ?_ ⟨0, by omega, rfl, rfl, rfl⟩
  rintro R s v ⟨b, hb, rfl, rfl, va⟩ ih
  have tb := toN_b (sh := sh) gm gh h9 b hb
  rw [w37]
  by_cases hin : b < m
  · rw [if_neg (nI_ge hin (by omega))]
    refine worthR_ok (sh := sh) w38 pvc h9 gh (by omega) r56' ?_
    have wb := woN_b (sh := sh) (b := b) gh h (Nat.le_refl h)
    rw [rdI_n (by omega) (by omega), fr 59 b (by omega) (by omega) (by omega), (r59 b hin).1]
    have w9 := (r59 b hin).2
    by_cases z : wn b ≤ woN V sh b h + loss
    · rw [if_pos ((sub_le (by omega) (by omega) (by omega)).mpr z)]
      refine tourR_ok w38 pvc h9 (gm b hin) gh (by omega) shr ?_
      rw [nI_add, vK_eq, nI_1]
      refine ih _ _ ⟨b + 1, by omega, rfl, rfl, ?_⟩ (by rw [nI_clamp (by omega), nI_clamp (by omega)]; omega)
      show (vaB V h loss wn sh b && decide (wn b ≤ woN V sh b h + loss)) = true
      rw [va, decide_eq_true z]
      rfl
    · rw [if_neg (fun y => z ((sub_le (by omega) (by omega) (by omega)).mp y))]
      refine hQ c fr (fun _ => rfl) ?_
      have vf : vaB V h loss wn sh (b + 1) = false := by
        show (vaB V h loss wn sh b && decide (wn b ≤ woN V sh b h + loss)) = false
        rw [decide_eq_false z, Bool.and_false]
      unfold upR
      rw [vaB_f vf m (by omega), Bool.false_and, if_neg (by decide)]
      exact bs
  · have e : b = m := by omega
    subst e
    rw [if_pos (Int32.le_refl _)]
    refine jn_of (fun J => (upR V h loss wn b o sh = some (toN V h sh b, sh) → J)) ?_ ?_
    · intro eu
      rw [wrF_eq]
      refine upl2 (N := h) (a := 0) (by omega) (fun i c' => FR2 M0 c' ∧ (∀ x, c'.1 56 x = c.1 56 x) ∧ c'.1 0 107 = nI (toN V h sh b) ∧ ∀ x, x < i → c'.1 58 x = nI (sh x)) ?_ ?_ (by omega) ⟨fun j k h1 h2 h3 => (sI_ne h3).trans (fr j k h1 h2 h3), fun x => sI_ne (by omega), sI_same, fun x hx => absurd hx (by omega)⟩
      · rintro R2 i c' - hi ⟨d1, d2, d3, d4⟩ ih2
        rw [d1 0 38 (by omega) (by omega) (by omega), v38, if_neg (nI_ge hi (by omega)), rdI_n (by omega) (by omega), d2, (r56 i hi).1, wrI_n (by omega) (by omega), nI_1]
        refine ih2 _ ⟨fun j k h1 h2 h3 => (sI_ne (by omega)).trans (d1 j k h1 h2 h3), fun x => (sI_ne (by omega)).trans (d2 x), (sI_ne (by omega)).trans d3, fun x hx => ?_⟩
        by_cases e : x = i
        · subst e
          rw [sI_same]
        · rw [sI_ne (by omega)]
          exact d4 x (by omega)
      · rintro R2 c' ⟨d1, d2, d3, d4⟩
        rw [d1 0 38 (by omega) (by omega) (by omega), v38, if_pos (Int32.le_refl _)]
        refine hQ c' d1 d2 ?_
        rw [eu]
        exact ⟨d3, by show toN V h sh b ≤ 10000; omega, d4⟩
    · intro J hJ
      unfold upR at hJ hQ
      rw [va, Bool.true_and] at hJ hQ
      cases o with
      | none =>
        have bs : c.1 0 107 = -1 := bs
        rw [if_pos bs]
        exact hJ (if_pos rfl)
      | some p =>
        obtain ⟨b1, b2, b3⟩ := id bs
        dsimp only at hJ hQ
        rw [b1, if_neg (by rw [m1_ne (by omega)]; exact id)]
        by_cases z : toN V h sh b < p.1
        · rw [if_pos (nI_lt z (by omega))]
          exact hJ (if_pos (decide_eq_true z))
        · rw [if_neg (nI_nlt (by omega) (by omega))]
          rw [if_neg (fun y => z (of_decide_eq_true y))] at hQ
          exact hQ c fr (fun _ => rfl) bs
theorem shares_ok (m3 : m ≤ 3) (h9 : h ≤ 10) (l9 : loss ≤ 9999) (v37 : M0.1 0 37 = nI m) (v38 : M0.1 0 38 = nI h) (pv : PV M0 V) (gm : ∀ b, b < m → PMan P.1 V b) (gh : ∀ i, i < h → PHou P.1 V f m i) (r57 : ∀ i, i < h → M0.1 57 i = nI (sq V h i)) (r59 : ∀ b, b < m → M0.1 59 b = nI (wn b) ∧ wn b ≤ 800000) :
    ∀ (n F : Nat) {c : CT} {k : Nat} {sh : Nat → Nat} {o : Option (Nat × (Nat → Nat))} {Q : CT → Prop}, n ≤ F → k + n = h → FR2 M0 c → (∀ x, x < k → c.1 56 x = nI (sh x) ∧ sh x < m) → BST c h o → (∀ c', FR2 M0 c' → (∀ x, x < k → c'.1 56 x = c.1 56 x) → BST c' h (swpF (upR V h loss wn m) m h n sh o) → Q c') → k_X12_shares (F + 1) c (nI k) (nI loss) Q := by
  intro n
  induction n with
  | zero =>
    intro F c k sh o Q hF hk fr r56 bs hQ
    have ek : k = h := by omega
    subst ek
    unfold k_X12_shares
    rw [fr 0 38 (by omega) (by omega) (by omega), v38, if_pos (Int32.le_refl _)]
    exact leafR m3 h9 l9 v37 v38 pv gm gh r57 r59 fr r56 bs fun c' a1 a2 a3 => hQ c' a1 (fun x _ => a2 x) a3
  | succ n ih =>
    intro F c k sh o Q hF hk fr r56 bs hQ
    obtain ⟨F', rfl⟩ : ∃ F', F = F' + 1 := ⟨F - 1, by omega⟩
    unfold k_X12_shares
    rw [fr 0 38 (by omega) (by omega) (by omega), v38, if_neg (nI_ge (by omega) (by omega))]
    rw [swpF_s, show h - (n + 1) = k by omega] at hQ
    refine upl2 (N := m) (a := 0) (by omega) (fun b c' => FR2 M0 c' ∧ (∀ x, x < k → c'.1 56 x = c.1 56 x) ∧ BST c' h (fo (fun b st => swpF (upR V h loss wn m) m h n (setF sh k b) st) b o)) ?_ ?_ (by omega) ⟨fr, fun _ _ => rfl, bs⟩
    · rintro R b c' - hb ⟨d1, d2, d3⟩ ihb
      have d4 : BST (sI c' 56 k (nI b)) h (fo (fun b st => swpF (upR V h loss wn m) m h n (setF sh k b) st) b o) := by
        cases e : fo (fun b st => swpF (upR V h loss wn m) m h n (setF sh k b) st) b o with
        | none =>
          rw [e] at d3
          exact (sI_ne (by omega)).trans d3
        | some p =>
          rw [e] at d3
          exact ⟨(sI_ne (by omega)).trans d3.1, d3.2.1, fun x hx => (sI_ne (by omega)).trans (d3.2.2 x hx)⟩
      rw [d1 0 37 (by omega) (by omega) (by omega), v37, if_neg (nI_ge hb (by omega)), wrI_n (by omega) (by omega), nI_1, nI_1]
      refine ih F' (sh := setF sh k b) (by omega) (by omega) (fun j x h1 h2 h3 => (sI_ne (by omega)).trans (d1 j x h1 h2 h3)) (fun x hx => ?_) d4 fun c2 a1 a2 a3 => ihb _ ⟨a1, fun x hx => ?_, ?_⟩
      · unfold setF
        by_cases e : x = k
        · rw [if_pos e, e, sI_same]
          exact ⟨rfl, hb⟩
        · rw [if_neg e, sI_ne (by omega), d2 x (by omega)]
          exact r56 x (by omega)
      · rw [a2 x (by omega), sI_ne (by omega)]
        exact d2 x hx
      · rw [fo_s]
        exact a3
    · rintro R c' ⟨d1, d2, d3⟩
      rw [d1 0 37 (by omega) (by omega) (by omega), v37, if_pos (Int32.le_refl _)]
      exact hQ c' d1 d2 d3
end SwR
/-- the best share -/
def swBest (V : VW) (m h loss : Nat) (sh0 : Nat → Nat) : Option (Nat × (Nat → Nat)) := swpF (upR V h loss (fun b => woN V sh0 b h) m) m h h sh0 none
theorem swapR_ok {P M : CT} {V : VW} {f m h loss w B : Nat} {sh0 S : Nat → Nat} {Q : Int32 → CT → Prop} (m0 : 0 < m) (m3 : m ≤ 3) (h9 : h ≤ 10) (l9 : loss ≤ 9999) (hw : w ≤ h) (v37 : (sI M 0 0 0).1 0 37 = nI m) (v38 : (sI M 0 0 0).1 0 38 = nI h) (pv : PV (sI M 0 0 0) V) (gm : ∀ b, b < m → PMan P.1 V b) (gh : ∀ i, i < h → PHou P.1 V f m i) (r44 : ∀ x, x < h → M.1 44 x = nI (sh0 x) ∧ sh0 x < m) (best : swBest V m h loss sh0 = some (B, S)) (hQ : ∀ c, MA M c → Q (if w = 0 then nI B else nI (S (w - 1))) c) : k_X12_swap M (nI loss) (nI w) Q := by
  unfold k_X12_swap
  rw [wrF_eq, v37, if_neg (show ¬ nI m = 0 from fun z => by have := (nI_eq (b := 0) (by omega) (by omega)).mp z; omega), if_neg (nI_pos (by omega)), li_9999, if_neg (by rw [nI_lt' (by omega) (by omega)]; omega), if_neg (nI_pos (by omega)), v38, if_pos (nI_le hw (by omega))]
  refine sharesNow_ok (sh := sh0) v38 pv h9 gh (fun x hx => ⟨(th_at (by omega)).trans (r44 x hx).1, by have := (r44 x hx).2; omega⟩) fun c c1 c2 => ?_
  have w37 : c.1 0 37 = nI m := (c1 0 37 (by omega) (by omega)).trans v37
  have w38 : c.1 0 38 = nI h := (c1 0 38 (by omega) (by omega)).trans v38
  have pvc : PV c V := fun j x h1 h2 hx => (c1 j x (by omega) (by omega)).trans (pv j x h1 h2 hx)
  refine upl2 (N := m) (a := 0) (by omega) (fun b c' => (∀ j k, j ≠ 59 → c'.1 j k = c.1 j k) ∧ ∀ x, x < b → c'.1 59 x = nI (woN V sh0 x h)) ?_ ?_ (by omega) ⟨fun _ _ _ => rfl, fun x hx => absurd hx (by omega)⟩
  · rintro R b c' - hb ⟨d1, d2⟩ ih
    rw [d1 0 37 (by omega), w37, if_neg (nI_ge hb (by omega))]
    refine worthR_ok (sh := sh0) ((d1 0 38 (by omega)).trans w38) (fun j x h1 h2 hx => (d1 j x (by omega)).trans (pvc j x h1 h2 hx)) h9 gh (by omega) (fun x hx => ⟨(d1 56 x (by omega)).trans (c2.2 x hx).1, (c2.2 x hx).2⟩) ?_
    rw [wrI_n (by omega) (by omega), nI_1]
    refine ih _ ⟨fun j k hj => (sI_ne (by omega)).trans (d1 j k hj), fun x hx => ?_⟩
    by_cases e : x = b
    · subst e
      rw [sI_same]
    · rw [sI_ne (by omega)]
      exact d2 x (by omega)
  · rintro R c' ⟨d1, d2⟩
    rw [d1 0 37 (by omega), w37, if_pos (Int32.le_refl _), wrF_eq]
    have at_ : ∀ j k, j ≠ 59 → ¬ (j = 0 ∧ k = 107) → (sI c' 0 107 (-1)).1 j k = c.1 j k := fun j k h1 h2 => (sI_ne h2).trans (d1 j k h1)
    refine shares_ok (M0 := sI c' 0 107 (-1)) (V := V) (wn := fun b => woN V sh0 b h) m3 h9 l9 ((at_ 0 37 (by omega) (by omega)).trans w37) ((at_ 0 38 (by omega) (by omega)).trans w38) (fun j x h1 h2 hx => (at_ j x (by omega) (by omega)).trans (pvc j x h1 h2 hx)) gm gh (fun i hi => (at_ 57 i (by omega) (by omega)).trans (c2.1 i hi)) (fun b hb => ⟨(sI_ne (by omega)).trans (d2 b hb), by have := woN_b (sh := sh0) (b := b) gh h (Nat.le_refl h); omega⟩) h 11 (k := 0) (sh := sh0) (o := none) (by omega) (by omega) (fun _ _ _ _ _ => rfl) (fun x hx => absurd hx (by omega)) sI_same fun c3 e1 e2 e3 => ?_
    have ma : MA M c3 := fun j k r => by
      unfold RV at r
      rw [e1 j k (by omega) (by omega) (by omega), at_ j k (by omega) (by omega), c1 j k (by omega) (by omega), sI_ne (by omega)]
    have e3' : BST c3 h (swBest V m h loss sh0) := e3
    rw [best] at e3'
    obtain ⟨b1, b2, b3⟩ := e3'
    rw [jn_eq]
    by_cases wz : w = 0
    · subst wz
      rw [if_neg (fun z => z rfl), b1]
      exact hQ c3 ma
    · have hq := hQ c3 ma
      rw [if_neg wz] at hq
      rw [if_pos (show nI w ≠ 0 from fun z => wz ((nI_eq (b := 0) (by omega) (by omega)).mp z)), li_1, pk_sub (by omega), rdI_n (by omega) (by omega), b3 _ (by omega)]
      exact hq
