/-! ===== token by token ===== -/
def sgKb (ch : Int32) (b1 b2 : Bool) : Int32 := if ch = 59 then 27 else if ch = 40 then 28 else if ch = 41 then 29 else if ch = 43 then 36 else if ch = 45 then 37 else if ch = 42 then 38 else if ch = 47 then 39 else if ch = 61 then 32 else if ch = 60 then (if b1 = true then 31 else if b2 = true then 33 else 30) else if ch = 62 then (if b1 = true then 34 else 35) else 40
def sgVb (ch : Int32) (b1 b2 : Bool) : Int32 := if ch = 60 ∧ b1 = true then 256 else if ch = 60 ∧ b2 = true then 257 else if ch = 62 ∧ b1 = true then 258 else ch
theorem sgK_b (ch nx : Int32) : sgK ch nx = sgKb ch (decide (nx = 61)) (decide (nx = 62)) := by
  unfold sgK sgKb
  simp only [decide_eq_true_eq]
theorem sgV_b (ch nx : Int32) : sgV ch nx = sgVb ch (decide (nx = 61)) (decide (nx = 62)) := by
  unfold sgV sgVb
  simp only [decide_eq_true_eq]
def sK (va : Int32) : Int32 := if va = 59 then 27 else if va = 40 then 28 else if va = 41 then 29 else if va = 43 then 36 else if va = 45 then 37 else if va = 42 then 38 else if va = 47 then 39 else if va = 61 then 32 else if va = 256 then 31 else if va = 257 then 33 else if va = 60 then 30 else if va = 258 then 34 else 35
/-- the class's kind of a token of the reference's -/
def KT (t : T4) : Int32 := if t.2.2.1 = 0 then nI (permL.getD t.2.2.2.toNatClampNeg 0) else if t.2.2.1 = 1 then 25 else if t.2.2.1 = 2 then 26 else if t.2.2.1 = 3 then sK t.2.2.2 else if t.2.2.1 = 4 then 41 else 40
def VR (t : T4) (v : Int32) : Prop := (t.2.2.1 = 1 → v = t.2.2.2) ∧ (t.2.2.1 = 2 → NR t.2.2.2 v)
theorem sg_all : ∀ (m : Fin 256) (b1 b2 : Bool), sgKb (scI (nI m.val)) b1 b2 = (if sgS (nI m.val) = 3 then sK (sgVb (nI m.val) b1 b2) else 40) ∧ ((sgVb (nI m.val) b1 b2 < 256) ↔ ¬ (sgKb (scI (nI m.val)) b1 b2 = 31 ∨ sgKb (scI (nI m.val)) b1 b2 = 33 ∨ sgKb (scI (nI m.val)) b1 b2 = 34)) ∧ (sgS (nI m.val) = 3 ∨ sgS (nI m.val) = 5) := by decide +kernel
theorem tok_rel {tp tx : Nat → Int32} {n k : Nat} (h : TR tp tx n) (h9 : n ≤ 900) (hk : k ≤ n) (hp : sp isB tx n k < n) (v0 : Int32) : endM tx n k = enC tp n (sp isB tx n k) ∧ kdC tp n (sp isB tx n k) = KT (mtok tx n k v0) ∧ VR (mtok tx n k v0) (vaC tp n (sp isB tx n k)) ∧ (mtok tx n k v0).2.2.1 ≠ 4 ∧ (mtok tx n k v0).2.1 = nI (sp isB tx n k) := by
  unfold endM mtok
  generalize sp isB tx n k = p at hp ⊢
  obtain ⟨a1, a2, a3, a4, a5, a6, a7⟩ := h.all hp
  have hle := sp_le isLt tx n p (by omega)
  have hge := sp_ge isLt tx n p
  have hleD := sp_le isDg tx n p (by omega)
  have hgeD := sp_ge isDg tx n p
  rw [if_neg (show ¬ n ≤ p by omega), if_neg (show ¬ n ≤ p by omega)]
  unfold enC kdC vaC
  rw [a2, a3, h.L, h.D]
  by_cases hL : isLt (tx p) = true
  · simp only [if_pos hL]
    have hl : ∀ i, p ≤ i → i < sp isLt tx n p → isLt (tx i) = true ∧ tp i = tx i := fun i g1 g2 => by
      obtain ⟨q1, q2⟩ := sp_in g1 g2
      exact ⟨q2, (h.all q1).2.2.2.1 q2⟩
    rcases wfind_01 (fun i g1 g2 => (hl i g1 g2).2) with ⟨w1, w0⟩ | ⟨m, w1, w0⟩
    · simp only [w1, w0, eq_self, if_true]
      by_cases h6 : sp isLt tx n p - p ≤ 6
      · simp only [if_pos h6]
        refine ⟨nI_clamp (by omega), rfl, ⟨fun _ => ?_, fun q => absurd (show (1 : Int32) = 2 from q) (by decide)⟩, by first | decide | trivial, by first | rfl | trivial⟩
        exact let_eq hge hl (by omega)
      · simp only [if_neg h6]
        exact ⟨nI_clamp (by omega), rfl, ⟨fun q => absurd (show (5 : Int32) = 1 from q) (by decide), fun q => absurd (show (5 : Int32) = 2 from q) (by decide)⟩, by first | decide | trivial, by first | rfl | trivial⟩
    · have hm := m.isLt
      have hpl : permL.getD m.val 0 < 25 := by
        obtain ⟨_, -, -, -, -, q⟩ := perm_ok m
        exact q
      have e1 : ¬ nI m.val = -1 := by rw [m1_ne (by omega)]; exact id
      have e0 : ¬ nI (permL.getD m.val 0) = -1 := by rw [m1_ne (by omega)]; exact id
      simp only [w1, w0, if_neg e1, if_neg e0]
      refine ⟨nI_clamp (by omega), ?_, ⟨fun q => absurd (show (0 : Int32) = 1 from q) (by decide), fun q => absurd (show (0 : Int32) = 2 from q) (by decide)⟩, by first | decide | trivial, by first | rfl | trivial⟩
      show _ = nI (permL.getD (nI m.val).toNatClampNeg 0)
      rw [nI_clamp (by omega)]
  · simp only [if_neg hL]
    by_cases hD : isDg (tx p) = true
    · simp only [if_pos hD]
      refine ⟨nI_clamp (by omega), rfl, ⟨fun q => absurd (show (2 : Int32) = 1 from q) (by decide), fun _ => ?_⟩, by first | decide | trivial, by first | rfl | trivial⟩
      refine NR.fold _ _ _ _ (Or.inl ⟨0, by decide, rfl, rfl⟩) (fun q g1 g2 => ?_)
      obtain ⟨q1, q2⟩ := sp_in (p := isDg) (tx := tx) (n := n) (i := p) (q := q) g1 (by omega)
      exact ⟨q2, (h.all q1).2.2.2.2.1 q2⟩
    · simp only [if_neg hD]
      have hnx : (decide ((if p + 1 < n then tp (p + 1) else 0) = 61) = decide ((if p + 1 < n then tx (p + 1) else -1) = 61)) ∧ (decide ((if p + 1 < n then tp (p + 1) else 0) = 62) = decide ((if p + 1 < n then tx (p + 1) else -1) = 62)) := by
        by_cases h1 : p + 1 < n
        · rw [if_pos h1, if_pos h1]
          obtain ⟨-, -, -, -, -, b6, b7⟩ := h.all h1
          exact ⟨decide_eq_decide.mpr b6, decide_eq_decide.mpr b7⟩
        · rw [if_neg h1, if_neg h1]
          exact ⟨by decide, by decide⟩
      obtain ⟨t0, t1, t2⟩ := h p hp
      obtain ⟨m, hm⟩ := by256 t0 t1
      rw [sgK_b, sgV_b, hnx.1, hnx.2, t2, hm]
      generalize decide ((if p + 1 < n then tx (p + 1) else -1) = 61) = b1
      generalize decide ((if p + 1 < n then tx (p + 1) else -1) = 62) = b2
      obtain ⟨s1, s2, s3⟩ := sg_all m b1 b2
      refine ⟨?_, ?_, ⟨fun q => ?_, fun q => ?_⟩, ?_, by first | rfl | trivial⟩
      · by_cases hv : sgVb (nI m.val) b1 b2 < 256
        · rw [if_pos hv, if_neg (s2.mp hv), nI_clamp (by omega)]
        · rw [if_neg hv, if_pos (Classical.not_not.mp fun q => hv (s2.mpr q)), nI_clamp (by omega)]
      · rw [s1]
        unfold KT
        dsimp only
        rcases s3 with s3 | s3 <;> rw [s3] <;> rfl
      · dsimp only at q
        rcases s3 with s3 | s3 <;> rw [s3] at q <;> exact absurd q (by decide)
      · dsimp only at q
        rcases s3 with s3 | s3 <;> rw [s3] at q <;> exact absurd q (by decide)
      · rcases s3 with s3 | s3 <;> rw [s3] <;> decide
/-- the class's K-th position is the reference's -/
theorem pos_rel {tp tx : Nat → Int32} {n : Nat} (h : TR tp tx n) (h9 : n ≤ 900) : ∀ K, (∀ q, q < K → sp isB tp n (posC tp n q) < n) → ∀ q, q ≤ K → posC tp n q = posM tx n q ∧ posM tx n q ≤ n := by
  intro K hK q
  induction q with
  | zero => exact fun _ => ⟨rfl, Nat.zero_le _⟩
  | succ q ih =>
    intro hq
    obtain ⟨i1, i2⟩ := ih (by omega)
    have hlt := hK q (by omega)
    rw [i1, h.B] at hlt
    have e : posC tp n (q + 1) = endM tx n (posM tx n q) := by
      show enC tp n (sp isB tp n (posC tp n q)) = _
      rw [i1, h.B, (tok_rel h h9 i2 hlt 0).1]
    refine ⟨e, ?_⟩
    show endM tx n (posM tx n q) ≤ n
    exact (mtok_end i2 h9 (fun i hi => ⟨(h i hi).1, (h i hi).2.1⟩) 0).2.1
