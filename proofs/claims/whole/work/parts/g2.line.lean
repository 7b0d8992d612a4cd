/-! ===== reading: tables of tokens; the line ===== -/
theorem TXT.tks {tx : Nat → Int32} {n : Nat} {v0 : Int32} (h : TXT tx n) : TKS (cur tx n v0) tx n := ⟨h, fun i => ⟨posM tx n (i + 1), h.pos _, h.at_ i, rfl⟩⟩
theorem cur_mt {tx : Nat → Int32} {n : Nat} {v0 : Int32} (i : Nat) : ∃ v, cur tx n v0 i = mtok tx n (posM tx n i) v := by
  cases i with
  | zero => exact ⟨v0, rfl⟩
  | succ i => exact ⟨_, rfl⟩
theorem spl_rk {H R c : CT} {tx : Nat → Int32} {n K : Nat} {v0 : Int32} (s : SPL H R c n K) (h : TR (H.1 1) tx n) (h9 : n ≤ 900) (h2 : R.1 0 2 = nI n) : RKc c (cur tx n v0) K n := by
  obtain ⟨⟨s1, s2, s3⟩, s4, s5, ⟨s6, s7, s8⟩, s9⟩ := s
  have tx9 : TXT tx n := ⟨h9, fun i hi => ⟨(h i hi).1, (h i hi).2.1⟩⟩
  have pr := pos_rel h h9 K s3
  have endK : ∀ v, mtok tx n (posM tx n K) v = (nI n, nI n, 4, v) := fun v => by
    have e : sp isB tx n (posM tx n K) = n := by
      rw [← (pr K (Nat.le_refl _)).1, ← h.B]
      exact s2
    unfold mtok
    rw [if_pos (by omega), e]
  refine ⟨s4, (s9 0 2 (by omega) (by omega)).trans h2, s1, h9, fun i hi => ?_, ?_, fun i hi => ?_, fun i => tx9.shp i⟩
  · obtain ⟨v, ev⟩ := cur_mt (tx := tx) (n := n) (v0 := v0) i
    by_cases e : i = K
    · subst e
      rw [ev, endK, s6, s7, s8]
      exact ⟨(KT_4 rfl).symm, rfl, fun y => absurd (show (4 : Int32) = 1 from y) (by decide), fun y => absurd (show (4 : Int32) = 2 from y) (by decide)⟩
    · obtain ⟨a, b⟩ := pr i (by omega)
      have lt := s3 i (by omega)
      rw [a, h.B] at lt
      obtain ⟨t1, t2, t3, t4, t5⟩ := tok_rel h h9 b lt v
      obtain ⟨u1, u2, u3⟩ := s5 i (by omega)
      rw [ev, u1, u2, u3, a, h.B]
      exact ⟨t2, t5.symm, t3⟩
  · obtain ⟨v, ev⟩ := cur_mt (tx := tx) (n := n) (v0 := v0) K
    rw [ev, endK]
  · obtain ⟨v, ev⟩ := cur_mt (tx := tx) (n := n) (v0 := v0) i
    obtain ⟨a, b⟩ := pr i (by omega)
    have lt := s3 i hi
    rw [a, h.B] at lt
    rw [ev]
    exact (tok_rel h h9 b lt v).2.2.2.1
section Line
variable {P R c M : CT} {T : Nat → T4} {K n i l q f m h : Nat} {Q : Int32 → CT → CT → Prop} {J : CT → Prop}
def rRul (u : Nat) (c : CT) (J : CT → Prop) : Prop := wrF c 0 (51 + 2 * u) (c.1 0 57) (fun c1143 => kg2_X12_expression 200 0 c1143 (fun c1144 => wrF c1144 0 (52 + 2 * u) (c1144.1 0 57) (fun c1145 => J c1145)))
/-- what a line of the given kind must do -/
def lBody (v : Int32) (c : CT) (J : CT → Prop) : Prop := if v = 0 then rLad c J else if v = 1 then rPol c J else if v = 2 then k2_X12_frontLine c ((5 : Int32) + (c.1 0 48)) J else if v = 3 then rMan c J else if v = 4 then k2_X12_houseLine c ((10 : Int32) + (c.1 0 50)) J else if v = 5 then k2_X12_wetLine c J else if v = 6 then rRul 0 c J else if v = 7 then rRul 1 c J else rTan c J
def lTail (c894 : CT) (J : CT → Prop) : Prop := if (c894.1 0 66) = (0 : Int32) then k_X12_isSign c894 (59 : Int32) (fun t944 => (if t944 ≠ (0 : Int32) then k2_X12_token c894 (fun c945 => wrF c945 0 60 ((c945.1 0 60) + (1 : Int32)) (fun c946 => J c946)) else k_X12_wrong c894 (1 : Int32) (fun c949 => wrF c949 0 60 ((c949.1 0 60) + (1 : Int32)) (fun c950 => J c950)))) else J c894
def lGo (v : Int32) (J : CT → Prop) (c610 : CT) : Prop := if (c610.1 0 66) = (0 : Int32) then wrF c610 0 59 ((c610.1 0 59) ||| ((1 : Int32) <<< (v &&& 31))) (fun c891 => k2_X12_token c891 (fun c892 => lBody v c892 (fun x => lTail x J))) else J c610
theorem lineL_eq : k2_X12_line c J = (if (c.1 0 64) ≠ (0 : Int32) then k_X12_wrong c (1 : Int32) (fun c606 => J c606) else (if (c.1 0 65) ≤ (8 : Int32) then k_X12_isFull c (c.1 0 65) (fun t1186 => (if t1186 = (0 : Int32) then (if (c.1 0 65) < (6 : Int32) then lGo (c.1 0 65) J c else (if (((c.1 0 59) >>> ((c.1 0 65) &&& 31)) &&& (1 : Int32)) ≠ (1 : Int32) then lGo (c.1 0 65) J c else k_X12_wrong c (3 : Int32) (fun c1187 => lGo (c.1 0 65) J c1187))) else k_X12_wrong c (2 : Int32) (fun c1195 => lGo (c.1 0 65) J c1195))) else k_X12_wrong c (1 : Int32) (fun c1202 => J c1202))) := by
  unfold k2_X12_line
  simp only [jn_eq, vK_eq]
  rfl
theorem lGo_x {v k p : Int32} (g : FLr M c k p) (hk : k ≠ 0) (hJ : J c) : lGo v J c := by
  unfold lGo
  rw [if_neg (by rw [g.2.1]; exact hk)]
  exact hJ
theorem lTail_x {k p : Int32} (g : FLr M c k p) (hk : k ≠ 0) (hJ : J c) : lTail c J := by
  unfold lTail
  rw [if_neg (by rw [g.2.1]; exact hk)]
  exact hJ
theorem lTail_n (g : RDr M c T n i) (hn : ¬ ((T i).2.2.1 = 3 ∧ (T i).2.2.2 = 59)) (hJ : J (sI (flt c 1) 0 60 (c.1 0 60 + 1))) : lTail c J := by
  unfold lTail
  rw [if_pos g.2.2.2.2.1]
  refine isSign_s g (fun y => absurd y hn) fun _ => ?_
  rw [if_neg fun y => y rfl]
  refine wrong_s g ?_
  rw [wrF_eq, flt_ne (by omega)]
  exact hJ
theorem lTail_y (g : RDr M c T n i) (hy : (T i).2.2.1 = 3 ∧ (T i).2.2.2 = 59) (hJ : J (sI (wTk c (T (i + 1))) 0 60 (c.1 0 60 + 1))) : lTail c J := by
  unfold lTail
  rw [if_pos g.2.2.2.2.1]
  refine isSign_s g (fun _ => ?_) fun y => absurd hy y
  rw [if_pos (by decide)]
  refine token_s g ?_
  rw [wrF_eq, wTk_ne (by omega)]
  exact hJ
/-- is there room for one more of this kind -/
theorem full_ok {k : Nat} {S : Int32 → Prop} (hk : k ≤ 8) (hp : PRel P.1 (uppV c) l q f m h) (h1 : ((k = 0 ∧ l = 4) ∨ (k = 1 ∧ q = 3) ∨ (k = 2 ∧ f = 5) ∨ (k = 3 ∧ m = 3) ∨ (k = 4 ∧ h = 10)) → S 1) (h0 : ¬ ((k = 0 ∧ l = 4) ∨ (k = 1 ∧ q = 3) ∨ (k = 2 ∧ f = 5) ∨ (k = 3 ∧ m = 3) ∨ (k = 4 ∧ h = 10)) → S 0) : k_X12_isFull c (nI k) S := by
  have h46 : c.1 0 46 = nI l := cnt_u (k := 34) hp.1.2.2.1
  have h47 : c.1 0 47 = nI q := cnt_u (k := 35) hp.1.2.2.2.1
  have h48 : c.1 0 48 = nI f := cnt_u (k := 36) hp.1.2.2.2.2.1
  have h49 : c.1 0 49 = nI m := cnt_u (k := 37) hp.1.2.2.2.2.2.1
  have h50 : c.1 0 50 = nI h := cnt_u (k := 38) hp.1.2.2.2.2.2.2
  have b := hp.1.1
  unfold k_X12_isFull
  rw [jn_eq, h46, h47, h48, h49, h50]
  rcases (show k = 0 ∨ k = 1 ∨ k = 2 ∨ k = 3 ∨ k = 4 ∨ k = 5 ∨ k = 6 ∨ k = 7 ∨ k = 8 by omega) with rfl | rfl | rfl | rfl | rfl | rfl | rfl | rfl | rfl
  · rw [if_neg (by decide)]
    by_cases e : l = 4
    · rw [if_pos (by rw [e]; rfl)]
      dsimp only
      rw [rZ_1]
      exact h1 (by omega)
    · rw [if_neg (by rw [li_4, nI_eq' (by omega) (by omega)]; exact e), if_pos (by decide), if_pos (by decide), if_pos (by decide), if_pos (by decide)]
      dsimp only
      rw [rZ_0]
      exact h0 (by omega)
  · rw [if_pos (by decide), if_neg (by decide)]
    by_cases e : q = 3
    · rw [if_pos (by rw [e]; rfl)]
      dsimp only
      rw [rZ_1]
      exact h1 (by omega)
    · rw [if_neg (by rw [li_3, nI_eq' (by omega) (by omega)]; exact e), if_pos (by decide), if_pos (by decide), if_pos (by decide)]
      dsimp only
      rw [rZ_0]
      exact h0 (by omega)
  · rw [if_pos (by decide), if_pos (by decide), if_neg (by decide)]
    by_cases e : f = 5
    · rw [if_pos (by rw [e]; rfl)]
      dsimp only
      rw [rZ_1]
      exact h1 (by omega)
    · rw [if_neg (by rw [li_5, nI_eq' (by omega) (by omega)]; exact e), if_pos (by decide), if_pos (by decide)]
      dsimp only
      rw [rZ_0]
      exact h0 (by omega)
  · rw [if_pos (by decide), if_pos (by decide), if_pos (by decide), if_neg (by decide)]
    by_cases e : m = 3
    · rw [if_pos (by rw [e]; rfl)]
      dsimp only
      rw [rZ_1]
      exact h1 (by omega)
    · rw [if_neg (by rw [li_3, nI_eq' (by omega) (by omega)]; exact e), if_pos (by decide)]
      dsimp only
      rw [rZ_0]
      exact h0 (by omega)
  · rw [if_pos (by decide), if_pos (by decide), if_pos (by decide), if_pos (by decide), if_neg (by decide)]
    by_cases e : h = 10
    · rw [if_neg (by rw [e]; exact fun y => y rfl)]
      dsimp only
      rw [rZ_1]
      exact h1 (by omega)
    · rw [if_pos (by rw [li_10, Ne, nI_eq' (by omega) (by omega)]; exact e)]
      dsimp only
      rw [rZ_0]
      exact h0 (by omega)
  all_goals (rw [if_pos (by decide), if_pos (by decide), if_pos (by decide), if_pos (by decide), if_pos (by decide)]; dsimp only; rw [rZ_0]; exact h0 (by omega))
end Line
