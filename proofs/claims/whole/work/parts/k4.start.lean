/-! ===== a new PaneRounds ===== -/
def hF (z : Nat) (V : Nat → Value) (g : HP) : HP := fun a => if a = z then some (.inr (11, V)) else g a
section HN
variable {z n sl k m N ci s len : Nat} {V V0 : Nat → Value} {g h : HP} {lay : LY} {L : List Value}
theorem hF_out {r : Nat} {c : BC} (hr : z < r) : hF z V (bOv r lay c g) = bOv r lay c (hF z V g) := by
  funext a
  unfold hF bOv
  dsimp only
  by_cases e : a = z
  · rw [if_pos e, if_neg (by omega), if_pos e]
  · rw [if_neg e, if_neg e]
theorem hF_pF {ty : FieldType} {v : Value} (hv : vfit ty v = true) : pF 11 k ty (.ref z) v (hF z V g, n, sl) = some (hF z (updV V k v) g, n, sl) := by
  have e : hF z V g z = some (.inr (11, V)) := if_pos rfl
  unfold pF
  dsimp only
  rw [e]
  dsimp only
  rw [if_pos ⟨rfl, hv⟩]
  unfold updH
  refine congrArg some (Prod.ext (funext fun a => ?_) rfl)
  show (if a = z then some (Sum.inr (11, updV V k v)) else hF z V g a) = hF z (updV V k v) g a
  unfold hF
  by_cases e : a = z
  · rw [if_pos e, if_pos e]
  · rw [if_neg e, if_neg e, if_neg e]
theorem h_c {ty : FieldType} {v : Value} (hv : vfit ty v = true) : sP2 (pF 11 k ty) (eA 0) (eK v) [.ref z] (hF z V g, n, sl) = some (.inl 0, [.ref z], (hF z (updV V k v) g, n, sl)) := by
  unfold sP2 eA eK
  dsimp only [List.getElem?_cons_zero, Option.bind_some]
  rw [hF_pF hv]
  rfl
theorem h_a {ty ft : FieldType} {x : Nat → vp_A} (hz : z < n) (hv : ∀ a, vfit ty (.ref a) = true) (m6 : m ≤ 65536) : sP2 (pF 11 k ty) (eA 0) (eNA ft x (eK (.int (Int32.ofNat m)))) [.ref z] (hF z V g, n, sl) = some (.inl 0, [.ref z], (hF z (updV V k (.ref n)) (fun a => if a = n then some (.inl (ft, x m)) else g a), n + 1, sl + m)) := by
  have en : (Int32.ofNat m).toNatClampNeg = m := nI_clamp (by omega)
  unfold sP2 eA eNA eK newA
  dsimp only [List.getElem?_cons_zero, Option.bind_some]
  rw [if_neg, en]
  · dsimp only [Option.bind_some]
    have e : alloc (hF z V g, n, sl) (.inl (ft, x m)) m = (hF z V (fun a => if a = n then some (.inl (ft, x m)) else g a), n + 1, sl + m) := by
      unfold alloc
      refine Prod.ext (funext fun a => ?_) rfl
      show (if a = n then some (Sum.inl (ft, x m)) else hF z V g a) = hF z V (fun a => if a = n then some (.inl (ft, x m)) else g a) a
      unfold hF
      dsimp only
      by_cases e : a = z
      · rw [if_neg (by omega), if_pos e, if_pos e]
      · rw [if_neg e, if_neg e]
    rw [e, hF_pF (hv _)]
    rfl
  · rw [en]
    rintro (y | y)
    · exact absurd (nI_pos' (show m < 2 ^ 31 by omega)) (Int32.not_le.mpr y)
    · omega
theorem h_n {ty : FieldType} {f : XF} {es : List XE} {vs : List Value} {c : Nat → BC} (hz : z < n) (hv : ∀ a, vfit ty (.ref a) = true) (he : ∀ σ : ST, evL es [.ref z] σ = some (vs, σ)) (hf : ∀ σ : ST, f (.ref σ.2.1 :: vs) (alloc σ (.inr (ci, V0)) N) = some (none, (bOv σ.2.1 lay (c σ.2.1) σ.1, σ.2.1 + len, σ.2.2 + s))) : sP2 (pF 11 k ty) (eA 0) (eNew ci N V0 f es) [.ref z] (hF z V g, n, sl) = some (.inl 0, [.ref z], (hF z (updV V k (.ref n)) (bOv n lay (c n) g), n + len, sl + s)) := by
  unfold sP2 eA eNew
  dsimp only [List.getElem?_cons_zero, Option.bind_some]
  rw [he, Option.bind_some]
  dsimp only
  rw [show f (.ref n :: vs) (alloc (hF z V g, n, sl) (.inr (ci, V0)) N) = _ from hf (hF z V g, n, sl), Option.bind_some]
  dsimp only [Option.bind_some]
  rw [← hF_out hz, hF_pF (hv _)]
  rfl
end HN
theorem alloc_la {σ : ST} {c : MC} {n : Nat} : alloc σ c n = laS σ.2.1 [c] σ.1 (σ.2.2 + n) := by
  unfold alloc laS
  refine Prod.ext (funext fun a => ?_) rfl
  show (if a = σ.2.1 then some c else σ.1 a) = laC σ.2.1 [c] σ.1 a
  unfold laC
  by_cases e : a = σ.2.1
  · rw [if_pos e, if_pos (by rw [e]; exact ⟨Nat.le_refl _, Nat.lt_succ_self _⟩), e, Nat.sub_self]
    rfl
  · rw [if_neg e, if_neg (by show ¬ (σ.2.1 ≤ a ∧ a < σ.2.1 + 1); omega)]
theorem new_P (σ : ST) : m_X6_init [.ref σ.2.1] (alloc σ (.inr (6, dV tyX6 13)) 13) = some (none, (bOv σ.2.1 pLay (frP.1, frP.2, rfP σ.2.1) σ.1, σ.2.1 + 43, σ.2.2 + 669)) := by
  rw [alloc_la, init_P, show σ.2.2 + 13 + 656 = σ.2.2 + 669 by omega]
def frH : CT := (fun j k => if j = 0 ∧ k = 12 then -1 else 0, fun _ _ => 0)
def stA (z : Nat) : Nat → Nat := fun b => if b = 0 then z else if b = 1 then z + 2 else if b = 2 then z + 45 else if b = 3 then z + 88 else if b = 4 then z + 93 else if b = 11 then z + 108 else z + 168
def stD (z sl : Nat) : LZD := (fun _ => false, fun _ => none, (z + 169, sl))
def hV (z : Nat) : Nat → Value := updV (updV (updV (updV (updV (updV (updV (updV (updV (updV (updV (updV (updV (dV tyX11 13) 0 (.ref (z + 1))) 1 (.int 0)) 2 (.ref (z + 2))) 3 (.ref (z + 45))) 4 (.ref (z + 88))) 5 (.ref (z + 93))) 6 .null) 7 (.int 0)) 8 .null) 9 .null) 10 .null) 11 (.int 0)) 12 (.int (-1))
theorem hV_k {z sl : Nat} : ∀ k, hV z k = bVal z (frH.1, frH.2, rfD (stA z) (stD z sl) 0) 0 [3, 0, 1, 1, 1, 1, 1, 0, 1, 1, 1, 0, 0] k
  | 0 => rfl
  | 1 => rfl
  | 2 => rfl
  | 3 => rfl
  | 4 => rfl
  | 5 => rfl
  | 6 => rfl
  | 7 => rfl
  | 8 => rfl
  | 9 => rfl
  | 10 => rfl
  | 11 => rfl
  | 12 => rfl
  | m + 13 => by
    unfold hV updV
    rw [if_neg (by omega), if_neg (by omega), if_neg (by omega), if_neg (by omega), if_neg (by omega), if_neg (by omega), if_neg (by omega), if_neg (by omega), if_neg (by omega), if_neg (by omega), if_neg (by omega), if_neg (by omega), if_neg (by omega)]
    unfold dV
    rw [if_neg (by omega)]
    show _ = Value.int (if 0 = 0 ∧ m + 13 = 12 then -1 else 0)
    rw [if_neg (by omega)]
theorem lay_H {z sl : Nat} {h : HP} : hF z (hV z) (fun a => if a = z + 1 then some (.inl (.byte, zI 900)) else h a) = bOv z hLay (frH.1, frH.2, rfD (stA z) (stD z sl) 0) h := by
  have lf : hLay.length = 2 := rfl
  funext a
  unfold bOv
  rw [lf]
  by_cases e : a = z
  · subst e
    rw [if_pos (by omega), Nat.sub_self]
    show hF a (hV a) _ a = (some (Sum.inr (11, bVal a (frH.1, frH.2, rfD (stA a) (stD a sl) 0) 0 [3, 0, 1, 1, 1, 1, 1, 0, 1, 1, 1, 0, 0])) : Option MC)
    unfold hF
    rw [if_pos rfl]
    exact congrArg (fun f => (some (Sum.inr (11, f)) : Option MC)) (funext fun k => hV_k k)
  · unfold hF
    rw [if_neg e]
    dsimp only
    by_cases e2 : a = z + 1
    · rw [if_pos e2, if_pos (by omega), show a - z = 1 by omega]
      rfl
    · rw [if_neg e2, if_neg (by omega)]
theorem rf_R {z sl : Nat} : rfD (stA z) (stD z sl) 3 = fun _ _ => none := by
  funext j k
  show (if j = 0 ∧ k = 11 then none else none) = none
  split <;> rfl
theorem init_H {σ : ST} {sl' : Nat} : m_X11_init [.ref σ.2.1] (alloc σ (.inr (11, dV tyX11 13)) 13) = some (none, (bOv (σ.2.1 + 93) kLay (c00.1, c00.2, fun _ _ => none) (bOv (σ.2.1 + 88) rLay (frR.1, frR.2, rfD (stA σ.2.1) (stD σ.2.1 sl') 3) (bOv (σ.2.1 + 45) pLay (frP.1, frP.2, rfP (σ.2.1 + 45)) (bOv (σ.2.1 + 2) pLay (frP.1, frP.2, rfP (σ.2.1 + 2)) (bOv σ.2.1 hLay (frH.1, frH.2, rfD (stA σ.2.1) (stD σ.2.1 sl') 0) σ.1)))), σ.2.1 + 108, σ.2.2 + 6177)) := by
  obtain ⟨h, z, sl⟩ := σ
  dsimp only
  unfold m_X11_init
  rw [mth_fin (Nat.le_of_ble_eq_true rfl)]
  have a0 : alloc (h, z, sl) (.inr (11, dV tyX11 13)) 13 = (hF z (dV tyX11 13) h, z + 1, sl + 13) := rfl
  rw [a0]
  show fin (b_X11_init [.ref z] (hF z (dV tyX11 13) h, z + 1, sl + 13)) = _
  unfold b_X11_init
  have so : ∀ s : ST, sOI [.ref z] s = some (.inl 0, [.ref z], s) := fun _ => rfl
  rw [sSeq_t, so, thn_0]
  have s0 := h_a (z := z) (n := z + 1) (sl := sl + 13) (V := dV tyX11 13) (g := h) (k := 0) (ty := tyX11 0) (ft := .byte) (x := zI) (m := 900) (by omega) (fun _ => rfl) (by decide)
  rw [sSeq_t, show sP2 (pF 11 0 (tyX11 0)) (eA 0) (eNA .byte zI (eK (.int 900))) [.ref z] (hF z (dV tyX11 13) h, z + 1, sl + 13) = _ from s0, thn_0, sSeq_t, h_c rfl, thn_0]
  rw [sSeq_t, h_n (es := []) (vs := []) (c := fun z => (frP.1, frP.2, rfP z)) (by omega) (fun _ => rfl) (fun _ => rfl) new_P, thn_0]
  rw [sSeq_t, h_n (es := []) (vs := []) (c := fun z => (frP.1, frP.2, rfP z)) (by omega) (fun _ => rfl) (fun _ => rfl) new_P, thn_0]
  rw [sSeq_t, h_n (es := []) (vs := []) (c := fun _ => (frR.1, frR.2, fun _ _ => none)) (by omega) (fun _ => rfl) (fun _ => rfl) (fun _ => init_Rd), thn_0]
  rw [sSeq_t, h_n (es := [(eK .null)]) (vs := [.null]) (c := fun _ => (c00.1, c00.2, fun _ _ => none)) (by omega) (fun _ => rfl) (fun _ => rfl) (fun _ => init_K), thn_0]
  rw [sSeq_t, h_c rfl, thn_0, sSeq_t, h_c rfl, thn_0, sSeq_t, h_c rfl, thn_0, sSeq_t, h_c rfl, thn_0, sSeq_t, h_c rfl, thn_0, sSeq_t, h_c rfl, thn_0, sSeq_t, h_c rfl, thn_0]
  show some (none, _) = _
  rw [hF_out (by omega), hF_out (by omega), hF_out (by omega), hF_out (by omega), rf_R]
  rw [show z + 1 + 1 = z + 2 from rfl, show z + 2 + 43 = z + 45 from rfl, show z + 45 + 43 = z + 88 from rfl, show z + 88 + 5 = z + 93 from rfl, show z + 93 + 15 = z + 108 from rfl, show sl + 13 + 900 + 669 + 669 + 2790 + 1136 = sl + 6177 by omega]
  rw [← lay_H]
  rfl
