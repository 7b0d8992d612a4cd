def pLay : LY := [.inr (6, [3, 0, 0, 0, 9, 10, 11, 12, 13, 15, 0, 0, 0]), .inr (8, [0, 0, 4, 5, 6, 7, 8]), .inl (.int, 4), .inl (.int, 4), .inl (.int, 3), .inl (.int, 3), .inl (.int, 3), .inl (.object RX3, 5), .inl (.object RX5, 3), .inl (.object RX4, 10), .inl (.boolean, 200), .inr (2, [0, 14]), .inl (.int, 64), .inr (2, [0, 16]), .inl (.int, 64), .inr (3, [0, 0, 0, 0, 0, 0, 18, 19]), .inl (.int, 12), .inl (.int, 12), .inr (3, [0, 0, 0, 0, 0, 0, 21, 22]), .inl (.int, 12), .inl (.int, 12), .inr (3, [0, 0, 0, 0, 0, 0, 24, 25]), .inl (.int, 12), .inl (.int, 12), .inr (3, [0, 0, 0, 0, 0, 0, 27, 28]), .inl (.int, 12), .inl (.int, 12), .inr (3, [0, 0, 0, 0, 0, 0, 30, 31]), .inl (.int, 12), .inl (.int, 12), .inr (5, [0, 0, 0, 0]), .inr (5, [0, 0, 0, 0]), .inr (5, [0, 0, 0, 0]), .inr (4, [0, 0, 0, 0, 0, 0, 0, 0, 0, 0, 0]), .inr (4, [0, 0, 0, 0, 0, 0, 0, 0, 0, 0, 0]), .inr (4, [0, 0, 0, 0, 0, 0, 0, 0, 0, 0, 0]), .inr (4, [0, 0, 0, 0, 0, 0, 0, 0, 0, 0, 0]), .inr (4, [0, 0, 0, 0, 0, 0, 0, 0, 0, 0, 0]), .inr (4, [0, 0, 0, 0, 0, 0, 0, 0, 0, 0, 0]), .inr (4, [0, 0, 0, 0, 0, 0, 0, 0, 0, 0, 0]), .inr (4, [0, 0, 0, 0, 0, 0, 0, 0, 0, 0, 0]), .inr (4, [0, 0, 0, 0, 0, 0, 0, 0, 0, 0, 0]), .inr (4, [0, 0, 0, 0, 0, 0, 0, 0, 0, 0, 0])]
def ps (r : Nat) (rest : HP) (z : Nat × Nat) (c : BC) : ST := (bOv r pLay c rest, z)
section Acc_p
variable {r : Nat} {c : BC} {rest : HP} {z : Nat × Nat}
theorem pg_plan_tools : gF 6 0 (.ref r) (ps r rest z c) = some (.ref (r + 1)) := gF_s (j := 0) rfl rfl
theorem pg_plan_fronts : gF 6 1 (.ref r) (ps r rest z c) = some (.int (c.1 0 1)) := gF_i (j := 0) rfl rfl
theorem pp_plan_fronts {x : Int32} : pF 6 1 (tyX6 1) (.ref r) (.int x) (ps r rest z c) = some (ps r rest z (setI c 0 1 x)) := pF_i (j := 0) rfl rfl rfl
theorem pg_plan_men : gF 6 2 (.ref r) (ps r rest z c) = some (.int (c.1 0 2)) := gF_i (j := 0) rfl rfl
theorem pp_plan_men {x : Int32} : pF 6 2 (tyX6 2) (.ref r) (.int x) (ps r rest z c) = some (ps r rest z (setI c 0 2 x)) := pF_i (j := 0) rfl rfl rfl
theorem pg_plan_houses : gF 6 3 (.ref r) (ps r rest z c) = some (.int (c.1 0 3)) := gF_i (j := 0) rfl rfl
theorem pp_plan_houses {x : Int32} : pF 6 3 (tyX6 3) (.ref r) (.int x) (ps r rest z c) = some (ps r rest z (setI c 0 3 x)) := pF_i (j := 0) rfl rfl rfl
theorem pg_plan_front : gF 6 4 (.ref r) (ps r rest z c) = some (.ref (r + 7)) := gF_s (j := 0) rfl rfl
theorem pg_plan_man : gF 6 5 (.ref r) (ps r rest z c) = some (.ref (r + 8)) := gF_s (j := 0) rfl rfl
theorem pg_plan_house : gF 6 6 (.ref r) (ps r rest z c) = some (.ref (r + 9)) := gF_s (j := 0) rfl rfl
theorem pg_plan_wet : gF 6 7 (.ref r) (ps r rest z c) = some (.ref (r + 10)) := gF_s (j := 0) rfl rfl
theorem pg_plan_complain : gF 6 8 (.ref r) (ps r rest z c) = some (.ref (r + 11)) := gF_s (j := 0) rfl rfl
theorem pg_plan_trust : gF 6 9 (.ref r) (ps r rest z c) = some (.ref (r + 13)) := gF_s (j := 0) rfl rfl
theorem pg_plan_tankHolds : gF 6 10 (.ref r) (ps r rest z c) = some (.int (c.1 0 10)) := gF_i (j := 0) rfl rfl
theorem pp_plan_tankHolds {x : Int32} : pF 6 10 (tyX6 10) (.ref r) (.int x) (ps r rest z c) = some (ps r rest z (setI c 0 10 x)) := pF_i (j := 0) rfl rfl rfl
theorem pg_plan_tankTakes : gF 6 11 (.ref r) (ps r rest z c) = some (.int (c.1 0 11)) := gF_i (j := 0) rfl rfl
theorem pp_plan_tankTakes {x : Int32} : pF 6 11 (tyX6 11) (.ref r) (.int x) (ps r rest z c) = some (ps r rest z (setI c 0 11 x)) := pF_i (j := 0) rfl rfl rfl
theorem pg_plan_lines : gF 6 12 (.ref r) (ps r rest z c) = some (.int (c.1 0 12)) := gF_i (j := 0) rfl rfl
theorem pp_plan_lines {x : Int32} : pF 6 12 (tyX6 12) (.ref r) (.int x) (ps r rest z c) = some (ps r rest z (setI c 0 12 x)) := pF_i (j := 0) rfl rfl rfl
theorem pV_plan {f : XF} {as : List Value} : fV 6 f ((.ref r) :: as) (ps r rest z c) = f ((.ref r) :: as) (ps r rest z c) := fV_b (j := 0) (ks := [3, 0, 0, 0, 9, 10, 11, 12, 13, 15, 0, 0, 0]) rfl
theorem pg_tools_ladders : gF 8 0 (.ref (r + 1)) (ps r rest z c) = some (.int (c.1 1 0)) := gF_i (j := 1) rfl rfl
theorem pp_tools_ladders {x : Int32} : pF 8 0 (tyX8 0) (.ref (r + 1)) (.int x) (ps r rest z c) = some (ps r rest z (setI c 1 0 x)) := pF_i (j := 1) rfl rfl rfl
theorem pg_tools_poles : gF 8 1 (.ref (r + 1)) (ps r rest z c) = some (.int (c.1 1 1)) := gF_i (j := 1) rfl rfl
theorem pp_tools_poles {x : Int32} : pF 8 1 (tyX8 1) (.ref (r + 1)) (.int x) (ps r rest z c) = some (ps r rest z (setI c 1 1 x)) := pF_i (j := 1) rfl rfl rfl
theorem pg_tools_ladderName : gF 8 2 (.ref (r + 1)) (ps r rest z c) = some (.ref (r + 2)) := gF_s (j := 1) rfl rfl
theorem pg_tools_ladderLength : gF 8 3 (.ref (r + 1)) (ps r rest z c) = some (.ref (r + 3)) := gF_s (j := 1) rfl rfl
theorem pg_tools_poleName : gF 8 4 (.ref (r + 1)) (ps r rest z c) = some (.ref (r + 4)) := gF_s (j := 1) rfl rfl
theorem pg_tools_poleLength : gF 8 5 (.ref (r + 1)) (ps r rest z c) = some (.ref (r + 5)) := gF_s (j := 1) rfl rfl
theorem pg_tools_poleBend : gF 8 6 (.ref (r + 1)) (ps r rest z c) = some (.ref (r + 6)) := gF_s (j := 1) rfl rfl
theorem pV_tools {f : XF} {as : List Value} : fV 8 f ((.ref (r + 1)) :: as) (ps r rest z c) = f ((.ref (r + 1)) :: as) (ps r rest z c) := fV_b (j := 1) (ks := [0, 0, 4, 5, 6, 7, 8]) rfl
theorem pl_ladderName {i : Int32} : arI .int (.ref (r + 2)) (.int i) (ps r rest z c) = if ¬ (i < 0 ∨ 4 ≤ i.toNatClampNeg) then some (.int (c.1 2 i.toNatClampNeg)) else none := arI_b (j := 2) rfl
theorem pt_ladderName {i x : Int32} : asI (.ref (r + 2)) (.int i) (.int x) (ps r rest z c) = if ¬ (i < 0 ∨ 4 ≤ i.toNatClampNeg) then some (ps r rest z (setI c 2 i.toNatClampNeg x)) else none := asI_b (j := 2) rfl
theorem pn_ladderName : arN (.ref (r + 2)) (ps r rest z c) = some (.int 4) := arN_b (j := 2) (ty := .int) rfl
theorem pl_ladderLength {i : Int32} : arI .int (.ref (r + 3)) (.int i) (ps r rest z c) = if ¬ (i < 0 ∨ 4 ≤ i.toNatClampNeg) then some (.int (c.1 3 i.toNatClampNeg)) else none := arI_b (j := 3) rfl
theorem pt_ladderLength {i x : Int32} : asI (.ref (r + 3)) (.int i) (.int x) (ps r rest z c) = if ¬ (i < 0 ∨ 4 ≤ i.toNatClampNeg) then some (ps r rest z (setI c 3 i.toNatClampNeg x)) else none := asI_b (j := 3) rfl
theorem pn_ladderLength : arN (.ref (r + 3)) (ps r rest z c) = some (.int 4) := arN_b (j := 3) (ty := .int) rfl
theorem pl_poleName {i : Int32} : arI .int (.ref (r + 4)) (.int i) (ps r rest z c) = if ¬ (i < 0 ∨ 3 ≤ i.toNatClampNeg) then some (.int (c.1 4 i.toNatClampNeg)) else none := arI_b (j := 4) rfl
theorem pt_poleName {i x : Int32} : asI (.ref (r + 4)) (.int i) (.int x) (ps r rest z c) = if ¬ (i < 0 ∨ 3 ≤ i.toNatClampNeg) then some (ps r rest z (setI c 4 i.toNatClampNeg x)) else none := asI_b (j := 4) rfl
theorem pn_poleName : arN (.ref (r + 4)) (ps r rest z c) = some (.int 3) := arN_b (j := 4) (ty := .int) rfl
theorem pl_poleLength {i : Int32} : arI .int (.ref (r + 5)) (.int i) (ps r rest z c) = if ¬ (i < 0 ∨ 3 ≤ i.toNatClampNeg) then some (.int (c.1 5 i.toNatClampNeg)) else none := arI_b (j := 5) rfl
theorem pt_poleLength {i x : Int32} : asI (.ref (r + 5)) (.int i) (.int x) (ps r rest z c) = if ¬ (i < 0 ∨ 3 ≤ i.toNatClampNeg) then some (ps r rest z (setI c 5 i.toNatClampNeg x)) else none := asI_b (j := 5) rfl
theorem pn_poleLength : arN (.ref (r + 5)) (ps r rest z c) = some (.int 3) := arN_b (j := 5) (ty := .int) rfl
theorem pl_poleBend {i : Int32} : arI .int (.ref (r + 6)) (.int i) (ps r rest z c) = if ¬ (i < 0 ∨ 3 ≤ i.toNatClampNeg) then some (.int (c.1 6 i.toNatClampNeg)) else none := arI_b (j := 6) rfl
theorem pt_poleBend {i x : Int32} : asI (.ref (r + 6)) (.int i) (.int x) (ps r rest z c) = if ¬ (i < 0 ∨ 3 ≤ i.toNatClampNeg) then some (ps r rest z (setI c 6 i.toNatClampNeg x)) else none := asI_b (j := 6) rfl
theorem pn_poleBend : arN (.ref (r + 6)) (ps r rest z c) = some (.int 3) := arN_b (j := 6) (ty := .int) rfl
theorem pl_front {i : Int32} : arR RX3 (.ref (r + 7)) (.int i) (ps r rest z c) = if ¬ (i < 0 ∨ 5 ≤ i.toNatClampNeg) then some (va_rf (c.2.2 7 i.toNatClampNeg)) else none := arR_b (j := 7) rfl
theorem pl_man {i : Int32} : arR RX5 (.ref (r + 8)) (.int i) (ps r rest z c) = if ¬ (i < 0 ∨ 3 ≤ i.toNatClampNeg) then some (va_rf (c.2.2 8 i.toNatClampNeg)) else none := arR_b (j := 8) rfl
theorem pl_house {i : Int32} : arR RX4 (.ref (r + 9)) (.int i) (ps r rest z c) = if ¬ (i < 0 ∨ 10 ≤ i.toNatClampNeg) then some (va_rf (c.2.2 9 i.toNatClampNeg)) else none := arR_b (j := 9) rfl
theorem pl_wet {i : Int32} : arZ (.ref (r + 10)) (.int i) (ps r rest z c) = if ¬ (i < 0 ∨ 200 ≤ i.toNatClampNeg) then some (.int (c.1 10 i.toNatClampNeg)) else none := arZ_b (j := 10) (ty := .boolean) rfl (Or.inr rfl)
theorem pt_wet {i x : Int32} : asZ (.ref (r + 10)) (.int i) (.int x) (ps r rest z c) = if ¬ (i < 0 ∨ 200 ≤ i.toNatClampNeg) then some (ps r rest z (setI c 10 i.toNatClampNeg (vp_nar .boolean x))) else none := asZ_b (j := 10) (ty := .boolean) rfl (Or.inr rfl)
theorem pn_wet : arN (.ref (r + 10)) (ps r rest z c) = some (.int 200) := arN_b (j := 10) (ty := .boolean) rfl
theorem pg_complain_size : gF 2 0 (.ref (r + 11)) (ps r rest z c) = some (.int (c.1 11 0)) := gF_i (j := 11) rfl rfl
theorem pp_complain_size {x : Int32} : pF 2 0 (tyX2 0) (.ref (r + 11)) (.int x) (ps r rest z c) = some (ps r rest z (setI c 11 0 x)) := pF_i (j := 11) rfl rfl rfl
theorem pg_complain_knot : gF 2 1 (.ref (r + 11)) (ps r rest z c) = some (.ref (r + 12)) := gF_s (j := 11) rfl rfl
theorem pV_complain {f : XF} {as : List Value} : fV 2 f ((.ref (r + 11)) :: as) (ps r rest z c) = f ((.ref (r + 11)) :: as) (ps r rest z c) := fV_b (j := 11) (ks := [0, 14]) rfl
theorem pl_cknot {i : Int32} : arI .int (.ref (r + 12)) (.int i) (ps r rest z c) = if ¬ (i < 0 ∨ 64 ≤ i.toNatClampNeg) then some (.int (c.1 12 i.toNatClampNeg)) else none := arI_b (j := 12) rfl
theorem pt_cknot {i x : Int32} : asI (.ref (r + 12)) (.int i) (.int x) (ps r rest z c) = if ¬ (i < 0 ∨ 64 ≤ i.toNatClampNeg) then some (ps r rest z (setI c 12 i.toNatClampNeg x)) else none := asI_b (j := 12) rfl
theorem pn_cknot : arN (.ref (r + 12)) (ps r rest z c) = some (.int 64) := arN_b (j := 12) (ty := .int) rfl
theorem pg_trust_size : gF 2 0 (.ref (r + 13)) (ps r rest z c) = some (.int (c.1 13 0)) := gF_i (j := 13) rfl rfl
theorem pp_trust_size {x : Int32} : pF 2 0 (tyX2 0) (.ref (r + 13)) (.int x) (ps r rest z c) = some (ps r rest z (setI c 13 0 x)) := pF_i (j := 13) rfl rfl rfl
theorem pg_trust_knot : gF 2 1 (.ref (r + 13)) (ps r rest z c) = some (.ref (r + 14)) := gF_s (j := 13) rfl rfl
theorem pV_trust {f : XF} {as : List Value} : fV 2 f ((.ref (r + 13)) :: as) (ps r rest z c) = f ((.ref (r + 13)) :: as) (ps r rest z c) := fV_b (j := 13) (ks := [0, 16]) rfl
theorem pl_tknot {i : Int32} : arI .int (.ref (r + 14)) (.int i) (ps r rest z c) = if ¬ (i < 0 ∨ 64 ≤ i.toNatClampNeg) then some (.int (c.1 14 i.toNatClampNeg)) else none := arI_b (j := 14) rfl
theorem pt_tknot {i x : Int32} : asI (.ref (r + 14)) (.int i) (.int x) (ps r rest z c) = if ¬ (i < 0 ∨ 64 ≤ i.toNatClampNeg) then some (ps r rest z (setI c 14 i.toNatClampNeg x)) else none := asI_b (j := 14) rfl
theorem pn_tknot : arN (.ref (r + 14)) (ps r rest z c) = some (.int 64) := arN_b (j := 14) (ty := .int) rfl
theorem pLay_front {q : Nat} (h : q < 5) : pLay[15 + 3 * q]? = some (.inr (3, [0, 0, 0, 0, 0, 0, 18 + 3 * q, 19 + 3 * q])) ∧ pLay[15 + 3 * q + 1]? = some (.inl (.int, 12)) ∧ pLay[15 + 3 * q + 2]? = some (.inl (.int, 12)) := by
  rcases q with _ | _ | _ | _ | _ | q
  · exact ⟨rfl, rfl, rfl⟩
  · exact ⟨rfl, rfl, rfl⟩
  · exact ⟨rfl, rfl, rfl⟩
  · exact ⟨rfl, rfl, rfl⟩
  · exact ⟨rfl, rfl, rfl⟩
  · omega
theorem pLay_man {q : Nat} (h : q < 3) : pLay[30 + q]? = some (.inr (5, [0, 0, 0, 0])) := by
  rcases q with _ | _ | _ | q
  · rfl
  · rfl
  · rfl
  · omega
theorem pLay_house {q : Nat} (h : q < 10) : pLay[33 + q]? = some (.inr (4, [0, 0, 0, 0, 0, 0, 0, 0, 0, 0, 0])) := by
  rcases q with _ | _ | _ | _ | _ | _ | _ | _ | _ | _ | q
  · rfl
  · rfl
  · rfl
  · rfl
  · rfl
  · rfl
  · rfl
  · rfl
  · rfl
  · rfl
  · omega
theorem pg_front_name {q : Nat} (h : q < 5) : gF 3 0 (.ref (r + (15 + 3 * q))) (ps r rest z c) = some (.int (c.1 (15 + 3 * q) 0)) := gF_i (pLay_front h).1 rfl
theorem pp_front_name {q : Nat} {x : Int32} (h : q < 5) : pF 3 0 (tyX3 0) (.ref (r + (15 + 3 * q))) (.int x) (ps r rest z c) = some (ps r rest z (setI c (15 + 3 * q) 0 x)) := pF_i (pLay_front h).1 rfl rfl
theorem pg_front_wide {q : Nat} (h : q < 5) : gF 3 1 (.ref (r + (15 + 3 * q))) (ps r rest z c) = some (.int (c.1 (15 + 3 * q) 1)) := gF_i (pLay_front h).1 rfl
theorem pp_front_wide {q : Nat} {x : Int32} (h : q < 5) : pF 3 1 (tyX3 1) (.ref (r + (15 + 3 * q))) (.int x) (ps r rest z c) = some (ps r rest z (setI c (15 + 3 * q) 1 x)) := pF_i (pLay_front h).1 rfl rfl
theorem pg_front_high {q : Nat} (h : q < 5) : gF 3 2 (.ref (r + (15 + 3 * q))) (ps r rest z c) = some (.int (c.1 (15 + 3 * q) 2)) := gF_i (pLay_front h).1 rfl
theorem pp_front_high {q : Nat} {x : Int32} (h : q < 5) : pF 3 2 (tyX3 2) (.ref (r + (15 + 3 * q))) (.int x) (ps r rest z c) = some (ps r rest z (setI c (15 + 3 * q) 2 x)) := pF_i (pLay_front h).1 rfl rfl
theorem pg_front_panes {q : Nat} (h : q < 5) : gF 3 3 (.ref (r + (15 + 3 * q))) (ps r rest z c) = some (.int (c.1 (15 + 3 * q) 3)) := gF_i (pLay_front h).1 rfl
theorem pp_front_panes {q : Nat} {x : Int32} (h : q < 5) : pF 3 3 (tyX3 3) (.ref (r + (15 + 3 * q))) (.int x) (ps r rest z c) = some (ps r rest z (setI c (15 + 3 * q) 3 x)) := pF_i (pLay_front h).1 rfl rfl
theorem pg_front_blocked {q : Nat} (h : q < 5) : gF 3 4 (.ref (r + (15 + 3 * q))) (ps r rest z c) = some (.int (c.1 (15 + 3 * q) 4)) := gF_i (pLay_front h).1 rfl
theorem pp_front_blocked {q : Nat} {x : Int32} (h : q < 5) : pF 3 4 (tyX3 4) (.ref (r + (15 + 3 * q))) (.int x) (ps r rest z c) = some (ps r rest z (setI c (15 + 3 * q) 4 x)) := pF_i (pLay_front h).1 rfl rfl
theorem pg_front_soft {q : Nat} (h : q < 5) : gF 3 5 (.ref (r + (15 + 3 * q))) (ps r rest z c) = some (.int (c.1 (15 + 3 * q) 5)) := gF_i (pLay_front h).1 rfl
theorem pp_front_soft {q : Nat} {x : Int32} (h : q < 5) : pF 3 5 (tyX3 5) (.ref (r + (15 + 3 * q))) (.int x) (ps r rest z c) = some (ps r rest z (setI c (15 + 3 * q) 5 x)) := pF_i (pLay_front h).1 rfl rfl
theorem pg_front_column {q : Nat} (h : q < 5) : gF 3 6 (.ref (r + (15 + 3 * q))) (ps r rest z c) = some (.ref (r + (15 + 3 * q + 1))) := by have e := gF_s (r := r) (c := c) (rest := rest) (z := z) (pLay_front h).1 (k := 6) (o := 16 + 3 * q) (by show 18 + 3 * q = _; omega); rw [show (15 + 3 * q) + 1 = 16 + 3 * q by omega]; exact e
theorem pg_front_height {q : Nat} (h : q < 5) : gF 3 7 (.ref (r + (15 + 3 * q))) (ps r rest z c) = some (.ref (r + (15 + 3 * q + 2))) := by have e := gF_s (r := r) (c := c) (rest := rest) (z := z) (pLay_front h).1 (k := 7) (o := 17 + 3 * q) (by show 19 + 3 * q = _; omega); rw [show (15 + 3 * q) + 2 = 17 + 3 * q by omega]; exact e
theorem pV_front {q : Nat} {f : XF} {as : List Value} (h : q < 5) : fV 3 f ((.ref (r + (15 + 3 * q))) :: as) (ps r rest z c) = f ((.ref (r + (15 + 3 * q))) :: as) (ps r rest z c) := fV_b (pLay_front h).1
theorem pg_man_name {q : Nat} (h : q < 3) : gF 5 0 (.ref (r + (30 + q))) (ps r rest z c) = some (.int (c.1 (30 + q) 0)) := gF_i (pLay_man h) rfl
theorem pp_man_name {q : Nat} {x : Int32} (h : q < 3) : pF 5 0 (tyX5 0) (.ref (r + (30 + q))) (.int x) (ps r rest z c) = some (ps r rest z (setI c (30 + q) 0 x)) := pF_i (pLay_man h) rfl rfl
theorem pg_man_street {q : Nat} (h : q < 3) : gF 5 1 (.ref (r + (30 + q))) (ps r rest z c) = some (.int (c.1 (30 + q) 1)) := gF_i (pLay_man h) rfl
theorem pp_man_street {q : Nat} {x : Int32} (h : q < 3) : pF 5 1 (tyX5 1) (.ref (r + (30 + q))) (.int x) (ps r rest z c) = some (ps r rest z (setI c (30 + q) 1 x)) := pF_i (pLay_man h) rfl rfl
theorem pg_man_place {q : Nat} (h : q < 3) : gF 5 2 (.ref (r + (30 + q))) (ps r rest z c) = some (.int (c.1 (30 + q) 2)) := gF_i (pLay_man h) rfl
theorem pp_man_place {q : Nat} {x : Int32} (h : q < 3) : pF 5 2 (tyX5 2) (.ref (r + (30 + q))) (.int x) (ps r rest z c) = some (ps r rest z (setI c (30 + q) 2 x)) := pF_i (pLay_man h) rfl rfl
theorem pg_man_minutes {q : Nat} (h : q < 3) : gF 5 3 (.ref (r + (30 + q))) (ps r rest z c) = some (.int (c.1 (30 + q) 3)) := gF_i (pLay_man h) rfl
theorem pp_man_minutes {q : Nat} {x : Int32} (h : q < 3) : pF 5 3 (tyX5 3) (.ref (r + (30 + q))) (.int x) (ps r rest z c) = some (ps r rest z (setI c (30 + q) 3 x)) := pF_i (pLay_man h) rfl rfl
theorem pV_man {q : Nat} {f : XF} {as : List Value} (h : q < 3) : fV 5 f ((.ref (r + (30 + q))) :: as) (ps r rest z c) = f ((.ref (r + (30 + q))) :: as) (ps r rest z c) := fV_b (pLay_man h)
theorem pg_house_name {q : Nat} (h : q < 10) : gF 4 0 (.ref (r + (33 + q))) (ps r rest z c) = some (.int (c.1 (33 + q) 0)) := gF_i (pLay_house h) rfl
theorem pp_house_name {q : Nat} {x : Int32} (h : q < 10) : pF 4 0 (tyX4 0) (.ref (r + (33 + q))) (.int x) (ps r rest z c) = some (ps r rest z (setI c (33 + q) 0 x)) := pF_i (pLay_house h) rfl rfl
theorem pg_house_front {q : Nat} (h : q < 10) : gF 4 1 (.ref (r + (33 + q))) (ps r rest z c) = some (.int (c.1 (33 + q) 1)) := gF_i (pLay_house h) rfl
theorem pp_house_front {q : Nat} {x : Int32} (h : q < 10) : pF 4 1 (tyX4 1) (.ref (r + (33 + q))) (.int x) (ps r rest z c) = some (ps r rest z (setI c (33 + q) 1 x)) := pF_i (pLay_house h) rfl rfl
theorem pg_house_man {q : Nat} (h : q < 10) : gF 4 2 (.ref (r + (33 + q))) (ps r rest z c) = some (.int (c.1 (33 + q) 2)) := gF_i (pLay_house h) rfl
theorem pp_house_man {q : Nat} {x : Int32} (h : q < 10) : pF 4 2 (tyX4 2) (.ref (r + (33 + q))) (.int x) (ps r rest z c) = some (ps r rest z (setI c (33 + q) 2 x)) := pF_i (pLay_house h) rfl rfl
theorem pg_house_street {q : Nat} (h : q < 10) : gF 4 3 (.ref (r + (33 + q))) (ps r rest z c) = some (.int (c.1 (33 + q) 3)) := gF_i (pLay_house h) rfl
theorem pp_house_street {q : Nat} {x : Int32} (h : q < 10) : pF 4 3 (tyX4 3) (.ref (r + (33 + q))) (.int x) (ps r rest z c) = some (ps r rest z (setI c (33 + q) 3 x)) := pF_i (pLay_house h) rfl rfl
theorem pg_house_place {q : Nat} (h : q < 10) : gF 4 4 (.ref (r + (33 + q))) (ps r rest z c) = some (.int (c.1 (33 + q) 4)) := gF_i (pLay_house h) rfl
theorem pp_house_place {q : Nat} {x : Int32} (h : q < 10) : pF 4 4 (tyX4 4) (.ref (r + (33 + q))) (.int x) (ps r rest z c) = some (ps r rest z (setI c (33 + q) 4 x)) := pF_i (pLay_house h) rfl rfl
theorem pg_house_every {q : Nat} (h : q < 10) : gF 4 5 (.ref (r + (33 + q))) (ps r rest z c) = some (.int (c.1 (33 + q) 5)) := gF_i (pLay_house h) rfl
theorem pp_house_every {q : Nat} {x : Int32} (h : q < 10) : pF 4 5 (tyX4 5) (.ref (r + (33 + q))) (.int x) (ps r rest z c) = some (ps r rest z (setI c (33 + q) 5 x)) := pF_i (pLay_house h) rfl rfl
theorem pg_house_wont {q : Nat} (h : q < 10) : gF 4 6 (.ref (r + (33 + q))) (ps r rest z c) = some (.int (c.1 (33 + q) 6)) := gF_i (pLay_house h) rfl
theorem pp_house_wont {q : Nat} {x : Int32} (h : q < 10) : pF 4 6 (tyX4 6) (.ref (r + (33 + q))) (.int x) (ps r rest z c) = some (ps r rest z (setI c (33 + q) 6 x)) := pF_i (pLay_house h) rfl rfl
theorem pg_house_price {q : Nat} (h : q < 10) : gF 4 7 (.ref (r + (33 + q))) (ps r rest z c) = some (.int (c.1 (33 + q) 7)) := gF_i (pLay_house h) rfl
theorem pp_house_price {q : Nat} {x : Int32} (h : q < 10) : pF 4 7 (tyX4 7) (.ref (r + (33 + q))) (.int x) (ps r rest z c) = some (ps r rest z (setI c (33 + q) 7 x)) := pF_i (pLay_house h) rfl rfl
theorem pg_house_dog {q : Nat} (h : q < 10) : gF 4 8 (.ref (r + (33 + q))) (ps r rest z c) = some (.int (c.1 (33 + q) 8)) := gF_i (pLay_house h) rfl
theorem pp_house_dog0 {q : Nat} (h : q < 10) : pF 4 8 (tyX4 8) (.ref (r + (33 + q))) (.int 0) (ps r rest z c) = some (ps r rest z (setI c (33 + q) 8 0)) := pF_i (pLay_house h) rfl rfl
theorem pp_house_dog1 {q : Nat} (h : q < 10) : pF 4 8 (tyX4 8) (.ref (r + (33 + q))) (.int 1) (ps r rest z c) = some (ps r rest z (setI c (33 + q) 8 1)) := pF_i (pLay_house h) rfl rfl
theorem pg_house_from {q : Nat} (h : q < 10) : gF 4 9 (.ref (r + (33 + q))) (ps r rest z c) = some (.int (c.1 (33 + q) 9)) := gF_i (pLay_house h) rfl
theorem pp_house_from {q : Nat} {x : Int32} (h : q < 10) : pF 4 9 (tyX4 9) (.ref (r + (33 + q))) (.int x) (ps r rest z c) = some (ps r rest z (setI c (33 + q) 9 x)) := pF_i (pLay_house h) rfl rfl
theorem pg_house_opens {q : Nat} (h : q < 10) : gF 4 10 (.ref (r + (33 + q))) (ps r rest z c) = some (.int (c.1 (33 + q) 10)) := gF_i (pLay_house h) rfl
theorem pp_house_opens {q : Nat} {x : Int32} (h : q < 10) : pF 4 10 (tyX4 10) (.ref (r + (33 + q))) (.int x) (ps r rest z c) = some (ps r rest z (setI c (33 + q) 10 x)) := pF_i (pLay_house h) rfl rfl
theorem pV_house {q : Nat} {f : XF} {as : List Value} (h : q < 10) : fV 4 f ((.ref (r + (33 + q))) :: as) (ps r rest z c) = f ((.ref (r + (33 + q))) :: as) (ps r rest z c) := fV_b (pLay_house h)
theorem pl_front_column {q : Nat} {i : Int32} (h : q < 5) : arI .int (.ref (r + (15 + 3 * q + 1))) (.int i) (ps r rest z c) = if ¬ (i < 0 ∨ 12 ≤ i.toNatClampNeg) then some (.int (c.1 (15 + 3 * q + 1) i.toNatClampNeg)) else none := arI_b (pLay_front h).2.1
theorem pt_front_column {q : Nat} {i x : Int32} (h : q < 5) : asI (.ref (r + (15 + 3 * q + 1))) (.int i) (.int x) (ps r rest z c) = if ¬ (i < 0 ∨ 12 ≤ i.toNatClampNeg) then some (ps r rest z (setI c (15 + 3 * q + 1) i.toNatClampNeg x)) else none := asI_b (pLay_front h).2.1
theorem pl_front_height {q : Nat} {i : Int32} (h : q < 5) : arI .int (.ref (r + (15 + 3 * q + 2))) (.int i) (ps r rest z c) = if ¬ (i < 0 ∨ 12 ≤ i.toNatClampNeg) then some (.int (c.1 (15 + 3 * q + 2) i.toNatClampNeg)) else none := arI_b (pLay_front h).2.2
theorem pt_front_height {q : Nat} {i x : Int32} (h : q < 5) : asI (.ref (r + (15 + 3 * q + 2))) (.int i) (.int x) (ps r rest z c) = if ¬ (i < 0 ∨ 12 ≤ i.toNatClampNeg) then some (ps r rest z (setI c (15 + 3 * q + 2) i.toNatClampNeg x)) else none := asI_b (pLay_front h).2.2
end Acc_p
--
def rLay : LY := [.inr (7, [0, 0, 0, 3, 4, 5, 0, 0, 0, 0, 0, 1, 6, 0, 0]), .inl (.int, 901), .inl (.int, 901), .inl (.int, 901), .inl (.int, 72)]
def rs (r : Nat) (rest : HP) (z : Nat × Nat) (c : BC) : ST := (bOv r rLay c rest, z)
section Acc_r
variable {r : Nat} {c : BC} {rest : HP} {z : Nat × Nat}
theorem rg_fault : gF 7 0 (.ref r) (rs r rest z c) = some (.int (c.1 0 0)) := gF_i (j := 0) rfl rfl
theorem rp_fault {x : Int32} : pF 7 0 (tyX7 0) (.ref r) (.int x) (rs r rest z c) = some (rs r rest z (setI c 0 0 x)) := pF_i (j := 0) rfl rfl rfl
theorem rg_faultPlace : gF 7 1 (.ref r) (rs r rest z c) = some (.int (c.1 0 1)) := gF_i (j := 0) rfl rfl
theorem rp_faultPlace {x : Int32} : pF 7 1 (tyX7 1) (.ref r) (.int x) (rs r rest z c) = some (rs r rest z (setI c 0 1 x)) := pF_i (j := 0) rfl rfl rfl
theorem rg_length : gF 7 2 (.ref r) (rs r rest z c) = some (.int (c.1 0 2)) := gF_i (j := 0) rfl rfl
theorem rp_length {x : Int32} : pF 7 2 (tyX7 2) (.ref r) (.int x) (rs r rest z c) = some (rs r rest z (setI c 0 2 x)) := pF_i (j := 0) rfl rfl rfl
theorem rg_kinds : gF 7 3 (.ref r) (rs r rest z c) = some (.ref (r + 1)) := gF_s (j := 0) rfl rfl
theorem rg_starts : gF 7 4 (.ref r) (rs r rest z c) = some (.ref (r + 2)) := gF_s (j := 0) rfl rfl
theorem rg_values : gF 7 5 (.ref r) (rs r rest z c) = some (.ref (r + 3)) := gF_s (j := 0) rfl rfl
theorem rg_tokens : gF 7 6 (.ref r) (rs r rest z c) = some (.int (c.1 0 6)) := gF_i (j := 0) rfl rfl
theorem rp_tokens {x : Int32} : pF 7 6 (tyX7 6) (.ref r) (.int x) (rs r rest z c) = some (rs r rest z (setI c 0 6 x)) := pF_i (j := 0) rfl rfl rfl
theorem rg_token : gF 7 7 (.ref r) (rs r rest z c) = some (.int (c.1 0 7)) := gF_i (j := 0) rfl rfl
theorem rp_token {x : Int32} : pF 7 7 (tyX7 7) (.ref r) (.int x) (rs r rest z c) = some (rs r rest z (setI c 0 7 x)) := pF_i (j := 0) rfl rfl rfl
theorem rg_kind : gF 7 8 (.ref r) (rs r rest z c) = some (.int (c.1 0 8)) := gF_i (j := 0) rfl rfl
theorem rp_kind {x : Int32} : pF 7 8 (tyX7 8) (.ref r) (.int x) (rs r rest z c) = some (rs r rest z (setI c 0 8 x)) := pF_i (j := 0) rfl rfl rfl
theorem rg_value : gF 7 9 (.ref r) (rs r rest z c) = some (.int (c.1 0 9)) := gF_i (j := 0) rfl rfl
theorem rp_value {x : Int32} : pF 7 9 (tyX7 9) (.ref r) (.int x) (rs r rest z c) = some (rs r rest z (setI c 0 9 x)) := pF_i (j := 0) rfl rfl rfl
theorem rg_got : gF 7 10 (.ref r) (rs r rest z c) = some (.int (c.1 0 10)) := gF_i (j := 0) rfl rfl
theorem rp_got {x : Int32} : pF 7 10 (tyX7 10) (.ref r) (.int x) (rs r rest z c) = some (rs r rest z (setI c 0 10 x)) := pF_i (j := 0) rfl rfl rfl
theorem rg_plan : gF 7 11 (.ref r) (rs r rest z c) = some (va_rf (c.2.2 0 11)) := gF_r (j := 0) rfl rfl
theorem rp_plan {x : Nat} : pF 7 11 (tyX7 11) (.ref r) (.ref x) (rs r rest z c) = some (rs r rest z (setR c 0 11 (some x))) := pF_r (x := some x) (j := 0) rfl rfl rfl
theorem rg_waiting : gF 7 12 (.ref r) (rs r rest z c) = some (.ref (r + 4)) := gF_s (j := 0) rfl rfl
theorem rg_waitings : gF 7 13 (.ref r) (rs r rest z c) = some (.int (c.1 0 13)) := gF_i (j := 0) rfl rfl
theorem rp_waitings {x : Int32} : pF 7 13 (tyX7 13) (.ref r) (.int x) (rs r rest z c) = some (rs r rest z (setI c 0 13 x)) := pF_i (j := 0) rfl rfl rfl
theorem rg_open : gF 7 14 (.ref r) (rs r rest z c) = some (.int (c.1 0 14)) := gF_i (j := 0) rfl rfl
theorem rp_open {x : Int32} : pF 7 14 (tyX7 14) (.ref r) (.int x) (rs r rest z c) = some (rs r rest z (setI c 0 14 x)) := pF_i (j := 0) rfl rfl rfl
theorem rV_reader {f : XF} {as : List Value} : fV 7 f ((.ref r) :: as) (rs r rest z c) = f ((.ref r) :: as) (rs r rest z c) := fV_b (j := 0) (ks := [0, 0, 0, 3, 4, 5, 0, 0, 0, 0, 0, 1, 6, 0, 0]) rfl
theorem rl_kinds {i : Int32} : arI .int (.ref (r + 1)) (.int i) (rs r rest z c) = if ¬ (i < 0 ∨ 901 ≤ i.toNatClampNeg) then some (.int (c.1 1 i.toNatClampNeg)) else none := arI_b (j := 1) rfl
theorem rt_kinds {i x : Int32} : asI (.ref (r + 1)) (.int i) (.int x) (rs r rest z c) = if ¬ (i < 0 ∨ 901 ≤ i.toNatClampNeg) then some (rs r rest z (setI c 1 i.toNatClampNeg x)) else none := asI_b (j := 1) rfl
theorem rn_kinds : arN (.ref (r + 1)) (rs r rest z c) = some (.int 901) := arN_b (j := 1) (ty := .int) rfl
theorem rl_starts {i : Int32} : arI .int (.ref (r + 2)) (.int i) (rs r rest z c) = if ¬ (i < 0 ∨ 901 ≤ i.toNatClampNeg) then some (.int (c.1 2 i.toNatClampNeg)) else none := arI_b (j := 2) rfl
theorem rt_starts {i x : Int32} : asI (.ref (r + 2)) (.int i) (.int x) (rs r rest z c) = if ¬ (i < 0 ∨ 901 ≤ i.toNatClampNeg) then some (rs r rest z (setI c 2 i.toNatClampNeg x)) else none := asI_b (j := 2) rfl
theorem rn_starts : arN (.ref (r + 2)) (rs r rest z c) = some (.int 901) := arN_b (j := 2) (ty := .int) rfl
theorem rl_values {i : Int32} : arI .int (.ref (r + 3)) (.int i) (rs r rest z c) = if ¬ (i < 0 ∨ 901 ≤ i.toNatClampNeg) then some (.int (c.1 3 i.toNatClampNeg)) else none := arI_b (j := 3) rfl
theorem rt_values {i x : Int32} : asI (.ref (r + 3)) (.int i) (.int x) (rs r rest z c) = if ¬ (i < 0 ∨ 901 ≤ i.toNatClampNeg) then some (rs r rest z (setI c 3 i.toNatClampNeg x)) else none := asI_b (j := 3) rfl
theorem rn_values : arN (.ref (r + 3)) (rs r rest z c) = some (.int 901) := arN_b (j := 3) (ty := .int) rfl
theorem rl_waiting {i : Int32} : arI .int (.ref (r + 4)) (.int i) (rs r rest z c) = if ¬ (i < 0 ∨ 72 ≤ i.toNatClampNeg) then some (.int (c.1 4 i.toNatClampNeg)) else none := arI_b (j := 4) rfl
theorem rt_waiting {i x : Int32} : asI (.ref (r + 4)) (.int i) (.int x) (rs r rest z c) = if ¬ (i < 0 ∨ 72 ≤ i.toNatClampNeg) then some (rs r rest z (setI c 4 i.toNatClampNeg x)) else none := asI_b (j := 4) rfl
theorem rn_waiting : arN (.ref (r + 4)) (rs r rest z c) = some (.int 72) := arN_b (j := 4) (ty := .int) rfl
end Acc_r
--
def kLay : LY := [.inr (0, [0, 0, 3, 4, 5, 6, 7, 8, 9, 10, 11, 12, 13, 14, 15, 16]), .inl (.int, 10), .inl (.int, 10), .inl (.int, 10), .inl (.int, 10), .inl (.int, 10), .inl (.boolean, 10), .inl (.int, 10), .inl (.int, 10), .inl (.int, 200), .inl (.long, 600), .inl (.int, 60), .inl (.int, 60), .inl (.int, 60), .inl (.boolean, 60)]
def ks (r : Nat) (rest : HP) (z : Nat × Nat) (c : BC) : ST := (bOv r kLay c rest, z)
section Acc_k
variable {r : Nat} {c : BC} {rest : HP} {z : Nat × Nat}
theorem kg_next : gF 0 0 (.ref r) (ks r rest z c) = some (.int (c.1 0 0)) := gF_i (j := 0) rfl rfl
theorem kp_next {x : Int32} : pF 0 0 (tyX0 0) (.ref r) (.int x) (ks r rest z c) = some (ks r rest z (setI c 0 0 x)) := pF_i (j := 0) rfl rfl rfl
theorem kg_notes : gF 0 1 (.ref r) (ks r rest z c) = some (.int (c.1 0 1)) := gF_i (j := 0) rfl rfl
theorem kp_notes {x : Int32} : pF 0 1 (tyX0 1) (.ref r) (.int x) (ks r rest z c) = some (ks r rest z (setI c 0 1 x)) := pF_i (j := 0) rfl rfl rfl
theorem kg_man : gF 0 2 (.ref r) (ks r rest z c) = some (.ref (r + 1)) := gF_s (j := 0) rfl rfl
theorem kg_due : gF 0 3 (.ref r) (ks r rest z c) = some (.ref (r + 2)) := gF_s (j := 0) rfl rfl
theorem kg_times : gF 0 4 (.ref r) (ks r rest z c) = some (.ref (r + 3)) := gF_s (j := 0) rfl rfl
theorem kg_letters : gF 0 5 (.ref r) (ks r rest z c) = some (.ref (r + 4)) := gF_s (j := 0) rfl rfl
theorem kg_complaints : gF 0 6 (.ref r) (ks r rest z c) = some (.ref (r + 5)) := gF_s (j := 0) rfl rfl
theorem kg_lasting : gF 0 7 (.ref r) (ks r rest z c) = some (.ref (r + 6)) := gF_s (j := 0) rfl rfl
theorem kg_last : gF 0 8 (.ref r) (ks r rest z c) = some (.ref (r + 7)) := gF_s (j := 0) rfl rfl
theorem kg_paid : gF 0 9 (.ref r) (ks r rest z c) = some (.ref (r + 8)) := gF_s (j := 0) rfl rfl
theorem kg_wipes : gF 0 10 (.ref r) (ks r rest z c) = some (.ref (r + 9)) := gF_s (j := 0) rfl rfl
theorem kg_ways : gF 0 11 (.ref r) (ks r rest z c) = some (.ref (r + 10)) := gF_s (j := 0) rfl rfl
theorem kg_noteHouse : gF 0 12 (.ref r) (ks r rest z c) = some (.ref (r + 11)) := gF_s (j := 0) rfl rfl
theorem kg_noteSum : gF 0 13 (.ref r) (ks r rest z c) = some (.ref (r + 12)) := gF_s (j := 0) rfl rfl
theorem kg_noteStrikes : gF 0 14 (.ref r) (ks r rest z c) = some (.ref (r + 13)) := gF_s (j := 0) rfl rfl
theorem kg_struck : gF 0 15 (.ref r) (ks r rest z c) = some (.ref (r + 14)) := gF_s (j := 0) rfl rfl
theorem kV_book {f : XF} {as : List Value} : fV 0 f ((.ref r) :: as) (ks r rest z c) = f ((.ref r) :: as) (ks r rest z c) := fV_b (j := 0) (ks := [0, 0, 3, 4, 5, 6, 7, 8, 9, 10, 11, 12, 13, 14, 15, 16]) rfl
theorem kl_man {i : Int32} : arI .int (.ref (r + 1)) (.int i) (ks r rest z c) = if ¬ (i < 0 ∨ 10 ≤ i.toNatClampNeg) then some (.int (c.1 1 i.toNatClampNeg)) else none := arI_b (j := 1) rfl
theorem kt_man {i x : Int32} : asI (.ref (r + 1)) (.int i) (.int x) (ks r rest z c) = if ¬ (i < 0 ∨ 10 ≤ i.toNatClampNeg) then some (ks r rest z (setI c 1 i.toNatClampNeg x)) else none := asI_b (j := 1) rfl
theorem kn_man : arN (.ref (r + 1)) (ks r rest z c) = some (.int 10) := arN_b (j := 1) (ty := .int) rfl
theorem kl_due {i : Int32} : arI .int (.ref (r + 2)) (.int i) (ks r rest z c) = if ¬ (i < 0 ∨ 10 ≤ i.toNatClampNeg) then some (.int (c.1 2 i.toNatClampNeg)) else none := arI_b (j := 2) rfl
theorem kt_due {i x : Int32} : asI (.ref (r + 2)) (.int i) (.int x) (ks r rest z c) = if ¬ (i < 0 ∨ 10 ≤ i.toNatClampNeg) then some (ks r rest z (setI c 2 i.toNatClampNeg x)) else none := asI_b (j := 2) rfl
theorem kn_due : arN (.ref (r + 2)) (ks r rest z c) = some (.int 10) := arN_b (j := 2) (ty := .int) rfl
theorem kl_times {i : Int32} : arI .int (.ref (r + 3)) (.int i) (ks r rest z c) = if ¬ (i < 0 ∨ 10 ≤ i.toNatClampNeg) then some (.int (c.1 3 i.toNatClampNeg)) else none := arI_b (j := 3) rfl
theorem kt_times {i x : Int32} : asI (.ref (r + 3)) (.int i) (.int x) (ks r rest z c) = if ¬ (i < 0 ∨ 10 ≤ i.toNatClampNeg) then some (ks r rest z (setI c 3 i.toNatClampNeg x)) else none := asI_b (j := 3) rfl
theorem kn_times : arN (.ref (r + 3)) (ks r rest z c) = some (.int 10) := arN_b (j := 3) (ty := .int) rfl
theorem kl_letters {i : Int32} : arI .int (.ref (r + 4)) (.int i) (ks r rest z c) = if ¬ (i < 0 ∨ 10 ≤ i.toNatClampNeg) then some (.int (c.1 4 i.toNatClampNeg)) else none := arI_b (j := 4) rfl
theorem kt_letters {i x : Int32} : asI (.ref (r + 4)) (.int i) (.int x) (ks r rest z c) = if ¬ (i < 0 ∨ 10 ≤ i.toNatClampNeg) then some (ks r rest z (setI c 4 i.toNatClampNeg x)) else none := asI_b (j := 4) rfl
theorem kn_letters : arN (.ref (r + 4)) (ks r rest z c) = some (.int 10) := arN_b (j := 4) (ty := .int) rfl
theorem kl_complaints {i : Int32} : arI .int (.ref (r + 5)) (.int i) (ks r rest z c) = if ¬ (i < 0 ∨ 10 ≤ i.toNatClampNeg) then some (.int (c.1 5 i.toNatClampNeg)) else none := arI_b (j := 5) rfl
theorem kt_complaints {i x : Int32} : asI (.ref (r + 5)) (.int i) (.int x) (ks r rest z c) = if ¬ (i < 0 ∨ 10 ≤ i.toNatClampNeg) then some (ks r rest z (setI c 5 i.toNatClampNeg x)) else none := asI_b (j := 5) rfl
theorem kn_complaints : arN (.ref (r + 5)) (ks r rest z c) = some (.int 10) := arN_b (j := 5) (ty := .int) rfl
theorem kl_lasting {i : Int32} : arZ (.ref (r + 6)) (.int i) (ks r rest z c) = if ¬ (i < 0 ∨ 10 ≤ i.toNatClampNeg) then some (.int (c.1 6 i.toNatClampNeg)) else none := arZ_b (j := 6) (ty := .boolean) rfl (Or.inr rfl)
theorem kt_lasting {i x : Int32} : asZ (.ref (r + 6)) (.int i) (.int x) (ks r rest z c) = if ¬ (i < 0 ∨ 10 ≤ i.toNatClampNeg) then some (ks r rest z (setI c 6 i.toNatClampNeg (vp_nar .boolean x))) else none := asZ_b (j := 6) (ty := .boolean) rfl (Or.inr rfl)
theorem kn_lasting : arN (.ref (r + 6)) (ks r rest z c) = some (.int 10) := arN_b (j := 6) (ty := .boolean) rfl
theorem kl_last {i : Int32} : arI .int (.ref (r + 7)) (.int i) (ks r rest z c) = if ¬ (i < 0 ∨ 10 ≤ i.toNatClampNeg) then some (.int (c.1 7 i.toNatClampNeg)) else none := arI_b (j := 7) rfl
theorem kt_last {i x : Int32} : asI (.ref (r + 7)) (.int i) (.int x) (ks r rest z c) = if ¬ (i < 0 ∨ 10 ≤ i.toNatClampNeg) then some (ks r rest z (setI c 7 i.toNatClampNeg x)) else none := asI_b (j := 7) rfl
theorem kn_last : arN (.ref (r + 7)) (ks r rest z c) = some (.int 10) := arN_b (j := 7) (ty := .int) rfl
theorem kl_paid {i : Int32} : arI .int (.ref (r + 8)) (.int i) (ks r rest z c) = if ¬ (i < 0 ∨ 10 ≤ i.toNatClampNeg) then some (.int (c.1 8 i.toNatClampNeg)) else none := arI_b (j := 8) rfl
theorem kt_paid {i x : Int32} : asI (.ref (r + 8)) (.int i) (.int x) (ks r rest z c) = if ¬ (i < 0 ∨ 10 ≤ i.toNatClampNeg) then some (ks r rest z (setI c 8 i.toNatClampNeg x)) else none := asI_b (j := 8) rfl
theorem kn_paid : arN (.ref (r + 8)) (ks r rest z c) = some (.int 10) := arN_b (j := 8) (ty := .int) rfl
theorem kl_wipes {i : Int32} : arI .int (.ref (r + 9)) (.int i) (ks r rest z c) = if ¬ (i < 0 ∨ 200 ≤ i.toNatClampNeg) then some (.int (c.1 9 i.toNatClampNeg)) else none := arI_b (j := 9) rfl
theorem kt_wipes {i x : Int32} : asI (.ref (r + 9)) (.int i) (.int x) (ks r rest z c) = if ¬ (i < 0 ∨ 200 ≤ i.toNatClampNeg) then some (ks r rest z (setI c 9 i.toNatClampNeg x)) else none := asI_b (j := 9) rfl
theorem kn_wipes : arN (.ref (r + 9)) (ks r rest z c) = some (.int 200) := arN_b (j := 9) (ty := .int) rfl
theorem kl_ways {i : Int32} : arL (.ref (r + 10)) (.int i) (ks r rest z c) = if ¬ (i < 0 ∨ 600 ≤ i.toNatClampNeg) then some (.long (c.2.1 10 i.toNatClampNeg)) else none := arL_b (j := 10) rfl
theorem kt_ways {i : Int32} {x : Int64} : asL (.ref (r + 10)) (.int i) (.long x) (ks r rest z c) = if ¬ (i < 0 ∨ 600 ≤ i.toNatClampNeg) then some (ks r rest z (setL c 10 i.toNatClampNeg x)) else none := asL_b (j := 10) rfl
theorem kn_ways : arN (.ref (r + 10)) (ks r rest z c) = some (.int 600) := arN_b (j := 10) (ty := .long) rfl
theorem kl_noteHouse {i : Int32} : arI .int (.ref (r + 11)) (.int i) (ks r rest z c) = if ¬ (i < 0 ∨ 60 ≤ i.toNatClampNeg) then some (.int (c.1 11 i.toNatClampNeg)) else none := arI_b (j := 11) rfl
theorem kt_noteHouse {i x : Int32} : asI (.ref (r + 11)) (.int i) (.int x) (ks r rest z c) = if ¬ (i < 0 ∨ 60 ≤ i.toNatClampNeg) then some (ks r rest z (setI c 11 i.toNatClampNeg x)) else none := asI_b (j := 11) rfl
theorem kn_noteHouse : arN (.ref (r + 11)) (ks r rest z c) = some (.int 60) := arN_b (j := 11) (ty := .int) rfl
theorem kl_noteSum {i : Int32} : arI .int (.ref (r + 12)) (.int i) (ks r rest z c) = if ¬ (i < 0 ∨ 60 ≤ i.toNatClampNeg) then some (.int (c.1 12 i.toNatClampNeg)) else none := arI_b (j := 12) rfl
theorem kt_noteSum {i x : Int32} : asI (.ref (r + 12)) (.int i) (.int x) (ks r rest z c) = if ¬ (i < 0 ∨ 60 ≤ i.toNatClampNeg) then some (ks r rest z (setI c 12 i.toNatClampNeg x)) else none := asI_b (j := 12) rfl
theorem kn_noteSum : arN (.ref (r + 12)) (ks r rest z c) = some (.int 60) := arN_b (j := 12) (ty := .int) rfl
theorem kl_noteStrikes {i : Int32} : arI .int (.ref (r + 13)) (.int i) (ks r rest z c) = if ¬ (i < 0 ∨ 60 ≤ i.toNatClampNeg) then some (.int (c.1 13 i.toNatClampNeg)) else none := arI_b (j := 13) rfl
theorem kt_noteStrikes {i x : Int32} : asI (.ref (r + 13)) (.int i) (.int x) (ks r rest z c) = if ¬ (i < 0 ∨ 60 ≤ i.toNatClampNeg) then some (ks r rest z (setI c 13 i.toNatClampNeg x)) else none := asI_b (j := 13) rfl
theorem kn_noteStrikes : arN (.ref (r + 13)) (ks r rest z c) = some (.int 60) := arN_b (j := 13) (ty := .int) rfl
theorem kl_struck {i : Int32} : arZ (.ref (r + 14)) (.int i) (ks r rest z c) = if ¬ (i < 0 ∨ 60 ≤ i.toNatClampNeg) then some (.int (c.1 14 i.toNatClampNeg)) else none := arZ_b (j := 14) (ty := .boolean) rfl (Or.inr rfl)
theorem kt_struck {i x : Int32} : asZ (.ref (r + 14)) (.int i) (.int x) (ks r rest z c) = if ¬ (i < 0 ∨ 60 ≤ i.toNatClampNeg) then some (ks r rest z (setI c 14 i.toNatClampNeg (vp_nar .boolean x))) else none := asZ_b (j := 14) (ty := .boolean) rfl (Or.inr rfl)
theorem kn_struck : arN (.ref (r + 14)) (ks r rest z c) = some (.int 60) := arN_b (j := 14) (ty := .boolean) rfl
end Acc_k
--
def iLay : LY := [.inr (0, [0, 0, 3, 4, 5, 6, 7, 8, 9, 10, 1, 1, 1, 1, 1, 1]), .inl (.int, 10), .inl (.int, 10), .inl (.int, 10), .inl (.int, 10), .inl (.int, 10), .inl (.boolean, 10), .inl (.int, 10), .inl (.int, 10)]
def is (r : Nat) (rest : HP) (z : Nat × Nat) (c : BC) : ST := (bOv r iLay c rest, z)
section Acc_i
variable {r : Nat} {c : BC} {rest : HP} {z : Nat × Nat}
theorem ig_next : gF 0 0 (.ref r) (is r rest z c) = some (.int (c.1 0 0)) := gF_i (j := 0) rfl rfl
theorem ip_next {x : Int32} : pF 0 0 (tyX0 0) (.ref r) (.int x) (is r rest z c) = some (is r rest z (setI c 0 0 x)) := pF_i (j := 0) rfl rfl rfl
theorem ig_notes : gF 0 1 (.ref r) (is r rest z c) = some (.int (c.1 0 1)) := gF_i (j := 0) rfl rfl
theorem ip_notes {x : Int32} : pF 0 1 (tyX0 1) (.ref r) (.int x) (is r rest z c) = some (is r rest z (setI c 0 1 x)) := pF_i (j := 0) rfl rfl rfl
theorem ig_man : gF 0 2 (.ref r) (is r rest z c) = some (.ref (r + 1)) := gF_s (j := 0) rfl rfl
theorem ig_due : gF 0 3 (.ref r) (is r rest z c) = some (.ref (r + 2)) := gF_s (j := 0) rfl rfl
theorem ig_times : gF 0 4 (.ref r) (is r rest z c) = some (.ref (r + 3)) := gF_s (j := 0) rfl rfl
theorem ig_letters : gF 0 5 (.ref r) (is r rest z c) = some (.ref (r + 4)) := gF_s (j := 0) rfl rfl
theorem ig_complaints : gF 0 6 (.ref r) (is r rest z c) = some (.ref (r + 5)) := gF_s (j := 0) rfl rfl
theorem ig_lasting : gF 0 7 (.ref r) (is r rest z c) = some (.ref (r + 6)) := gF_s (j := 0) rfl rfl
theorem ig_last : gF 0 8 (.ref r) (is r rest z c) = some (.ref (r + 7)) := gF_s (j := 0) rfl rfl
theorem ig_paid : gF 0 9 (.ref r) (is r rest z c) = some (.ref (r + 8)) := gF_s (j := 0) rfl rfl
theorem ig_wipes : gF 0 10 (.ref r) (is r rest z c) = some (va_rf (c.2.2 0 10)) := gF_r (j := 0) rfl rfl
theorem ip_wipes {x : Nat} : pF 0 10 (tyX0 10) (.ref r) (.ref x) (is r rest z c) = some (is r rest z (setR c 0 10 (some x))) := pF_r (x := some x) (j := 0) rfl rfl rfl
theorem ig_ways : gF 0 11 (.ref r) (is r rest z c) = some (va_rf (c.2.2 0 11)) := gF_r (j := 0) rfl rfl
theorem ip_ways {x : Nat} : pF 0 11 (tyX0 11) (.ref r) (.ref x) (is r rest z c) = some (is r rest z (setR c 0 11 (some x))) := pF_r (x := some x) (j := 0) rfl rfl rfl
theorem ig_noteHouse : gF 0 12 (.ref r) (is r rest z c) = some (va_rf (c.2.2 0 12)) := gF_r (j := 0) rfl rfl
theorem ip_noteHouse {x : Nat} : pF 0 12 (tyX0 12) (.ref r) (.ref x) (is r rest z c) = some (is r rest z (setR c 0 12 (some x))) := pF_r (x := some x) (j := 0) rfl rfl rfl
theorem ig_noteSum : gF 0 13 (.ref r) (is r rest z c) = some (va_rf (c.2.2 0 13)) := gF_r (j := 0) rfl rfl
theorem ip_noteSum {x : Nat} : pF 0 13 (tyX0 13) (.ref r) (.ref x) (is r rest z c) = some (is r rest z (setR c 0 13 (some x))) := pF_r (x := some x) (j := 0) rfl rfl rfl
theorem ig_noteStrikes : gF 0 14 (.ref r) (is r rest z c) = some (va_rf (c.2.2 0 14)) := gF_r (j := 0) rfl rfl
theorem ip_noteStrikes {x : Nat} : pF 0 14 (tyX0 14) (.ref r) (.ref x) (is r rest z c) = some (is r rest z (setR c 0 14 (some x))) := pF_r (x := some x) (j := 0) rfl rfl rfl
theorem ig_struck : gF 0 15 (.ref r) (is r rest z c) = some (va_rf (c.2.2 0 15)) := gF_r (j := 0) rfl rfl
theorem ip_struck {x : Nat} : pF 0 15 (tyX0 15) (.ref r) (.ref x) (is r rest z c) = some (is r rest z (setR c 0 15 (some x))) := pF_r (x := some x) (j := 0) rfl rfl rfl
theorem iV_image {f : XF} {as : List Value} : fV 0 f ((.ref r) :: as) (is r rest z c) = f ((.ref r) :: as) (is r rest z c) := fV_b (j := 0) (ks := [0, 0, 3, 4, 5, 6, 7, 8, 9, 10, 1, 1, 1, 1, 1, 1]) rfl
theorem il_man {i : Int32} : arI .int (.ref (r + 1)) (.int i) (is r rest z c) = if ¬ (i < 0 ∨ 10 ≤ i.toNatClampNeg) then some (.int (c.1 1 i.toNatClampNeg)) else none := arI_b (j := 1) rfl
theorem it_man {i x : Int32} : asI (.ref (r + 1)) (.int i) (.int x) (is r rest z c) = if ¬ (i < 0 ∨ 10 ≤ i.toNatClampNeg) then some (is r rest z (setI c 1 i.toNatClampNeg x)) else none := asI_b (j := 1) rfl
theorem in_man : arN (.ref (r + 1)) (is r rest z c) = some (.int 10) := arN_b (j := 1) (ty := .int) rfl
theorem il_due {i : Int32} : arI .int (.ref (r + 2)) (.int i) (is r rest z c) = if ¬ (i < 0 ∨ 10 ≤ i.toNatClampNeg) then some (.int (c.1 2 i.toNatClampNeg)) else none := arI_b (j := 2) rfl
theorem it_due {i x : Int32} : asI (.ref (r + 2)) (.int i) (.int x) (is r rest z c) = if ¬ (i < 0 ∨ 10 ≤ i.toNatClampNeg) then some (is r rest z (setI c 2 i.toNatClampNeg x)) else none := asI_b (j := 2) rfl
theorem in_due : arN (.ref (r + 2)) (is r rest z c) = some (.int 10) := arN_b (j := 2) (ty := .int) rfl
theorem il_times {i : Int32} : arI .int (.ref (r + 3)) (.int i) (is r rest z c) = if ¬ (i < 0 ∨ 10 ≤ i.toNatClampNeg) then some (.int (c.1 3 i.toNatClampNeg)) else none := arI_b (j := 3) rfl
theorem it_times {i x : Int32} : asI (.ref (r + 3)) (.int i) (.int x) (is r rest z c) = if ¬ (i < 0 ∨ 10 ≤ i.toNatClampNeg) then some (is r rest z (setI c 3 i.toNatClampNeg x)) else none := asI_b (j := 3) rfl
theorem in_times : arN (.ref (r + 3)) (is r rest z c) = some (.int 10) := arN_b (j := 3) (ty := .int) rfl
theorem il_letters {i : Int32} : arI .int (.ref (r + 4)) (.int i) (is r rest z c) = if ¬ (i < 0 ∨ 10 ≤ i.toNatClampNeg) then some (.int (c.1 4 i.toNatClampNeg)) else none := arI_b (j := 4) rfl
theorem it_letters {i x : Int32} : asI (.ref (r + 4)) (.int i) (.int x) (is r rest z c) = if ¬ (i < 0 ∨ 10 ≤ i.toNatClampNeg) then some (is r rest z (setI c 4 i.toNatClampNeg x)) else none := asI_b (j := 4) rfl
theorem in_letters : arN (.ref (r + 4)) (is r rest z c) = some (.int 10) := arN_b (j := 4) (ty := .int) rfl
theorem il_complaints {i : Int32} : arI .int (.ref (r + 5)) (.int i) (is r rest z c) = if ¬ (i < 0 ∨ 10 ≤ i.toNatClampNeg) then some (.int (c.1 5 i.toNatClampNeg)) else none := arI_b (j := 5) rfl
theorem it_complaints {i x : Int32} : asI (.ref (r + 5)) (.int i) (.int x) (is r rest z c) = if ¬ (i < 0 ∨ 10 ≤ i.toNatClampNeg) then some (is r rest z (setI c 5 i.toNatClampNeg x)) else none := asI_b (j := 5) rfl
theorem in_complaints : arN (.ref (r + 5)) (is r rest z c) = some (.int 10) := arN_b (j := 5) (ty := .int) rfl
theorem il_lasting {i : Int32} : arZ (.ref (r + 6)) (.int i) (is r rest z c) = if ¬ (i < 0 ∨ 10 ≤ i.toNatClampNeg) then some (.int (c.1 6 i.toNatClampNeg)) else none := arZ_b (j := 6) (ty := .boolean) rfl (Or.inr rfl)
theorem it_lasting {i x : Int32} : asZ (.ref (r + 6)) (.int i) (.int x) (is r rest z c) = if ¬ (i < 0 ∨ 10 ≤ i.toNatClampNeg) then some (is r rest z (setI c 6 i.toNatClampNeg (vp_nar .boolean x))) else none := asZ_b (j := 6) (ty := .boolean) rfl (Or.inr rfl)
theorem in_lasting : arN (.ref (r + 6)) (is r rest z c) = some (.int 10) := arN_b (j := 6) (ty := .boolean) rfl
theorem il_last {i : Int32} : arI .int (.ref (r + 7)) (.int i) (is r rest z c) = if ¬ (i < 0 ∨ 10 ≤ i.toNatClampNeg) then some (.int (c.1 7 i.toNatClampNeg)) else none := arI_b (j := 7) rfl
theorem it_last {i x : Int32} : asI (.ref (r + 7)) (.int i) (.int x) (is r rest z c) = if ¬ (i < 0 ∨ 10 ≤ i.toNatClampNeg) then some (is r rest z (setI c 7 i.toNatClampNeg x)) else none := asI_b (j := 7) rfl
theorem in_last : arN (.ref (r + 7)) (is r rest z c) = some (.int 10) := arN_b (j := 7) (ty := .int) rfl
theorem il_paid {i : Int32} : arI .int (.ref (r + 8)) (.int i) (is r rest z c) = if ¬ (i < 0 ∨ 10 ≤ i.toNatClampNeg) then some (.int (c.1 8 i.toNatClampNeg)) else none := arI_b (j := 8) rfl
theorem it_paid {i x : Int32} : asI (.ref (r + 8)) (.int i) (.int x) (is r rest z c) = if ¬ (i < 0 ∨ 10 ≤ i.toNatClampNeg) then some (is r rest z (setI c 8 i.toNatClampNeg x)) else none := asI_b (j := 8) rfl
theorem in_paid : arN (.ref (r + 8)) (is r rest z c) = some (.int 10) := arN_b (j := 8) (ty := .int) rfl
end Acc_i
--
def fLay : LY := [.inr (1, [3, 4, 5, 6, 7, 8, 9, 10, 11, 12, 13, 14, 15, 0]), .inl (.int, 5), .inl (.int, 5), .inl (.boolean, 5), .inl (.int, 5), .inl (.int, 5), .inl (.int, 5), .inl (.int, 60), .inl (.int, 63), .inl (.int, 12), .inl (.int, 12), .inl (.int, 756), .inl (.int, 756), .inl (.int, 4096)]
def fs (r : Nat) (rest : HP) (z : Nat × Nat) (c : BC) : ST := (bOv r fLay c rest, z)
section Acc_f
variable {r : Nat} {c : BC} {rest : HP} {z : Nat × Nat}
theorem fg_size : gF 1 0 (.ref r) (fs r rest z c) = some (.ref (r + 1)) := gF_s (j := 0) rfl rfl
theorem fg_askedTools : gF 1 1 (.ref r) (fs r rest z c) = some (.ref (r + 2)) := gF_s (j := 0) rfl rfl
theorem fg_askedHeld : gF 1 2 (.ref r) (fs r rest z c) = some (.ref (r + 3)) := gF_s (j := 0) rfl rfl
theorem fg_covered : gF 1 3 (.ref r) (fs r rest z c) = some (.ref (r + 4)) := gF_s (j := 0) rfl rfl
theorem fg_minutes : gF 1 4 (.ref r) (fs r rest z c) = some (.ref (r + 5)) := gF_s (j := 0) rfl rfl
theorem fg_polePanes : gF 1 5 (.ref r) (fs r rest z c) = some (.ref (r + 6)) := gF_s (j := 0) rfl rfl
theorem fg_row : gF 1 6 (.ref r) (fs r rest z c) = some (.ref (r + 7)) := gF_s (j := 0) rfl rfl
theorem fg_tall : gF 1 7 (.ref r) (fs r rest z c) = some (.ref (r + 8)) := gF_s (j := 0) rfl rfl
theorem fg_nearLadder : gF 1 8 (.ref r) (fs r rest z c) = some (.ref (r + 9)) := gF_s (j := 0) rfl rfl
theorem fg_nearPole : gF 1 9 (.ref r) (fs r rest z c) = some (.ref (r + 10)) := gF_s (j := 0) rfl rfl
theorem fg_widest : gF 1 10 (.ref r) (fs r rest z c) = some (.ref (r + 11)) := gF_s (j := 0) rfl rfl
theorem fg_holding : gF 1 11 (.ref r) (fs r rest z c) = some (.ref (r + 12)) := gF_s (j := 0) rfl rfl
theorem fg_least : gF 1 12 (.ref r) (fs r rest z c) = some (.ref (r + 13)) := gF_s (j := 0) rfl rfl
theorem fg_widests : gF 1 13 (.ref r) (fs r rest z c) = some (.int (c.1 0 13)) := gF_i (j := 0) rfl rfl
theorem fp_widests {x : Int32} : pF 1 13 (tyX1 13) (.ref r) (.int x) (fs r rest z c) = some (fs r rest z (setI c 0 13 x)) := pF_i (j := 0) rfl rfl rfl
theorem fV_fewest {f : XF} {as : List Value} : fV 1 f ((.ref r) :: as) (fs r rest z c) = f ((.ref r) :: as) (fs r rest z c) := fV_b (j := 0) (ks := [3, 4, 5, 6, 7, 8, 9, 10, 11, 12, 13, 14, 15, 0]) rfl
theorem fl_size {i : Int32} : arI .int (.ref (r + 1)) (.int i) (fs r rest z c) = if ¬ (i < 0 ∨ 5 ≤ i.toNatClampNeg) then some (.int (c.1 1 i.toNatClampNeg)) else none := arI_b (j := 1) rfl
theorem ft_size {i x : Int32} : asI (.ref (r + 1)) (.int i) (.int x) (fs r rest z c) = if ¬ (i < 0 ∨ 5 ≤ i.toNatClampNeg) then some (fs r rest z (setI c 1 i.toNatClampNeg x)) else none := asI_b (j := 1) rfl
theorem fn_size : arN (.ref (r + 1)) (fs r rest z c) = some (.int 5) := arN_b (j := 1) (ty := .int) rfl
theorem fl_askedTools {i : Int32} : arI .int (.ref (r + 2)) (.int i) (fs r rest z c) = if ¬ (i < 0 ∨ 5 ≤ i.toNatClampNeg) then some (.int (c.1 2 i.toNatClampNeg)) else none := arI_b (j := 2) rfl
theorem ft_askedTools {i x : Int32} : asI (.ref (r + 2)) (.int i) (.int x) (fs r rest z c) = if ¬ (i < 0 ∨ 5 ≤ i.toNatClampNeg) then some (fs r rest z (setI c 2 i.toNatClampNeg x)) else none := asI_b (j := 2) rfl
theorem fn_askedTools : arN (.ref (r + 2)) (fs r rest z c) = some (.int 5) := arN_b (j := 2) (ty := .int) rfl
theorem fl_askedHeld {i : Int32} : arZ (.ref (r + 3)) (.int i) (fs r rest z c) = if ¬ (i < 0 ∨ 5 ≤ i.toNatClampNeg) then some (.int (c.1 3 i.toNatClampNeg)) else none := arZ_b (j := 3) (ty := .boolean) rfl (Or.inr rfl)
theorem ft_askedHeld {i x : Int32} : asZ (.ref (r + 3)) (.int i) (.int x) (fs r rest z c) = if ¬ (i < 0 ∨ 5 ≤ i.toNatClampNeg) then some (fs r rest z (setI c 3 i.toNatClampNeg (vp_nar .boolean x))) else none := asZ_b (j := 3) (ty := .boolean) rfl (Or.inr rfl)
theorem fn_askedHeld : arN (.ref (r + 3)) (fs r rest z c) = some (.int 5) := arN_b (j := 3) (ty := .boolean) rfl
theorem fl_covered {i : Int32} : arI .int (.ref (r + 4)) (.int i) (fs r rest z c) = if ¬ (i < 0 ∨ 5 ≤ i.toNatClampNeg) then some (.int (c.1 4 i.toNatClampNeg)) else none := arI_b (j := 4) rfl
theorem ft_covered {i x : Int32} : asI (.ref (r + 4)) (.int i) (.int x) (fs r rest z c) = if ¬ (i < 0 ∨ 5 ≤ i.toNatClampNeg) then some (fs r rest z (setI c 4 i.toNatClampNeg x)) else none := asI_b (j := 4) rfl
theorem fn_covered : arN (.ref (r + 4)) (fs r rest z c) = some (.int 5) := arN_b (j := 4) (ty := .int) rfl
theorem fl_minutes {i : Int32} : arI .int (.ref (r + 5)) (.int i) (fs r rest z c) = if ¬ (i < 0 ∨ 5 ≤ i.toNatClampNeg) then some (.int (c.1 5 i.toNatClampNeg)) else none := arI_b (j := 5) rfl
theorem ft_minutes {i x : Int32} : asI (.ref (r + 5)) (.int i) (.int x) (fs r rest z c) = if ¬ (i < 0 ∨ 5 ≤ i.toNatClampNeg) then some (fs r rest z (setI c 5 i.toNatClampNeg x)) else none := asI_b (j := 5) rfl
theorem fn_minutes : arN (.ref (r + 5)) (fs r rest z c) = some (.int 5) := arN_b (j := 5) (ty := .int) rfl
theorem fl_polePanes {i : Int32} : arI .int (.ref (r + 6)) (.int i) (fs r rest z c) = if ¬ (i < 0 ∨ 5 ≤ i.toNatClampNeg) then some (.int (c.1 6 i.toNatClampNeg)) else none := arI_b (j := 6) rfl
theorem ft_polePanes {i x : Int32} : asI (.ref (r + 6)) (.int i) (.int x) (fs r rest z c) = if ¬ (i < 0 ∨ 5 ≤ i.toNatClampNeg) then some (fs r rest z (setI c 6 i.toNatClampNeg x)) else none := asI_b (j := 6) rfl
theorem fn_polePanes : arN (.ref (r + 6)) (fs r rest z c) = some (.int 5) := arN_b (j := 6) (ty := .int) rfl
theorem fl_row {i : Int32} : arI .int (.ref (r + 7)) (.int i) (fs r rest z c) = if ¬ (i < 0 ∨ 60 ≤ i.toNatClampNeg) then some (.int (c.1 7 i.toNatClampNeg)) else none := arI_b (j := 7) rfl
theorem ft_row {i x : Int32} : asI (.ref (r + 7)) (.int i) (.int x) (fs r rest z c) = if ¬ (i < 0 ∨ 60 ≤ i.toNatClampNeg) then some (fs r rest z (setI c 7 i.toNatClampNeg x)) else none := asI_b (j := 7) rfl
theorem fn_row : arN (.ref (r + 7)) (fs r rest z c) = some (.int 60) := arN_b (j := 7) (ty := .int) rfl
theorem fl_tall {i : Int32} : arI .int (.ref (r + 8)) (.int i) (fs r rest z c) = if ¬ (i < 0 ∨ 63 ≤ i.toNatClampNeg) then some (.int (c.1 8 i.toNatClampNeg)) else none := arI_b (j := 8) rfl
theorem ft_tall {i x : Int32} : asI (.ref (r + 8)) (.int i) (.int x) (fs r rest z c) = if ¬ (i < 0 ∨ 63 ≤ i.toNatClampNeg) then some (fs r rest z (setI c 8 i.toNatClampNeg x)) else none := asI_b (j := 8) rfl
theorem fn_tall : arN (.ref (r + 8)) (fs r rest z c) = some (.int 63) := arN_b (j := 8) (ty := .int) rfl
theorem fl_nearLadder {i : Int32} : arI .int (.ref (r + 9)) (.int i) (fs r rest z c) = if ¬ (i < 0 ∨ 12 ≤ i.toNatClampNeg) then some (.int (c.1 9 i.toNatClampNeg)) else none := arI_b (j := 9) rfl
theorem ft_nearLadder {i x : Int32} : asI (.ref (r + 9)) (.int i) (.int x) (fs r rest z c) = if ¬ (i < 0 ∨ 12 ≤ i.toNatClampNeg) then some (fs r rest z (setI c 9 i.toNatClampNeg x)) else none := asI_b (j := 9) rfl
theorem fn_nearLadder : arN (.ref (r + 9)) (fs r rest z c) = some (.int 12) := arN_b (j := 9) (ty := .int) rfl
theorem fl_nearPole {i : Int32} : arI .int (.ref (r + 10)) (.int i) (fs r rest z c) = if ¬ (i < 0 ∨ 12 ≤ i.toNatClampNeg) then some (.int (c.1 10 i.toNatClampNeg)) else none := arI_b (j := 10) rfl
theorem ft_nearPole {i x : Int32} : asI (.ref (r + 10)) (.int i) (.int x) (fs r rest z c) = if ¬ (i < 0 ∨ 12 ≤ i.toNatClampNeg) then some (fs r rest z (setI c 10 i.toNatClampNeg x)) else none := asI_b (j := 10) rfl
theorem fn_nearPole : arN (.ref (r + 10)) (fs r rest z c) = some (.int 12) := arN_b (j := 10) (ty := .int) rfl
theorem fl_widest {i : Int32} : arI .int (.ref (r + 11)) (.int i) (fs r rest z c) = if ¬ (i < 0 ∨ 756 ≤ i.toNatClampNeg) then some (.int (c.1 11 i.toNatClampNeg)) else none := arI_b (j := 11) rfl
theorem ft_widest {i x : Int32} : asI (.ref (r + 11)) (.int i) (.int x) (fs r rest z c) = if ¬ (i < 0 ∨ 756 ≤ i.toNatClampNeg) then some (fs r rest z (setI c 11 i.toNatClampNeg x)) else none := asI_b (j := 11) rfl
theorem fn_widest : arN (.ref (r + 11)) (fs r rest z c) = some (.int 756) := arN_b (j := 11) (ty := .int) rfl
theorem fl_holding {i : Int32} : arI .int (.ref (r + 12)) (.int i) (fs r rest z c) = if ¬ (i < 0 ∨ 756 ≤ i.toNatClampNeg) then some (.int (c.1 12 i.toNatClampNeg)) else none := arI_b (j := 12) rfl
theorem ft_holding {i x : Int32} : asI (.ref (r + 12)) (.int i) (.int x) (fs r rest z c) = if ¬ (i < 0 ∨ 756 ≤ i.toNatClampNeg) then some (fs r rest z (setI c 12 i.toNatClampNeg x)) else none := asI_b (j := 12) rfl
theorem fn_holding : arN (.ref (r + 12)) (fs r rest z c) = some (.int 756) := arN_b (j := 12) (ty := .int) rfl
theorem fl_least {i : Int32} : arI .int (.ref (r + 13)) (.int i) (fs r rest z c) = if ¬ (i < 0 ∨ 4096 ≤ i.toNatClampNeg) then some (.int (c.1 13 i.toNatClampNeg)) else none := arI_b (j := 13) rfl
theorem ft_least {i x : Int32} : asI (.ref (r + 13)) (.int i) (.int x) (fs r rest z c) = if ¬ (i < 0 ∨ 4096 ≤ i.toNatClampNeg) then some (fs r rest z (setI c 13 i.toNatClampNeg x)) else none := asI_b (j := 13) rfl
theorem fn_least : arN (.ref (r + 13)) (fs r rest z c) = some (.int 4096) := arN_b (j := 13) (ty := .int) rfl
end Acc_f
--
def wLay : LY := [.inr (10, [1, 1, 1, 3, 4, 5, 0, 6, 7]), .inl (.int, 10), .inl (.int, 10), .inl (.int, 10), .inl (.long, 6), .inl (.long, 64)]
def ws (r : Nat) (rest : HP) (z : Nat × Nat) (c : BC) : ST := (bOv r wLay c rest, z)
section Acc_w
variable {r : Nat} {c : BC} {rest : HP} {z : Nat × Nat}
theorem wg_book : gF 10 0 (.ref r) (ws r rest z c) = some (va_rf (c.2.2 0 0)) := gF_r (j := 0) rfl rfl
theorem wp_book {x : Nat} : pF 10 0 (tyX10 0) (.ref r) (.ref x) (ws r rest z c) = some (ws r rest z (setR c 0 0 (some x))) := pF_r (x := some x) (j := 0) rfl rfl rfl
theorem wg_fewest : gF 10 1 (.ref r) (ws r rest z c) = some (va_rf (c.2.2 0 1)) := gF_r (j := 0) rfl rfl
theorem wp_fewest {x : Nat} : pF 10 1 (tyX10 1) (.ref r) (.ref x) (ws r rest z c) = some (ws r rest z (setR c 0 1 (some x))) := pF_r (x := some x) (j := 0) rfl rfl rfl
theorem wg_plan : gF 10 2 (.ref r) (ws r rest z c) = some (va_rf (c.2.2 0 2)) := gF_r (j := 0) rfl rfl
theorem wp_plan {x : Nat} : pF 10 2 (tyX10 2) (.ref r) (.ref x) (ws r rest z c) = some (ws r rest z (setR c 0 2 (some x))) := pF_r (x := some x) (j := 0) rfl rfl rfl
theorem wg_known : gF 10 3 (.ref r) (ws r rest z c) = some (.ref (r + 1)) := gF_s (j := 0) rfl rfl
theorem wg_takes : gF 10 4 (.ref r) (ws r rest z c) = some (.ref (r + 2)) := gF_s (j := 0) rfl rfl
theorem wg_turn : gF 10 5 (.ref r) (ws r rest z c) = some (.ref (r + 3)) := gF_s (j := 0) rfl rfl
theorem wg_turns : gF 10 6 (.ref r) (ws r rest z c) = some (.int (c.1 0 6)) := gF_i (j := 0) rfl rfl
theorem wp_turns {x : Int32} : pF 10 6 (tyX10 6) (.ref r) (.int x) (ws r rest z c) = some (ws r rest z (setI c 0 6 x)) := pF_i (j := 0) rfl rfl rfl
theorem wg_facts : gF 10 7 (.ref r) (ws r rest z c) = some (.ref (r + 4)) := gF_s (j := 0) rfl rfl
theorem wg_stack : gF 10 8 (.ref r) (ws r rest z c) = some (.ref (r + 5)) := gF_s (j := 0) rfl rfl
theorem wV_work {f : XF} {as : List Value} : fV 10 f ((.ref r) :: as) (ws r rest z c) = f ((.ref r) :: as) (ws r rest z c) := fV_b (j := 0) (ks := [1, 1, 1, 3, 4, 5, 0, 6, 7]) rfl
theorem wl_known {i : Int32} : arI .int (.ref (r + 1)) (.int i) (ws r rest z c) = if ¬ (i < 0 ∨ 10 ≤ i.toNatClampNeg) then some (.int (c.1 1 i.toNatClampNeg)) else none := arI_b (j := 1) rfl
theorem wt_known {i x : Int32} : asI (.ref (r + 1)) (.int i) (.int x) (ws r rest z c) = if ¬ (i < 0 ∨ 10 ≤ i.toNatClampNeg) then some (ws r rest z (setI c 1 i.toNatClampNeg x)) else none := asI_b (j := 1) rfl
theorem wn_known : arN (.ref (r + 1)) (ws r rest z c) = some (.int 10) := arN_b (j := 1) (ty := .int) rfl
theorem wl_takes {i : Int32} : arI .int (.ref (r + 2)) (.int i) (ws r rest z c) = if ¬ (i < 0 ∨ 10 ≤ i.toNatClampNeg) then some (.int (c.1 2 i.toNatClampNeg)) else none := arI_b (j := 2) rfl
theorem wt_takes {i x : Int32} : asI (.ref (r + 2)) (.int i) (.int x) (ws r rest z c) = if ¬ (i < 0 ∨ 10 ≤ i.toNatClampNeg) then some (ws r rest z (setI c 2 i.toNatClampNeg x)) else none := asI_b (j := 2) rfl
theorem wn_takes : arN (.ref (r + 2)) (ws r rest z c) = some (.int 10) := arN_b (j := 2) (ty := .int) rfl
theorem wl_turn {i : Int32} : arI .int (.ref (r + 3)) (.int i) (ws r rest z c) = if ¬ (i < 0 ∨ 10 ≤ i.toNatClampNeg) then some (.int (c.1 3 i.toNatClampNeg)) else none := arI_b (j := 3) rfl
theorem wt_turn {i x : Int32} : asI (.ref (r + 3)) (.int i) (.int x) (ws r rest z c) = if ¬ (i < 0 ∨ 10 ≤ i.toNatClampNeg) then some (ws r rest z (setI c 3 i.toNatClampNeg x)) else none := asI_b (j := 3) rfl
theorem wn_turn : arN (.ref (r + 3)) (ws r rest z c) = some (.int 10) := arN_b (j := 3) (ty := .int) rfl
theorem wl_facts {i : Int32} : arL (.ref (r + 4)) (.int i) (ws r rest z c) = if ¬ (i < 0 ∨ 6 ≤ i.toNatClampNeg) then some (.long (c.2.1 4 i.toNatClampNeg)) else none := arL_b (j := 4) rfl
theorem wt_facts {i : Int32} {x : Int64} : asL (.ref (r + 4)) (.int i) (.long x) (ws r rest z c) = if ¬ (i < 0 ∨ 6 ≤ i.toNatClampNeg) then some (ws r rest z (setL c 4 i.toNatClampNeg x)) else none := asL_b (j := 4) rfl
theorem wn_facts : arN (.ref (r + 4)) (ws r rest z c) = some (.int 6) := arN_b (j := 4) (ty := .long) rfl
theorem wl_stack {i : Int32} : arL (.ref (r + 5)) (.int i) (ws r rest z c) = if ¬ (i < 0 ∨ 64 ≤ i.toNatClampNeg) then some (.long (c.2.1 5 i.toNatClampNeg)) else none := arL_b (j := 5) rfl
theorem wt_stack {i : Int32} {x : Int64} : asL (.ref (r + 5)) (.int i) (.long x) (ws r rest z c) = if ¬ (i < 0 ∨ 64 ≤ i.toNatClampNeg) then some (ws r rest z (setL c 5 i.toNatClampNeg x)) else none := asL_b (j := 5) rfl
theorem wn_stack : arN (.ref (r + 5)) (ws r rest z c) = some (.int 64) := arN_b (j := 5) (ty := .long) rfl
end Acc_w
--
def tLay : LY := [.inr (9, [1, 1, 1, 3, 0, 4, 5, 6, 0, 1, 0, 0, 7, 8, 9, 10, 11]), .inl (.int, 7), .inl (.int, 7), .inl (.int, 10), .inl (.int, 10), .inl (.int, 10), .inl (.int, 10), .inl (.int, 11), .inl (.int, 3), .inl (.int, 3)]
def ts (r : Nat) (rest : HP) (z : Nat × Nat) (c : BC) : ST := (bOv r tLay c rest, z)
section Acc_t
variable {r : Nat} {c : BC} {rest : HP} {z : Nat × Nat}
theorem tg_book : gF 9 0 (.ref r) (ts r rest z c) = some (va_rf (c.2.2 0 0)) := gF_r (j := 0) rfl rfl
theorem tp_book {x : Nat} : pF 9 0 (tyX9 0) (.ref r) (.ref x) (ts r rest z c) = some (ts r rest z (setR c 0 0 (some x))) := pF_r (x := some x) (j := 0) rfl rfl rfl
theorem tg_plan : gF 9 1 (.ref r) (ts r rest z c) = some (va_rf (c.2.2 0 1)) := gF_r (j := 0) rfl rfl
theorem tp_plan {x : Nat} : pF 9 1 (tyX9 1) (.ref r) (.ref x) (ts r rest z c) = some (ts r rest z (setR c 0 1 (some x))) := pF_r (x := some x) (j := 0) rfl rfl rfl
theorem tg_nearest : gF 9 2 (.ref r) (ts r rest z c) = some (va_rf (c.2.2 0 2)) := gF_r (j := 0) rfl rfl
theorem tp_nearest {x : Nat} : pF 9 2 (tyX9 2) (.ref r) (.ref x) (ts r rest z c) = some (ts r rest z (setR c 0 2 (some x))) := pF_r (x := some x) (j := 0) rfl rfl rfl
theorem tg_stops : gF 9 3 (.ref r) (ts r rest z c) = some (.ref (r + 1)) := gF_s (j := 0) rfl rfl
theorem tg_stopCount : gF 9 4 (.ref r) (ts r rest z c) = some (.int (c.1 0 4)) := gF_i (j := 0) rfl rfl
theorem tp_stopCount {x : Int32} : pF 9 4 (tyX9 4) (.ref r) (.int x) (ts r rest z c) = some (ts r rest z (setI c 0 4 x)) := pF_i (j := 0) rfl rfl rfl
theorem tg_order : gF 9 5 (.ref r) (ts r rest z c) = some (.ref (r + 2)) := gF_s (j := 0) rfl rfl
theorem tg_sorted : gF 9 6 (.ref r) (ts r rest z c) = some (.ref (r + 3)) := gF_s (j := 0) rfl rfl
theorem tg_rank : gF 9 7 (.ref r) (ts r rest z c) = some (.ref (r + 4)) := gF_s (j := 0) rfl rfl
theorem tg_toursKnown : gF 9 8 (.ref r) (ts r rest z c) = some (.int (c.1 0 8)) := gF_i (j := 0) rfl rfl
theorem tp_toursKnown0 : pF 9 8 (tyX9 8) (.ref r) (.int 0) (ts r rest z c) = some (ts r rest z (setI c 0 8 0)) := pF_i (j := 0) rfl rfl rfl
theorem tp_toursKnown1 : pF 9 8 (tyX9 8) (.ref r) (.int 1) (ts r rest z c) = some (ts r rest z (setI c 0 8 1)) := pF_i (j := 0) rfl rfl rfl
theorem tg_tours : gF 9 9 (.ref r) (ts r rest z c) = some (va_rf (c.2.2 0 9)) := gF_r (j := 0) rfl rfl
theorem tp_tours {x : Nat} : pF 9 9 (tyX9 9) (.ref r) (.ref x) (ts r rest z c) = some (ts r rest z (setR c 0 9 (some x))) := pF_r (x := some x) (j := 0) rfl rfl rfl
theorem tg_swapLoss : gF 9 10 (.ref r) (ts r rest z c) = some (.int (c.1 0 10)) := gF_i (j := 0) rfl rfl
theorem tp_swapLoss {x : Int32} : pF 9 10 (tyX9 10) (.ref r) (.int x) (ts r rest z c) = some (ts r rest z (setI c 0 10 x)) := pF_i (j := 0) rfl rfl rfl
theorem tg_swapSum : gF 9 11 (.ref r) (ts r rest z c) = some (.int (c.1 0 11)) := gF_i (j := 0) rfl rfl
theorem tp_swapSum {x : Int32} : pF 9 11 (tyX9 11) (.ref r) (.int x) (ts r rest z c) = some (ts r rest z (setI c 0 11 x)) := pF_i (j := 0) rfl rfl rfl
theorem tg_swapped : gF 9 12 (.ref r) (ts r rest z c) = some (.ref (r + 5)) := gF_s (j := 0) rfl rfl
theorem tg_trial : gF 9 13 (.ref r) (ts r rest z c) = some (.ref (r + 6)) := gF_s (j := 0) rfl rfl
theorem tg_valueBehind : gF 9 14 (.ref r) (ts r rest z c) = some (.ref (r + 7)) := gF_s (j := 0) rfl rfl
theorem tg_lacks : gF 9 15 (.ref r) (ts r rest z c) = some (.ref (r + 8)) := gF_s (j := 0) rfl rfl
theorem tg_round : gF 9 16 (.ref r) (ts r rest z c) = some (.ref (r + 9)) := gF_s (j := 0) rfl rfl
theorem tV_trips {f : XF} {as : List Value} : fV 9 f ((.ref r) :: as) (ts r rest z c) = f ((.ref r) :: as) (ts r rest z c) := fV_b (j := 0) (ks := [1, 1, 1, 3, 0, 4, 5, 6, 0, 1, 0, 0, 7, 8, 9, 10, 11]) rfl
theorem tl_stops {i : Int32} : arI .int (.ref (r + 1)) (.int i) (ts r rest z c) = if ¬ (i < 0 ∨ 7 ≤ i.toNatClampNeg) then some (.int (c.1 1 i.toNatClampNeg)) else none := arI_b (j := 1) rfl
theorem tt_stops {i x : Int32} : asI (.ref (r + 1)) (.int i) (.int x) (ts r rest z c) = if ¬ (i < 0 ∨ 7 ≤ i.toNatClampNeg) then some (ts r rest z (setI c 1 i.toNatClampNeg x)) else none := asI_b (j := 1) rfl
theorem tn_stops : arN (.ref (r + 1)) (ts r rest z c) = some (.int 7) := arN_b (j := 1) (ty := .int) rfl
theorem tl_order {i : Int32} : arI .int (.ref (r + 2)) (.int i) (ts r rest z c) = if ¬ (i < 0 ∨ 7 ≤ i.toNatClampNeg) then some (.int (c.1 2 i.toNatClampNeg)) else none := arI_b (j := 2) rfl
theorem tt_order {i x : Int32} : asI (.ref (r + 2)) (.int i) (.int x) (ts r rest z c) = if ¬ (i < 0 ∨ 7 ≤ i.toNatClampNeg) then some (ts r rest z (setI c 2 i.toNatClampNeg x)) else none := asI_b (j := 2) rfl
theorem tn_order : arN (.ref (r + 2)) (ts r rest z c) = some (.int 7) := arN_b (j := 2) (ty := .int) rfl
theorem tl_sorted {i : Int32} : arI .int (.ref (r + 3)) (.int i) (ts r rest z c) = if ¬ (i < 0 ∨ 10 ≤ i.toNatClampNeg) then some (.int (c.1 3 i.toNatClampNeg)) else none := arI_b (j := 3) rfl
theorem tt_sorted {i x : Int32} : asI (.ref (r + 3)) (.int i) (.int x) (ts r rest z c) = if ¬ (i < 0 ∨ 10 ≤ i.toNatClampNeg) then some (ts r rest z (setI c 3 i.toNatClampNeg x)) else none := asI_b (j := 3) rfl
theorem tn_sorted : arN (.ref (r + 3)) (ts r rest z c) = some (.int 10) := arN_b (j := 3) (ty := .int) rfl
theorem tl_rank {i : Int32} : arI .int (.ref (r + 4)) (.int i) (ts r rest z c) = if ¬ (i < 0 ∨ 10 ≤ i.toNatClampNeg) then some (.int (c.1 4 i.toNatClampNeg)) else none := arI_b (j := 4) rfl
theorem tt_rank {i x : Int32} : asI (.ref (r + 4)) (.int i) (.int x) (ts r rest z c) = if ¬ (i < 0 ∨ 10 ≤ i.toNatClampNeg) then some (ts r rest z (setI c 4 i.toNatClampNeg x)) else none := asI_b (j := 4) rfl
theorem tn_rank : arN (.ref (r + 4)) (ts r rest z c) = some (.int 10) := arN_b (j := 4) (ty := .int) rfl
theorem tl_swapped {i : Int32} : arI .int (.ref (r + 5)) (.int i) (ts r rest z c) = if ¬ (i < 0 ∨ 10 ≤ i.toNatClampNeg) then some (.int (c.1 5 i.toNatClampNeg)) else none := arI_b (j := 5) rfl
theorem tt_swapped {i x : Int32} : asI (.ref (r + 5)) (.int i) (.int x) (ts r rest z c) = if ¬ (i < 0 ∨ 10 ≤ i.toNatClampNeg) then some (ts r rest z (setI c 5 i.toNatClampNeg x)) else none := asI_b (j := 5) rfl
theorem tn_swapped : arN (.ref (r + 5)) (ts r rest z c) = some (.int 10) := arN_b (j := 5) (ty := .int) rfl
theorem tl_trial {i : Int32} : arI .int (.ref (r + 6)) (.int i) (ts r rest z c) = if ¬ (i < 0 ∨ 10 ≤ i.toNatClampNeg) then some (.int (c.1 6 i.toNatClampNeg)) else none := arI_b (j := 6) rfl
theorem tt_trial {i x : Int32} : asI (.ref (r + 6)) (.int i) (.int x) (ts r rest z c) = if ¬ (i < 0 ∨ 10 ≤ i.toNatClampNeg) then some (ts r rest z (setI c 6 i.toNatClampNeg x)) else none := asI_b (j := 6) rfl
theorem tn_trial : arN (.ref (r + 6)) (ts r rest z c) = some (.int 10) := arN_b (j := 6) (ty := .int) rfl
theorem tl_valueBehind {i : Int32} : arI .int (.ref (r + 7)) (.int i) (ts r rest z c) = if ¬ (i < 0 ∨ 11 ≤ i.toNatClampNeg) then some (.int (c.1 7 i.toNatClampNeg)) else none := arI_b (j := 7) rfl
theorem tt_valueBehind {i x : Int32} : asI (.ref (r + 7)) (.int i) (.int x) (ts r rest z c) = if ¬ (i < 0 ∨ 11 ≤ i.toNatClampNeg) then some (ts r rest z (setI c 7 i.toNatClampNeg x)) else none := asI_b (j := 7) rfl
theorem tn_valueBehind : arN (.ref (r + 7)) (ts r rest z c) = some (.int 11) := arN_b (j := 7) (ty := .int) rfl
theorem tl_lacks {i : Int32} : arI .int (.ref (r + 8)) (.int i) (ts r rest z c) = if ¬ (i < 0 ∨ 3 ≤ i.toNatClampNeg) then some (.int (c.1 8 i.toNatClampNeg)) else none := arI_b (j := 8) rfl
theorem tt_lacks {i x : Int32} : asI (.ref (r + 8)) (.int i) (.int x) (ts r rest z c) = if ¬ (i < 0 ∨ 3 ≤ i.toNatClampNeg) then some (ts r rest z (setI c 8 i.toNatClampNeg x)) else none := asI_b (j := 8) rfl
theorem tn_lacks : arN (.ref (r + 8)) (ts r rest z c) = some (.int 3) := arN_b (j := 8) (ty := .int) rfl
theorem tl_round {i : Int32} : arI .int (.ref (r + 9)) (.int i) (ts r rest z c) = if ¬ (i < 0 ∨ 3 ≤ i.toNatClampNeg) then some (.int (c.1 9 i.toNatClampNeg)) else none := arI_b (j := 9) rfl
theorem tt_round {i x : Int32} : asI (.ref (r + 9)) (.int i) (.int x) (ts r rest z c) = if ¬ (i < 0 ∨ 3 ≤ i.toNatClampNeg) then some (ts r rest z (setI c 9 i.toNatClampNeg x)) else none := asI_b (j := 9) rfl
theorem tn_round : arN (.ref (r + 9)) (ts r rest z c) = some (.int 3) := arN_b (j := 9) (ty := .int) rfl
end Acc_t
--
def hLay : LY := [.inr (11, [3, 0, 1, 1, 1, 1, 1, 0, 1, 1, 1, 0, 0]), .inl (.byte, 900)]
def hs (r : Nat) (rest : HP) (z : Nat × Nat) (c : BC) : ST := (bOv r hLay c rest, z)
section Acc_h
variable {r : Nat} {c : BC} {rest : HP} {z : Nat × Nat}
theorem hg_tape : gF 11 0 (.ref r) (hs r rest z c) = some (.ref (r + 1)) := gF_s (j := 0) rfl rfl
theorem hg_tapeSize : gF 11 1 (.ref r) (hs r rest z c) = some (.int (c.1 0 1)) := gF_i (j := 0) rfl rfl
theorem hp_tapeSize {x : Int32} : pF 11 1 (tyX11 1) (.ref r) (.int x) (hs r rest z c) = some (hs r rest z (setI c 0 1 x)) := pF_i (j := 0) rfl rfl rfl
theorem hg_plan : gF 11 2 (.ref r) (hs r rest z c) = some (va_rf (c.2.2 0 2)) := gF_r (j := 0) rfl rfl
theorem hp_plan {x : Nat} : pF 11 2 (tyX11 2) (.ref r) (.ref x) (hs r rest z c) = some (hs r rest z (setR c 0 2 (some x))) := pF_r (x := some x) (j := 0) rfl rfl rfl
theorem hg_spare : gF 11 3 (.ref r) (hs r rest z c) = some (va_rf (c.2.2 0 3)) := gF_r (j := 0) rfl rfl
theorem hp_spare {x : Nat} : pF 11 3 (tyX11 3) (.ref r) (.ref x) (hs r rest z c) = some (hs r rest z (setR c 0 3 (some x))) := pF_r (x := some x) (j := 0) rfl rfl rfl
theorem hg_reader : gF 11 4 (.ref r) (hs r rest z c) = some (va_rf (c.2.2 0 4)) := gF_r (j := 0) rfl rfl
theorem hp_reader {x : Nat} : pF 11 4 (tyX11 4) (.ref r) (.ref x) (hs r rest z c) = some (hs r rest z (setR c 0 4 (some x))) := pF_r (x := some x) (j := 0) rfl rfl rfl
theorem hg_book : gF 11 5 (.ref r) (hs r rest z c) = some (va_rf (c.2.2 0 5)) := gF_r (j := 0) rfl rfl
theorem hp_book {x : Nat} : pF 11 5 (tyX11 5) (.ref r) (.ref x) (hs r rest z c) = some (hs r rest z (setR c 0 5 (some x))) := pF_r (x := some x) (j := 0) rfl rfl rfl
theorem hg_image : gF 11 6 (.ref r) (hs r rest z c) = some (va_rf (c.2.2 0 6)) := gF_r (j := 0) rfl rfl
theorem hp_image {x : Nat} : pF 11 6 (tyX11 6) (.ref r) (.ref x) (hs r rest z c) = some (hs r rest z (setR c 0 6 (some x))) := pF_r (x := some x) (j := 0) rfl rfl rfl
theorem hg_kept : gF 11 7 (.ref r) (hs r rest z c) = some (.int (c.1 0 7)) := gF_i (j := 0) rfl rfl
theorem hp_kept0 : pF 11 7 (tyX11 7) (.ref r) (.int 0) (hs r rest z c) = some (hs r rest z (setI c 0 7 0)) := pF_i (j := 0) rfl rfl rfl
theorem hp_kept1 : pF 11 7 (tyX11 7) (.ref r) (.int 1) (hs r rest z c) = some (hs r rest z (setI c 0 7 1)) := pF_i (j := 0) rfl rfl rfl
theorem hg_fewest : gF 11 8 (.ref r) (hs r rest z c) = some (va_rf (c.2.2 0 8)) := gF_r (j := 0) rfl rfl
theorem hp_fewest {x : Nat} : pF 11 8 (tyX11 8) (.ref r) (.ref x) (hs r rest z c) = some (hs r rest z (setR c 0 8 (some x))) := pF_r (x := some x) (j := 0) rfl rfl rfl
theorem hg_work : gF 11 9 (.ref r) (hs r rest z c) = some (va_rf (c.2.2 0 9)) := gF_r (j := 0) rfl rfl
theorem hp_work {x : Nat} : pF 11 9 (tyX11 9) (.ref r) (.ref x) (hs r rest z c) = some (hs r rest z (setR c 0 9 (some x))) := pF_r (x := some x) (j := 0) rfl rfl rfl
theorem hg_trips : gF 11 10 (.ref r) (hs r rest z c) = some (va_rf (c.2.2 0 10)) := gF_r (j := 0) rfl rfl
theorem hp_trips {x : Nat} : pF 11 10 (tyX11 10) (.ref r) (.ref x) (hs r rest z c) = some (hs r rest z (setR c 0 10 (some x))) := pF_r (x := some x) (j := 0) rfl rfl rfl
theorem hg_fault : gF 11 11 (.ref r) (hs r rest z c) = some (.int (c.1 0 11)) := gF_i (j := 0) rfl rfl
theorem hp_fault {x : Int32} : pF 11 11 (tyX11 11) (.ref r) (.int x) (hs r rest z c) = some (hs r rest z (setI c 0 11 x)) := pF_i (j := 0) rfl rfl rfl
theorem hg_faultPlace : gF 11 12 (.ref r) (hs r rest z c) = some (.int (c.1 0 12)) := gF_i (j := 0) rfl rfl
theorem hp_faultPlace {x : Int32} : pF 11 12 (tyX11 12) (.ref r) (.int x) (hs r rest z c) = some (hs r rest z (setI c 0 12 x)) := pF_i (j := 0) rfl rfl rfl
theorem hV_rounds {f : XF} {as : List Value} : fV 11 f ((.ref r) :: as) (hs r rest z c) = f ((.ref r) :: as) (hs r rest z c) := fV_b (j := 0) (ks := [3, 0, 1, 1, 1, 1, 1, 0, 1, 1, 1, 0, 0]) rfl
theorem hl_tape {i : Int32} : arZ (.ref (r + 1)) (.int i) (hs r rest z c) = if ¬ (i < 0 ∨ 900 ≤ i.toNatClampNeg) then some (.int (c.1 1 i.toNatClampNeg)) else none := arZ_b (j := 1) (ty := .byte) rfl (Or.inl rfl)
theorem ht_tape {i x : Int32} : asZ (.ref (r + 1)) (.int i) (.int x) (hs r rest z c) = if ¬ (i < 0 ∨ 900 ≤ i.toNatClampNeg) then some (hs r rest z (setI c 1 i.toNatClampNeg (vp_nar .byte x))) else none := asZ_b (j := 1) (ty := .byte) rfl (Or.inl rfl)
theorem hn_tape : arN (.ref (r + 1)) (hs r rest z c) = some (.int 900) := arN_b (j := 1) (ty := .byte) rfl
end Acc_h
--
def nLay : LY := [.inl (.int, 896)]
def ns (r : Nat) (rest : HP) (z : Nat × Nat) (c : BC) : ST := (bOv r nLay c rest, z)
section Acc_n
variable {r : Nat} {c : BC} {rest : HP} {z : Nat × Nat}
theorem nl_nearest {i : Int32} : arI .int (.ref r) (.int i) (ns r rest z c) = if ¬ (i < 0 ∨ 896 ≤ i.toNatClampNeg) then some (.int (c.1 0 i.toNatClampNeg)) else none := arI_b (j := 0) rfl
theorem nt_nearest {i x : Int32} : asI (.ref r) (.int i) (.int x) (ns r rest z c) = if ¬ (i < 0 ∨ 896 ≤ i.toNatClampNeg) then some (ns r rest z (setI c 0 i.toNatClampNeg x)) else none := asI_b (j := 0) rfl
theorem nn_nearest : arN (.ref r) (ns r rest z c) = some (.int 896) := arN_b (j := 0) (ty := .int) rfl
end Acc_n
--
def uLay : LY := [.inl (.int, 3072)]
def us (r : Nat) (rest : HP) (z : Nat × Nat) (c : BC) : ST := (bOv r uLay c rest, z)
section Acc_u
variable {r : Nat} {c : BC} {rest : HP} {z : Nat × Nat}
theorem ul_tours {i : Int32} : arI .int (.ref r) (.int i) (us r rest z c) = if ¬ (i < 0 ∨ 3072 ≤ i.toNatClampNeg) then some (.int (c.1 0 i.toNatClampNeg)) else none := arI_b (j := 0) rfl
theorem ut_tours {i x : Int32} : asI (.ref r) (.int i) (.int x) (us r rest z c) = if ¬ (i < 0 ∨ 3072 ≤ i.toNatClampNeg) then some (us r rest z (setI c 0 i.toNatClampNeg x)) else none := asI_b (j := 0) rfl
theorem un_tours : arN (.ref r) (us r rest z c) = some (.int 3072) := arN_b (j := 0) (ty := .int) rfl
end Acc_u
--
