def mKs : List Nat := [0, 3, 0, 4, 5, 6, 7, 8, 9, 10, 11, 12, 13, 14, 15, 16, 17, 18, 19, 20, 21, 22, 23, 24, 25, 26, 27, 28, 29, 30, 31, 32, 33, 34, 0, 0, 0, 0, 0, 0, 0, 0, 0, 0, 0, 0, 0, 0, 0, 0, 0, 0, 0, 0, 0, 0, 0, 0, 0, 0, 0, 0, 0, 0, 0, 0, 0, 0, 0, 0, 0, 35, 36, 0, 37, 38, 0, 0, 0, 39, 40, 41, 42, 43, 44, 45, 46, 47, 48, 49, 50, 51, 52, 0, 0, 0, 53, 54, 55, 0, 56, 0, 57, 58, 59, 60, 61, 0]
def mLay : LY := [.inr (12, mKs), .inl (.int, 900), .inl (.int, 8), .inl (.int, 8), .inl (.int, 6), .inl (.int, 6), .inl (.int, 6), .inl (.int, 10), .inl (.int, 10), .inl (.int, 10), .inl (.int, 10), .inl (.int, 10), .inl (.int, 10), .inl (.int, 120), .inl (.int, 120), .inl (.int, 6), .inl (.int, 6), .inl (.int, 6), .inl (.int, 6), .inl (.int, 20), .inl (.int, 20), .inl (.int, 20), .inl (.int, 20), .inl (.int, 20), .inl (.int, 20), .inl (.int, 20), .inl (.int, 20), .inl (.boolean, 20), .inl (.int, 20), .inl (.int, 20), .inl (.boolean, 400), .inl (.int, 128), .inl (.int, 128), .inl (.int, 756), .inl (.int, 756), .inl (.int, 4096), .inl (.int, 12), .inl (.int, 20), .inl (.int, 20), .inl (.int, 20), .inl (.int, 20), .inl (.int, 20), .inl (.int, 20), .inl (.int, 20), .inl (.int, 20), .inl (.int, 600), .inl (.int, 400), .inl (.int, 4000), .inl (.int, 4000), .inl (.int, 120), .inl (.int, 120), .inl (.boolean, 60), .inl (.int, 5), .inl (.long, 64), .inl (.int, 10), .inl (.int, 896), .inl (.int, 10), .inl (.int, 10), .inl (.int, 10), .inl (.int, 3)]
/-- the model at r, with the content c -/
def ms (r : Nat) (rest : HP) (z : Nat × Nat) (c : BC) : ST := (bOv r mLay c rest, z)
section MAcc
variable {r : Nat} {c : BC} {rest : HP} {z : Nat × Nat}
theorem mg_thrown : gF 12 0 (.ref r) (ms r rest z c) = some (.int (c.1 0 0)) := gF_i (j := 0) rfl rfl
theorem mp_thrown {x : Int32} : pF 12 0 (tyX12 0) (.ref r) (.int x) (ms r rest z c) = some (ms r rest z (setI c 0 0 x)) := pF_i (j := 0) rfl rfl rfl
theorem mg_tape : gF 12 1 (.ref r) (ms r rest z c) = some (.ref (r + 1)) := gF_s (j := 0) rfl rfl
theorem ml_tape {i : Int32} : arI .int (.ref (r + 1)) (.int i) (ms r rest z c) = if ¬ (i < 0 ∨ 900 ≤ i.toNatClampNeg) then some (.int (c.1 1 i.toNatClampNeg)) else none := arI_b rfl
theorem mt_tape {i x : Int32} : asI (.ref (r + 1)) (.int i) (.int x) (ms r rest z c) = if ¬ (i < 0 ∨ 900 ≤ i.toNatClampNeg) then some (ms r rest z (setI c 1 i.toNatClampNeg x)) else none := asI_b rfl
theorem mn_tape : arN (.ref (r + 1)) (ms r rest z c) = some (.int 900) := arN_b (ty := .int) rfl
theorem mg_taped : gF 12 2 (.ref r) (ms r rest z c) = some (.int (c.1 0 2)) := gF_i (j := 0) rfl rfl
theorem mp_taped {x : Int32} : pF 12 2 (tyX12 2) (.ref r) (.int x) (ms r rest z c) = some (ms r rest z (setI c 0 2 x)) := pF_i (j := 0) rfl rfl rfl
theorem mg_ladderName : gF 12 3 (.ref r) (ms r rest z c) = some (.ref (r + 2)) := gF_s (j := 0) rfl rfl
theorem ml_ladderName {i : Int32} : arI .int (.ref (r + 2)) (.int i) (ms r rest z c) = if ¬ (i < 0 ∨ 8 ≤ i.toNatClampNeg) then some (.int (c.1 2 i.toNatClampNeg)) else none := arI_b rfl
theorem mt_ladderName {i x : Int32} : asI (.ref (r + 2)) (.int i) (.int x) (ms r rest z c) = if ¬ (i < 0 ∨ 8 ≤ i.toNatClampNeg) then some (ms r rest z (setI c 2 i.toNatClampNeg x)) else none := asI_b rfl
theorem mn_ladderName : arN (.ref (r + 2)) (ms r rest z c) = some (.int 8) := arN_b (ty := .int) rfl
theorem mg_ladderLength : gF 12 4 (.ref r) (ms r rest z c) = some (.ref (r + 3)) := gF_s (j := 0) rfl rfl
theorem ml_ladderLength {i : Int32} : arI .int (.ref (r + 3)) (.int i) (ms r rest z c) = if ¬ (i < 0 ∨ 8 ≤ i.toNatClampNeg) then some (.int (c.1 3 i.toNatClampNeg)) else none := arI_b rfl
theorem mt_ladderLength {i x : Int32} : asI (.ref (r + 3)) (.int i) (.int x) (ms r rest z c) = if ¬ (i < 0 ∨ 8 ≤ i.toNatClampNeg) then some (ms r rest z (setI c 3 i.toNatClampNeg x)) else none := asI_b rfl
theorem mn_ladderLength : arN (.ref (r + 3)) (ms r rest z c) = some (.int 8) := arN_b (ty := .int) rfl
theorem mg_poleName : gF 12 5 (.ref r) (ms r rest z c) = some (.ref (r + 4)) := gF_s (j := 0) rfl rfl
theorem ml_poleName {i : Int32} : arI .int (.ref (r + 4)) (.int i) (ms r rest z c) = if ¬ (i < 0 ∨ 6 ≤ i.toNatClampNeg) then some (.int (c.1 4 i.toNatClampNeg)) else none := arI_b rfl
theorem mt_poleName {i x : Int32} : asI (.ref (r + 4)) (.int i) (.int x) (ms r rest z c) = if ¬ (i < 0 ∨ 6 ≤ i.toNatClampNeg) then some (ms r rest z (setI c 4 i.toNatClampNeg x)) else none := asI_b rfl
theorem mn_poleName : arN (.ref (r + 4)) (ms r rest z c) = some (.int 6) := arN_b (ty := .int) rfl
theorem mg_poleLength : gF 12 6 (.ref r) (ms r rest z c) = some (.ref (r + 5)) := gF_s (j := 0) rfl rfl
theorem ml_poleLength {i : Int32} : arI .int (.ref (r + 5)) (.int i) (ms r rest z c) = if ¬ (i < 0 ∨ 6 ≤ i.toNatClampNeg) then some (.int (c.1 5 i.toNatClampNeg)) else none := arI_b rfl
theorem mt_poleLength {i x : Int32} : asI (.ref (r + 5)) (.int i) (.int x) (ms r rest z c) = if ¬ (i < 0 ∨ 6 ≤ i.toNatClampNeg) then some (ms r rest z (setI c 5 i.toNatClampNeg x)) else none := asI_b rfl
theorem mn_poleLength : arN (.ref (r + 5)) (ms r rest z c) = some (.int 6) := arN_b (ty := .int) rfl
theorem mg_poleBend : gF 12 7 (.ref r) (ms r rest z c) = some (.ref (r + 6)) := gF_s (j := 0) rfl rfl
theorem ml_poleBend {i : Int32} : arI .int (.ref (r + 6)) (.int i) (ms r rest z c) = if ¬ (i < 0 ∨ 6 ≤ i.toNatClampNeg) then some (.int (c.1 6 i.toNatClampNeg)) else none := arI_b rfl
theorem mt_poleBend {i x : Int32} : asI (.ref (r + 6)) (.int i) (.int x) (ms r rest z c) = if ¬ (i < 0 ∨ 6 ≤ i.toNatClampNeg) then some (ms r rest z (setI c 6 i.toNatClampNeg x)) else none := asI_b rfl
theorem mn_poleBend : arN (.ref (r + 6)) (ms r rest z c) = some (.int 6) := arN_b (ty := .int) rfl
theorem mg_frontName : gF 12 8 (.ref r) (ms r rest z c) = some (.ref (r + 7)) := gF_s (j := 0) rfl rfl
theorem ml_frontName {i : Int32} : arI .int (.ref (r + 7)) (.int i) (ms r rest z c) = if ¬ (i < 0 ∨ 10 ≤ i.toNatClampNeg) then some (.int (c.1 7 i.toNatClampNeg)) else none := arI_b rfl
theorem mt_frontName {i x : Int32} : asI (.ref (r + 7)) (.int i) (.int x) (ms r rest z c) = if ¬ (i < 0 ∨ 10 ≤ i.toNatClampNeg) then some (ms r rest z (setI c 7 i.toNatClampNeg x)) else none := asI_b rfl
theorem mn_frontName : arN (.ref (r + 7)) (ms r rest z c) = some (.int 10) := arN_b (ty := .int) rfl
theorem mg_wide : gF 12 9 (.ref r) (ms r rest z c) = some (.ref (r + 8)) := gF_s (j := 0) rfl rfl
theorem ml_wide {i : Int32} : arI .int (.ref (r + 8)) (.int i) (ms r rest z c) = if ¬ (i < 0 ∨ 10 ≤ i.toNatClampNeg) then some (.int (c.1 8 i.toNatClampNeg)) else none := arI_b rfl
theorem mt_wide {i x : Int32} : asI (.ref (r + 8)) (.int i) (.int x) (ms r rest z c) = if ¬ (i < 0 ∨ 10 ≤ i.toNatClampNeg) then some (ms r rest z (setI c 8 i.toNatClampNeg x)) else none := asI_b rfl
theorem mn_wide : arN (.ref (r + 8)) (ms r rest z c) = some (.int 10) := arN_b (ty := .int) rfl
theorem mg_high : gF 12 10 (.ref r) (ms r rest z c) = some (.ref (r + 9)) := gF_s (j := 0) rfl rfl
theorem ml_high {i : Int32} : arI .int (.ref (r + 9)) (.int i) (ms r rest z c) = if ¬ (i < 0 ∨ 10 ≤ i.toNatClampNeg) then some (.int (c.1 9 i.toNatClampNeg)) else none := arI_b rfl
theorem mt_high {i x : Int32} : asI (.ref (r + 9)) (.int i) (.int x) (ms r rest z c) = if ¬ (i < 0 ∨ 10 ≤ i.toNatClampNeg) then some (ms r rest z (setI c 9 i.toNatClampNeg x)) else none := asI_b rfl
theorem mn_high : arN (.ref (r + 9)) (ms r rest z c) = some (.int 10) := arN_b (ty := .int) rfl
theorem mg_blocked : gF 12 11 (.ref r) (ms r rest z c) = some (.ref (r + 10)) := gF_s (j := 0) rfl rfl
theorem ml_blocked {i : Int32} : arI .int (.ref (r + 10)) (.int i) (ms r rest z c) = if ¬ (i < 0 ∨ 10 ≤ i.toNatClampNeg) then some (.int (c.1 10 i.toNatClampNeg)) else none := arI_b rfl
theorem mt_blocked {i x : Int32} : asI (.ref (r + 10)) (.int i) (.int x) (ms r rest z c) = if ¬ (i < 0 ∨ 10 ≤ i.toNatClampNeg) then some (ms r rest z (setI c 10 i.toNatClampNeg x)) else none := asI_b rfl
theorem mn_blocked : arN (.ref (r + 10)) (ms r rest z c) = some (.int 10) := arN_b (ty := .int) rfl
theorem mg_softs : gF 12 12 (.ref r) (ms r rest z c) = some (.ref (r + 11)) := gF_s (j := 0) rfl rfl
theorem ml_softs {i : Int32} : arI .int (.ref (r + 11)) (.int i) (ms r rest z c) = if ¬ (i < 0 ∨ 10 ≤ i.toNatClampNeg) then some (.int (c.1 11 i.toNatClampNeg)) else none := arI_b rfl
theorem mt_softs {i x : Int32} : asI (.ref (r + 11)) (.int i) (.int x) (ms r rest z c) = if ¬ (i < 0 ∨ 10 ≤ i.toNatClampNeg) then some (ms r rest z (setI c 11 i.toNatClampNeg x)) else none := asI_b rfl
theorem mn_softs : arN (.ref (r + 11)) (ms r rest z c) = some (.int 10) := arN_b (ty := .int) rfl
theorem mg_panes : gF 12 13 (.ref r) (ms r rest z c) = some (.ref (r + 12)) := gF_s (j := 0) rfl rfl
theorem ml_panes {i : Int32} : arI .int (.ref (r + 12)) (.int i) (ms r rest z c) = if ¬ (i < 0 ∨ 10 ≤ i.toNatClampNeg) then some (.int (c.1 12 i.toNatClampNeg)) else none := arI_b rfl
theorem mt_panes {i x : Int32} : asI (.ref (r + 12)) (.int i) (.int x) (ms r rest z c) = if ¬ (i < 0 ∨ 10 ≤ i.toNatClampNeg) then some (ms r rest z (setI c 12 i.toNatClampNeg x)) else none := asI_b rfl
theorem mn_panes : arN (.ref (r + 12)) (ms r rest z c) = some (.int 10) := arN_b (ty := .int) rfl
theorem mg_paneColumn : gF 12 14 (.ref r) (ms r rest z c) = some (.ref (r + 13)) := gF_s (j := 0) rfl rfl
theorem ml_paneColumn {i : Int32} : arI .int (.ref (r + 13)) (.int i) (ms r rest z c) = if ¬ (i < 0 ∨ 120 ≤ i.toNatClampNeg) then some (.int (c.1 13 i.toNatClampNeg)) else none := arI_b rfl
theorem mt_paneColumn {i x : Int32} : asI (.ref (r + 13)) (.int i) (.int x) (ms r rest z c) = if ¬ (i < 0 ∨ 120 ≤ i.toNatClampNeg) then some (ms r rest z (setI c 13 i.toNatClampNeg x)) else none := asI_b rfl
theorem mn_paneColumn : arN (.ref (r + 13)) (ms r rest z c) = some (.int 120) := arN_b (ty := .int) rfl
theorem mg_paneHeight : gF 12 15 (.ref r) (ms r rest z c) = some (.ref (r + 14)) := gF_s (j := 0) rfl rfl
theorem ml_paneHeight {i : Int32} : arI .int (.ref (r + 14)) (.int i) (ms r rest z c) = if ¬ (i < 0 ∨ 120 ≤ i.toNatClampNeg) then some (.int (c.1 14 i.toNatClampNeg)) else none := arI_b rfl
theorem mt_paneHeight {i x : Int32} : asI (.ref (r + 14)) (.int i) (.int x) (ms r rest z c) = if ¬ (i < 0 ∨ 120 ≤ i.toNatClampNeg) then some (ms r rest z (setI c 14 i.toNatClampNeg x)) else none := asI_b rfl
theorem mn_paneHeight : arN (.ref (r + 14)) (ms r rest z c) = some (.int 120) := arN_b (ty := .int) rfl
theorem mg_manName : gF 12 16 (.ref r) (ms r rest z c) = some (.ref (r + 15)) := gF_s (j := 0) rfl rfl
theorem ml_manName {i : Int32} : arI .int (.ref (r + 15)) (.int i) (ms r rest z c) = if ¬ (i < 0 ∨ 6 ≤ i.toNatClampNeg) then some (.int (c.1 15 i.toNatClampNeg)) else none := arI_b rfl
theorem mt_manName {i x : Int32} : asI (.ref (r + 15)) (.int i) (.int x) (ms r rest z c) = if ¬ (i < 0 ∨ 6 ≤ i.toNatClampNeg) then some (ms r rest z (setI c 15 i.toNatClampNeg x)) else none := asI_b rfl
theorem mn_manName : arN (.ref (r + 15)) (ms r rest z c) = some (.int 6) := arN_b (ty := .int) rfl
theorem mg_manStreet : gF 12 17 (.ref r) (ms r rest z c) = some (.ref (r + 16)) := gF_s (j := 0) rfl rfl
theorem ml_manStreet {i : Int32} : arI .int (.ref (r + 16)) (.int i) (ms r rest z c) = if ¬ (i < 0 ∨ 6 ≤ i.toNatClampNeg) then some (.int (c.1 16 i.toNatClampNeg)) else none := arI_b rfl
theorem mt_manStreet {i x : Int32} : asI (.ref (r + 16)) (.int i) (.int x) (ms r rest z c) = if ¬ (i < 0 ∨ 6 ≤ i.toNatClampNeg) then some (ms r rest z (setI c 16 i.toNatClampNeg x)) else none := asI_b rfl
theorem mn_manStreet : arN (.ref (r + 16)) (ms r rest z c) = some (.int 6) := arN_b (ty := .int) rfl
theorem mg_manPlace : gF 12 18 (.ref r) (ms r rest z c) = some (.ref (r + 17)) := gF_s (j := 0) rfl rfl
theorem ml_manPlace {i : Int32} : arI .int (.ref (r + 17)) (.int i) (ms r rest z c) = if ¬ (i < 0 ∨ 6 ≤ i.toNatClampNeg) then some (.int (c.1 17 i.toNatClampNeg)) else none := arI_b rfl
theorem mt_manPlace {i x : Int32} : asI (.ref (r + 17)) (.int i) (.int x) (ms r rest z c) = if ¬ (i < 0 ∨ 6 ≤ i.toNatClampNeg) then some (ms r rest z (setI c 17 i.toNatClampNeg x)) else none := asI_b rfl
theorem mn_manPlace : arN (.ref (r + 17)) (ms r rest z c) = some (.int 6) := arN_b (ty := .int) rfl
theorem mg_manMinutes : gF 12 19 (.ref r) (ms r rest z c) = some (.ref (r + 18)) := gF_s (j := 0) rfl rfl
theorem ml_manMinutes {i : Int32} : arI .int (.ref (r + 18)) (.int i) (ms r rest z c) = if ¬ (i < 0 ∨ 6 ≤ i.toNatClampNeg) then some (.int (c.1 18 i.toNatClampNeg)) else none := arI_b rfl
theorem mt_manMinutes {i x : Int32} : asI (.ref (r + 18)) (.int i) (.int x) (ms r rest z c) = if ¬ (i < 0 ∨ 6 ≤ i.toNatClampNeg) then some (ms r rest z (setI c 18 i.toNatClampNeg x)) else none := asI_b rfl
theorem mn_manMinutes : arN (.ref (r + 18)) (ms r rest z c) = some (.int 6) := arN_b (ty := .int) rfl
theorem mg_houseName : gF 12 20 (.ref r) (ms r rest z c) = some (.ref (r + 19)) := gF_s (j := 0) rfl rfl
theorem ml_houseName {i : Int32} : arI .int (.ref (r + 19)) (.int i) (ms r rest z c) = if ¬ (i < 0 ∨ 20 ≤ i.toNatClampNeg) then some (.int (c.1 19 i.toNatClampNeg)) else none := arI_b rfl
theorem mt_houseName {i x : Int32} : asI (.ref (r + 19)) (.int i) (.int x) (ms r rest z c) = if ¬ (i < 0 ∨ 20 ≤ i.toNatClampNeg) then some (ms r rest z (setI c 19 i.toNatClampNeg x)) else none := asI_b rfl
theorem mn_houseName : arN (.ref (r + 19)) (ms r rest z c) = some (.int 20) := arN_b (ty := .int) rfl
theorem mg_frontOf : gF 12 21 (.ref r) (ms r rest z c) = some (.ref (r + 20)) := gF_s (j := 0) rfl rfl
theorem ml_frontOf {i : Int32} : arI .int (.ref (r + 20)) (.int i) (ms r rest z c) = if ¬ (i < 0 ∨ 20 ≤ i.toNatClampNeg) then some (.int (c.1 20 i.toNatClampNeg)) else none := arI_b rfl
theorem mt_frontOf {i x : Int32} : asI (.ref (r + 20)) (.int i) (.int x) (ms r rest z c) = if ¬ (i < 0 ∨ 20 ≤ i.toNatClampNeg) then some (ms r rest z (setI c 20 i.toNatClampNeg x)) else none := asI_b rfl
theorem mn_frontOf : arN (.ref (r + 20)) (ms r rest z c) = some (.int 20) := arN_b (ty := .int) rfl
theorem mg_manOf : gF 12 22 (.ref r) (ms r rest z c) = some (.ref (r + 21)) := gF_s (j := 0) rfl rfl
theorem ml_manOf {i : Int32} : arI .int (.ref (r + 21)) (.int i) (ms r rest z c) = if ¬ (i < 0 ∨ 20 ≤ i.toNatClampNeg) then some (.int (c.1 21 i.toNatClampNeg)) else none := arI_b rfl
theorem mt_manOf {i x : Int32} : asI (.ref (r + 21)) (.int i) (.int x) (ms r rest z c) = if ¬ (i < 0 ∨ 20 ≤ i.toNatClampNeg) then some (ms r rest z (setI c 21 i.toNatClampNeg x)) else none := asI_b rfl
theorem mn_manOf : arN (.ref (r + 21)) (ms r rest z c) = some (.int 20) := arN_b (ty := .int) rfl
theorem mg_street : gF 12 23 (.ref r) (ms r rest z c) = some (.ref (r + 22)) := gF_s (j := 0) rfl rfl
theorem ml_street {i : Int32} : arI .int (.ref (r + 22)) (.int i) (ms r rest z c) = if ¬ (i < 0 ∨ 20 ≤ i.toNatClampNeg) then some (.int (c.1 22 i.toNatClampNeg)) else none := arI_b rfl
theorem mt_street {i x : Int32} : asI (.ref (r + 22)) (.int i) (.int x) (ms r rest z c) = if ¬ (i < 0 ∨ 20 ≤ i.toNatClampNeg) then some (ms r rest z (setI c 22 i.toNatClampNeg x)) else none := asI_b rfl
theorem mn_street : arN (.ref (r + 22)) (ms r rest z c) = some (.int 20) := arN_b (ty := .int) rfl
theorem mg_placeOf : gF 12 24 (.ref r) (ms r rest z c) = some (.ref (r + 23)) := gF_s (j := 0) rfl rfl
theorem ml_placeOf {i : Int32} : arI .int (.ref (r + 23)) (.int i) (ms r rest z c) = if ¬ (i < 0 ∨ 20 ≤ i.toNatClampNeg) then some (.int (c.1 23 i.toNatClampNeg)) else none := arI_b rfl
theorem mt_placeOf {i x : Int32} : asI (.ref (r + 23)) (.int i) (.int x) (ms r rest z c) = if ¬ (i < 0 ∨ 20 ≤ i.toNatClampNeg) then some (ms r rest z (setI c 23 i.toNatClampNeg x)) else none := asI_b rfl
theorem mn_placeOf : arN (.ref (r + 23)) (ms r rest z c) = some (.int 20) := arN_b (ty := .int) rfl
theorem mg_every : gF 12 25 (.ref r) (ms r rest z c) = some (.ref (r + 24)) := gF_s (j := 0) rfl rfl
theorem ml_every {i : Int32} : arI .int (.ref (r + 24)) (.int i) (ms r rest z c) = if ¬ (i < 0 ∨ 20 ≤ i.toNatClampNeg) then some (.int (c.1 24 i.toNatClampNeg)) else none := arI_b rfl
theorem mt_every {i x : Int32} : asI (.ref (r + 24)) (.int i) (.int x) (ms r rest z c) = if ¬ (i < 0 ∨ 20 ≤ i.toNatClampNeg) then some (ms r rest z (setI c 24 i.toNatClampNeg x)) else none := asI_b rfl
theorem mn_every : arN (.ref (r + 24)) (ms r rest z c) = some (.int 20) := arN_b (ty := .int) rfl
theorem mg_wont : gF 12 26 (.ref r) (ms r rest z c) = some (.ref (r + 25)) := gF_s (j := 0) rfl rfl
theorem ml_wont {i : Int32} : arI .int (.ref (r + 25)) (.int i) (ms r rest z c) = if ¬ (i < 0 ∨ 20 ≤ i.toNatClampNeg) then some (.int (c.1 25 i.toNatClampNeg)) else none := arI_b rfl
theorem mt_wont {i x : Int32} : asI (.ref (r + 25)) (.int i) (.int x) (ms r rest z c) = if ¬ (i < 0 ∨ 20 ≤ i.toNatClampNeg) then some (ms r rest z (setI c 25 i.toNatClampNeg x)) else none := asI_b rfl
theorem mn_wont : arN (.ref (r + 25)) (ms r rest z c) = some (.int 20) := arN_b (ty := .int) rfl
theorem mg_price : gF 12 27 (.ref r) (ms r rest z c) = some (.ref (r + 26)) := gF_s (j := 0) rfl rfl
theorem ml_price {i : Int32} : arI .int (.ref (r + 26)) (.int i) (ms r rest z c) = if ¬ (i < 0 ∨ 20 ≤ i.toNatClampNeg) then some (.int (c.1 26 i.toNatClampNeg)) else none := arI_b rfl
theorem mt_price {i x : Int32} : asI (.ref (r + 26)) (.int i) (.int x) (ms r rest z c) = if ¬ (i < 0 ∨ 20 ≤ i.toNatClampNeg) then some (ms r rest z (setI c 26 i.toNatClampNeg x)) else none := asI_b rfl
theorem mn_price : arN (.ref (r + 26)) (ms r rest z c) = some (.int 20) := arN_b (ty := .int) rfl
theorem mg_hasDog : gF 12 28 (.ref r) (ms r rest z c) = some (.ref (r + 27)) := gF_s (j := 0) rfl rfl
theorem ml_hasDog {i : Int32} : arZ (.ref (r + 27)) (.int i) (ms r rest z c) = if ¬ (i < 0 ∨ 20 ≤ i.toNatClampNeg) then some (.int (c.1 27 i.toNatClampNeg)) else none := arZ_b (ty := .boolean) rfl (Or.inr rfl)
theorem mt_hasDog {i x : Int32} : asZ (.ref (r + 27)) (.int i) (.int x) (ms r rest z c) = if ¬ (i < 0 ∨ 20 ≤ i.toNatClampNeg) then some (ms r rest z (setI c 27 i.toNatClampNeg (vp_nar .boolean x))) else none := asZ_b (ty := .boolean) rfl (Or.inr rfl)
theorem mn_hasDog : arN (.ref (r + 27)) (ms r rest z c) = some (.int 20) := arN_b (ty := .boolean) rfl
theorem mg_dueFrom : gF 12 29 (.ref r) (ms r rest z c) = some (.ref (r + 28)) := gF_s (j := 0) rfl rfl
theorem ml_dueFrom {i : Int32} : arI .int (.ref (r + 28)) (.int i) (ms r rest z c) = if ¬ (i < 0 ∨ 20 ≤ i.toNatClampNeg) then some (.int (c.1 28 i.toNatClampNeg)) else none := arI_b rfl
theorem mt_dueFrom {i x : Int32} : asI (.ref (r + 28)) (.int i) (.int x) (ms r rest z c) = if ¬ (i < 0 ∨ 20 ≤ i.toNatClampNeg) then some (ms r rest z (setI c 28 i.toNatClampNeg x)) else none := asI_b rfl
theorem mn_dueFrom : arN (.ref (r + 28)) (ms r rest z c) = some (.int 20) := arN_b (ty := .int) rfl
theorem mg_opens : gF 12 30 (.ref r) (ms r rest z c) = some (.ref (r + 29)) := gF_s (j := 0) rfl rfl
theorem ml_opens {i : Int32} : arI .int (.ref (r + 29)) (.int i) (ms r rest z c) = if ¬ (i < 0 ∨ 20 ≤ i.toNatClampNeg) then some (.int (c.1 29 i.toNatClampNeg)) else none := arI_b rfl
theorem mt_opens {i x : Int32} : asI (.ref (r + 29)) (.int i) (.int x) (ms r rest z c) = if ¬ (i < 0 ∨ 20 ≤ i.toNatClampNeg) then some (ms r rest z (setI c 29 i.toNatClampNeg x)) else none := asI_b rfl
theorem mn_opens : arN (.ref (r + 29)) (ms r rest z c) = some (.int 20) := arN_b (ty := .int) rfl
theorem mg_isWet : gF 12 31 (.ref r) (ms r rest z c) = some (.ref (r + 30)) := gF_s (j := 0) rfl rfl
theorem ml_isWet {i : Int32} : arZ (.ref (r + 30)) (.int i) (ms r rest z c) = if ¬ (i < 0 ∨ 400 ≤ i.toNatClampNeg) then some (.int (c.1 30 i.toNatClampNeg)) else none := arZ_b (ty := .boolean) rfl (Or.inr rfl)
theorem mt_isWet {i x : Int32} : asZ (.ref (r + 30)) (.int i) (.int x) (ms r rest z c) = if ¬ (i < 0 ∨ 400 ≤ i.toNatClampNeg) then some (ms r rest z (setI c 30 i.toNatClampNeg (vp_nar .boolean x))) else none := asZ_b (ty := .boolean) rfl (Or.inr rfl)
theorem mn_isWet : arN (.ref (r + 30)) (ms r rest z c) = some (.int 400) := arN_b (ty := .boolean) rfl
theorem mg_knotSort : gF 12 32 (.ref r) (ms r rest z c) = some (.ref (r + 31)) := gF_s (j := 0) rfl rfl
theorem ml_knotSort {i : Int32} : arI .int (.ref (r + 31)) (.int i) (ms r rest z c) = if ¬ (i < 0 ∨ 128 ≤ i.toNatClampNeg) then some (.int (c.1 31 i.toNatClampNeg)) else none := arI_b rfl
theorem mt_knotSort {i x : Int32} : asI (.ref (r + 31)) (.int i) (.int x) (ms r rest z c) = if ¬ (i < 0 ∨ 128 ≤ i.toNatClampNeg) then some (ms r rest z (setI c 31 i.toNatClampNeg x)) else none := asI_b rfl
theorem mn_knotSort : arN (.ref (r + 31)) (ms r rest z c) = some (.int 128) := arN_b (ty := .int) rfl
theorem mg_knotValue : gF 12 33 (.ref r) (ms r rest z c) = some (.ref (r + 32)) := gF_s (j := 0) rfl rfl
theorem ml_knotValue {i : Int32} : arI .int (.ref (r + 32)) (.int i) (ms r rest z c) = if ¬ (i < 0 ∨ 128 ≤ i.toNatClampNeg) then some (.int (c.1 32 i.toNatClampNeg)) else none := arI_b rfl
theorem mt_knotValue {i x : Int32} : asI (.ref (r + 32)) (.int i) (.int x) (ms r rest z c) = if ¬ (i < 0 ∨ 128 ≤ i.toNatClampNeg) then some (ms r rest z (setI c 32 i.toNatClampNeg x)) else none := asI_b rfl
theorem mn_knotValue : arN (.ref (r + 32)) (ms r rest z c) = some (.int 128) := arN_b (ty := .int) rfl
theorem mg_ladders : gF 12 34 (.ref r) (ms r rest z c) = some (.int (c.1 0 34)) := gF_i (j := 0) rfl rfl
theorem mp_ladders {x : Int32} : pF 12 34 (tyX12 34) (.ref r) (.int x) (ms r rest z c) = some (ms r rest z (setI c 0 34 x)) := pF_i (j := 0) rfl rfl rfl
theorem mg_poles : gF 12 35 (.ref r) (ms r rest z c) = some (.int (c.1 0 35)) := gF_i (j := 0) rfl rfl
theorem mp_poles {x : Int32} : pF 12 35 (tyX12 35) (.ref r) (.int x) (ms r rest z c) = some (ms r rest z (setI c 0 35 x)) := pF_i (j := 0) rfl rfl rfl
theorem mg_fronts : gF 12 36 (.ref r) (ms r rest z c) = some (.int (c.1 0 36)) := gF_i (j := 0) rfl rfl
theorem mp_fronts {x : Int32} : pF 12 36 (tyX12 36) (.ref r) (.int x) (ms r rest z c) = some (ms r rest z (setI c 0 36 x)) := pF_i (j := 0) rfl rfl rfl
theorem mg_men : gF 12 37 (.ref r) (ms r rest z c) = some (.int (c.1 0 37)) := gF_i (j := 0) rfl rfl
theorem mp_men {x : Int32} : pF 12 37 (tyX12 37) (.ref r) (.int x) (ms r rest z c) = some (ms r rest z (setI c 0 37 x)) := pF_i (j := 0) rfl rfl rfl
theorem mg_houses : gF 12 38 (.ref r) (ms r rest z c) = some (.int (c.1 0 38)) := gF_i (j := 0) rfl rfl
theorem mp_houses {x : Int32} : pF 12 38 (tyX12 38) (.ref r) (.int x) (ms r rest z c) = some (ms r rest z (setI c 0 38 x)) := pF_i (j := 0) rfl rfl rfl
theorem mg_complainFrom : gF 12 39 (.ref r) (ms r rest z c) = some (.int (c.1 0 39)) := gF_i (j := 0) rfl rfl
theorem mp_complainFrom {x : Int32} : pF 12 39 (tyX12 39) (.ref r) (.int x) (ms r rest z c) = some (ms r rest z (setI c 0 39 x)) := pF_i (j := 0) rfl rfl rfl
theorem mg_complainTo : gF 12 40 (.ref r) (ms r rest z c) = some (.int (c.1 0 40)) := gF_i (j := 0) rfl rfl
theorem mp_complainTo {x : Int32} : pF 12 40 (tyX12 40) (.ref r) (.int x) (ms r rest z c) = some (ms r rest z (setI c 0 40 x)) := pF_i (j := 0) rfl rfl rfl
theorem mg_trustFrom : gF 12 41 (.ref r) (ms r rest z c) = some (.int (c.1 0 41)) := gF_i (j := 0) rfl rfl
theorem mp_trustFrom {x : Int32} : pF 12 41 (tyX12 41) (.ref r) (.int x) (ms r rest z c) = some (ms r rest z (setI c 0 41 x)) := pF_i (j := 0) rfl rfl rfl
theorem mg_trustTo : gF 12 42 (.ref r) (ms r rest z c) = some (.int (c.1 0 42)) := gF_i (j := 0) rfl rfl
theorem mp_trustTo {x : Int32} : pF 12 42 (tyX12 42) (.ref r) (.int x) (ms r rest z c) = some (ms r rest z (setI c 0 42 x)) := pF_i (j := 0) rfl rfl rfl
theorem mg_holds : gF 12 43 (.ref r) (ms r rest z c) = some (.int (c.1 0 43)) := gF_i (j := 0) rfl rfl
theorem mp_holds {x : Int32} : pF 12 43 (tyX12 43) (.ref r) (.int x) (ms r rest z c) = some (ms r rest z (setI c 0 43 x)) := pF_i (j := 0) rfl rfl rfl
theorem mg_takes : gF 12 44 (.ref r) (ms r rest z c) = some (.int (c.1 0 44)) := gF_i (j := 0) rfl rfl
theorem mp_takes {x : Int32} : pF 12 44 (tyX12 44) (.ref r) (.int x) (ms r rest z c) = some (ms r rest z (setI c 0 44 x)) := pF_i (j := 0) rfl rfl rfl
theorem mg_knots : gF 12 45 (.ref r) (ms r rest z c) = some (.int (c.1 0 45)) := gF_i (j := 0) rfl rfl
theorem mp_knots {x : Int32} : pF 12 45 (tyX12 45) (.ref r) (.int x) (ms r rest z c) = some (ms r rest z (setI c 0 45 x)) := pF_i (j := 0) rfl rfl rfl
theorem mg_laddersNew : gF 12 46 (.ref r) (ms r rest z c) = some (.int (c.1 0 46)) := gF_i (j := 0) rfl rfl
theorem mp_laddersNew {x : Int32} : pF 12 46 (tyX12 46) (.ref r) (.int x) (ms r rest z c) = some (ms r rest z (setI c 0 46 x)) := pF_i (j := 0) rfl rfl rfl
theorem mg_polesNew : gF 12 47 (.ref r) (ms r rest z c) = some (.int (c.1 0 47)) := gF_i (j := 0) rfl rfl
theorem mp_polesNew {x : Int32} : pF 12 47 (tyX12 47) (.ref r) (.int x) (ms r rest z c) = some (ms r rest z (setI c 0 47 x)) := pF_i (j := 0) rfl rfl rfl
theorem mg_frontsNew : gF 12 48 (.ref r) (ms r rest z c) = some (.int (c.1 0 48)) := gF_i (j := 0) rfl rfl
theorem mp_frontsNew {x : Int32} : pF 12 48 (tyX12 48) (.ref r) (.int x) (ms r rest z c) = some (ms r rest z (setI c 0 48 x)) := pF_i (j := 0) rfl rfl rfl
theorem mg_menNew : gF 12 49 (.ref r) (ms r rest z c) = some (.int (c.1 0 49)) := gF_i (j := 0) rfl rfl
theorem mp_menNew {x : Int32} : pF 12 49 (tyX12 49) (.ref r) (.int x) (ms r rest z c) = some (ms r rest z (setI c 0 49 x)) := pF_i (j := 0) rfl rfl rfl
theorem mg_housesNew : gF 12 50 (.ref r) (ms r rest z c) = some (.int (c.1 0 50)) := gF_i (j := 0) rfl rfl
theorem mp_housesNew {x : Int32} : pF 12 50 (tyX12 50) (.ref r) (.int x) (ms r rest z c) = some (ms r rest z (setI c 0 50 x)) := pF_i (j := 0) rfl rfl rfl
theorem mg_complainFromNew : gF 12 51 (.ref r) (ms r rest z c) = some (.int (c.1 0 51)) := gF_i (j := 0) rfl rfl
theorem mp_complainFromNew {x : Int32} : pF 12 51 (tyX12 51) (.ref r) (.int x) (ms r rest z c) = some (ms r rest z (setI c 0 51 x)) := pF_i (j := 0) rfl rfl rfl
theorem mg_complainToNew : gF 12 52 (.ref r) (ms r rest z c) = some (.int (c.1 0 52)) := gF_i (j := 0) rfl rfl
theorem mp_complainToNew {x : Int32} : pF 12 52 (tyX12 52) (.ref r) (.int x) (ms r rest z c) = some (ms r rest z (setI c 0 52 x)) := pF_i (j := 0) rfl rfl rfl
theorem mg_trustFromNew : gF 12 53 (.ref r) (ms r rest z c) = some (.int (c.1 0 53)) := gF_i (j := 0) rfl rfl
theorem mp_trustFromNew {x : Int32} : pF 12 53 (tyX12 53) (.ref r) (.int x) (ms r rest z c) = some (ms r rest z (setI c 0 53 x)) := pF_i (j := 0) rfl rfl rfl
theorem mg_trustToNew : gF 12 54 (.ref r) (ms r rest z c) = some (.int (c.1 0 54)) := gF_i (j := 0) rfl rfl
theorem mp_trustToNew {x : Int32} : pF 12 54 (tyX12 54) (.ref r) (.int x) (ms r rest z c) = some (ms r rest z (setI c 0 54 x)) := pF_i (j := 0) rfl rfl rfl
theorem mg_holdsNew : gF 12 55 (.ref r) (ms r rest z c) = some (.int (c.1 0 55)) := gF_i (j := 0) rfl rfl
theorem mp_holdsNew {x : Int32} : pF 12 55 (tyX12 55) (.ref r) (.int x) (ms r rest z c) = some (ms r rest z (setI c 0 55 x)) := pF_i (j := 0) rfl rfl rfl
theorem mg_takesNew : gF 12 56 (.ref r) (ms r rest z c) = some (.int (c.1 0 56)) := gF_i (j := 0) rfl rfl
theorem mp_takesNew {x : Int32} : pF 12 56 (tyX12 56) (.ref r) (.int x) (ms r rest z c) = some (ms r rest z (setI c 0 56 x)) := pF_i (j := 0) rfl rfl rfl
theorem mg_knotsNew : gF 12 57 (.ref r) (ms r rest z c) = some (.int (c.1 0 57)) := gF_i (j := 0) rfl rfl
theorem mp_knotsNew {x : Int32} : pF 12 57 (tyX12 57) (.ref r) (.int x) (ms r rest z c) = some (ms r rest z (setI c 0 57 x)) := pF_i (j := 0) rfl rfl rfl
theorem mg_counted : gF 12 58 (.ref r) (ms r rest z c) = some (.int (c.1 0 58)) := gF_i (j := 0) rfl rfl
theorem mp_counted {x : Int32} : pF 12 58 (tyX12 58) (.ref r) (.int x) (ms r rest z c) = some (ms r rest z (setI c 0 58 x)) := pF_i (j := 0) rfl rfl rfl
theorem mg_told : gF 12 59 (.ref r) (ms r rest z c) = some (.int (c.1 0 59)) := gF_i (j := 0) rfl rfl
theorem mp_told {x : Int32} : pF 12 59 (tyX12 59) (.ref r) (.int x) (ms r rest z c) = some (ms r rest z (setI c 0 59 x)) := pF_i (j := 0) rfl rfl rfl
theorem mg_lines : gF 12 60 (.ref r) (ms r rest z c) = some (.int (c.1 0 60)) := gF_i (j := 0) rfl rfl
theorem mp_lines {x : Int32} : pF 12 60 (tyX12 60) (.ref r) (.int x) (ms r rest z c) = some (ms r rest z (setI c 0 60 x)) := pF_i (j := 0) rfl rfl rfl
theorem mg_size : gF 12 61 (.ref r) (ms r rest z c) = some (.int (c.1 0 61)) := gF_i (j := 0) rfl rfl
theorem mp_size {x : Int32} : pF 12 61 (tyX12 61) (.ref r) (.int x) (ms r rest z c) = some (ms r rest z (setI c 0 61 x)) := pF_i (j := 0) rfl rfl rfl
theorem mg_at : gF 12 62 (.ref r) (ms r rest z c) = some (.int (c.1 0 62)) := gF_i (j := 0) rfl rfl
theorem mp_at {x : Int32} : pF 12 62 (tyX12 62) (.ref r) (.int x) (ms r rest z c) = some (ms r rest z (setI c 0 62 x)) := pF_i (j := 0) rfl rfl rfl
theorem mg_place : gF 12 63 (.ref r) (ms r rest z c) = some (.int (c.1 0 63)) := gF_i (j := 0) rfl rfl
theorem mp_place {x : Int32} : pF 12 63 (tyX12 63) (.ref r) (.int x) (ms r rest z c) = some (ms r rest z (setI c 0 63 x)) := pF_i (j := 0) rfl rfl rfl
theorem mg_sort : gF 12 64 (.ref r) (ms r rest z c) = some (.int (c.1 0 64)) := gF_i (j := 0) rfl rfl
theorem mp_sort {x : Int32} : pF 12 64 (tyX12 64) (.ref r) (.int x) (ms r rest z c) = some (ms r rest z (setI c 0 64 x)) := pF_i (j := 0) rfl rfl rfl
theorem mg_value : gF 12 65 (.ref r) (ms r rest z c) = some (.int (c.1 0 65)) := gF_i (j := 0) rfl rfl
theorem mp_value {x : Int32} : pF 12 65 (tyX12 65) (.ref r) (.int x) (ms r rest z c) = some (ms r rest z (setI c 0 65 x)) := pF_i (j := 0) rfl rfl rfl
theorem mg_fault : gF 12 66 (.ref r) (ms r rest z c) = some (.int (c.1 0 66)) := gF_i (j := 0) rfl rfl
theorem mp_fault {x : Int32} : pF 12 66 (tyX12 66) (.ref r) (.int x) (ms r rest z c) = some (ms r rest z (setI c 0 66 x)) := pF_i (j := 0) rfl rfl rfl
theorem mg_faultPlace : gF 12 67 (.ref r) (ms r rest z c) = some (.int (c.1 0 67)) := gF_i (j := 0) rfl rfl
theorem mp_faultPlace {x : Int32} : pF 12 67 (tyX12 67) (.ref r) (.int x) (ms r rest z c) = some (ms r rest z (setI c 0 67 x)) := pF_i (j := 0) rfl rfl rfl
theorem mg_lastFault : gF 12 68 (.ref r) (ms r rest z c) = some (.int (c.1 0 68)) := gF_i (j := 0) rfl rfl
theorem mp_lastFault {x : Int32} : pF 12 68 (tyX12 68) (.ref r) (.int x) (ms r rest z c) = some (ms r rest z (setI c 0 68 x)) := pF_i (j := 0) rfl rfl rfl
theorem mg_lastPlace : gF 12 69 (.ref r) (ms r rest z c) = some (.int (c.1 0 69)) := gF_i (j := 0) rfl rfl
theorem mp_lastPlace {x : Int32} : pF 12 69 (tyX12 69) (.ref r) (.int x) (ms r rest z c) = some (ms r rest z (setI c 0 69 x)) := pF_i (j := 0) rfl rfl rfl
theorem mg_open : gF 12 70 (.ref r) (ms r rest z c) = some (.int (c.1 0 70)) := gF_i (j := 0) rfl rfl
theorem mp_open {x : Int32} : pF 12 70 (tyX12 70) (.ref r) (.int x) (ms r rest z c) = some (ms r rest z (setI c 0 70 x)) := pF_i (j := 0) rfl rfl rfl
theorem mg_trySet : gF 12 71 (.ref r) (ms r rest z c) = some (.ref (r + 33)) := gF_s (j := 0) rfl rfl
theorem ml_trySet {i : Int32} : arI .int (.ref (r + 33)) (.int i) (ms r rest z c) = if ¬ (i < 0 ∨ 756 ≤ i.toNatClampNeg) then some (.int (c.1 33 i.toNatClampNeg)) else none := arI_b rfl
theorem mt_trySet {i x : Int32} : asI (.ref (r + 33)) (.int i) (.int x) (ms r rest z c) = if ¬ (i < 0 ∨ 756 ≤ i.toNatClampNeg) then some (ms r rest z (setI c 33 i.toNatClampNeg x)) else none := asI_b rfl
theorem mn_trySet : arN (.ref (r + 33)) (ms r rest z c) = some (.int 756) := arN_b (ty := .int) rfl
theorem mg_tryCode : gF 12 72 (.ref r) (ms r rest z c) = some (.ref (r + 34)) := gF_s (j := 0) rfl rfl
theorem ml_tryCode {i : Int32} : arI .int (.ref (r + 34)) (.int i) (ms r rest z c) = if ¬ (i < 0 ∨ 756 ≤ i.toNatClampNeg) then some (.int (c.1 34 i.toNatClampNeg)) else none := arI_b rfl
theorem mt_tryCode {i x : Int32} : asI (.ref (r + 34)) (.int i) (.int x) (ms r rest z c) = if ¬ (i < 0 ∨ 756 ≤ i.toNatClampNeg) then some (ms r rest z (setI c 34 i.toNatClampNeg x)) else none := asI_b rfl
theorem mn_tryCode : arN (.ref (r + 34)) (ms r rest z c) = some (.int 756) := arN_b (ty := .int) rfl
theorem mg_tries : gF 12 73 (.ref r) (ms r rest z c) = some (.int (c.1 0 73)) := gF_i (j := 0) rfl rfl
theorem mp_tries {x : Int32} : pF 12 73 (tyX12 73) (.ref r) (.int x) (ms r rest z c) = some (ms r rest z (setI c 0 73 x)) := pF_i (j := 0) rfl rfl rfl
theorem mg_least : gF 12 74 (.ref r) (ms r rest z c) = some (.ref (r + 35)) := gF_s (j := 0) rfl rfl
theorem ml_least {i : Int32} : arI .int (.ref (r + 35)) (.int i) (ms r rest z c) = if ¬ (i < 0 ∨ 4096 ≤ i.toNatClampNeg) then some (.int (c.1 35 i.toNatClampNeg)) else none := arI_b rfl
theorem mt_least {i x : Int32} : asI (.ref (r + 35)) (.int i) (.int x) (ms r rest z c) = if ¬ (i < 0 ∨ 4096 ≤ i.toNatClampNeg) then some (ms r rest z (setI c 35 i.toNatClampNeg x)) else none := asI_b rfl
theorem mn_least : arN (.ref (r + 35)) (ms r rest z c) = some (.int 4096) := arN_b (ty := .int) rfl
theorem mg_row : gF 12 75 (.ref r) (ms r rest z c) = some (.ref (r + 36)) := gF_s (j := 0) rfl rfl
theorem ml_row {i : Int32} : arI .int (.ref (r + 36)) (.int i) (ms r rest z c) = if ¬ (i < 0 ∨ 12 ≤ i.toNatClampNeg) then some (.int (c.1 36 i.toNatClampNeg)) else none := arI_b rfl
theorem mt_row {i x : Int32} : asI (.ref (r + 36)) (.int i) (.int x) (ms r rest z c) = if ¬ (i < 0 ∨ 12 ≤ i.toNatClampNeg) then some (ms r rest z (setI c 36 i.toNatClampNeg x)) else none := asI_b rfl
theorem mn_row : arN (.ref (r + 36)) (ms r rest z c) = some (.int 12) := arN_b (ty := .int) rfl
theorem mg_rowMany : gF 12 76 (.ref r) (ms r rest z c) = some (.int (c.1 0 76)) := gF_i (j := 0) rfl rfl
theorem mp_rowMany {x : Int32} : pF 12 76 (tyX12 76) (.ref r) (.int x) (ms r rest z c) = some (ms r rest z (setI c 0 76 x)) := pF_i (j := 0) rfl rfl rfl
theorem mg_day : gF 12 77 (.ref r) (ms r rest z c) = some (.int (c.1 0 77)) := gF_i (j := 0) rfl rfl
theorem mp_day {x : Int32} : pF 12 77 (tyX12 77) (.ref r) (.int x) (ms r rest z c) = some (ms r rest z (setI c 0 77 x)) := pF_i (j := 0) rfl rfl rfl
theorem mg_notes : gF 12 78 (.ref r) (ms r rest z c) = some (.int (c.1 0 78)) := gF_i (j := 0) rfl rfl
theorem mp_notes {x : Int32} : pF 12 78 (tyX12 78) (.ref r) (.int x) (ms r rest z c) = some (ms r rest z (setI c 0 78 x)) := pF_i (j := 0) rfl rfl rfl
theorem mg_due : gF 12 79 (.ref r) (ms r rest z c) = some (.ref (r + 37)) := gF_s (j := 0) rfl rfl
theorem ml_due {i : Int32} : arI .int (.ref (r + 37)) (.int i) (ms r rest z c) = if ¬ (i < 0 ∨ 20 ≤ i.toNatClampNeg) then some (.int (c.1 37 i.toNatClampNeg)) else none := arI_b rfl
theorem mt_due {i x : Int32} : asI (.ref (r + 37)) (.int i) (.int x) (ms r rest z c) = if ¬ (i < 0 ∨ 20 ≤ i.toNatClampNeg) then some (ms r rest z (setI c 37 i.toNatClampNeg x)) else none := asI_b rfl
theorem mn_due : arN (.ref (r + 37)) (ms r rest z c) = some (.int 20) := arN_b (ty := .int) rfl
theorem mg_times : gF 12 80 (.ref r) (ms r rest z c) = some (.ref (r + 38)) := gF_s (j := 0) rfl rfl
theorem ml_times {i : Int32} : arI .int (.ref (r + 38)) (.int i) (ms r rest z c) = if ¬ (i < 0 ∨ 20 ≤ i.toNatClampNeg) then some (.int (c.1 38 i.toNatClampNeg)) else none := arI_b rfl
theorem mt_times {i x : Int32} : asI (.ref (r + 38)) (.int i) (.int x) (ms r rest z c) = if ¬ (i < 0 ∨ 20 ≤ i.toNatClampNeg) then some (ms r rest z (setI c 38 i.toNatClampNeg x)) else none := asI_b rfl
theorem mn_times : arN (.ref (r + 38)) (ms r rest z c) = some (.int 20) := arN_b (ty := .int) rfl
theorem mg_letters : gF 12 81 (.ref r) (ms r rest z c) = some (.ref (r + 39)) := gF_s (j := 0) rfl rfl
theorem ml_letters {i : Int32} : arI .int (.ref (r + 39)) (.int i) (ms r rest z c) = if ¬ (i < 0 ∨ 20 ≤ i.toNatClampNeg) then some (.int (c.1 39 i.toNatClampNeg)) else none := arI_b rfl
theorem mt_letters {i x : Int32} : asI (.ref (r + 39)) (.int i) (.int x) (ms r rest z c) = if ¬ (i < 0 ∨ 20 ≤ i.toNatClampNeg) then some (ms r rest z (setI c 39 i.toNatClampNeg x)) else none := asI_b rfl
theorem mn_letters : arN (.ref (r + 39)) (ms r rest z c) = some (.int 20) := arN_b (ty := .int) rfl
theorem mg_complaints : gF 12 82 (.ref r) (ms r rest z c) = some (.ref (r + 40)) := gF_s (j := 0) rfl rfl
theorem ml_complaints {i : Int32} : arI .int (.ref (r + 40)) (.int i) (ms r rest z c) = if ¬ (i < 0 ∨ 20 ≤ i.toNatClampNeg) then some (.int (c.1 40 i.toNatClampNeg)) else none := arI_b rfl
theorem mt_complaints {i x : Int32} : asI (.ref (r + 40)) (.int i) (.int x) (ms r rest z c) = if ¬ (i < 0 ∨ 20 ≤ i.toNatClampNeg) then some (ms r rest z (setI c 40 i.toNatClampNeg x)) else none := asI_b rfl
theorem mn_complaints : arN (.ref (r + 40)) (ms r rest z c) = some (.int 20) := arN_b (ty := .int) rfl
theorem mg_lasts : gF 12 83 (.ref r) (ms r rest z c) = some (.ref (r + 41)) := gF_s (j := 0) rfl rfl
theorem ml_lasts {i : Int32} : arI .int (.ref (r + 41)) (.int i) (ms r rest z c) = if ¬ (i < 0 ∨ 20 ≤ i.toNatClampNeg) then some (.int (c.1 41 i.toNatClampNeg)) else none := arI_b rfl
theorem mt_lasts {i x : Int32} : asI (.ref (r + 41)) (.int i) (.int x) (ms r rest z c) = if ¬ (i < 0 ∨ 20 ≤ i.toNatClampNeg) then some (ms r rest z (setI c 41 i.toNatClampNeg x)) else none := asI_b rfl
theorem mn_lasts : arN (.ref (r + 41)) (ms r rest z c) = some (.int 20) := arN_b (ty := .int) rfl
theorem mg_lastWipe : gF 12 84 (.ref r) (ms r rest z c) = some (.ref (r + 42)) := gF_s (j := 0) rfl rfl
theorem ml_lastWipe {i : Int32} : arI .int (.ref (r + 42)) (.int i) (ms r rest z c) = if ¬ (i < 0 ∨ 20 ≤ i.toNatClampNeg) then some (.int (c.1 42 i.toNatClampNeg)) else none := arI_b rfl
theorem mt_lastWipe {i x : Int32} : asI (.ref (r + 42)) (.int i) (.int x) (ms r rest z c) = if ¬ (i < 0 ∨ 20 ≤ i.toNatClampNeg) then some (ms r rest z (setI c 42 i.toNatClampNeg x)) else none := asI_b rfl
theorem mn_lastWipe : arN (.ref (r + 42)) (ms r rest z c) = some (.int 20) := arN_b (ty := .int) rfl
theorem mg_atOnce : gF 12 85 (.ref r) (ms r rest z c) = some (.ref (r + 43)) := gF_s (j := 0) rfl rfl
theorem ml_atOnce {i : Int32} : arI .int (.ref (r + 43)) (.int i) (ms r rest z c) = if ¬ (i < 0 ∨ 20 ≤ i.toNatClampNeg) then some (.int (c.1 43 i.toNatClampNeg)) else none := arI_b rfl
theorem mt_atOnce {i x : Int32} : asI (.ref (r + 43)) (.int i) (.int x) (ms r rest z c) = if ¬ (i < 0 ∨ 20 ≤ i.toNatClampNeg) then some (ms r rest z (setI c 43 i.toNatClampNeg x)) else none := asI_b rfl
theorem mn_atOnce : arN (.ref (r + 43)) (ms r rest z c) = some (.int 20) := arN_b (ty := .int) rfl
theorem mg_whose : gF 12 86 (.ref r) (ms r rest z c) = some (.ref (r + 44)) := gF_s (j := 0) rfl rfl
theorem ml_whose {i : Int32} : arI .int (.ref (r + 44)) (.int i) (ms r rest z c) = if ¬ (i < 0 ∨ 20 ≤ i.toNatClampNeg) then some (.int (c.1 44 i.toNatClampNeg)) else none := arI_b rfl
theorem mt_whose {i x : Int32} : asI (.ref (r + 44)) (.int i) (.int x) (ms r rest z c) = if ¬ (i < 0 ∨ 20 ≤ i.toNatClampNeg) then some (ms r rest z (setI c 44 i.toNatClampNeg x)) else none := asI_b rfl
theorem mn_whose : arN (.ref (r + 44)) (ms r rest z c) = some (.int 20) := arN_b (ty := .int) rfl
theorem mg_wipeDay : gF 12 87 (.ref r) (ms r rest z c) = some (.ref (r + 45)) := gF_s (j := 0) rfl rfl
theorem ml_wipeDay {i : Int32} : arI .int (.ref (r + 45)) (.int i) (ms r rest z c) = if ¬ (i < 0 ∨ 600 ≤ i.toNatClampNeg) then some (.int (c.1 45 i.toNatClampNeg)) else none := arI_b rfl
theorem mt_wipeDay {i x : Int32} : asI (.ref (r + 45)) (.int i) (.int x) (ms r rest z c) = if ¬ (i < 0 ∨ 600 ≤ i.toNatClampNeg) then some (ms r rest z (setI c 45 i.toNatClampNeg x)) else none := asI_b rfl
theorem mn_wipeDay : arN (.ref (r + 45)) (ms r rest z c) = some (.int 600) := arN_b (ty := .int) rfl
theorem mg_doneMany : gF 12 88 (.ref r) (ms r rest z c) = some (.ref (r + 46)) := gF_s (j := 0) rfl rfl
theorem ml_doneMany {i : Int32} : arI .int (.ref (r + 46)) (.int i) (ms r rest z c) = if ¬ (i < 0 ∨ 400 ≤ i.toNatClampNeg) then some (.int (c.1 46 i.toNatClampNeg)) else none := arI_b rfl
theorem mt_doneMany {i x : Int32} : asI (.ref (r + 46)) (.int i) (.int x) (ms r rest z c) = if ¬ (i < 0 ∨ 400 ≤ i.toNatClampNeg) then some (ms r rest z (setI c 46 i.toNatClampNeg x)) else none := asI_b rfl
theorem mn_doneMany : arN (.ref (r + 46)) (ms r rest z c) = some (.int 400) := arN_b (ty := .int) rfl
theorem mg_doneHouse : gF 12 89 (.ref r) (ms r rest z c) = some (.ref (r + 47)) := gF_s (j := 0) rfl rfl
theorem ml_doneHouse {i : Int32} : arI .int (.ref (r + 47)) (.int i) (ms r rest z c) = if ¬ (i < 0 ∨ 4000 ≤ i.toNatClampNeg) then some (.int (c.1 47 i.toNatClampNeg)) else none := arI_b rfl
theorem mt_doneHouse {i x : Int32} : asI (.ref (r + 47)) (.int i) (.int x) (ms r rest z c) = if ¬ (i < 0 ∨ 4000 ≤ i.toNatClampNeg) then some (ms r rest z (setI c 47 i.toNatClampNeg x)) else none := asI_b rfl
theorem mn_doneHouse : arN (.ref (r + 47)) (ms r rest z c) = some (.int 4000) := arN_b (ty := .int) rfl
theorem mg_doneMan : gF 12 90 (.ref r) (ms r rest z c) = some (.ref (r + 48)) := gF_s (j := 0) rfl rfl
theorem ml_doneMan {i : Int32} : arI .int (.ref (r + 48)) (.int i) (ms r rest z c) = if ¬ (i < 0 ∨ 4000 ≤ i.toNatClampNeg) then some (.int (c.1 48 i.toNatClampNeg)) else none := arI_b rfl
theorem mt_doneMan {i x : Int32} : asI (.ref (r + 48)) (.int i) (.int x) (ms r rest z c) = if ¬ (i < 0 ∨ 4000 ≤ i.toNatClampNeg) then some (ms r rest z (setI c 48 i.toNatClampNeg x)) else none := asI_b rfl
theorem mn_doneMan : arN (.ref (r + 48)) (ms r rest z c) = some (.int 4000) := arN_b (ty := .int) rfl
theorem mg_noteHouse : gF 12 91 (.ref r) (ms r rest z c) = some (.ref (r + 49)) := gF_s (j := 0) rfl rfl
theorem ml_noteHouse {i : Int32} : arI .int (.ref (r + 49)) (.int i) (ms r rest z c) = if ¬ (i < 0 ∨ 120 ≤ i.toNatClampNeg) then some (.int (c.1 49 i.toNatClampNeg)) else none := arI_b rfl
theorem mt_noteHouse {i x : Int32} : asI (.ref (r + 49)) (.int i) (.int x) (ms r rest z c) = if ¬ (i < 0 ∨ 120 ≤ i.toNatClampNeg) then some (ms r rest z (setI c 49 i.toNatClampNeg x)) else none := asI_b rfl
theorem mn_noteHouse : arN (.ref (r + 49)) (ms r rest z c) = some (.int 120) := arN_b (ty := .int) rfl
theorem mg_noteSum : gF 12 92 (.ref r) (ms r rest z c) = some (.ref (r + 50)) := gF_s (j := 0) rfl rfl
theorem ml_noteSum {i : Int32} : arI .int (.ref (r + 50)) (.int i) (ms r rest z c) = if ¬ (i < 0 ∨ 120 ≤ i.toNatClampNeg) then some (.int (c.1 50 i.toNatClampNeg)) else none := arI_b rfl
theorem mt_noteSum {i x : Int32} : asI (.ref (r + 50)) (.int i) (.int x) (ms r rest z c) = if ¬ (i < 0 ∨ 120 ≤ i.toNatClampNeg) then some (ms r rest z (setI c 50 i.toNatClampNeg x)) else none := asI_b rfl
theorem mn_noteSum : arN (.ref (r + 50)) (ms r rest z c) = some (.int 120) := arN_b (ty := .int) rfl
theorem mg_hasImage : gF 12 93 (.ref r) (ms r rest z c) = some (.int (c.1 0 93)) := gF_i (j := 0) rfl rfl
theorem mp_hasImage0 : pF 12 93 (tyX12 93) (.ref r) (.int 0) (ms r rest z c) = some (ms r rest z (setI c 0 93 0)) := pF_i (j := 0) rfl rfl rfl
theorem mp_hasImage1 : pF 12 93 (tyX12 93) (.ref r) (.int 1) (ms r rest z c) = some (ms r rest z (setI c 0 93 1)) := pF_i (j := 0) rfl rfl rfl
theorem mg_imageDay : gF 12 94 (.ref r) (ms r rest z c) = some (.int (c.1 0 94)) := gF_i (j := 0) rfl rfl
theorem mp_imageDay {x : Int32} : pF 12 94 (tyX12 94) (.ref r) (.int x) (ms r rest z c) = some (ms r rest z (setI c 0 94 x)) := pF_i (j := 0) rfl rfl rfl
theorem mg_imageNotes : gF 12 95 (.ref r) (ms r rest z c) = some (.int (c.1 0 95)) := gF_i (j := 0) rfl rfl
theorem mp_imageNotes {x : Int32} : pF 12 95 (tyX12 95) (.ref r) (.int x) (ms r rest z c) = some (ms r rest z (setI c 0 95 x)) := pF_i (j := 0) rfl rfl rfl
theorem mg_isStruck : gF 12 96 (.ref r) (ms r rest z c) = some (.ref (r + 51)) := gF_s (j := 0) rfl rfl
theorem ml_isStruck {i : Int32} : arZ (.ref (r + 51)) (.int i) (ms r rest z c) = if ¬ (i < 0 ∨ 60 ≤ i.toNatClampNeg) then some (.int (c.1 51 i.toNatClampNeg)) else none := arZ_b (ty := .boolean) rfl (Or.inr rfl)
theorem mt_isStruck {i x : Int32} : asZ (.ref (r + 51)) (.int i) (.int x) (ms r rest z c) = if ¬ (i < 0 ∨ 60 ≤ i.toNatClampNeg) then some (ms r rest z (setI c 51 i.toNatClampNeg (vp_nar .boolean x))) else none := asZ_b (ty := .boolean) rfl (Or.inr rfl)
theorem mn_isStruck : arN (.ref (r + 51)) (ms r rest z c) = some (.int 60) := arN_b (ty := .boolean) rfl
theorem mg_frontMinutes : gF 12 97 (.ref r) (ms r rest z c) = some (.ref (r + 52)) := gF_s (j := 0) rfl rfl
theorem ml_frontMinutes {i : Int32} : arI .int (.ref (r + 52)) (.int i) (ms r rest z c) = if ¬ (i < 0 ∨ 5 ≤ i.toNatClampNeg) then some (.int (c.1 52 i.toNatClampNeg)) else none := arI_b rfl
theorem mt_frontMinutes {i x : Int32} : asI (.ref (r + 52)) (.int i) (.int x) (ms r rest z c) = if ¬ (i < 0 ∨ 5 ≤ i.toNatClampNeg) then some (ms r rest z (setI c 52 i.toNatClampNeg x)) else none := asI_b rfl
theorem mn_frontMinutes : arN (.ref (r + 52)) (ms r rest z c) = some (.int 5) := arN_b (ty := .int) rfl
theorem mg_worked : gF 12 98 (.ref r) (ms r rest z c) = some (.ref (r + 53)) := gF_s (j := 0) rfl rfl
theorem ml_worked {i : Int32} : arL (.ref (r + 53)) (.int i) (ms r rest z c) = if ¬ (i < 0 ∨ 64 ≤ i.toNatClampNeg) then some (.long (c.2.1 53 i.toNatClampNeg)) else none := arL_b rfl
theorem mt_worked {i : Int32} {x : Int64} : asL (.ref (r + 53)) (.int i) (.long x) (ms r rest z c) = if ¬ (i < 0 ∨ 64 ≤ i.toNatClampNeg) then some (ms r rest z (setL c 53 i.toNatClampNeg x)) else none := asL_b rfl
theorem mn_worked : arN (.ref (r + 53)) (ms r rest z c) = some (.int 64) := arN_b (ty := .long) rfl
theorem mg_workedMany : gF 12 99 (.ref r) (ms r rest z c) = some (.int (c.1 0 99)) := gF_i (j := 0) rfl rfl
theorem mp_workedMany {x : Int32} : pF 12 99 (tyX12 99) (.ref r) (.int x) (ms r rest z c) = some (ms r rest z (setI c 0 99 x)) := pF_i (j := 0) rfl rfl rfl
theorem mg_list : gF 12 100 (.ref r) (ms r rest z c) = some (.ref (r + 54)) := gF_s (j := 0) rfl rfl
theorem ml_list {i : Int32} : arI .int (.ref (r + 54)) (.int i) (ms r rest z c) = if ¬ (i < 0 ∨ 10 ≤ i.toNatClampNeg) then some (.int (c.1 54 i.toNatClampNeg)) else none := arI_b rfl
theorem mt_list {i x : Int32} : asI (.ref (r + 54)) (.int i) (.int x) (ms r rest z c) = if ¬ (i < 0 ∨ 10 ≤ i.toNatClampNeg) then some (ms r rest z (setI c 54 i.toNatClampNeg x)) else none := asI_b rfl
theorem mn_list : arN (.ref (r + 54)) (ms r rest z c) = some (.int 10) := arN_b (ty := .int) rfl
theorem mg_listed : gF 12 101 (.ref r) (ms r rest z c) = some (.int (c.1 0 101)) := gF_i (j := 0) rfl rfl
theorem mp_listed {x : Int32} : pF 12 101 (tyX12 101) (.ref r) (.int x) (ms r rest z c) = some (ms r rest z (setI c 0 101 x)) := pF_i (j := 0) rfl rfl rfl
theorem mg_shortTo : gF 12 102 (.ref r) (ms r rest z c) = some (.ref (r + 55)) := gF_s (j := 0) rfl rfl
theorem ml_shortTo {i : Int32} : arI .int (.ref (r + 55)) (.int i) (ms r rest z c) = if ¬ (i < 0 ∨ 896 ≤ i.toNatClampNeg) then some (.int (c.1 55 i.toNatClampNeg)) else none := arI_b rfl
theorem mt_shortTo {i x : Int32} : asI (.ref (r + 55)) (.int i) (.int x) (ms r rest z c) = if ¬ (i < 0 ∨ 896 ≤ i.toNatClampNeg) then some (ms r rest z (setI c 55 i.toNatClampNeg x)) else none := asI_b rfl
theorem mn_shortTo : arN (.ref (r + 55)) (ms r rest z c) = some (.int 896) := arN_b (ty := .int) rfl
theorem mg_share : gF 12 103 (.ref r) (ms r rest z c) = some (.ref (r + 56)) := gF_s (j := 0) rfl rfl
theorem ml_share {i : Int32} : arI .int (.ref (r + 56)) (.int i) (ms r rest z c) = if ¬ (i < 0 ∨ 10 ≤ i.toNatClampNeg) then some (.int (c.1 56 i.toNatClampNeg)) else none := arI_b rfl
theorem mt_share {i x : Int32} : asI (.ref (r + 56)) (.int i) (.int x) (ms r rest z c) = if ¬ (i < 0 ∨ 10 ≤ i.toNatClampNeg) then some (ms r rest z (setI c 56 i.toNatClampNeg x)) else none := asI_b rfl
theorem mn_share : arN (.ref (r + 56)) (ms r rest z c) = some (.int 10) := arN_b (ty := .int) rfl
theorem mg_byStreet : gF 12 104 (.ref r) (ms r rest z c) = some (.ref (r + 57)) := gF_s (j := 0) rfl rfl
theorem ml_byStreet {i : Int32} : arI .int (.ref (r + 57)) (.int i) (ms r rest z c) = if ¬ (i < 0 ∨ 10 ≤ i.toNatClampNeg) then some (.int (c.1 57 i.toNatClampNeg)) else none := arI_b rfl
theorem mt_byStreet {i x : Int32} : asI (.ref (r + 57)) (.int i) (.int x) (ms r rest z c) = if ¬ (i < 0 ∨ 10 ≤ i.toNatClampNeg) then some (ms r rest z (setI c 57 i.toNatClampNeg x)) else none := asI_b rfl
theorem mn_byStreet : arN (.ref (r + 57)) (ms r rest z c) = some (.int 10) := arN_b (ty := .int) rfl
theorem mg_bestShare : gF 12 105 (.ref r) (ms r rest z c) = some (.ref (r + 58)) := gF_s (j := 0) rfl rfl
theorem ml_bestShare {i : Int32} : arI .int (.ref (r + 58)) (.int i) (ms r rest z c) = if ¬ (i < 0 ∨ 10 ≤ i.toNatClampNeg) then some (.int (c.1 58 i.toNatClampNeg)) else none := arI_b rfl
theorem mt_bestShare {i x : Int32} : asI (.ref (r + 58)) (.int i) (.int x) (ms r rest z c) = if ¬ (i < 0 ∨ 10 ≤ i.toNatClampNeg) then some (ms r rest z (setI c 58 i.toNatClampNeg x)) else none := asI_b rfl
theorem mn_bestShare : arN (.ref (r + 58)) (ms r rest z c) = some (.int 10) := arN_b (ty := .int) rfl
theorem mg_worthNow : gF 12 106 (.ref r) (ms r rest z c) = some (.ref (r + 59)) := gF_s (j := 0) rfl rfl
theorem ml_worthNow {i : Int32} : arI .int (.ref (r + 59)) (.int i) (ms r rest z c) = if ¬ (i < 0 ∨ 3 ≤ i.toNatClampNeg) then some (.int (c.1 59 i.toNatClampNeg)) else none := arI_b rfl
theorem mt_worthNow {i x : Int32} : asI (.ref (r + 59)) (.int i) (.int x) (ms r rest z c) = if ¬ (i < 0 ∨ 3 ≤ i.toNatClampNeg) then some (ms r rest z (setI c 59 i.toNatClampNeg x)) else none := asI_b rfl
theorem mn_worthNow : arN (.ref (r + 59)) (ms r rest z c) = some (.int 3) := arN_b (ty := .int) rfl
theorem mg_bestTours : gF 12 107 (.ref r) (ms r rest z c) = some (.int (c.1 0 107)) := gF_i (j := 0) rfl rfl
theorem mp_bestTours {x : Int32} : pF 12 107 (tyX12 107) (.ref r) (.int x) (ms r rest z c) = some (ms r rest z (setI c 0 107 x)) := pF_i (j := 0) rfl rfl rfl
theorem mV {f : XF} {as : List Value} : fV 12 f (.ref r :: as) (ms r rest z c) = f (.ref r :: as) (ms r rest z c) := fV_b (j := 0) (ks := mKs) rfl
end MAcc
--
