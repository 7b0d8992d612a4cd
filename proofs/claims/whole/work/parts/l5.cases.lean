/-! ===== the cases of the law's switch (tools/gen29.py) ===== -/
theorem lcmp_0 (w : Int64) (s : ST) : o_lcmp (.long w) (.long w) s = some (.int 0) := by
  have e : lg_cmp w w = 0 := by
    unfold lg_cmp
    simp
  show some (Value.int (lg_cmp w w)) = _
  rw [e]
theorem g_ist {M : MX} {d pc i : Nat} {w : Int32} {X : RX} {L : List Value} {σ : ST} (hd : decode M.2.1 pc = .ok (.istore i, 2)) (hi : i < M.2.2.1) (k : G M d X (pc + 2) (sto1 L i (.int w)) [] σ) : G M d X pc L [.int w] σ := by
  intro z1 z2
  obtain ⟨k1, k2⟩ := k z1 z2
  refine ⟨k1, fun p l e s m args below meth c C H locs ls hl hR hz hS => ?_⟩
  obtain ⟨ls', e1, hl'⟩ := hl.st1 (v := .int w) hi rfl
  have kk := k2 p l e s m args below meth c C H locs ls' hl' hR hz hS
  intro T hT X'
  obtain ⟨t, a1, b1⟩ := kk T hT X'
  refine ⟨t, ?_, b1⟩
  jvm_step X'.here [X'.here.top, C.1, C.2.1, hd, e1]
  exact a1
theorem lce_X11_feed : CeeV yX11_feed RX11 cX11_feed 6 (some .int) 5 := ⟨inG_t3 15 rfl rfl, inG_t3 16 rfl rfl, inG_t1 1 rfl rfl, inG_t3 17 rfl rfl, ⟨rfl, by decide +kernel, by decide +kernel, by decide +kernel⟩, by decide⟩
theorem lce_X12_feed : CeeV yX12_feed RX12 cX12_feed 8 (some .int) 5 := ⟨inG_t8 166 rfl rfl, inG_t8 167 rfl rfl, inG_t1 10 rfl rfl, inG_t8 168 rfl rfl, ⟨rfl, by decide +kernel, by decide +kernel, by decide +kernel⟩, by decide⟩
theorem lml_21 : Cond.methodLink RL 21 yX11_feed ∈ lwG := inG_t3 14 rfl rfl
theorem lml_25 : Cond.methodLink RL 25 yX12_feed ∈ lwG := inG_t8 165 rfl rfl
theorem lce_X11_text : CeeV yX11_text RX11 cX11_text 4 (some .int) 1 := ⟨inG_t3 23 rfl rfl, inG_t3 24 rfl rfl, inG_t1 1 rfl rfl, inG_t3 25 rfl rfl, ⟨rfl, by decide +kernel, by decide +kernel, by decide +kernel⟩, by decide⟩
theorem lce_X12_text : CeeV yX12_text RX12 cX12_text 3 (some .int) 1 := ⟨inG_t8 170 rfl rfl, inG_t8 171 rfl rfl, inG_t1 10 rfl rfl, inG_t8 172 rfl rfl, ⟨rfl, by decide +kernel, by decide +kernel, by decide +kernel⟩, by decide⟩
theorem lml_26 : Cond.methodLink RL 26 yX11_text ∈ lwG := inG_t3 22 rfl rfl
theorem lml_30 : Cond.methodLink RL 30 yX12_text ∈ lwG := inG_t8 169 rfl rfl
theorem lce_X11_fault : CeeV yX11_fault RX11 cX11_fault 2 (some .int) 1 := ⟨inG_t4 49 rfl rfl, inG_t4 50 rfl rfl, inG_t1 1 rfl rfl, inG_t4 51 rfl rfl, ⟨rfl, by decide +kernel, by decide +kernel, by decide +kernel⟩, by decide⟩
theorem lce_X12_fault : CeeV yX12_fault RX12 cX12_fault 2 (some .int) 1 := ⟨inG_t9 109 rfl rfl, inG_t9 110 rfl rfl, inG_t1 10 rfl rfl, inG_t9 111 rfl rfl, ⟨rfl, by decide +kernel, by decide +kernel, by decide +kernel⟩, by decide⟩
theorem lml_31 : Cond.methodLink RL 31 yX11_fault ∈ lwG := inG_t4 48 rfl rfl
theorem lml_34 : Cond.methodLink RL 34 yX12_fault ∈ lwG := inG_t9 108 rfl rfl
theorem lce_X11_named : CeeV yX11_named RX11 cX11_named 3 (some .int) 2 := ⟨inG_t4 53 rfl rfl, inG_t4 54 rfl rfl, inG_t1 1 rfl rfl, inG_t4 55 rfl rfl, ⟨rfl, by decide +kernel, by decide +kernel, by decide +kernel⟩, by decide⟩
theorem lce_X12_named : CeeV yX12_named RX12 cX12_named 5 (some .int) 2 := ⟨inG_t9 113 rfl rfl, inG_t9 114 rfl rfl, inG_t1 10 rfl rfl, inG_t9 115 rfl rfl, ⟨rfl, by decide +kernel, by decide +kernel, by decide +kernel⟩, by decide⟩
theorem lml_35 : Cond.methodLink RL 35 yX11_named ∈ lwG := inG_t4 52 rfl rfl
theorem lml_38 : Cond.methodLink RL 38 yX12_named ∈ lwG := inG_t9 112 rfl rfl
theorem lce_X11_front : CeeV yX11_front RX11 cX11_front 4 (some .int) 2 := ⟨inG_t4 61 rfl rfl, inG_t4 62 rfl rfl, inG_t1 1 rfl rfl, inG_t4 63 rfl rfl, ⟨rfl, by decide +kernel, by decide +kernel, by decide +kernel⟩, by decide⟩
theorem lce_X12_front : CeeV yX12_front RX12 cX12_front 3 (some .int) 2 := ⟨inG_t9 125 rfl rfl, inG_t9 126 rfl rfl, inG_t1 10 rfl rfl, inG_t9 127 rfl rfl, ⟨rfl, by decide +kernel, by decide +kernel, by decide +kernel⟩, by decide⟩
theorem lml_49 : Cond.methodLink RL 49 yX11_front ∈ lwG := inG_t4 60 rfl rfl
theorem lml_52 : Cond.methodLink RL 52 yX12_front ∈ lwG := inG_t9 124 rfl rfl
theorem lce_X11_pane : CeeV yX11_pane RX11 cX11_pane 5 (some .int) 3 := ⟨inG_t4 69 rfl rfl, inG_t4 70 rfl rfl, inG_t1 1 rfl rfl, inG_t4 71 rfl rfl, ⟨rfl, by decide +kernel, by decide +kernel, by decide +kernel⟩, by decide⟩
theorem lce_X12_pane : CeeV yX12_pane RX12 cX12_pane 4 (some .int) 3 := ⟨inG_t9 133 rfl rfl, inG_t9 134 rfl rfl, inG_t1 10 rfl rfl, inG_t9 135 rfl rfl, ⟨rfl, by decide +kernel, by decide +kernel, by decide +kernel⟩, by decide⟩
theorem lml_53 : Cond.methodLink RL 53 yX11_pane ∈ lwG := inG_t4 68 rfl rfl
theorem lml_57 : Cond.methodLink RL 57 yX12_pane ∈ lwG := inG_t9 132 rfl rfl
theorem lce_X11_top : CeeV yX11_top RX11 cX11_top 6 (some .int) 5 := ⟨inG_t4 73 rfl rfl, inG_t4 74 rfl rfl, inG_t1 1 rfl rfl, inG_t4 75 rfl rfl, ⟨rfl, by decide +kernel, by decide +kernel, by decide +kernel⟩, by decide⟩
theorem lce_X12_top : CeeV yX12_top RX12 cX12_top 6 (some .int) 5 := ⟨inG_t9 137 rfl rfl, inG_t9 138 rfl rfl, inG_t1 10 rfl rfl, inG_t9 139 rfl rfl, ⟨rfl, by decide +kernel, by decide +kernel, by decide +kernel⟩, by decide⟩
theorem lml_58 : Cond.methodLink RL 58 yX11_top ∈ lwG := inG_t4 72 rfl rfl
theorem lml_62 : Cond.methodLink RL 62 yX12_top ∈ lwG := inG_t9 136 rfl rfl
theorem lce_X11_covers : CeeV yX11_covers RX11 cX11_covers 8 (some .int) 5 := ⟨inG_t4 103 rfl rfl, inG_t4 104 rfl rfl, inG_t1 1 rfl rfl, inG_t4 105 rfl rfl, ⟨rfl, by decide +kernel, by decide +kernel, by decide +kernel⟩, by decide⟩
theorem lce_X12_covers : CeeV yX12_covers RX12 cX12_covers 6 (some .int) 5 := ⟨inG_t9 145 rfl rfl, inG_t9 146 rfl rfl, inG_t1 10 rfl rfl, inG_t9 147 rfl rfl, ⟨rfl, by decide +kernel, by decide +kernel, by decide +kernel⟩, by decide⟩
theorem lml_63 : Cond.methodLink RL 63 yX11_covers ∈ lwG := inG_t4 102 rfl rfl
theorem lml_66 : Cond.methodLink RL 66 yX12_covers ∈ lwG := inG_t9 144 rfl rfl
theorem lce_X11_missing : CeeV yX11_missing RX11 cX11_missing 4 (some .int) 3 := ⟨inG_t4 123 rfl rfl, inG_t4 124 rfl rfl, inG_t1 1 rfl rfl, inG_t4 125 rfl rfl, ⟨rfl, by decide +kernel, by decide +kernel, by decide +kernel⟩, by decide⟩
theorem lce_X12_missing : CeeV yX12_missing RX12 cX12_missing 4 (some .int) 3 := ⟨inG_t9 149 rfl rfl, inG_t9 150 rfl rfl, inG_t1 10 rfl rfl, inG_t9 151 rfl rfl, ⟨rfl, by decide +kernel, by decide +kernel, by decide +kernel⟩, by decide⟩
theorem lml_67 : Cond.methodLink RL 67 yX11_missing ∈ lwG := inG_t4 122 rfl rfl
theorem lml_71 : Cond.methodLink RL 71 yX12_missing ∈ lwG := inG_t9 148 rfl rfl
theorem lce_X11_fewest : CeeV yX11_fewest RX11 cX11_fewest 5 (some .int) 4 := ⟨inG_t5 6 rfl rfl, inG_t5 7 rfl rfl, inG_t1 1 rfl rfl, inG_t5 8 rfl rfl, ⟨rfl, by decide +kernel, by decide +kernel, by decide +kernel⟩, by decide⟩
theorem lce_X12_fewest : CeeV yX12_fewest RX12 cX12_fewest 5 (some .int) 4 := ⟨inG_t9 157 rfl rfl, inG_t9 158 rfl rfl, inG_t1 10 rfl rfl, inG_t9 159 rfl rfl, ⟨rfl, by decide +kernel, by decide +kernel, by decide +kernel⟩, by decide⟩
theorem lml_72 : Cond.methodLink RL 72 yX11_fewest ∈ lwG := inG_t5 5 rfl rfl
theorem lml_76 : Cond.methodLink RL 76 yX12_fewest ∈ lwG := inG_t9 156 rfl rfl
theorem lce_X11_minutes : CeeV yX11_minutes RX11 cX11_minutes 4 (some .int) 3 := ⟨inG_t5 15 rfl rfl, inG_t5 16 rfl rfl, inG_t1 1 rfl rfl, inG_t5 17 rfl rfl, ⟨rfl, by decide +kernel, by decide +kernel, by decide +kernel⟩, by decide⟩
theorem lce_X12_minutes : CeeV yX12_minutes RX12 cX12_minutes 4 (some .int) 3 := ⟨inG_t9 161 rfl rfl, inG_t9 162 rfl rfl, inG_t1 10 rfl rfl, inG_t9 163 rfl rfl, ⟨rfl, by decide +kernel, by decide +kernel, by decide +kernel⟩, by decide⟩
theorem lml_77 : Cond.methodLink RL 77 yX11_minutes ∈ lwG := inG_t5 14 rfl rfl
theorem lml_80 : Cond.methodLink RL 80 yX12_minutes ∈ lwG := inG_t9 160 rfl rfl
theorem lce_X11_days : CeeV yX11_days RX11 cX11_days 2 (some .int) 1 := ⟨inG_t5 23 rfl rfl, inG_t5 24 rfl rfl, inG_t1 1 rfl rfl, inG_t5 25 rfl rfl, ⟨rfl, by decide +kernel, by decide +kernel, by decide +kernel⟩, by decide⟩
theorem lce_X12_days : CeeV yX12_days RX12 cX12_days 3 (some .int) 1 := ⟨inG_t9 206 rfl rfl, inG_t9 207 rfl rfl, inG_t1 10 rfl rfl, inG_t9 208 rfl rfl, ⟨rfl, by decide +kernel, by decide +kernel, by decide +kernel⟩, by decide⟩
theorem lml_81 : Cond.methodLink RL 81 yX11_days ∈ lwG := inG_t5 22 rfl rfl
theorem lml_84 : Cond.methodLink RL 84 yX12_days ∈ lwG := inG_t9 205 rfl rfl
theorem lce_X11_now : CeeV yX11_now RX11 cX11_now 3 (some .int) 2 := ⟨inG_t5 175 rfl rfl, inG_t5 176 rfl rfl, inG_t1 1 rfl rfl, inG_t5 177 rfl rfl, ⟨rfl, by decide +kernel, by decide +kernel, by decide +kernel⟩, by decide⟩
theorem lce_X12_now : CeeV yX12_now RX12 cX12_now 3 (some .int) 2 := ⟨inG_t10 23 rfl rfl, inG_t10 24 rfl rfl, inG_t1 10 rfl rfl, inG_t10 25 rfl rfl, ⟨rfl, by decide +kernel, by decide +kernel, by decide +kernel⟩, by decide⟩
theorem lml_85 : Cond.methodLink RL 85 yX11_now ∈ lwG := inG_t5 174 rfl rfl
theorem lml_88 : Cond.methodLink RL 88 yX12_now ∈ lwG := inG_t10 22 rfl rfl
theorem lce_X11_wet : CeeV yX11_wet RX11 cX11_wet 2 (some .int) 1 := ⟨inG_t5 184 rfl rfl, inG_t5 185 rfl rfl, inG_t1 1 rfl rfl, inG_t5 186 rfl rfl, ⟨rfl, by decide +kernel, by decide +kernel, by decide +kernel⟩, by decide⟩
theorem lce_X12_wet : CeeV yX12_wet RX12 cX12_wet 2 (some .int) 1 := ⟨inG_t10 27 rfl rfl, inG_t10 28 rfl rfl, inG_t1 10 rfl rfl, inG_t10 29 rfl rfl, ⟨rfl, by decide +kernel, by decide +kernel, by decide +kernel⟩, by decide⟩
theorem lml_89 : Cond.methodLink RL 89 yX11_wet ∈ lwG := inG_t5 183 rfl rfl
theorem lml_92 : Cond.methodLink RL 92 yX12_wet ∈ lwG := inG_t10 26 rfl rfl
theorem lce_X11_wiped : CeeV yX11_wiped RX11 cX11_wiped 2 (some .int) 1 := ⟨inG_t5 188 rfl rfl, inG_t5 189 rfl rfl, inG_t1 1 rfl rfl, inG_t5 190 rfl rfl, ⟨rfl, by decide +kernel, by decide +kernel, by decide +kernel⟩, by decide⟩
theorem lce_X12_wiped : CeeV yX12_wiped RX12 cX12_wiped 4 (some .int) 1 := ⟨inG_t10 31 rfl rfl, inG_t10 32 rfl rfl, inG_t1 10 rfl rfl, inG_t10 33 rfl rfl, ⟨rfl, by decide +kernel, by decide +kernel, by decide +kernel⟩, by decide⟩
theorem lml_93 : Cond.methodLink RL 93 yX11_wiped ∈ lwG := inG_t5 187 rfl rfl
theorem lml_96 : Cond.methodLink RL 96 yX12_wiped ∈ lwG := inG_t10 30 rfl rfl
theorem lce_X11_way : CeeV yX11_way RX11 cX11_way 4 (some .int) 3 := ⟨inG_t5 196 rfl rfl, inG_t5 197 rfl rfl, inG_t1 1 rfl rfl, inG_t5 198 rfl rfl, ⟨rfl, by decide +kernel, by decide +kernel, by decide +kernel⟩, by decide⟩
theorem lce_X12_way : CeeV yX12_way RX12 cX12_way 6 (some .int) 3 := ⟨inG_t10 39 rfl rfl, inG_t10 40 rfl rfl, inG_t1 10 rfl rfl, inG_t10 41 rfl rfl, ⟨rfl, by decide +kernel, by decide +kernel, by decide +kernel⟩, by decide⟩
theorem lml_97 : Cond.methodLink RL 97 yX11_way ∈ lwG := inG_t5 195 rfl rfl
theorem lml_100 : Cond.methodLink RL 100 yX12_way ∈ lwG := inG_t10 38 rfl rfl
theorem lce_X11_shortest : CeeV yX11_shortest RX11 cX11_shortest 5 (some .int) 3 := ⟨inG_t6 45 rfl rfl, inG_t6 46 rfl rfl, inG_t1 1 rfl rfl, inG_t6 47 rfl rfl, ⟨rfl, by decide +kernel, by decide +kernel, by decide +kernel⟩, by decide⟩
theorem lce_X12_shortest : CeeV yX12_shortest RX12 cX12_shortest 10 (some .int) 3 := ⟨inG_t10 51 rfl rfl, inG_t10 52 rfl rfl, inG_t1 10 rfl rfl, inG_t10 53 rfl rfl, ⟨rfl, by decide +kernel, by decide +kernel, by decide +kernel⟩, by decide⟩
theorem lml_101 : Cond.methodLink RL 101 yX11_shortest ∈ lwG := inG_t6 44 rfl rfl
theorem lml_104 : Cond.methodLink RL 104 yX12_shortest ∈ lwG := inG_t10 50 rfl rfl
theorem lce_X11_walk : CeeV yX11_walk RX11 cX11_walk 3 (some .int) 2 := ⟨inG_t6 75 rfl rfl, inG_t6 76 rfl rfl, inG_t1 1 rfl rfl, inG_t6 77 rfl rfl, ⟨rfl, by decide +kernel, by decide +kernel, by decide +kernel⟩, by decide⟩
theorem lce_X12_walk : CeeV yX12_walk RX12 cX12_walk 3 (some .int) 2 := ⟨inG_t10 63 rfl rfl, inG_t10 64 rfl rfl, inG_t1 10 rfl rfl, inG_t10 65 rfl rfl, ⟨rfl, by decide +kernel, by decide +kernel, by decide +kernel⟩, by decide⟩
theorem lml_105 : Cond.methodLink RL 105 yX11_walk ∈ lwG := inG_t6 74 rfl rfl
theorem lml_108 : Cond.methodLink RL 108 yX12_walk ∈ lwG := inG_t10 62 rfl rfl
theorem lce_X11_pay : CeeV yX11_pay RX11 cX11_pay 4 (some .int) 3 := ⟨inG_t6 80 rfl rfl, inG_t6 81 rfl rfl, inG_t1 1 rfl rfl, inG_t6 82 rfl rfl, ⟨rfl, by decide +kernel, by decide +kernel, by decide +kernel⟩, by decide⟩
theorem lce_X12_pay : CeeV yX12_pay RX12 cX12_pay 4 (some .int) 3 := ⟨inG_t9 198 rfl rfl, inG_t9 199 rfl rfl, inG_t1 10 rfl rfl, inG_t9 200 rfl rfl, ⟨rfl, by decide +kernel, by decide +kernel, by decide +kernel⟩, by decide⟩
theorem lml_109 : Cond.methodLink RL 109 yX11_pay ∈ lwG := inG_t6 79 rfl rfl
theorem lml_112 : Cond.methodLink RL 112 yX12_pay ∈ lwG := inG_t9 197 rfl rfl
theorem lce_X11_strike : CeeV yX11_strike RX11 cX11_strike 2 (some .int) 1 := ⟨inG_t6 88 rfl rfl, inG_t6 89 rfl rfl, inG_t1 1 rfl rfl, inG_t6 90 rfl rfl, ⟨rfl, by decide +kernel, by decide +kernel, by decide +kernel⟩, by decide⟩
theorem lce_X12_strike : CeeV yX12_strike RX12 cX12_strike 2 (some .int) 1 := ⟨inG_t9 202 rfl rfl, inG_t9 203 rfl rfl, inG_t1 10 rfl rfl, inG_t9 204 rfl rfl, ⟨rfl, by decide +kernel, by decide +kernel, by decide +kernel⟩, by decide⟩
theorem lml_113 : Cond.methodLink RL 113 yX11_strike ∈ lwG := inG_t6 87 rfl rfl
theorem lml_116 : Cond.methodLink RL 116 yX12_strike ∈ lwG := inG_t9 201 rfl rfl
theorem lce_X11_balance : CeeV yX11_balance RX11 cX11_balance 3 (some .int) 2 := ⟨inG_t6 92 rfl rfl, inG_t6 93 rfl rfl, inG_t1 1 rfl rfl, inG_t6 94 rfl rfl, ⟨rfl, by decide +kernel, by decide +kernel, by decide +kernel⟩, by decide⟩
theorem lce_X12_balance : CeeV yX12_balance RX12 cX12_balance 3 (some .int) 2 := ⟨inG_t9 165 rfl rfl, inG_t9 166 rfl rfl, inG_t1 10 rfl rfl, inG_t9 167 rfl rfl, ⟨rfl, by decide +kernel, by decide +kernel, by decide +kernel⟩, by decide⟩
theorem lml_117 : Cond.methodLink RL 117 yX11_balance ∈ lwG := inG_t6 91 rfl rfl
theorem lml_120 : Cond.methodLink RL 120 yX12_balance ∈ lwG := inG_t9 164 rfl rfl
theorem lce_X11_oldest : CeeV yX11_oldest RX11 cX11_oldest 3 (some .int) 2 := ⟨inG_t6 101 rfl rfl, inG_t6 102 rfl rfl, inG_t1 1 rfl rfl, inG_t6 103 rfl rfl, ⟨rfl, by decide +kernel, by decide +kernel, by decide +kernel⟩, by decide⟩
theorem lce_X12_oldest : CeeV yX12_oldest RX12 cX12_oldest 5 (some .int) 2 := ⟨inG_t9 186 rfl rfl, inG_t9 187 rfl rfl, inG_t1 10 rfl rfl, inG_t9 188 rfl rfl, ⟨rfl, by decide +kernel, by decide +kernel, by decide +kernel⟩, by decide⟩
theorem lml_121 : Cond.methodLink RL 121 yX11_oldest ∈ lwG := inG_t6 100 rfl rfl
theorem lml_124 : Cond.methodLink RL 124 yX12_oldest ∈ lwG := inG_t9 185 rfl rfl
theorem lce_X11_owed : CeeV yX11_owed RX11 cX11_owed 4 (some .int) 1 := ⟨inG_t6 109 rfl rfl, inG_t6 110 rfl rfl, inG_t1 1 rfl rfl, inG_t6 111 rfl rfl, ⟨rfl, by decide +kernel, by decide +kernel, by decide +kernel⟩, by decide⟩
theorem lce_X12_owed : CeeV yX12_owed RX12 cX12_owed 4 (some .int) 1 := ⟨inG_t9 190 rfl rfl, inG_t9 191 rfl rfl, inG_t1 10 rfl rfl, inG_t9 192 rfl rfl, ⟨rfl, by decide +kernel, by decide +kernel, by decide +kernel⟩, by decide⟩
theorem lml_125 : Cond.methodLink RL 125 yX11_owed ∈ lwG := inG_t6 108 rfl rfl
theorem lml_128 : Cond.methodLink RL 128 yX12_owed ∈ lwG := inG_t9 189 rfl rfl
theorem lce_X11_worth : CeeV yX11_worth RX11 cX11_worth 2 (some .int) 1 := ⟨inG_t6 114 rfl rfl, inG_t6 115 rfl rfl, inG_t1 1 rfl rfl, inG_t6 116 rfl rfl, ⟨rfl, by decide +kernel, by decide +kernel, by decide +kernel⟩, by decide⟩
theorem lce_X12_worth : CeeV yX12_worth RX12 cX12_worth 2 (some .int) 1 := ⟨inG_t10 67 rfl rfl, inG_t10 68 rfl rfl, inG_t1 10 rfl rfl, inG_t10 69 rfl rfl, ⟨rfl, by decide +kernel, by decide +kernel, by decide +kernel⟩, by decide⟩
theorem lml_129 : Cond.methodLink RL 129 yX11_worth ∈ lwG := inG_t6 113 rfl rfl
theorem lml_132 : Cond.methodLink RL 132 yX12_worth ∈ lwG := inG_t10 66 rfl rfl
theorem lce_X11_tour : CeeV yX11_tour RX11 cX11_tour 2 (some .int) 1 := ⟨inG_t6 126 rfl rfl, inG_t6 127 rfl rfl, inG_t1 1 rfl rfl, inG_t6 128 rfl rfl, ⟨rfl, by decide +kernel, by decide +kernel, by decide +kernel⟩, by decide⟩
theorem lce_X12_tour : CeeV yX12_tour RX12 cX12_tour 2 (some .int) 1 := ⟨inG_t10 91 rfl rfl, inG_t10 92 rfl rfl, inG_t1 10 rfl rfl, inG_t10 93 rfl rfl, ⟨rfl, by decide +kernel, by decide +kernel, by decide +kernel⟩, by decide⟩
theorem lml_133 : Cond.methodLink RL 133 yX11_tour ∈ lwG := inG_t6 125 rfl rfl
theorem lml_136 : Cond.methodLink RL 136 yX12_tour ∈ lwG := inG_t10 90 rfl rfl
theorem lce_X11_swap : CeeV yX11_swap RX11 cX11_swap 4 (some .int) 2 := ⟨inG_t6 142 rfl rfl, inG_t6 143 rfl rfl, inG_t1 1 rfl rfl, inG_t6 144 rfl rfl, ⟨rfl, by decide +kernel, by decide +kernel, by decide +kernel⟩, by decide⟩
theorem lce_X12_swap : CeeV yX12_swap RX12 cX12_swap 4 (some .int) 2 := ⟨inG_t10 99 rfl rfl, inG_t10 100 rfl rfl, inG_t1 10 rfl rfl, inG_t10 101 rfl rfl, ⟨rfl, by decide +kernel, by decide +kernel, by decide +kernel⟩, by decide⟩
theorem lml_137 : Cond.methodLink RL 137 yX11_swap ∈ lwG := inG_t6 141 rfl rfl
theorem lml_140 : Cond.methodLink RL 140 yX12_swap ∈ lwG := inG_t10 98 rfl rfl
theorem lce_X11_sell : CeeV yX11_sell RX11 cX11_sell 3 (some .boolean) 2 := ⟨inG_t6 174 rfl rfl, inG_t6 175 rfl rfl, inG_t1 1 rfl rfl, inG_t6 176 rfl rfl, ⟨rfl, by decide +kernel, by decide +kernel, by decide +kernel⟩, by decide⟩
theorem lce_X12_sell : CeeV yX12_sell RX12 cX12_sell 3 (some .boolean) 2 := ⟨inG_t10 107 rfl rfl, inG_t10 108 rfl rfl, inG_t1 10 rfl rfl, inG_t10 109 rfl rfl, ⟨rfl, by decide +kernel, by decide +kernel, by decide +kernel⟩, by decide⟩
theorem lml_141 : Cond.methodLink RL 141 yX11_sell ∈ lwG := inG_t6 173 rfl rfl
theorem lml_145 : Cond.methodLink RL 145 yX12_sell ∈ lwG := inG_t10 106 rfl rfl
theorem lce_X11_instead : CeeV yX11_instead RX11 cX11_instead 5 (some .int) 1 := ⟨inG_t6 182 rfl rfl, inG_t6 183 rfl rfl, inG_t1 1 rfl rfl, inG_t6 184 rfl rfl, ⟨rfl, by decide +kernel, by decide +kernel, by decide +kernel⟩, by decide⟩
theorem lce_X12_instead : CeeV yX12_instead RX12 cX12_instead 5 (some .int) 1 := ⟨inG_t10 111 rfl rfl, inG_t10 112 rfl rfl, inG_t1 10 rfl rfl, inG_t10 113 rfl rfl, ⟨rfl, by decide +kernel, by decide +kernel, by decide +kernel⟩, by decide⟩
theorem lml_146 : Cond.methodLink RL 146 yX11_instead ∈ lwG := inG_t6 181 rfl rfl
theorem lml_149 : Cond.methodLink RL 149 yX12_instead ∈ lwG := inG_t10 110 rfl rfl
theorem lce_X11_tanks : CeeV yX11_tanks RX11 cX11_tanks 4 (some .int) 2 := ⟨inG_t6 187 rfl rfl, inG_t6 188 rfl rfl, inG_t1 1 rfl rfl, inG_t6 189 rfl rfl, ⟨rfl, by decide +kernel, by decide +kernel, by decide +kernel⟩, by decide⟩
theorem lce_X12_tanks : CeeV yX12_tanks RX12 cX12_tanks 5 (some .int) 2 := ⟨inG_t10 115 rfl rfl, inG_t10 116 rfl rfl, inG_t1 10 rfl rfl, inG_t10 117 rfl rfl, ⟨rfl, by decide +kernel, by decide +kernel, by decide +kernel⟩, by decide⟩
theorem lml_150 : Cond.methodLink RL 150 yX11_tanks ∈ lwG := inG_t6 186 rfl rfl
theorem lml_153 : Cond.methodLink RL 153 yX12_tanks ∈ lwG := inG_t10 114 rfl rfl
theorem lce_X11_keep : CeeV yX11_keep RX11 cX11_keep 1 (some .int) 0 := ⟨inG_t6 200 rfl rfl, inG_t6 201 rfl rfl, inG_t1 1 rfl rfl, inG_t6 202 rfl rfl, ⟨rfl, by decide +kernel, by decide +kernel, by decide +kernel⟩, by decide⟩
theorem lce_X12_keep : CeeV yX12_keep RX12 cX12_keep 1 (some .int) 0 := ⟨inG_t10 123 rfl rfl, inG_t10 124 rfl rfl, inG_t1 10 rfl rfl, inG_t10 125 rfl rfl, ⟨rfl, by decide +kernel, by decide +kernel, by decide +kernel⟩, by decide⟩
theorem lml_154 : Cond.methodLink RL 154 yX11_keep ∈ lwG := inG_t6 199 rfl rfl
theorem lml_157 : Cond.methodLink RL 157 yX12_keep ∈ lwG := inG_t10 122 rfl rfl
theorem lce_X11_back : CeeV yX11_back RX11 cX11_back 1 (some .int) 0 := ⟨inG_t6 208 rfl rfl, inG_t6 209 rfl rfl, inG_t1 1 rfl rfl, inG_t6 210 rfl rfl, ⟨rfl, by decide +kernel, by decide +kernel, by decide +kernel⟩, by decide⟩
theorem lce_X12_back : CeeV yX12_back RX12 cX12_back 2 (some .int) 0 := ⟨inG_t10 134 rfl rfl, inG_t10 135 rfl rfl, inG_t1 10 rfl rfl, inG_t10 136 rfl rfl, ⟨rfl, by decide +kernel, by decide +kernel, by decide +kernel⟩, by decide⟩
theorem lml_158 : Cond.methodLink RL 158 yX11_back ∈ lwG := inG_t6 207 rfl rfl
theorem lml_161 : Cond.methodLink RL 161 yX12_back ∈ lwG := inG_t10 133 rfl rfl
theorem lce_X11_count : CeeV yX11_count RX11 cX11_count 2 (some .int) 1 := ⟨inG_t6 212 rfl rfl, inG_t6 213 rfl rfl, inG_t1 1 rfl rfl, inG_t6 214 rfl rfl, ⟨rfl, by decide +kernel, by decide +kernel, by decide +kernel⟩, by decide⟩
theorem lce_X12_count : CeeV yX12_count RX12 cX12_count 4 (some .int) 1 := ⟨inG_t10 138 rfl rfl, inG_t10 139 rfl rfl, inG_t1 10 rfl rfl, inG_t10 140 rfl rfl, ⟨rfl, by decide +kernel, by decide +kernel, by decide +kernel⟩, by decide⟩
theorem lml_162 : Cond.methodLink RL 162 yX11_count ∈ lwG := inG_t6 211 rfl rfl
theorem lml_165 : Cond.methodLink RL 165 yX12_count ∈ lwG := inG_t10 137 rfl rfl
theorem if01 (w : Int32) : (if w = 0 then (0 : Int32) else 1) = 0 ∨ (if w = 0 then (0 : Int32) else 1) = 1 := by
  by_cases e : w = 0
  · exact Or.inl (if_pos e)
  · exact Or.inr (if_neg e)
theorem lce_X12_look : CeeV yX12_look RX12 cX12_look 3 (some .int) 2 := ⟨inG_t9 117 rfl rfl, inG_t9 118 rfl rfl, inG_t1 10 rfl rfl, inG_t9 119 rfl rfl, ⟨rfl, by decide +kernel, by decide +kernel, by decide +kernel⟩, by decide⟩
theorem lce_X12_thrown : CeeV yX12_thrown RX12 cX12_thrown 1 (some .int) 0 := ⟨inG_t8 162 rfl rfl, inG_t8 163 rfl rfl, inG_t1 10 rfl rfl, inG_t8 164 rfl rfl, ⟨rfl, by decide +kernel, by decide +kernel, by decide +kernel⟩, by decide⟩
theorem lml_44 : Cond.methodLink RL 44 yX12_look ∈ lwG := inG_t9 116 rfl rfl
theorem lml_45 : Cond.methodLink RL 45 yX12_thrown ∈ lwG := inG_t8 161 rfl rfl
section Cases
variable {b n x y o i c0 s0 : Nat} {xs : Nat → Int32} {u v : Value} {σ : ST}
theorem lc_feed (hn : n ≤ 3072) (hi : i + 6 ≤ n) (H : HI c0 s0 x y o σ) : CAS b n xs x y o i c0 s0 u v 188 σ := lw_case (st_feed (a1 := xs (i + 1)) (a2 := xs (i + 2)) (a3 := xs (i + 3)) (a4 := xs (i + 4)) (a5 := xs (i + 5))) dL_law_188 (pu_i hn (k := 1) (by decide) (by omega) dL_law_189 dL_law_190 dL_law_192 dL_law_193 dL_law_194 (pu_i hn (k := 2) (by decide) (by omega) dL_law_195 dL_law_196 dL_law_198 dL_law_199 dL_law_200 (pu_i hn (k := 3) (by decide) (by omega) dL_law_201 dL_law_202 dL_law_204 dL_law_205 dL_law_206 (pu_i hn (k := 4) (by decide) (by omega) dL_law_207 dL_law_208 dL_law_210 dL_law_211 dL_law_212 (pu_i hn (k := 5) (by decide) (by omega) dL_law_213 dL_law_214 dL_law_216 dL_law_217 dL_law_218 pu_0))))) (call_V i_X11_feed lce_X11_feed (ci := 11) rfl dL_law_219 lml_21 (by decide) (by decide)) dL_law_222 (pu_i hn (k := 1) (by decide) (by omega) dL_law_223 dL_law_224 dL_law_226 dL_law_227 dL_law_228 (pu_i hn (k := 2) (by decide) (by omega) dL_law_229 dL_law_230 dL_law_232 dL_law_233 dL_law_234 (pu_i hn (k := 3) (by decide) (by omega) dL_law_235 dL_law_236 dL_law_238 dL_law_239 dL_law_240 (pu_i hn (k := 4) (by decide) (by omega) dL_law_241 dL_law_242 dL_law_244 dL_law_245 dL_law_246 (pu_i hn (k := 5) (by decide) (by omega) dL_law_247 dL_law_248 dL_law_250 dL_law_251 dL_law_252 pu_0))))) (call_V i_X12_feed lce_X12_feed (ci := 12) rfl dL_law_253 lml_25 (by decide) (by decide)) dL_law_256 (by decide) H
theorem lc_text (hn : n ≤ 3072) (hi : i + 6 ≤ n) (H : HI c0 s0 x y o σ) : CAS b n xs x y o i c0 s0 u v 261 σ := lw_case (st_text (a1 := xs (i + 1))) dL_law_261 (pu_i hn (k := 1) (by decide) (by omega) dL_law_262 dL_law_263 dL_law_265 dL_law_266 dL_law_267 pu_0) (call_V i_X11_text lce_X11_text (ci := 11) rfl dL_law_268 lml_26 (by decide) (by decide)) dL_law_271 (pu_i hn (k := 1) (by decide) (by omega) dL_law_272 dL_law_273 dL_law_275 dL_law_276 dL_law_277 pu_0) (call_V i_X12_text lce_X12_text (ci := 12) rfl dL_law_278 lml_30 (by decide) (by decide)) dL_law_281 (by decide) H
theorem lc_fault (hn : n ≤ 3072) (hi : i + 6 ≤ n) (H : HI c0 s0 x y o σ) : CAS b n xs x y o i c0 s0 u v 286 σ := lw_case (st_fault (a1 := xs (i + 1))) dL_law_286 (pu_i hn (k := 1) (by decide) (by omega) dL_law_287 dL_law_288 dL_law_290 dL_law_291 dL_law_292 pu_0) (call_V i_X11_fault lce_X11_fault (ci := 11) rfl dL_law_293 lml_31 (by decide) (by decide)) dL_law_296 (pu_i hn (k := 1) (by decide) (by omega) dL_law_297 dL_law_298 dL_law_300 dL_law_301 dL_law_302 pu_0) (call_V i_X12_fault lce_X12_fault (ci := 12) rfl dL_law_303 lml_34 (by decide) (by decide)) dL_law_306 (by decide) H
theorem lc_named (hn : n ≤ 3072) (hi : i + 6 ≤ n) (H : HI c0 s0 x y o σ) : CAS b n xs x y o i c0 s0 u v 311 σ := lw_case (st_named (a1 := xs (i + 1)) (a2 := xs (i + 2))) dL_law_311 (pu_i hn (k := 1) (by decide) (by omega) dL_law_312 dL_law_313 dL_law_315 dL_law_316 dL_law_317 (pu_i hn (k := 2) (by decide) (by omega) dL_law_318 dL_law_319 dL_law_321 dL_law_322 dL_law_323 pu_0)) (call_V i_X11_named lce_X11_named (ci := 11) rfl dL_law_324 lml_35 (by decide) (by decide)) dL_law_327 (pu_i hn (k := 1) (by decide) (by omega) dL_law_328 dL_law_329 dL_law_331 dL_law_332 dL_law_333 (pu_i hn (k := 2) (by decide) (by omega) dL_law_334 dL_law_335 dL_law_337 dL_law_338 dL_law_339 pu_0)) (call_V i_X12_named lce_X12_named (ci := 12) rfl dL_law_340 lml_38 (by decide) (by decide)) dL_law_343 (by decide) H
theorem lc_front (hn : n ≤ 3072) (hi : i + 6 ≤ n) (H : HI c0 s0 x y o σ) : CAS b n xs x y o i c0 s0 u v 416 σ := lw_case (st_front (a1 := xs (i + 1)) (a2 := xs (i + 2))) dL_law_416 (pu_i hn (k := 1) (by decide) (by omega) dL_law_417 dL_law_418 dL_law_420 dL_law_421 dL_law_422 (pu_i hn (k := 2) (by decide) (by omega) dL_law_423 dL_law_424 dL_law_426 dL_law_427 dL_law_428 pu_0)) (call_V i_X11_front lce_X11_front (ci := 11) rfl dL_law_429 lml_49 (by decide) (by decide)) dL_law_432 (pu_i hn (k := 1) (by decide) (by omega) dL_law_433 dL_law_434 dL_law_436 dL_law_437 dL_law_438 (pu_i hn (k := 2) (by decide) (by omega) dL_law_439 dL_law_440 dL_law_442 dL_law_443 dL_law_444 pu_0)) (call_V i_X12_front lce_X12_front (ci := 12) rfl dL_law_445 lml_52 (by decide) (by decide)) dL_law_448 (by decide) H
theorem lc_pane (hn : n ≤ 3072) (hi : i + 6 ≤ n) (H : HI c0 s0 x y o σ) : CAS b n xs x y o i c0 s0 u v 453 σ := lw_case (st_pane (a1 := xs (i + 1)) (a2 := xs (i + 2)) (a3 := xs (i + 3))) dL_law_453 (pu_i hn (k := 1) (by decide) (by omega) dL_law_454 dL_law_455 dL_law_457 dL_law_458 dL_law_459 (pu_i hn (k := 2) (by decide) (by omega) dL_law_460 dL_law_461 dL_law_463 dL_law_464 dL_law_465 (pu_i hn (k := 3) (by decide) (by omega) dL_law_466 dL_law_467 dL_law_469 dL_law_470 dL_law_471 pu_0))) (call_V i_X11_pane lce_X11_pane (ci := 11) rfl dL_law_472 lml_53 (by decide) (by decide)) dL_law_475 (pu_i hn (k := 1) (by decide) (by omega) dL_law_476 dL_law_477 dL_law_479 dL_law_480 dL_law_481 (pu_i hn (k := 2) (by decide) (by omega) dL_law_482 dL_law_483 dL_law_485 dL_law_486 dL_law_487 (pu_i hn (k := 3) (by decide) (by omega) dL_law_488 dL_law_489 dL_law_491 dL_law_492 dL_law_493 pu_0))) (call_V i_X12_pane lce_X12_pane (ci := 12) rfl dL_law_494 lml_57 (by decide) (by decide)) dL_law_497 (by decide) H
theorem lc_top (hn : n ≤ 3072) (hi : i + 6 ≤ n) (H : HI c0 s0 x y o σ) : CAS b n xs x y o i c0 s0 u v 502 σ := lw_case (st_top (a1 := xs (i + 1)) (a2 := xs (i + 2)) (a3 := xs (i + 3)) (a4 := xs (i + 4)) (a5 := (if xs (i + 5) = 0 then 0 else 1))) dL_law_502 (pu_i hn (k := 1) (by decide) (by omega) dL_law_503 dL_law_504 dL_law_506 dL_law_507 dL_law_508 (pu_i hn (k := 2) (by decide) (by omega) dL_law_509 dL_law_510 dL_law_512 dL_law_513 dL_law_514 (pu_i hn (k := 3) (by decide) (by omega) dL_law_515 dL_law_516 dL_law_518 dL_law_519 dL_law_520 (pu_i hn (k := 4) (by decide) (by omega) dL_law_521 dL_law_522 dL_law_524 dL_law_525 dL_law_526 (pu_b (tgt := 540) (fin := 541) hn (k := 5) (by decide) (by omega) dL_law_527 dL_law_528 dL_law_530 dL_law_531 dL_law_532 dL_law_533 (by decide) dL_law_536 dL_law_537 (by decide) dL_law_540 rfl pu_0))))) (call_V i_X11_top lce_X11_top (ci := 11) rfl dL_law_541 lml_58 (by decide) (by decide)) dL_law_544 (pu_i hn (k := 1) (by decide) (by omega) dL_law_545 dL_law_546 dL_law_548 dL_law_549 dL_law_550 (pu_i hn (k := 2) (by decide) (by omega) dL_law_551 dL_law_552 dL_law_554 dL_law_555 dL_law_556 (pu_i hn (k := 3) (by decide) (by omega) dL_law_557 dL_law_558 dL_law_560 dL_law_561 dL_law_562 (pu_i hn (k := 4) (by decide) (by omega) dL_law_563 dL_law_564 dL_law_566 dL_law_567 dL_law_568 (pu_b (tgt := 582) (fin := 583) hn (k := 5) (by decide) (by omega) dL_law_569 dL_law_570 dL_law_572 dL_law_573 dL_law_574 dL_law_575 (by decide) dL_law_578 dL_law_579 (by decide) dL_law_582 rfl pu_0))))) (call_V i_X12_top lce_X12_top (ci := 12) rfl dL_law_583 lml_62 (by decide) (by decide)) dL_law_586 (by decide) H
theorem lc_covers (hn : n ≤ 3072) (hi : i + 6 ≤ n) (H : HI c0 s0 x y o σ) : CAS b n xs x y o i c0 s0 u v 591 σ := lw_case (st_covers (a1 := xs (i + 1)) (a2 := xs (i + 2)) (a3 := xs (i + 3)) (a4 := xs (i + 4)) (a5 := (if xs (i + 5) = 0 then 0 else 1))) dL_law_591 (pu_i hn (k := 1) (by decide) (by omega) dL_law_592 dL_law_593 dL_law_595 dL_law_596 dL_law_597 (pu_i hn (k := 2) (by decide) (by omega) dL_law_598 dL_law_599 dL_law_601 dL_law_602 dL_law_603 (pu_i hn (k := 3) (by decide) (by omega) dL_law_604 dL_law_605 dL_law_607 dL_law_608 dL_law_609 (pu_i hn (k := 4) (by decide) (by omega) dL_law_610 dL_law_611 dL_law_613 dL_law_614 dL_law_615 (pu_b (tgt := 629) (fin := 630) hn (k := 5) (by decide) (by omega) dL_law_616 dL_law_617 dL_law_619 dL_law_620 dL_law_621 dL_law_622 (by decide) dL_law_625 dL_law_626 (by decide) dL_law_629 rfl pu_0))))) (call_V i_X11_covers lce_X11_covers (ci := 11) rfl dL_law_630 lml_63 (by decide) (by decide)) dL_law_633 (pu_i hn (k := 1) (by decide) (by omega) dL_law_634 dL_law_635 dL_law_637 dL_law_638 dL_law_639 (pu_i hn (k := 2) (by decide) (by omega) dL_law_640 dL_law_641 dL_law_643 dL_law_644 dL_law_645 (pu_i hn (k := 3) (by decide) (by omega) dL_law_646 dL_law_647 dL_law_649 dL_law_650 dL_law_651 (pu_i hn (k := 4) (by decide) (by omega) dL_law_652 dL_law_653 dL_law_655 dL_law_656 dL_law_657 (pu_b (tgt := 671) (fin := 672) hn (k := 5) (by decide) (by omega) dL_law_658 dL_law_659 dL_law_661 dL_law_662 dL_law_663 dL_law_664 (by decide) dL_law_667 dL_law_668 (by decide) dL_law_671 rfl pu_0))))) (call_V i_X12_covers lce_X12_covers (ci := 12) rfl dL_law_672 lml_66 (by decide) (by decide)) dL_law_675 (by decide) H
theorem lc_missing (hn : n ≤ 3072) (hi : i + 6 ≤ n) (H : HI c0 s0 x y o σ) : CAS b n xs x y o i c0 s0 u v 680 σ := lw_case (st_missing (a1 := xs (i + 1)) (a2 := xs (i + 2)) (a3 := (if xs (i + 3) = 0 then 0 else 1)) (if01 _)) dL_law_680 (pu_i hn (k := 1) (by decide) (by omega) dL_law_681 dL_law_682 dL_law_684 dL_law_685 dL_law_686 (pu_i hn (k := 2) (by decide) (by omega) dL_law_687 dL_law_688 dL_law_690 dL_law_691 dL_law_692 (pu_b (tgt := 706) (fin := 707) hn (k := 3) (by decide) (by omega) dL_law_693 dL_law_694 dL_law_696 dL_law_697 dL_law_698 dL_law_699 (by decide) dL_law_702 dL_law_703 (by decide) dL_law_706 rfl pu_0))) (call_V i_X11_missing lce_X11_missing (ci := 11) rfl dL_law_707 lml_67 (by decide) (by decide)) dL_law_710 (pu_i hn (k := 1) (by decide) (by omega) dL_law_711 dL_law_712 dL_law_714 dL_law_715 dL_law_716 (pu_i hn (k := 2) (by decide) (by omega) dL_law_717 dL_law_718 dL_law_720 dL_law_721 dL_law_722 (pu_b (tgt := 736) (fin := 737) hn (k := 3) (by decide) (by omega) dL_law_723 dL_law_724 dL_law_726 dL_law_727 dL_law_728 dL_law_729 (by decide) dL_law_732 dL_law_733 (by decide) dL_law_736 rfl pu_0))) (call_V i_X12_missing lce_X12_missing (ci := 12) rfl dL_law_737 lml_71 (by decide) (by decide)) dL_law_740 (by decide) H
theorem lc_fewest (hn : n ≤ 3072) (hi : i + 6 ≤ n) (H : HI c0 s0 x y o σ) : CAS b n xs x y o i c0 s0 u v 745 σ := lw_case (st_fewest (a1 := xs (i + 1)) (a2 := xs (i + 2)) (a3 := (if xs (i + 3) = 0 then 0 else 1)) (a4 := xs (i + 4)) (if01 _)) dL_law_745 (pu_i hn (k := 1) (by decide) (by omega) dL_law_746 dL_law_747 dL_law_749 dL_law_750 dL_law_751 (pu_i hn (k := 2) (by decide) (by omega) dL_law_752 dL_law_753 dL_law_755 dL_law_756 dL_law_757 (pu_b (tgt := 771) (fin := 772) hn (k := 3) (by decide) (by omega) dL_law_758 dL_law_759 dL_law_761 dL_law_762 dL_law_763 dL_law_764 (by decide) dL_law_767 dL_law_768 (by decide) dL_law_771 rfl (pu_i hn (k := 4) (by decide) (by omega) dL_law_772 dL_law_773 dL_law_775 dL_law_776 dL_law_777 pu_0)))) (call_V i_X11_fewest lce_X11_fewest (ci := 11) rfl dL_law_778 lml_72 (by decide) (by decide)) dL_law_781 (pu_i hn (k := 1) (by decide) (by omega) dL_law_782 dL_law_783 dL_law_785 dL_law_786 dL_law_787 (pu_i hn (k := 2) (by decide) (by omega) dL_law_788 dL_law_789 dL_law_791 dL_law_792 dL_law_793 (pu_b (tgt := 807) (fin := 808) hn (k := 3) (by decide) (by omega) dL_law_794 dL_law_795 dL_law_797 dL_law_798 dL_law_799 dL_law_800 (by decide) dL_law_803 dL_law_804 (by decide) dL_law_807 rfl (pu_i hn (k := 4) (by decide) (by omega) dL_law_808 dL_law_809 dL_law_811 dL_law_812 dL_law_813 pu_0)))) (call_V i_X12_fewest lce_X12_fewest (ci := 12) rfl dL_law_814 lml_76 (by decide) (by decide)) dL_law_817 (by decide) H
theorem lc_minutes (hn : n ≤ 3072) (hi : i + 6 ≤ n) (H : HI c0 s0 x y o σ) : CAS b n xs x y o i c0 s0 u v 822 σ := lw_case (st_minutes (a1 := xs (i + 1)) (a2 := xs (i + 2)) (a3 := (if xs (i + 3) = 0 then 0 else 1)) (if01 _)) dL_law_822 (pu_i hn (k := 1) (by decide) (by omega) dL_law_823 dL_law_824 dL_law_826 dL_law_827 dL_law_828 (pu_i hn (k := 2) (by decide) (by omega) dL_law_829 dL_law_830 dL_law_832 dL_law_833 dL_law_834 (pu_b (tgt := 848) (fin := 849) hn (k := 3) (by decide) (by omega) dL_law_835 dL_law_836 dL_law_838 dL_law_839 dL_law_840 dL_law_841 (by decide) dL_law_844 dL_law_845 (by decide) dL_law_848 rfl pu_0))) (call_V i_X11_minutes lce_X11_minutes (ci := 11) rfl dL_law_849 lml_77 (by decide) (by decide)) dL_law_852 (pu_i hn (k := 1) (by decide) (by omega) dL_law_853 dL_law_854 dL_law_856 dL_law_857 dL_law_858 (pu_i hn (k := 2) (by decide) (by omega) dL_law_859 dL_law_860 dL_law_862 dL_law_863 dL_law_864 (pu_b (tgt := 878) (fin := 879) hn (k := 3) (by decide) (by omega) dL_law_865 dL_law_866 dL_law_868 dL_law_869 dL_law_870 dL_law_871 (by decide) dL_law_874 dL_law_875 (by decide) dL_law_878 rfl pu_0))) (call_V i_X12_minutes lce_X12_minutes (ci := 12) rfl dL_law_879 lml_80 (by decide) (by decide)) dL_law_882 (by decide) H
theorem lc_days (hn : n ≤ 3072) (hi : i + 6 ≤ n) (H : HI c0 s0 x y o σ) : CAS b n xs x y o i c0 s0 u v 887 σ := lw_case (st_days (a1 := xs (i + 1))) dL_law_887 (pu_i hn (k := 1) (by decide) (by omega) dL_law_888 dL_law_889 dL_law_891 dL_law_892 dL_law_893 pu_0) (call_V i_X11_days lce_X11_days (ci := 11) rfl dL_law_894 lml_81 (by decide) (by decide)) dL_law_897 (pu_i hn (k := 1) (by decide) (by omega) dL_law_898 dL_law_899 dL_law_901 dL_law_902 dL_law_903 pu_0) (call_V i_X12_days lce_X12_days (ci := 12) rfl dL_law_904 lml_84 (by decide) (by decide)) dL_law_907 (by decide) H
theorem lc_now (hn : n ≤ 3072) (hi : i + 6 ≤ n) (H : HI c0 s0 x y o σ) : CAS b n xs x y o i c0 s0 u v 912 σ := lw_case (st_now (a1 := xs (i + 1)) (a2 := xs (i + 2))) dL_law_912 (pu_i hn (k := 1) (by decide) (by omega) dL_law_913 dL_law_914 dL_law_916 dL_law_917 dL_law_918 (pu_i hn (k := 2) (by decide) (by omega) dL_law_919 dL_law_920 dL_law_922 dL_law_923 dL_law_924 pu_0)) (call_V i_X11_now lce_X11_now (ci := 11) rfl dL_law_925 lml_85 (by decide) (by decide)) dL_law_928 (pu_i hn (k := 1) (by decide) (by omega) dL_law_929 dL_law_930 dL_law_932 dL_law_933 dL_law_934 (pu_i hn (k := 2) (by decide) (by omega) dL_law_935 dL_law_936 dL_law_938 dL_law_939 dL_law_940 pu_0)) (call_V i_X12_now lce_X12_now (ci := 12) rfl dL_law_941 lml_88 (by decide) (by decide)) dL_law_944 (by decide) H
theorem lc_wet (hn : n ≤ 3072) (hi : i + 6 ≤ n) (H : HI c0 s0 x y o σ) : CAS b n xs x y o i c0 s0 u v 949 σ := lw_case (st_wet (a1 := xs (i + 1))) dL_law_949 (pu_i hn (k := 1) (by decide) (by omega) dL_law_950 dL_law_951 dL_law_953 dL_law_954 dL_law_955 pu_0) (call_V i_X11_wet lce_X11_wet (ci := 11) rfl dL_law_956 lml_89 (by decide) (by decide)) dL_law_959 (pu_i hn (k := 1) (by decide) (by omega) dL_law_960 dL_law_961 dL_law_963 dL_law_964 dL_law_965 pu_0) (call_V i_X12_wet lce_X12_wet (ci := 12) rfl dL_law_966 lml_92 (by decide) (by decide)) dL_law_969 (by decide) H
theorem lc_wiped (hn : n ≤ 3072) (hi : i + 6 ≤ n) (H : HI c0 s0 x y o σ) : CAS b n xs x y o i c0 s0 u v 974 σ := lw_case (st_wiped (a1 := xs (i + 1))) dL_law_974 (pu_i hn (k := 1) (by decide) (by omega) dL_law_975 dL_law_976 dL_law_978 dL_law_979 dL_law_980 pu_0) (call_V i_X11_wiped lce_X11_wiped (ci := 11) rfl dL_law_981 lml_93 (by decide) (by decide)) dL_law_984 (pu_i hn (k := 1) (by decide) (by omega) dL_law_985 dL_law_986 dL_law_988 dL_law_989 dL_law_990 pu_0) (call_V i_X12_wiped lce_X12_wiped (ci := 12) rfl dL_law_991 lml_96 (by decide) (by decide)) dL_law_994 (by decide) H
theorem lc_way (hn : n ≤ 3072) (hi : i + 6 ≤ n) (H : HI c0 s0 x y o σ) : CAS b n xs x y o i c0 s0 u v 999 σ := lw_case (st_way (a1 := xs (i + 1)) (a2 := xs (i + 2)) (a3 := xs (i + 3))) dL_law_999 (pu_i hn (k := 1) (by decide) (by omega) dL_law_1000 dL_law_1001 dL_law_1003 dL_law_1004 dL_law_1005 (pu_i hn (k := 2) (by decide) (by omega) dL_law_1006 dL_law_1007 dL_law_1009 dL_law_1010 dL_law_1011 (pu_i hn (k := 3) (by decide) (by omega) dL_law_1012 dL_law_1013 dL_law_1015 dL_law_1016 dL_law_1017 pu_0))) (call_V i_X11_way lce_X11_way (ci := 11) rfl dL_law_1018 lml_97 (by decide) (by decide)) dL_law_1021 (pu_i hn (k := 1) (by decide) (by omega) dL_law_1022 dL_law_1023 dL_law_1025 dL_law_1026 dL_law_1027 (pu_i hn (k := 2) (by decide) (by omega) dL_law_1028 dL_law_1029 dL_law_1031 dL_law_1032 dL_law_1033 (pu_i hn (k := 3) (by decide) (by omega) dL_law_1034 dL_law_1035 dL_law_1037 dL_law_1038 dL_law_1039 pu_0))) (call_V i_X12_way lce_X12_way (ci := 12) rfl dL_law_1040 lml_100 (by decide) (by decide)) dL_law_1043 (by decide) H
theorem lc_shortest (hn : n ≤ 3072) (hi : i + 6 ≤ n) (H : HI c0 s0 x y o σ) : CAS b n xs x y o i c0 s0 u v 1048 σ := lw_case (st_shortest (a1 := xs (i + 1)) (a2 := xs (i + 2)) (a3 := xs (i + 3))) dL_law_1048 (pu_i hn (k := 1) (by decide) (by omega) dL_law_1049 dL_law_1050 dL_law_1052 dL_law_1053 dL_law_1054 (pu_i hn (k := 2) (by decide) (by omega) dL_law_1055 dL_law_1056 dL_law_1058 dL_law_1059 dL_law_1060 (pu_i hn (k := 3) (by decide) (by omega) dL_law_1061 dL_law_1062 dL_law_1064 dL_law_1065 dL_law_1066 pu_0))) (call_V i_X11_shortest lce_X11_shortest (ci := 11) rfl dL_law_1067 lml_101 (by decide) (by decide)) dL_law_1070 (pu_i hn (k := 1) (by decide) (by omega) dL_law_1071 dL_law_1072 dL_law_1074 dL_law_1075 dL_law_1076 (pu_i hn (k := 2) (by decide) (by omega) dL_law_1077 dL_law_1078 dL_law_1080 dL_law_1081 dL_law_1082 (pu_i hn (k := 3) (by decide) (by omega) dL_law_1083 dL_law_1084 dL_law_1086 dL_law_1087 dL_law_1088 pu_0))) (call_V i_X12_shortest lce_X12_shortest (ci := 12) rfl dL_law_1089 lml_104 (by decide) (by decide)) dL_law_1092 (by decide) H
theorem lc_walk (hn : n ≤ 3072) (hi : i + 6 ≤ n) (H : HI c0 s0 x y o σ) : CAS b n xs x y o i c0 s0 u v 1097 σ := lw_case (st_walk (a1 := xs (i + 1)) (a2 := xs (i + 2))) dL_law_1097 (pu_i hn (k := 1) (by decide) (by omega) dL_law_1098 dL_law_1099 dL_law_1101 dL_law_1102 dL_law_1103 (pu_i hn (k := 2) (by decide) (by omega) dL_law_1104 dL_law_1105 dL_law_1107 dL_law_1108 dL_law_1109 pu_0)) (call_V i_X11_walk lce_X11_walk (ci := 11) rfl dL_law_1110 lml_105 (by decide) (by decide)) dL_law_1113 (pu_i hn (k := 1) (by decide) (by omega) dL_law_1114 dL_law_1115 dL_law_1117 dL_law_1118 dL_law_1119 (pu_i hn (k := 2) (by decide) (by omega) dL_law_1120 dL_law_1121 dL_law_1123 dL_law_1124 dL_law_1125 pu_0)) (call_V i_X12_walk lce_X12_walk (ci := 12) rfl dL_law_1126 lml_108 (by decide) (by decide)) dL_law_1129 (by decide) H
theorem lc_pay (hn : n ≤ 3072) (hi : i + 6 ≤ n) (H : HI c0 s0 x y o σ) : CAS b n xs x y o i c0 s0 u v 1134 σ := lw_case (st_pay (a1 := xs (i + 1)) (a2 := xs (i + 2)) (a3 := xs (i + 3))) dL_law_1134 (pu_i hn (k := 1) (by decide) (by omega) dL_law_1135 dL_law_1136 dL_law_1138 dL_law_1139 dL_law_1140 (pu_i hn (k := 2) (by decide) (by omega) dL_law_1141 dL_law_1142 dL_law_1144 dL_law_1145 dL_law_1146 (pu_i hn (k := 3) (by decide) (by omega) dL_law_1147 dL_law_1148 dL_law_1150 dL_law_1151 dL_law_1152 pu_0))) (call_V i_X11_pay lce_X11_pay (ci := 11) rfl dL_law_1153 lml_109 (by decide) (by decide)) dL_law_1156 (pu_i hn (k := 1) (by decide) (by omega) dL_law_1157 dL_law_1158 dL_law_1160 dL_law_1161 dL_law_1162 (pu_i hn (k := 2) (by decide) (by omega) dL_law_1163 dL_law_1164 dL_law_1166 dL_law_1167 dL_law_1168 (pu_i hn (k := 3) (by decide) (by omega) dL_law_1169 dL_law_1170 dL_law_1172 dL_law_1173 dL_law_1174 pu_0))) (call_V i_X12_pay lce_X12_pay (ci := 12) rfl dL_law_1175 lml_112 (by decide) (by decide)) dL_law_1178 (by decide) H
theorem lc_strike (hn : n ≤ 3072) (hi : i + 6 ≤ n) (H : HI c0 s0 x y o σ) : CAS b n xs x y o i c0 s0 u v 1183 σ := lw_case (st_strike (a1 := xs (i + 1))) dL_law_1183 (pu_i hn (k := 1) (by decide) (by omega) dL_law_1184 dL_law_1185 dL_law_1187 dL_law_1188 dL_law_1189 pu_0) (call_V i_X11_strike lce_X11_strike (ci := 11) rfl dL_law_1190 lml_113 (by decide) (by decide)) dL_law_1193 (pu_i hn (k := 1) (by decide) (by omega) dL_law_1194 dL_law_1195 dL_law_1197 dL_law_1198 dL_law_1199 pu_0) (call_V i_X12_strike lce_X12_strike (ci := 12) rfl dL_law_1200 lml_116 (by decide) (by decide)) dL_law_1203 (by decide) H
theorem lc_balance (hn : n ≤ 3072) (hi : i + 6 ≤ n) (H : HI c0 s0 x y o σ) : CAS b n xs x y o i c0 s0 u v 1208 σ := lw_case (st_balance (a1 := xs (i + 1)) (a2 := xs (i + 2))) dL_law_1208 (pu_i hn (k := 1) (by decide) (by omega) dL_law_1209 dL_law_1210 dL_law_1212 dL_law_1213 dL_law_1214 (pu_i hn (k := 2) (by decide) (by omega) dL_law_1215 dL_law_1216 dL_law_1218 dL_law_1219 dL_law_1220 pu_0)) (call_V i_X11_balance lce_X11_balance (ci := 11) rfl dL_law_1221 lml_117 (by decide) (by decide)) dL_law_1224 (pu_i hn (k := 1) (by decide) (by omega) dL_law_1225 dL_law_1226 dL_law_1228 dL_law_1229 dL_law_1230 (pu_i hn (k := 2) (by decide) (by omega) dL_law_1231 dL_law_1232 dL_law_1234 dL_law_1235 dL_law_1236 pu_0)) (call_V i_X12_balance lce_X12_balance (ci := 12) rfl dL_law_1237 lml_120 (by decide) (by decide)) dL_law_1240 (by decide) H
theorem lc_oldest (hn : n ≤ 3072) (hi : i + 6 ≤ n) (H : HI c0 s0 x y o σ) : CAS b n xs x y o i c0 s0 u v 1245 σ := lw_case (st_oldest (a1 := xs (i + 1)) (a2 := xs (i + 2))) dL_law_1245 (pu_i hn (k := 1) (by decide) (by omega) dL_law_1246 dL_law_1247 dL_law_1249 dL_law_1250 dL_law_1251 (pu_i hn (k := 2) (by decide) (by omega) dL_law_1252 dL_law_1253 dL_law_1255 dL_law_1256 dL_law_1257 pu_0)) (call_V i_X11_oldest lce_X11_oldest (ci := 11) rfl dL_law_1258 lml_121 (by decide) (by decide)) dL_law_1261 (pu_i hn (k := 1) (by decide) (by omega) dL_law_1262 dL_law_1263 dL_law_1265 dL_law_1266 dL_law_1267 (pu_i hn (k := 2) (by decide) (by omega) dL_law_1268 dL_law_1269 dL_law_1271 dL_law_1272 dL_law_1273 pu_0)) (call_V i_X12_oldest lce_X12_oldest (ci := 12) rfl dL_law_1274 lml_124 (by decide) (by decide)) dL_law_1277 (by decide) H
theorem lc_owed (hn : n ≤ 3072) (hi : i + 6 ≤ n) (H : HI c0 s0 x y o σ) : CAS b n xs x y o i c0 s0 u v 1282 σ := lw_case (st_owed (a1 := xs (i + 1))) dL_law_1282 (pu_i hn (k := 1) (by decide) (by omega) dL_law_1283 dL_law_1284 dL_law_1286 dL_law_1287 dL_law_1288 pu_0) (call_V i_X11_owed lce_X11_owed (ci := 11) rfl dL_law_1289 lml_125 (by decide) (by decide)) dL_law_1292 (pu_i hn (k := 1) (by decide) (by omega) dL_law_1293 dL_law_1294 dL_law_1296 dL_law_1297 dL_law_1298 pu_0) (call_V i_X12_owed lce_X12_owed (ci := 12) rfl dL_law_1299 lml_128 (by decide) (by decide)) dL_law_1302 (by decide) H
theorem lc_worth (hn : n ≤ 3072) (hi : i + 6 ≤ n) (H : HI c0 s0 x y o σ) : CAS b n xs x y o i c0 s0 u v 1307 σ := lw_case (st_worth (a1 := xs (i + 1))) dL_law_1307 (pu_i hn (k := 1) (by decide) (by omega) dL_law_1308 dL_law_1309 dL_law_1311 dL_law_1312 dL_law_1313 pu_0) (call_V i_X11_worth lce_X11_worth (ci := 11) rfl dL_law_1314 lml_129 (by decide) (by decide)) dL_law_1317 (pu_i hn (k := 1) (by decide) (by omega) dL_law_1318 dL_law_1319 dL_law_1321 dL_law_1322 dL_law_1323 pu_0) (call_V i_X12_worth lce_X12_worth (ci := 12) rfl dL_law_1324 lml_132 (by decide) (by decide)) dL_law_1327 (by decide) H
theorem lc_tour (hn : n ≤ 3072) (hi : i + 6 ≤ n) (H : HI c0 s0 x y o σ) : CAS b n xs x y o i c0 s0 u v 1332 σ := lw_case (st_tour (a1 := xs (i + 1))) dL_law_1332 (pu_i hn (k := 1) (by decide) (by omega) dL_law_1333 dL_law_1334 dL_law_1336 dL_law_1337 dL_law_1338 pu_0) (call_V i_X11_tour lce_X11_tour (ci := 11) rfl dL_law_1339 lml_133 (by decide) (by decide)) dL_law_1342 (pu_i hn (k := 1) (by decide) (by omega) dL_law_1343 dL_law_1344 dL_law_1346 dL_law_1347 dL_law_1348 pu_0) (call_V i_X12_tour lce_X12_tour (ci := 12) rfl dL_law_1349 lml_136 (by decide) (by decide)) dL_law_1352 (by decide) H
theorem lc_swap (hn : n ≤ 3072) (hi : i + 6 ≤ n) (H : HI c0 s0 x y o σ) : CAS b n xs x y o i c0 s0 u v 1357 σ := lw_case (st_swap (a1 := xs (i + 1)) (a2 := xs (i + 2))) dL_law_1357 (pu_i hn (k := 1) (by decide) (by omega) dL_law_1358 dL_law_1359 dL_law_1361 dL_law_1362 dL_law_1363 (pu_i hn (k := 2) (by decide) (by omega) dL_law_1364 dL_law_1365 dL_law_1367 dL_law_1368 dL_law_1369 pu_0)) (call_V i_X11_swap lce_X11_swap (ci := 11) rfl dL_law_1370 lml_137 (by decide) (by decide)) dL_law_1373 (pu_i hn (k := 1) (by decide) (by omega) dL_law_1374 dL_law_1375 dL_law_1377 dL_law_1378 dL_law_1379 (pu_i hn (k := 2) (by decide) (by omega) dL_law_1380 dL_law_1381 dL_law_1383 dL_law_1384 dL_law_1385 pu_0)) (call_V i_X12_swap lce_X12_swap (ci := 12) rfl dL_law_1386 lml_140 (by decide) (by decide)) dL_law_1389 (by decide) H
theorem lc_sell (hn : n ≤ 3072) (hi : i + 6 ≤ n) (H : HI c0 s0 x y o σ) : CAS b n xs x y o i c0 s0 u v 1394 σ := lw_case (st_sell (a1 := xs (i + 1)) (a2 := xs (i + 2))) dL_law_1394 (pu_i hn (k := 1) (by decide) (by omega) dL_law_1395 dL_law_1396 dL_law_1398 dL_law_1399 dL_law_1400 (pu_i hn (k := 2) (by decide) (by omega) dL_law_1401 dL_law_1402 dL_law_1404 dL_law_1405 dL_law_1406 pu_0)) (call_V i_X11_sell lce_X11_sell (ci := 11) rfl dL_law_1407 lml_141 (by decide) (by decide)) dL_law_1410 (pu_i hn (k := 1) (by decide) (by omega) dL_law_1411 dL_law_1412 dL_law_1414 dL_law_1415 dL_law_1416 (pu_i hn (k := 2) (by decide) (by omega) dL_law_1417 dL_law_1418 dL_law_1420 dL_law_1421 dL_law_1422 pu_0)) (call_V i_X12_sell lce_X12_sell (ci := 12) rfl dL_law_1423 lml_145 (by decide) (by decide)) dL_law_1426 (by decide) H
theorem lc_instead (hn : n ≤ 3072) (hi : i + 6 ≤ n) (H : HI c0 s0 x y o σ) : CAS b n xs x y o i c0 s0 u v 1431 σ := lw_case (st_instead (a1 := xs (i + 1))) dL_law_1431 (pu_i hn (k := 1) (by decide) (by omega) dL_law_1432 dL_law_1433 dL_law_1435 dL_law_1436 dL_law_1437 pu_0) (call_V i_X11_instead lce_X11_instead (ci := 11) rfl dL_law_1438 lml_146 (by decide) (by decide)) dL_law_1441 (pu_i hn (k := 1) (by decide) (by omega) dL_law_1442 dL_law_1443 dL_law_1445 dL_law_1446 dL_law_1447 pu_0) (call_V i_X12_instead lce_X12_instead (ci := 12) rfl dL_law_1448 lml_149 (by decide) (by decide)) dL_law_1451 (by decide) H
theorem lc_tanks (hn : n ≤ 3072) (hi : i + 6 ≤ n) (H : HI c0 s0 x y o σ) : CAS b n xs x y o i c0 s0 u v 1456 σ := lw_case (st_tanks (a1 := xs (i + 1)) (a2 := xs (i + 2))) dL_law_1456 (pu_i hn (k := 1) (by decide) (by omega) dL_law_1457 dL_law_1458 dL_law_1460 dL_law_1461 dL_law_1462 (pu_i hn (k := 2) (by decide) (by omega) dL_law_1463 dL_law_1464 dL_law_1466 dL_law_1467 dL_law_1468 pu_0)) (call_V i_X11_tanks lce_X11_tanks (ci := 11) rfl dL_law_1469 lml_150 (by decide) (by decide)) dL_law_1472 (pu_i hn (k := 1) (by decide) (by omega) dL_law_1473 dL_law_1474 dL_law_1476 dL_law_1477 dL_law_1478 (pu_i hn (k := 2) (by decide) (by omega) dL_law_1479 dL_law_1480 dL_law_1482 dL_law_1483 dL_law_1484 pu_0)) (call_V i_X12_tanks lce_X12_tanks (ci := 12) rfl dL_law_1485 lml_153 (by decide) (by decide)) dL_law_1488 (by decide) H
theorem lc_keep (hn : n ≤ 3072) (hi : i + 6 ≤ n) (H : HI c0 s0 x y o σ) : CAS b n xs x y o i c0 s0 u v 1493 σ := lw_case (st_keep ) dL_law_1493 pu_0 (call_V i_X11_keep lce_X11_keep (ci := 11) rfl dL_law_1494 lml_154 (by decide) (by decide)) dL_law_1497 pu_0 (call_V i_X12_keep lce_X12_keep (ci := 12) rfl dL_law_1498 lml_157 (by decide) (by decide)) dL_law_1501 (by decide) H
theorem lc_back (hn : n ≤ 3072) (hi : i + 6 ≤ n) (H : HI c0 s0 x y o σ) : CAS b n xs x y o i c0 s0 u v 1506 σ := lw_case (st_back ) dL_law_1506 pu_0 (call_V i_X11_back lce_X11_back (ci := 11) rfl dL_law_1507 lml_158 (by decide) (by decide)) dL_law_1510 pu_0 (call_V i_X12_back lce_X12_back (ci := 12) rfl dL_law_1511 lml_161 (by decide) (by decide)) dL_law_1514 (by decide) H
theorem lc_count (hn : n ≤ 3072) (hi : i + 6 ≤ n) (H : HI c0 s0 x y o σ) : CAS b n xs x y o i c0 s0 u v 1519 σ := lw_case (st_count (a1 := xs (i + 1))) dL_law_1519 (pu_i hn (k := 1) (by decide) (by omega) dL_law_1520 dL_law_1521 dL_law_1523 dL_law_1524 dL_law_1525 pu_0) (call_V i_X11_count lce_X11_count (ci := 11) rfl dL_law_1526 lml_162 (by decide) (by decide)) dL_law_1529 (pu_i hn (k := 1) (by decide) (by omega) dL_law_1530 dL_law_1531 dL_law_1533 dL_law_1534 dL_law_1535 pu_0) (call_V i_X12_count lce_X12_count (ci := 12) rfl dL_law_1536 lml_165 (by decide) (by decide)) dL_law_1539 (by decide) H
theorem lc_look (hn : n ≤ 3072) (hi : i + 6 ≤ n) (H : HI c0 s0 x y o σ) : CAS b n xs x y o i c0 s0 u v 348 σ := by
  obtain ⟨k, w, c1, s1, σ1, σ2, σ3, hl, ⟨V1, o1⟩, e2, ⟨V2, o2⟩, e3, hr, H3, hc, hs⟩ := st_look (a := xs (i + 1)) (b := xs (i + 2)) H
  refine ⟨σ3, c1, s1, .int k, .int w, H3, hc, hs, fun X hX g => ?_⟩
  have pu1 : ∀ u v, PU b n xs (lwL b x y o i u v) 349 [.int (xs (i + 1)), .int (xs (i + 2))] 361 := fun u v => (pu_i hn (k := 1) (by decide) (by omega) dL_law_349 dL_law_350 dL_law_352 dL_law_353 dL_law_354 (pu_i hn (k := 2) (by decide) (by omega) dL_law_355 dL_law_356 dL_law_358 dL_law_359 dL_law_360 pu_0))
  have pu2 : ∀ u v, PU b n xs (lwL b x y o i u v) 368 [.int (xs (i + 1)), .int (xs (i + 2))] 380 := fun u v => (pu_i hn (k := 1) (by decide) (by omega) dL_law_368 dL_law_369 dL_law_371 dL_law_372 dL_law_373 (pu_i hn (k := 2) (by decide) (by omega) dL_law_374 dL_law_375 dL_law_377 dL_law_378 dL_law_379 pu_0))
  refine (ie_aload_n dL_law_348 rfl : IE lawM lD 0 348 (eA 1) 349) X _ [] σ σ (.ref x) (Nat.le_refl _) rfl ?_
  refine pu1 u v X _ σ hX ?_
  refine (ie_aload_n dL_law_361 rfl : IE lawM lD 8 361 (eA 3) 362) X _ _ σ σ (.ref o) (Nat.le_of_ble_eq_true rfl) rfl ?_
  refine llk_call (M := lawM) (stk := []) rfl hl dL_law_362 (by decide) (Nat.le_of_ble_eq_true rfl) ?_
  refine g_ist dL_law_365 (by decide) ?_
  show G lawM lD X 367 (lwL b x y o i (.int k) v) [] σ1
  refine (ie_aload_n dL_law_367 rfl : IE lawM lD 0 367 (eA 2) 368) X _ [] σ1 σ1 (.ref y) (Nat.le_refl _) rfl ?_
  refine pu2 (.int k) v X _ σ1 hX ?_
  refine (call_V (w := 0) i_X12_look lce_X12_look (ci := 12) rfl dL_law_380 lml_44 (by decide) (by decide) : CALL lawM lD 0 380 3 (fV 12 m_X12_look) 383) X _ [] σ1 σ2 [.ref y, .int (xs (i + 1)), .int (xs (i + 2))] (some (.int w)) rfl (Nat.le_refl _) (fV_obj o1 e2) ?_
  refine g_ist dL_law_383 (by decide) ?_
  show G lawM lD X 385 (lwL b x y o i (.int k) (.int w)) [] σ2
  refine (ie_aload_n dL_law_385 rfl : IE lawM lD 0 385 (eA 2) 386) X _ [] σ2 σ2 (.ref y) (Nat.le_refl _) rfl ?_
  refine (call_V (w := 0) i_X12_thrown lce_X12_thrown (ci := 12) rfl dL_law_386 lml_45 (by decide) (by decide) : CALL lawM lD 0 386 1 (fV 12 m_X12_thrown) 389) X _ [] σ2 σ3 [.ref y] (some (.int k)) rfl (Nat.le_refl _) (fV_obj o2 e3) ?_
  refine (ie_iload dL_law_389 : IE lawM lD 2 389 (eI 5) 391) X _ [.int k] σ3 σ3 (.int k) (Nat.le_of_ble_eq_true rfl) rfl ?_
  refine (j_icmp_eq dL_law_391 (tgt := 396) (by decide) : J2 lawM lD 391 q_eq 396 394) X _ _ σ3 (.int k) (.int k) true (by show some (decide (k = k)) = some true; rw [decide_eq_true rfl]) ?_
  show G lawM lD X 396 _ [] σ3
  have fin : G lawM lD X 413 (lwL b x y o i (.int k) (.int w)) [] σ3 := (jp_go dL_law_413 (by decide) : JP lawM lD 413 1544) X _ _ σ3 g
  refine (ie_iload dL_law_396 : IE lawM lD 0 396 (eI 5) 398) X _ [] σ3 σ3 (.int k) (Nat.le_refl _) rfl ?_
  refine (j_if_ne dL_law_398 (tgt := 413) (by decide) : J1 lawM lD 398 z_ne 413 401) X _ _ σ3 (.int k) (decide (k ≠ 0)) rfl ?_
  by_cases e : k = 0
  · rw [decide_eq_false (fun z => z e)]
    show G lawM lD X 401 _ [] σ3
    refine (ie_aload_n dL_law_401 rfl : IE lawM lD 0 401 (eA 3) 402) X _ [] σ3 σ3 (.ref o) (Nat.le_refl _) rfl ?_
    refine (ie_iconst dL_law_402 rfl : IE lawM lD 2 402 (eK (.int 0)) 403) X _ _ σ3 σ3 (.int 0) (Nat.le_of_ble_eq_true rfl) rfl ?_
    refine (r_laload dL_law_403 : R2 lawM lD 403 arL 404) X _ [] σ3 (.ref o) (.int 0) (.long w.toInt64) (hr e) ?_
    refine (ie_iload dL_law_404 : IE lawM lD 4 404 (eI 6) 406) X _ _ σ3 σ3 (.int w) (Nat.le_of_ble_eq_true rfl) rfl ?_
    refine (r_i2l dL_law_406 : R1 lawM lD 406 o_i2l 407) X _ _ σ3 (.int w) (.long w.toInt64) rfl ?_
    refine (r_lcmp dL_law_407 : R2 lawM lD 407 o_lcmp 408) X _ [] σ3 (.long w.toInt64) (.long w.toInt64) (.int 0) (lcmp_0 _ _) ?_
    exact (j_if_eq dL_law_408 (tgt := 413) (by decide) : J1 lawM lD 408 z_eq 413 411) X _ _ σ3 (.int 0) true rfl fin
  · rw [decide_eq_true e]
    exact fin
end Cases
def lwT : List Nat := [188, 261, 286, 311, 348, 416, 453, 502, 591, 680, 745, 822, 887, 912, 949, 974, 999, 1048, 1097, 1134, 1183, 1208, 1245, 1282, 1307, 1332, 1357, 1394, 1431, 1456, 1493, 1506, 1519]
theorem lw_cases {b n x y o i c0 s0 : Nat} {xs : Nat → Int32} {u v : Value} {σ : ST} (hn : n ≤ 3072) (hi : i + 6 ≤ n) (H : HI c0 s0 x y o σ) : ∀ j, j < 33 → CAS b n xs x y o i c0 s0 u v (lwT.getD j 0) σ
  | 0, _ => lc_feed hn hi H
  | 1, _ => lc_text hn hi H
  | 2, _ => lc_fault hn hi H
  | 3, _ => lc_named hn hi H
  | 4, _ => lc_look hn hi H
  | 5, _ => lc_front hn hi H
  | 6, _ => lc_pane hn hi H
  | 7, _ => lc_top hn hi H
  | 8, _ => lc_covers hn hi H
  | 9, _ => lc_missing hn hi H
  | 10, _ => lc_fewest hn hi H
  | 11, _ => lc_minutes hn hi H
  | 12, _ => lc_days hn hi H
  | 13, _ => lc_now hn hi H
  | 14, _ => lc_wet hn hi H
  | 15, _ => lc_wiped hn hi H
  | 16, _ => lc_way hn hi H
  | 17, _ => lc_shortest hn hi H
  | 18, _ => lc_walk hn hi H
  | 19, _ => lc_pay hn hi H
  | 20, _ => lc_strike hn hi H
  | 21, _ => lc_balance hn hi H
  | 22, _ => lc_oldest hn hi H
  | 23, _ => lc_owed hn hi H
  | 24, _ => lc_worth hn hi H
  | 25, _ => lc_tour hn hi H
  | 26, _ => lc_swap hn hi H
  | 27, _ => lc_sell hn hi H
  | 28, _ => lc_instead hn hi H
  | 29, _ => lc_tanks hn hi H
  | 30, _ => lc_keep hn hi H
  | 31, _ => lc_back hn hi H
  | 32, _ => lc_count hn hi H
  | m + 33, h => absurd h (by omega)
theorem lw_to : ∀ j, j < 33 → ∃ off, (#[148, 221, 246, 271, 308, 376, 413, 462, 551, 640, 705, 782, 847, 872, 909, 934, 959, 1008, 1057, 1094, 1143, 1168, 1205, 1242, 1267, 1292, 1317, 1354, 1391, 1416, 1453, 1466, 1479] : Array Int)[j]? = some off ∧ ((40 : Nat) : Int) + off = ((lwT.getD j 0 : Nat) : Int)
  | 0, _ => ⟨148, rfl, by decide⟩
  | 1, _ => ⟨221, rfl, by decide⟩
  | 2, _ => ⟨246, rfl, by decide⟩
  | 3, _ => ⟨271, rfl, by decide⟩
  | 4, _ => ⟨308, rfl, by decide⟩
  | 5, _ => ⟨376, rfl, by decide⟩
  | 6, _ => ⟨413, rfl, by decide⟩
  | 7, _ => ⟨462, rfl, by decide⟩
  | 8, _ => ⟨551, rfl, by decide⟩
  | 9, _ => ⟨640, rfl, by decide⟩
  | 10, _ => ⟨705, rfl, by decide⟩
  | 11, _ => ⟨782, rfl, by decide⟩
  | 12, _ => ⟨847, rfl, by decide⟩
  | 13, _ => ⟨872, rfl, by decide⟩
  | 14, _ => ⟨909, rfl, by decide⟩
  | 15, _ => ⟨934, rfl, by decide⟩
  | 16, _ => ⟨959, rfl, by decide⟩
  | 17, _ => ⟨1008, rfl, by decide⟩
  | 18, _ => ⟨1057, rfl, by decide⟩
  | 19, _ => ⟨1094, rfl, by decide⟩
  | 20, _ => ⟨1143, rfl, by decide⟩
  | 21, _ => ⟨1168, rfl, by decide⟩
  | 22, _ => ⟨1205, rfl, by decide⟩
  | 23, _ => ⟨1242, rfl, by decide⟩
  | 24, _ => ⟨1267, rfl, by decide⟩
  | 25, _ => ⟨1292, rfl, by decide⟩
  | 26, _ => ⟨1317, rfl, by decide⟩
  | 27, _ => ⟨1354, rfl, by decide⟩
  | 28, _ => ⟨1391, rfl, by decide⟩
  | 29, _ => ⟨1416, rfl, by decide⟩
  | 30, _ => ⟨1453, rfl, by decide⟩
  | 31, _ => ⟨1466, rfl, by decide⟩
  | 32, _ => ⟨1479, rfl, by decide⟩
  | m + 33, h => absurd h (by omega)
