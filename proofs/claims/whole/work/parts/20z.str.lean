theorem dJ0_length_8abf5_0 : decode cJ0_length_8abf5 0 = .ok (.aload_n 0, 1) := by decide +kernel
theorem dJ0_length_8abf5_1 : decode cJ0_length_8abf5 1 = .ok (.getfield 9, 3) := by decide +kernel
theorem dJ0_length_8abf5_4 : decode cJ0_length_8abf5 4 = .ok (.arraylength, 1) := by decide +kernel
theorem dJ0_length_8abf5_5 : decode cJ0_length_8abf5 5 = .ok (.aload_n 0, 1) := by decide +kernel
theorem dJ0_length_8abf5_6 : decode cJ0_length_8abf5 6 = .ok (.invokevirtual 335, 3) := by decide +kernel
theorem dJ0_length_8abf5_9 : decode cJ0_length_8abf5 9 = .ok (.ishr, 1) := by decide +kernel
theorem dJ0_length_8abf5_10 : decode cJ0_length_8abf5 10 = .ok (.ireturn, 1) := by decide +kernel
theorem dJ0_coder_7d493_0 : decode cJ0_coder_7d493 0 = .ok (.getstatic 38, 3) := by decide +kernel
theorem dJ0_coder_7d493_3 : decode cJ0_coder_7d493 3 = .ok (.ifCond .eq 10, 3) := by decide +kernel
theorem dJ0_coder_7d493_6 : decode cJ0_coder_7d493 6 = .ok (.aload_n 0, 1) := by decide +kernel
theorem dJ0_coder_7d493_7 : decode cJ0_coder_7d493 7 = .ok (.getfield 15, 3) := by decide +kernel
theorem dJ0_coder_7d493_10 : decode cJ0_coder_7d493 10 = .ok (.goto 4, 3) := by decide +kernel
theorem dJ0_coder_7d493_13 : decode cJ0_coder_7d493 13 = .ok (.iconst 1, 1) := by decide +kernel
theorem dJ0_coder_7d493_14 : decode cJ0_coder_7d493 14 = .ok (.ireturn, 1) := by decide +kernel
theorem dJ0_charAt_5068e_0 : decode cJ0_charAt_5068e 0 = .ok (.aload_n 0, 1) := by decide +kernel
theorem dJ0_charAt_5068e_1 : decode cJ0_charAt_5068e 1 = .ok (.invokevirtual 492, 3) := by decide +kernel
theorem dJ0_charAt_5068e_4 : decode cJ0_charAt_5068e 4 = .ok (.ifCond .eq 12, 3) := by decide +kernel
theorem dJ0_charAt_5068e_7 : decode cJ0_charAt_5068e 7 = .ok (.aload_n 0, 1) := by decide +kernel
theorem dJ0_charAt_5068e_8 : decode cJ0_charAt_5068e 8 = .ok (.getfield 9, 3) := by decide +kernel
theorem dJ0_charAt_5068e_11 : decode cJ0_charAt_5068e 11 = .ok (.iload_n 1, 1) := by decide +kernel
theorem dJ0_charAt_5068e_12 : decode cJ0_charAt_5068e 12 = .ok (.invokestatic 495, 3) := by decide +kernel
theorem dJ0_charAt_5068e_15 : decode cJ0_charAt_5068e 15 = .ok (.ireturn, 1) := by decide +kernel
theorem dJ0_charAt_5068e_16 : decode cJ0_charAt_5068e 16 = .ok (.aload_n 0, 1) := by decide +kernel
theorem dJ0_charAt_5068e_17 : decode cJ0_charAt_5068e 17 = .ok (.getfield 9, 3) := by decide +kernel
theorem dJ0_charAt_5068e_20 : decode cJ0_charAt_5068e 20 = .ok (.iload_n 1, 1) := by decide +kernel
theorem dJ0_charAt_5068e_21 : decode cJ0_charAt_5068e 21 = .ok (.invokestatic 498, 3) := by decide +kernel
theorem dJ0_charAt_5068e_24 : decode cJ0_charAt_5068e 24 = .ok (.ireturn, 1) := by decide +kernel
theorem dJ0_isLatin1_aae02_0 : decode cJ0_isLatin1_aae02 0 = .ok (.getstatic 38, 3) := by decide +kernel
theorem dJ0_isLatin1_aae02_3 : decode cJ0_isLatin1_aae02 3 = .ok (.ifCond .eq 14, 3) := by decide +kernel
theorem dJ0_isLatin1_aae02_6 : decode cJ0_isLatin1_aae02 6 = .ok (.aload_n 0, 1) := by decide +kernel
theorem dJ0_isLatin1_aae02_7 : decode cJ0_isLatin1_aae02 7 = .ok (.getfield 15, 3) := by decide +kernel
theorem dJ0_isLatin1_aae02_10 : decode cJ0_isLatin1_aae02 10 = .ok (.ifCond .ne 7, 3) := by decide +kernel
theorem dJ0_isLatin1_aae02_13 : decode cJ0_isLatin1_aae02 13 = .ok (.iconst 1, 1) := by decide +kernel
theorem dJ0_isLatin1_aae02_14 : decode cJ0_isLatin1_aae02 14 = .ok (.goto 4, 3) := by decide +kernel
theorem dJ0_isLatin1_aae02_17 : decode cJ0_isLatin1_aae02 17 = .ok (.iconst 0, 1) := by decide +kernel
theorem dJ0_isLatin1_aae02_18 : decode cJ0_isLatin1_aae02 18 = .ok (.ireturn, 1) := by decide +kernel
theorem dJ1_charAt_3b067_0 : decode cJ1_charAt_3b067 0 = .ok (.iload_n 1, 1) := by decide +kernel
theorem dJ1_charAt_3b067_1 : decode cJ1_charAt_3b067 1 = .ok (.aload_n 0, 1) := by decide +kernel
theorem dJ1_charAt_3b067_2 : decode cJ1_charAt_3b067 2 = .ok (.arraylength, 1) := by decide +kernel
theorem dJ1_charAt_3b067_3 : decode cJ1_charAt_3b067 3 = .ok (.invokestatic 9, 3) := by decide +kernel
theorem dJ1_charAt_3b067_6 : decode cJ1_charAt_3b067 6 = .ok (.aload_n 0, 1) := by decide +kernel
theorem dJ1_charAt_3b067_7 : decode cJ1_charAt_3b067 7 = .ok (.iload_n 1, 1) := by decide +kernel
theorem dJ1_charAt_3b067_8 : decode cJ1_charAt_3b067 8 = .ok (.baload, 1) := by decide +kernel
theorem dJ1_charAt_3b067_9 : decode cJ1_charAt_3b067 9 = .ok (.sipush 255, 3) := by decide +kernel
theorem dJ1_charAt_3b067_12 : decode cJ1_charAt_3b067 12 = .ok (.iand, 1) := by decide +kernel
theorem dJ1_charAt_3b067_13 : decode cJ1_charAt_3b067 13 = .ok (.i2c, 1) := by decide +kernel
theorem dJ1_charAt_3b067_14 : decode cJ1_charAt_3b067 14 = .ok (.ireturn, 1) := by decide +kernel
theorem dJ0_checkIndex_df160_0 : decode cJ0_checkIndex_df160 0 = .ok (.iload_n 0, 1) := by decide +kernel
theorem dJ0_checkIndex_df160_1 : decode cJ0_checkIndex_df160 1 = .ok (.iload_n 1, 1) := by decide +kernel
theorem dJ0_checkIndex_df160_2 : decode cJ0_checkIndex_df160 2 = .ok (.getstatic 1053, 3) := by decide +kernel
theorem dJ0_checkIndex_df160_5 : decode cJ0_checkIndex_df160 5 = .ok (.invokestatic 1059, 3) := by decide +kernel
theorem dJ0_checkIndex_df160_8 : decode cJ0_checkIndex_df160 8 = .ok (.pop, 1) := by decide +kernel
theorem dJ0_checkIndex_df160_9 : decode cJ0_checkIndex_df160 9 = .ok (.return_, 1) := by decide +kernel
theorem dJ3_checkIndex_8e157_0 : decode cJ3_checkIndex_8e157 0 = .ok (.iload_n 0, 1) := by decide +kernel
theorem dJ3_checkIndex_8e157_1 : decode cJ3_checkIndex_8e157 1 = .ok (.ifCond .lt 8, 3) := by decide +kernel
theorem dJ3_checkIndex_8e157_4 : decode cJ3_checkIndex_8e157 4 = .ok (.iload_n 0, 1) := by decide +kernel
theorem dJ3_checkIndex_8e157_5 : decode cJ3_checkIndex_8e157 5 = .ok (.iload_n 1, 1) := by decide +kernel
theorem dJ3_checkIndex_8e157_6 : decode cJ3_checkIndex_8e157 6 = .ok (.if_icmp .lt 10, 3) := by decide +kernel
theorem dJ3_checkIndex_8e157_9 : decode cJ3_checkIndex_8e157 9 = .ok (.aload_n 2, 1) := by decide +kernel
theorem dJ3_checkIndex_8e157_10 : decode cJ3_checkIndex_8e157 10 = .ok (.iload_n 0, 1) := by decide +kernel
theorem dJ3_checkIndex_8e157_11 : decode cJ3_checkIndex_8e157 11 = .ok (.iload_n 1, 1) := by decide +kernel
theorem dJ3_checkIndex_8e157_12 : decode cJ3_checkIndex_8e157 12 = .ok (.invokestatic 95, 3) := by decide +kernel
theorem dJ3_checkIndex_8e157_15 : decode cJ3_checkIndex_8e157 15 = .ok (.athrow, 1) := by decide +kernel
theorem dJ3_checkIndex_8e157_16 : decode cJ3_checkIndex_8e157 16 = .ok (.iload_n 0, 1) := by decide +kernel
theorem dJ3_checkIndex_8e157_17 : decode cJ3_checkIndex_8e157 17 = .ok (.ireturn, 1) := by decide +kernel
theorem sw_iRJ0 : Cond.initialized RJ0 ∈ lwG := inG_t1 12 rfl rfl
theorem sw_iRJ1 : Cond.initialized RJ1 ∈ lwG := inG_t1 13 rfl rfl
theorem sw_iRJ3 : Cond.initialized RJ3 ∈ lwG := inG_t1 14 rfl rfl
theorem sw_c_length : Cond.code yJ0_length_8abf5 cJ0_length_8abf5 1 (some .int) ∈ lwG := inG_t3 54 rfl rfl
theorem sw_im_length : Cond.instanceMethod yJ0_length_8abf5 ∈ lwG := inG_t3 52 rfl rfl
theorem sw_se_length : Cond.selects RJ0 yJ0_length_8abf5 yJ0_length_8abf5 ∈ lwG := inG_t3 53 rfl rfl
theorem ce_length : CeeV yJ0_length_8abf5 RJ0 cJ0_length_8abf5 1 (some .int) 0 := ⟨sw_im_length, sw_se_length, sw_iRJ0, sw_c_length, ⟨rfl, by decide, by decide, by decide +kernel⟩, by decide⟩
theorem sw_c_coder : Cond.code yJ0_coder_7d493 cJ0_coder_7d493 1 (some .byte) ∈ lwG := inG_t3 58 rfl rfl
theorem sw_im_coder : Cond.instanceMethod yJ0_coder_7d493 ∈ lwG := inG_t3 56 rfl rfl
theorem sw_se_coder : Cond.selects RJ0 yJ0_coder_7d493 yJ0_coder_7d493 ∈ lwG := inG_t3 57 rfl rfl
theorem ce_coder : CeeV yJ0_coder_7d493 RJ0 cJ0_coder_7d493 1 (some .byte) 0 := ⟨sw_im_coder, sw_se_coder, sw_iRJ0, sw_c_coder, ⟨rfl, by decide, by decide, by decide +kernel⟩, by decide⟩
theorem sw_c_charAt : Cond.code yJ0_charAt_5068e cJ0_charAt_5068e 2 (some .char) ∈ lwG := inG_t3 64 rfl rfl
theorem sw_im_charAt : Cond.instanceMethod yJ0_charAt_5068e ∈ lwG := inG_t3 62 rfl rfl
theorem sw_se_charAt : Cond.selects RJ0 yJ0_charAt_5068e yJ0_charAt_5068e ∈ lwG := inG_t3 63 rfl rfl
theorem ce_charAt : CeeV yJ0_charAt_5068e RJ0 cJ0_charAt_5068e 2 (some .char) 1 := ⟨sw_im_charAt, sw_se_charAt, sw_iRJ0, sw_c_charAt, ⟨rfl, by decide, by decide, by decide +kernel⟩, by decide⟩
theorem sw_c_isLatin1 : Cond.code yJ0_isLatin1_aae02 cJ0_isLatin1_aae02 1 (some .boolean) ∈ lwG := inG_t3 68 rfl rfl
theorem sw_im_isLatin1 : Cond.instanceMethod yJ0_isLatin1_aae02 ∈ lwG := inG_t3 66 rfl rfl
theorem sw_se_isLatin1 : Cond.selects RJ0 yJ0_isLatin1_aae02 yJ0_isLatin1_aae02 ∈ lwG := inG_t3 67 rfl rfl
theorem ce_isLatin1 : CeeV yJ0_isLatin1_aae02 RJ0 cJ0_isLatin1_aae02 1 (some .boolean) 0 := ⟨sw_im_isLatin1, sw_se_isLatin1, sw_iRJ0, sw_c_isLatin1, ⟨rfl, by decide, by decide, by decide +kernel⟩, by decide⟩
theorem sw_c_l1 : Cond.code yJ1_charAt_3b067 cJ1_charAt_3b067 2 (some .char) ∈ lwG := inG_t3 71 rfl rfl
theorem sw_st_l1 : Cond.static yJ1_charAt_3b067 ∈ lwG := inG_t3 70 rfl rfl
theorem ce_l1 : CeeS yJ1_charAt_3b067 cJ1_charAt_3b067 2 (some .char) 2 := ⟨sw_st_l1, sw_iRJ1, sw_c_l1, ⟨by decide, by decide, by decide +kernel⟩, by decide⟩
theorem sw_c_ck : Cond.code yJ0_checkIndex_df160 cJ0_checkIndex_df160 2 none ∈ lwG := inG_t3 74 rfl rfl
theorem sw_st_ck : Cond.static yJ0_checkIndex_df160 ∈ lwG := inG_t3 73 rfl rfl
theorem ce_ck : CeeS yJ0_checkIndex_df160 cJ0_checkIndex_df160 2 none 2 := ⟨sw_st_ck, sw_iRJ0, sw_c_ck, ⟨by decide, by decide, by decide +kernel⟩, by decide⟩
theorem sw_c_pk : Cond.code yJ3_checkIndex_8e157 cJ3_checkIndex_8e157 3 (some .int) ∈ lwG := inG_t3 79 rfl rfl
theorem sw_st_pk : Cond.static yJ3_checkIndex_8e157 ∈ lwG := inG_t3 78 rfl rfl
theorem ce_pk : CeeS yJ3_checkIndex_8e157 cJ3_checkIndex_8e157 3 (some .int) 3 := ⟨sw_st_pk, sw_iRJ3, sw_c_pk, ⟨by decide, by decide, by decide +kernel⟩, by decide⟩
theorem sw_ml335 : Cond.methodLink RJ0 335 yJ0_coder_7d493 ∈ lwG := inG_t3 55 rfl rfl
theorem sw_ml492 : Cond.methodLink RJ0 492 yJ0_isLatin1_aae02 ∈ lwG := inG_t3 65 rfl rfl
theorem sw_ml495 : Cond.methodLink RJ0 495 yJ1_charAt_3b067 ∈ lwG := inG_t3 69 rfl rfl
theorem sw_ml9 : Cond.methodLink RJ1 9 yJ0_checkIndex_df160 ∈ lwG := inG_t3 72 rfl rfl
theorem sw_ml1059 : Cond.methodLink RJ0 1059 yJ3_checkIndex_8e157 ∈ lwG := inG_t3 77 rfl rfl
theorem sw_fl9 : Cond.fieldLink RJ0 9 RJ0 "value" "[B" ∈ lwG := inG_t10 159 rfl rfl
theorem sw_fl15 : Cond.fieldLink RJ0 15 RJ0 "coder" "B" ∈ lwG := inG_t10 160 rfl rfl
theorem sw_fl38 : Cond.fieldLink RJ0 38 RJ0 "COMPACT_STRINGS" "Z" ∈ lwG := inG_t3 59 rfl rfl
theorem sw_fl1053 : Cond.fieldLink RJ0 1053 RJ3 "SIOOBE_FORMATTER" "Ljava/util/function/BiFunction;" ∈ lwG := inG_t3 75 rfl rfl
def chW (b : List Int32) : Value → ST → Option Value := fun a _ => match a with
  | .int i => if ¬ (i < 0 ∨ b.length ≤ i.toNatClampNeg) then some (.int (b.getD i.toNatClampNeg 0)) else none
  | _ => none
/-- a constant text at q, its bytes at vq -/
def stF (Y : YX) (q vq n : Nat) (b : List Int32) (U : State) : Prop := va_O RJ0 q (gA Y) U U.heap ∧ va_OF RJ0 "coder" "B" (.int 0) q (gA Y) U U.heap ∧ va_OF RJ0 "value" "[B" (.ref vq) q (gA Y) U U.heap ∧ va_T .byte vq n (fun j => .int (b.getD j 0)) (gA Y) U U.heap ∧ va_Z RJ0 "COMPACT_STRINGS" "Z" (.int 1) (gA Y) U U.heap ∧ va_Zq RJ3 "SIOOBE_FORMATTER" "Ljava/util/function/BiFunction;" (gA Y) U U.heap
def okS (n : Nat) (b : List Int32) : Prop := Int32.ofNat n >>> ((0 : Int32) &&& 31) = Int32.ofNat n ∧ n = b.length ∧ n < 2 ^ 31 ∧ ∀ k, k < n → ((b.getD k 0 &&& 255).toUInt32 % 65536).toInt32 = b.getD k 0 ∧ narrow .char (.int (b.getD k 0)) = .int (b.getD k 0)
theorem okS_0 : okS lnW0 byW0 := ⟨by decide +kernel, by decide +kernel, by decide +kernel, by decide +kernel⟩
theorem okS_1 : okS lnW1 byW1 := ⟨by decide +kernel, by decide +kernel, by decide +kernel, by decide +kernel⟩
section StrM
variable {Y : YX} {q vq n : Nat} {b : List Int32}
theorem stF.mv {s U : State} {locs : List Loc} (h : stF Y q vq n b s) (hv : s.vm.Alike U.vm) (hH : va_S (gA Y) s.heap U.heap locs) : stF Y q vq n b U := ⟨(va_O.moved hv h.1).kept hH.2.1, (va_OF.moved hv h.2.1).kept hH.2.1, (va_OF.moved hv h.2.2.1).kept hH.2.1, (va_T.moved hv h.2.2.2.1).kept hH.2.1, (va_Z.moved hv h.2.2.2.2.1).kept hH.2.1, (va_Zq.moved hv h.2.2.2.2.2).kept hH.2.1⟩
theorem stF.fr {s U : State} (hv : s.vm = U.vm) (hH : U.heap = s.heap) (h : stF Y q vq n b s) : stF Y q vq n b U := h.mv (locs := []) (by rw [hv]; exact Vm.Alike.refl _) (by rw [hH]; exact va_S.rf)
def noF : Addr → Prop := fun _ => False
def sPc (as : List Value) (P : State → Prop) : Array Value → State → Prop := fun v U => v = as.toArray ∧ P U
def sQc (v : Option Value) : Array Value → State → Outcome → State → Prop := fun _ st o t => o = .returned v ∧ t.heap = st.heap
def SMet (l : Launch) (y : MethodName) (cc : ByteArray) (nL : Nat) (rt : Option FieldType) (d : Nat) (as : List Value) (P : State → Prop) (v : Option Value) : Prop := Met l y (.code y cc nL rt :: lwG) (rmD d 0 0) (sPc as P) (sQc v) 0 0 noF
theorem smet_of {l : Launch} {y : MethodName} {cc : ByteArray} {nL d : Nat} {rt : Option FieldType} {as : List Value} {P : State → Prop} {v : Option Value} (hpl : plainName y.cls = true) (hlen : (lg_sl as).length ≤ nL)
    (h : ∀ (p : Program) (e : Env) (s : State) (m : MethodId) (below : List Frame) (meth : Method) (c : Code) (ls : Array Slot), p.tables.exec = Jvm.exec → c.code = cc → meth.sig.returnType = rt → c.maxLocals = nL → s.vm.findClass y.cls = some m.cls → (∀ w ∈ lwG, w.before as.toArray s = true) → meth.locks = false → lv_has ls nL (lv_args 0 as) → P s → W p l e (rmD d 0 0) s m as.toArray below meth c s.heap [] 0 0 (MQ below (sQc v) as.toArray s 0 0 noF) (F0 m 0 ls [])) : SMet l y cc nL rt d as P v := by
  refine Met.ofW (cc := cc) (maxL := nL) (ret := rt) hpl rfl ?_
  intro p e s m args below meth c s₁ B hml hv
  obtain ⟨rfl, hP⟩ := hv
  have hts := atoms_spec (ws := Cond.code y cc nL rt :: lwG) B.pre
  have hl := lv_entry as (n := nL) hlen
  rw [lg_entry_eq]
  exact h p e s m below meth c _ B.exec B.bytes B.returns hml (findClass_of_methodNamed B.named) (fun w hw => hts w (List.mem_cons_of_mem _ hw)) B.notSynchronized hl hP
section Runs
variable {p : Program} {l : Launch} {e : Env} {R : Room} {s : State} {m : MethodId} {args : Array Value} {below : List Frame} {meth : Method} {c : Code} {H : Heap} {locs : List Loc} {cells slots : Nat} {Q : State → Prop} {cc yc : ByteArray} {nL0 nL d' index pc k : Nat} {ls : Array Slot} {rest As : List Value} {own C : String} {y : MethodName} {rt : Option FieldType} {P : State → Prop} {v : Option Value} {a : Array Value} {st0 : List Value}
theorem sw_run (hr : va_Run p l e R s m args below meth c H locs cells slots 0 0 (F0 m pc ls st0) rest (sQc v a) noF) (kk : W p l e R s m args below meth c H locs cells slots Q (F0 m (pc + 3) ls (v.toList ++ rest))) : W p l e R s m args below meth c H locs cells slots Q (F0 m pc ls st0) := by
  intro T hT X
  obtain ⟨v', st₀, t, T', L', h0, X'', hL, e1, e2, ⟨hv, hh⟩, st⟩ := hr T hT X
  cases hv
  have hL0 : L' = [] := by
    cases L' with
    | nil => rfl
    | cons z r => exact (hL z List.mem_cons_self).elim
  subst hL0
  rw [List.append_nil] at X''
  obtain ⟨t2, a1, b1⟩ := kk T' (e1.trans (hh.trans h0)) X''
  exact ⟨t2, st t2 a1, b1⟩
theorem sPc_blind (hf : ∀ u U : State, u.vm = U.vm → U.heap = u.heap → P u → P U) : FrameBlind (sPc As P) := by
  intro a U g mk h
  exact ⟨h.1, hf U _ rfl rfl h.2⟩
theorem sw_V {b : Nat} (hx : p.tables.exec = Jvm.exec) (hb : c.code = cc) (hml : c.maxLocals = nL0) (hown : s.vm.findClass own = some m.cls) (hts : ∀ w ∈ lwG, w.before args s = true) (hM : SMet l y yc nL rt d' (.ref b :: As) P v) (K : CeeV y C yc nL rt k) (hl : Cond.methodLink own index y ∈ lwG) (hn : As.length = k) (hrec : ∃ cell : Cell, H[b]? = some cell ∧ cell.vm.isStatics = false ∧ s.vm.findClass C = some cell.cls)
    (hf : ∀ u U : State, u.vm = U.vm → U.heap = u.heap → P u → P U) (hP : ∀ U : State, U.heap = H → s.WarmedH U.vm → P U) (hls : ls.size = nL0) (hd : decode cc pc = .ok (.invokevirtual index, 3)) (hfr : d' + 1 ≤ R.frames) (hlo : 16 + (nL + 11) + 60 * d' ≤ R.locals) (hc : cells ≤ R.cells) (hs : slots ≤ R.slots) (hw : wt rest ≤ 16)
    (kk : W p l e R s m args below meth c H locs cells slots Q (F0 m (pc + 3) ls (v.toList ++ rest))) : W p l e R s m args below meth c H locs cells slots Q (F0 m pc ls (As.reverse ++ .ref b :: rest)) := by
  obtain ⟨K1, K2, K3, K4, K5, K6⟩ := K
  have hG : GoodIn lwG (Cond.code y yc nL rt :: lwG) := lwG_good (fun _ h => h) fun w hw => by
    rcases List.mem_cons.mp hw with rfl | h
    · exact K4
    · exact h
  refine sw_run (a := (Value.ref b :: As).toArray) (run_V (As := As) (n := k) (nL := nL0) (bytes := yc) (maxL := nL) (ret := rt) (C := C) hx hb hml hown hM rfl rfl hfr hlo (pay_in hts hG) List.mem_cons_self (hts _ K4) (by rw [K5.1]; exact hts _ K3) ⟨K5.2.1, K5.2.2.1⟩ (fun sig h => ?_) (hts _ hl) (hts _ K1) (hts _ K2) ⟨sPc_blind hf, hrec, fun U hU hW => ⟨rfl, hP U hU hW⟩⟩ rfl hn hls rfl (wt_room16 hw (Nat.le_refl _)) hd ⟨hc, hs⟩) kk
  have h2 := K5.2.2.2
  rw [h] at h2
  exact (Option.some.inj h2).symm
theorem sw_S (hx : p.tables.exec = Jvm.exec) (hb : c.code = cc) (hml : c.maxLocals = nL0) (hown : s.vm.findClass own = some m.cls) (hts : ∀ w ∈ lwG, w.before args s = true) (hM : SMet l y yc nL rt d' As P v) (K : CeeS y yc nL rt k) (hl : Cond.methodLink own index y ∈ lwG) (hn : As.length = k)
    (hf : ∀ u U : State, u.vm = U.vm → U.heap = u.heap → P u → P U) (hP : ∀ U : State, U.heap = H → s.WarmedH U.vm → P U) (hls : ls.size = nL0) (hd : decode cc pc = .ok (.invokestatic index, 3)) (hfr : d' + 1 ≤ R.frames) (hlo : 8 + (nL + 11) + 60 * d' ≤ R.locals) (hc : cells ≤ R.cells) (hs : slots ≤ R.slots) (hw : wt rest ≤ 8)
    (kk : W p l e R s m args below meth c H locs cells slots Q (F0 m (pc + 3) ls (v.toList ++ rest))) : W p l e R s m args below meth c H locs cells slots Q (F0 m pc ls (As.reverse ++ rest)) := by
  obtain ⟨K1, K2, K3, K4, K5⟩ := K
  refine sw_run (a := As.toArray) (va_runS (As := As) (n := k) (nL := nL0) (Ts := lwG) ⟨hx, hb, hml, hown, hts⟩ hM ⟨callB_of k hts (lwG_good (fun _ h => h) fun w hw => ?_) rfl rfl rfl (hts _ K2) (hts _ hl) K4 ⟨hfr, hlo⟩, hts _ K1⟩ ⟨sPc_blind hf, fun U hU hW => ⟨rfl, hP U hU hW⟩⟩ rfl hn hls rfl (wt_room hw (Nat.le_refl _)) hd ⟨hc, hs⟩) kk
  rcases List.mem_cons.mp hw with rfl | h
  · exact K3
  · exact h
end Runs
theorem sm_coder (l : Launch) : SMet l yJ0_coder_7d493 cJ0_coder_7d493 1 (some .byte) 0 [.ref q] (stF Y q vq n b) (some (.int 0)) := by
  refine smet_of (by decide +kernel) (Nat.le_of_ble_eq_true rfl) fun p e s m below meth c ls hx hb hr hml hown hts hlk hl hP => ?_
  refine va_gets hx hb hP.2.2.2.2.1 va_S.rf hown (hts _ sw_fl38) (fun _ h => h) dJ0_coder_7d493_0 ?_
  refine lv_if_eq hx hb dJ0_coder_7d493_3 (tgt := 13) (by decide) (fun z => absurd z (by decide)) fun _ => ?_
  refine lv_aload_n hx hb dJ0_coder_7d493_6 rfl (lv_at hl 0 rfl) ?_
  refine vk_getf hx hb hP.2.1 va_S.rf hown (hts _ sw_fl15) (fun _ h => h) dJ0_coder_7d493_7 ?_
  refine lv_goto hx hb dJ0_coder_7d493_10 (tgt := 14) (by decide) ?_
  exact W.zret (ty := .byte) hx hb hr (by decide) (fun t ht _ => ⟨rfl, ht⟩) (fun _ h => nomatch h) dJ0_coder_7d493_14 hlk
theorem sm_isLatin1 (l : Launch) : SMet l yJ0_isLatin1_aae02 cJ0_isLatin1_aae02 1 (some .boolean) 0 [.ref q] (stF Y q vq n b) (some (.int 1)) := by
  refine smet_of (by decide +kernel) (Nat.le_of_ble_eq_true rfl) fun p e s m below meth c ls hx hb hr hml hown hts hlk hl hP => ?_
  refine va_gets hx hb hP.2.2.2.2.1 va_S.rf hown (hts _ sw_fl38) (fun _ h => h) dJ0_isLatin1_aae02_0 ?_
  refine lv_if_eq hx hb dJ0_isLatin1_aae02_3 (tgt := 17) (by decide) (fun z => absurd z (by decide)) fun _ => ?_
  refine lv_aload_n hx hb dJ0_isLatin1_aae02_6 rfl (lv_at hl 0 rfl) ?_
  refine vk_getf hx hb hP.2.1 va_S.rf hown (hts _ sw_fl15) (fun _ h => h) dJ0_isLatin1_aae02_7 ?_
  refine lv_if_ne hx hb dJ0_isLatin1_aae02_10 (tgt := 17) (by decide) (fun z => absurd rfl z) fun _ => ?_
  refine lv_iconst hx hb dJ0_isLatin1_aae02_13 (v := 1) rfl ?_
  refine lv_goto hx hb dJ0_isLatin1_aae02_14 (tgt := 18) (by decide) ?_
  exact W.zret (ty := .boolean) hx hb hr (by decide) (fun t ht _ => ⟨rfl, ht⟩) (fun _ h => nomatch h) dJ0_isLatin1_aae02_18 hlk
theorem sm_length (l : Launch) (hk : okS n b) : SMet l yJ0_length_8abf5 cJ0_length_8abf5 1 (some .int) 1 [.ref q] (stF Y q vq n b) (some (.int (Int32.ofNat n))) := by
  refine smet_of (by decide +kernel) (Nat.le_of_ble_eq_true rfl) fun p e s m below meth c ls hx hb hr hml hown hts hlk hl hP => ?_
  refine lv_aload_n hx hb dJ0_length_8abf5_0 rfl (lv_at hl 0 rfl) ?_
  refine vk_getf hx hb hP.2.2.1 va_S.rf hown (hts _ sw_fl9) (fun _ h => h) dJ0_length_8abf5_1 ?_
  refine va_tlen hx hb hP.2.2.2.1 va_S.rf (v := Int32.ofNat n) rfl dJ0_length_8abf5_4 ?_
  refine lv_aload_n hx hb dJ0_length_8abf5_5 rfl (lv_at hl 0 rfl) ?_
  obtain ⟨cell, r1, r2, r3, -⟩ := hP.1
  refine sw_V (As := []) hx hb hml hown hts (sm_coder (Y := Y) (vq := vq) (n := n) (b := b) l) ce_coder sw_ml335 rfl ⟨cell, r1, r2, r3⟩ (fun u U => stF.fr) (fun U hU hW => hP.mv (locs := []) hW.alike (by rw [hU]; exact va_S.rf)) hl.1 dJ0_length_8abf5_6 (by decide) (by decide) (by decide) (by decide) (Nat.le_of_ble_eq_true rfl) ?_
  refine lv_ishr hx hb dJ0_length_8abf5_9 ?_
  rw [hk.1]
  exact W.iret hx hb hr (fun t ht _ => ⟨rfl, ht⟩) (fun _ h => nomatch h) dJ0_length_8abf5_10 hlk
theorem sm_pk (l : Launch) {i k : Int32} {fv : Value} {P : State → Prop} (hf : fv.category = 1) (h0 : ¬ i < 0) (h1 : i < k) : SMet l yJ3_checkIndex_8e157 cJ3_checkIndex_8e157 3 (some .int) 0 [.int i, .int k, fv] P (some (.int i)) := by
  refine smet_of (by decide +kernel) ?_ fun p e s m below meth c ls hx hb hr hml hown hts hlk hl hP => ?_
  · cases fv <;> first | exact Nat.le_of_ble_eq_true rfl | cases hf
  refine lv_iload_n hx hb dJ3_checkIndex_8e157_0 rfl (lv_at hl 0 rfl) ?_
  refine lv_if_lt hx hb dJ3_checkIndex_8e157_1 (tgt := 9) (by decide) (fun z => absurd z h0) fun _ => ?_
  refine lv_iload_n hx hb dJ3_checkIndex_8e157_4 rfl (lv_at hl 0 rfl) ?_
  refine lv_iload_n hx hb dJ3_checkIndex_8e157_5 rfl (lv_at hl 1 rfl) ?_
  refine lv_icmp_lt hx hb dJ3_checkIndex_8e157_6 (tgt := 16) (by decide) (fun _ => ?_) fun z => absurd h1 z
  refine lv_iload_n hx hb dJ3_checkIndex_8e157_16 rfl (lv_at hl 0 rfl) ?_
  exact W.iret hx hb hr (fun t ht _ => ⟨rfl, ht⟩) (fun _ h => nomatch h) dJ3_checkIndex_8e157_17 hlk
theorem sm_ck (l : Launch) {i k : Int32} (h0 : ¬ i < 0) (h1 : i < k) : SMet l yJ0_checkIndex_df160 cJ0_checkIndex_df160 2 none 1 [.int i, .int k] (stF Y q vq n b) none := by
  refine smet_of (by decide +kernel) (Nat.le_of_ble_eq_true rfl) fun p e s m below meth c ls hx hb hr hml hown hts hlk hl hP => ?_
  refine lv_iload_n hx hb dJ0_checkIndex_df160_0 rfl (lv_at hl 0 rfl) ?_
  refine lv_iload_n hx hb dJ0_checkIndex_df160_1 rfl (lv_at hl 1 rfl) ?_
  have key : ∀ fv : Value, fv.category = 1 → W p l e (rmD 1 0 0) s m [.int i, .int k].toArray below meth c s.heap [] 0 0 (MQ below (sQc none) [.int i, .int k].toArray s 0 0 noF) (F0 m (2 + 3) ls [fv, .int k, .int i]) := by
    intro fv hfv
    refine sw_S (As := [.int i, .int k, fv]) (rest := []) hx hb hml hown hts (sm_pk (P := fun _ => True) l hfv h0 h1) ce_pk sw_ml1059 rfl (fun _ _ _ _ _ => trivial) (fun _ _ _ => trivial) hl.1 dJ0_checkIndex_df160_5 (by decide) (by decide) (by decide) (by decide) (Nat.le_of_ble_eq_true rfl) ?_
    refine lv_pop hx hb dJ0_checkIndex_df160_8 rfl ?_
    exact W.vret hx hb hr (fun t ht _ => ⟨rfl, ht⟩) (fun _ h => nomatch h) dJ0_checkIndex_df160_9 hlk
  rcases hP.2.2.2.2.2 with hZ | ⟨t, hZ⟩
  · exact va_gets hx hb hZ va_S.rf hown (hts _ sw_fl1053) (fun _ h => h) dJ0_checkIndex_df160_2 (key _ rfl)
  · exact va_gets hx hb hZ va_S.rf hown (hts _ sw_fl1053) (fun _ h => h) dJ0_checkIndex_df160_2 (key _ rfl)
theorem vpi_of {i : Int32} (h0 : ¬ i < 0) (h1 : i.toNatClampNeg < n) (hn : n < 2 ^ 31) : vp_in i n ∧ i < Int32.ofNat n := by
  have hz : (0 : Int) ≤ i.toInt := by
    have := Int32.not_lt.mp h0
    simpa using Int32.le_iff_toInt_le.mp this
  have e : i.toInt = (i.toNatClampNeg : Int) := by
    show i.toInt = ((i.toInt.toNat : Nat) : Int)
    omega
  have e2 : (Int32.ofNat n).toInt = n := Int32.toInt_ofNat_of_lt hn
  refine ⟨?_, ?_⟩
  · exact fun z => z.elim h0 fun z => absurd h1 (Nat.not_lt.mpr z)
  · rw [Int32.lt_iff_toInt_lt, e, e2]
    omega
theorem sm_l1 (l : Launch) {i : Int32} (hk : okS n b) (h0 : ¬ i < 0) (h1 : i.toNatClampNeg < n) : SMet l yJ1_charAt_3b067 cJ1_charAt_3b067 2 (some .char) 2 [.ref vq, .int i] (stF Y q vq n b) (some (.int (b.getD i.toNatClampNeg 0))) := by
  obtain ⟨vi, lt⟩ := vpi_of h0 h1 hk.2.2.1
  refine smet_of (by decide +kernel) (Nat.le_of_ble_eq_true rfl) fun p e s m below meth c ls hx hb hr hml hown hts hlk hl hP => ?_
  refine lv_iload_n hx hb dJ1_charAt_3b067_0 rfl (lv_at hl 1 rfl) ?_
  refine lv_aload_n hx hb dJ1_charAt_3b067_1 rfl (lv_at hl 0 rfl) ?_
  refine va_tlen hx hb hP.2.2.2.1 va_S.rf (v := Int32.ofNat n) rfl dJ1_charAt_3b067_2 ?_
  refine sw_S (As := [.int i, .int (Int32.ofNat n)]) (rest := []) hx hb hml hown hts (sm_ck (Y := Y) (q := q) (vq := vq) (n := n) (b := b) l h0 lt) ce_ck sw_ml9 rfl (fun u U => stF.fr) (fun U hU hW => hP.mv (locs := []) hW.alike (by rw [hU]; exact va_S.rf)) hl.1 dJ1_charAt_3b067_3 (by decide) (by decide) (by decide) (by decide) (Nat.le_of_ble_eq_true rfl) ?_
  refine lv_aload_n hx hb dJ1_charAt_3b067_6 rfl (lv_at hl 0 rfl) ?_
  refine lv_iload_n hx hb dJ1_charAt_3b067_7 rfl (lv_at hl 1 rfl) ?_
  refine va_tb hx hb hP.2.2.2.1 va_S.rf vi (v := .int (b.getD i.toNatClampNeg 0)) rfl dJ1_charAt_3b067_8 ?_
  refine lv_sipush hx hb dJ1_charAt_3b067_9 (v := 255) (by decide) ?_
  refine lv_iand hx hb dJ1_charAt_3b067_12 ?_
  refine lv_i2c hx hb dJ1_charAt_3b067_13 (hk.2.2.2 _ h1).1 ?_
  exact W.zret (ty := .char) hx hb hr (hk.2.2.2 _ h1).2 (fun t ht _ => ⟨rfl, ht⟩) (fun _ h => nomatch h) dJ1_charAt_3b067_14 hlk
theorem sm_charAt (l : Launch) {i : Int32} (hk : okS n b) (h0 : ¬ i < 0) (h1 : i.toNatClampNeg < n) : SMet l yJ0_charAt_5068e cJ0_charAt_5068e 2 (some .char) 3 [.ref q, .int i] (stF Y q vq n b) (some (.int (b.getD i.toNatClampNeg 0))) := by
  refine smet_of (by decide +kernel) (Nat.le_of_ble_eq_true rfl) fun p e s m below meth c ls hx hb hr hml hown hts hlk hl hP => ?_
  refine lv_aload_n hx hb dJ0_charAt_5068e_0 rfl (lv_at hl 0 rfl) ?_
  obtain ⟨cell, r1, r2, r3, -⟩ := hP.1
  refine sw_V (As := []) (rest := []) hx hb hml hown hts (sm_isLatin1 (Y := Y) (vq := vq) (n := n) (b := b) l) ce_isLatin1 sw_ml492 rfl ⟨cell, r1, r2, r3⟩ (fun u U => stF.fr) (fun U hU hW => hP.mv (locs := []) hW.alike (by rw [hU]; exact va_S.rf)) hl.1 dJ0_charAt_5068e_1 (by decide) (by decide) (by decide) (by decide) (Nat.le_of_ble_eq_true rfl) ?_
  refine lv_if_eq hx hb dJ0_charAt_5068e_4 (tgt := 16) (by decide) (fun z => absurd z (by decide)) fun _ => ?_
  refine lv_aload_n hx hb dJ0_charAt_5068e_7 rfl (lv_at hl 0 rfl) ?_
  refine vk_getf hx hb hP.2.2.1 va_S.rf hown (hts _ sw_fl9) (fun _ h => h) dJ0_charAt_5068e_8 ?_
  refine lv_iload_n hx hb dJ0_charAt_5068e_11 rfl (lv_at hl 1 rfl) ?_
  refine sw_S (As := [.ref vq, .int i]) (rest := []) hx hb hml hown hts (sm_l1 (Y := Y) (q := q) (vq := vq) (n := n) (b := b) l hk h0 h1) ce_l1 sw_ml495 rfl (fun u U => stF.fr) (fun U hU hW => hP.mv (locs := []) hW.alike (by rw [hU]; exact va_S.rf)) hl.1 dJ0_charAt_5068e_12 (by decide) (by decide) (by decide) (by decide) (Nat.le_of_ble_eq_true rfl) ?_
  exact W.zret (ty := .char) hx hb hr (hk.2.2.2 _ h1).2 (fun t ht _ => ⟨rfl, ht⟩) (fun _ h => nomatch h) dJ0_charAt_5068e_15 hlk
end StrM
section Str
variable {M : MX} {d w pc : Nat}
theorem gK.st0 {X : YX} {s : State} (h : gK X s) : stF X (adK X 0) (adV X 0) lnW0 byW0 s := by
  obtain ⟨-, -, -, g1, g2, g3, g4, g5, -⟩ := h
  have g := g3.1 0 (by decide)
  exact ⟨g.1, g.2.1, g.2.2.1, g.2.2.2, g4, g5.2.2.2⟩
theorem gK.st1 {X : YX} {s : State} (h : gK X s) : stF X (adK X 1) (adV X 1) lnW1 byW1 s := by
  obtain ⟨-, -, -, g1, g2, g3, g4, g5, -⟩ := h
  have g := g3.1 1 (by decide)
  exact ⟨g.1, g.2.1, g.2.2.1, g.2.2.2, g4, g5.2.2.2⟩
theorem ie_slenX {index q vq n ix : Nat} {b : List Int32} {tx own : String} (hk : okS n b) (hM : M.1 = own) (hq : ∀ (X : YX) (s : State), gK X s → ∃ q vq, vk_R own ix tx q s ∧ stF X q vq n b s) (hd1 : decode M.2.1 pc = .ok (.ldc ix, 2)) (hd2 : decode M.2.1 (pc + 2) = .ok (.invokevirtual index, 3)) (hl : Cond.methodLink M.1 index yJ0_length_8abf5 ∈ lwG) (h3 : 3 ≤ d) (hw : w ≤ 8) : IE M d w pc (eK (.int (Int32.ofNat n))) (pc + 5) := by
  intro X L stk σ σ' v hwt he k
  cases he
  intro z1 z2
  obtain ⟨k1, k2⟩ := k z1 z2
  refine ⟨k1, fun p l e s m args below meth c C H locs ls hl' hR hz hS => ?_⟩
  have kk := k2 p l e s m args below meth c C H locs ls hl' hR hz hS
  obtain ⟨hx, hb, -, hml, hown, hts, -, hK, -⟩ := C
  obtain ⟨q, vq, r, hP⟩ := hq _ _ hK
  refine va_ldcS hx hb (by rw [← hM]; exact hown) r hd1 ?_
  obtain ⟨cell, r1, r2, r3, -⟩ := (hP.1).kept hS.2.1
  exact sw_V (As := []) hx hb hml hown hts (sm_length (Y := X.1) (q := q) (vq := vq) l hk) ce_length hl rfl ⟨cell, r1, r2, r3⟩ (fun u U => stF.fr) (fun U hU hW => hP.mv hW.alike (by rw [hU]; exact hS)) hl'.1 hd2 (by show 1 + 1 ≤ d; omega) (by show 16 + (1 + 11) + 60 * 1 ≤ 60 * d; omega) (by show _ ≤ X.2.2.2.2.1 - X.2.1.1; omega) (by show _ ≤ X.2.2.2.2.2 - X.2.1.2; omega) (by omega) kk
theorem ie_slen0 {index : Nat} (hd1 : decode M.2.1 pc = .ok (.ldc ixW0, 2)) (hd2 : decode M.2.1 (pc + 2) = .ok (.invokevirtual index, 3)) (hl : Cond.methodLink M.1 index yJ0_length_8abf5 ∈ lwG) (h3 : 3 ≤ d) (hw : w ≤ 8) (hM : M.1 = RX7 := by rfl) : IE M d w pc (eK (.int (Int32.ofNat lnW0))) (pc + 5) := ie_slenX okS_0 hM (fun X s h => ⟨adK X 0, adV X 0, h.2.2.2.1, h.st0⟩) hd1 hd2 hl h3 hw (q := 0) (vq := 0)
theorem ie_slen1 {index : Nat} (hd1 : decode M.2.1 pc = .ok (.ldc ixW1, 2)) (hd2 : decode M.2.1 (pc + 2) = .ok (.invokevirtual index, 3)) (hl : Cond.methodLink M.1 index yJ0_length_8abf5 ∈ lwG) (h3 : 3 ≤ d) (hw : w ≤ 8) (hM : M.1 = RX12 := by rfl) : IE M d w pc (eK (.int (Int32.ofNat lnW1))) (pc + 5) := ie_slenX okS_1 hM (fun X s h => ⟨adK X 1, adV X 1, h.2.2.2.2.1, h.st1⟩) hd1 hd2 hl h3 hw (q := 0) (vq := 0)
theorem ie_chrX {e : XE} {p1 index n ix j : Nat} {b : List Int32} {tx own : String} (hk : okS n b) (hM : M.1 = own) (hq : ∀ (X : YX) (s : State), gK X s → vk_R own ix tx (adK X j) s ∧ stF X (adK X j) (adV X j) n b s) (hd1 : decode M.2.1 pc = .ok (.ldc ix, 2)) (h1 : IE M d (w + 2) (pc + 2) e p1) (hd2 : decode M.2.1 p1 = .ok (.invokevirtual index, 3)) (hl : Cond.methodLink M.1 index yJ0_charAt_5068e ∈ lwG) (h3 : 4 ≤ d) (hw : w ≤ 8) : IE M d w pc (eU (chW b) e) (p1 + 3) := by
  intro X L stk σ σ' v hwt he k
  unfold eU at he
  obtain ⟨⟨a, σ1⟩, g1, g2⟩ := Option.bind_eq_some_iff.mp he
  obtain ⟨v2, g3, g4⟩ := Option.map_eq_some_iff.mp g2
  cases g4
  unfold chW at g3
  dsimp only at g3
  split at g3
  · rename_i i
    split at g3
    · rename_i hi
      cases g3
      have h0 : ¬ i < 0 := fun z => hi (Or.inl z)
      have hn : i.toNatClampNeg < n := by
        rw [hk.2.1]
        exact Nat.not_le.mp fun z => hi (Or.inr z)
      have kk : G M d X (pc + 2) L (.ref (adK X.1 j) :: stk) σ := by
        refine h1 X L _ σ _ _ (wt_le hwt) g1 ?_
        intro z1 z2
        obtain ⟨k1, k2⟩ := k z1 z2
        dsimp only at k1 z1 z2
        refine ⟨k1, fun p l e s m args below meth c C H locs ls hl' hR hz hS => ?_⟩
        have kk := k2 p l e s m args below meth c C H locs ls hl' hR hz hS
        obtain ⟨hx, hb, -, hml, hown, hts, -, hK, -⟩ := C
        obtain ⟨r, hP⟩ := hq _ _ hK
        obtain ⟨cell, r1, r2, r3, -⟩ := (hP.1).kept hS.2.1
        exact sw_V (As := [.int i]) hx hb hml hown hts (sm_charAt (Y := X.1) (vq := adV X.1 j) l hk h0 hn) ce_charAt hl rfl ⟨cell, r1, r2, r3⟩ (fun u U => stF.fr) (fun U hU hW => hP.mv hW.alike (by rw [hU]; exact hS)) hl'.1 hd2 (by show 3 + 1 ≤ d; omega) (by show 16 + (2 + 11) + 60 * 3 ≤ 60 * d; omega) (by show _ ≤ X.2.2.2.2.1 - X.2.1.1; omega) (by show _ ≤ X.2.2.2.2.2 - X.2.1.2; omega) (by omega) kk
      intro z1 z2
      obtain ⟨k1, k2⟩ := kk z1 z2
      refine ⟨k1, fun p l e s m args below meth c C H locs ls hl' hR hz hS => ?_⟩
      exact va_ldcS C.1 C.2.1 (by rw [← hM]; exact C.2.2.2.2.1) (hq _ _ C.2.2.2.2.2.2.2.1).1 hd1 (k2 p l e s m args below meth c C H locs ls hl' hR hz hS)
    · cases g3
  · cases g3
theorem ie_chr0 {e : XE} {p1 index : Nat} (hd1 : decode M.2.1 pc = .ok (.ldc ixW0, 2)) (h1 : IE M d (w + 2) (pc + 2) e p1) (hd2 : decode M.2.1 p1 = .ok (.invokevirtual index, 3)) (hl : Cond.methodLink M.1 index yJ0_charAt_5068e ∈ lwG) (h3 : 4 ≤ d) (hw : w ≤ 8) (hM : M.1 = RX7 := by rfl) : IE M d w pc (eU (chW byW0) e) (p1 + 3) := ie_chrX okS_0 hM (fun X s h => ⟨h.2.2.2.1, h.st0⟩) hd1 h1 hd2 hl h3 hw
theorem ie_chr1 {e : XE} {p1 index : Nat} (hd1 : decode M.2.1 pc = .ok (.ldc ixW1, 2)) (h1 : IE M d (w + 2) (pc + 2) e p1) (hd2 : decode M.2.1 p1 = .ok (.invokevirtual index, 3)) (hl : Cond.methodLink M.1 index yJ0_charAt_5068e ∈ lwG) (h3 : 4 ≤ d) (hw : w ≤ 8) (hM : M.1 = RX12 := by rfl) : IE M d w pc (eU (chW byW1) e) (p1 + 3) := ie_chrX okS_1 hM (fun X s h => ⟨h.2.2.2.2.1, h.st1⟩) hd1 h1 hd2 hl h3 hw
end Str

