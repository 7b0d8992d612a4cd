/-! ===== what holds as the law begins; the claim ===== -/
theorem i32_enc (w : Int32) : Int32.ofNat w.toBitVec.toNat = w := by
  apply Int32.toBitVec_inj.mp
  simp
section Kn
variable {s : State} {b L : Nat} {xs : Nat → Int32}
theorem arr_p {t : FieldType} (h : (Cond.arrayClass t).before #[Value.ref b] s = true) (ht : ∀ C, t ≠ .object C) : ∃ c : ClassId, ArrOfT s c t ∧ va_RA s c t := by
  obtain ⟨c, k, comp, h1, h2, h3⟩ := Cond.arrayClass_spec h
  refine ⟨c, fun N z => ⟨(fun k h => by cases h), k, h2, comp, h3⟩, ?_⟩
  cases t <;> first | exact h1 | exact absurd rfl (ht _)
theorem arr_o {C : String} (h : (Cond.arrayOver (.object C)).before #[Value.ref b] s = true) : ∃ c : ClassId, ArrOfT s c (.object C) ∧ va_RA s c (.object C) := by
  obtain ⟨comp, c, k, h1, h2, h3, h4, h5⟩ := Cond.arrayOver_spec h
  exact ⟨c, fun N z => ⟨(fun k h => by cases h), k, h3, comp, h4⟩, k, comp, h3, h4, h1, h5⟩
theorem lw_known (hts : ∀ w ∈ lw_tbl, w.before #[Value.ref b] s = true) (hX : va_X b L xs s s.heap) (hbl : b < s.heap.size) (hgv : (Jvm.Cond.and given_1 narrow_1).before #[Value.ref b] s = true) : ∃ Y : YX, Y.2.2 = s.heap.size ∧ SCX Y b L xs ∧ gK Y s := by
  have hA : ∀ a : Nat, a < s.heap.size → ¬ (fun q : Nat => s.heap.size ≤ q) a := fun a h => Nat.not_le.mpr h
  have fl := flat_of_before _ hgv
  have hG : ∀ w ∈ lwG, w.before #[Value.ref b] s = true := fun w hw => hts w (List.mem_filter.mp hw).1
  have hT : ∀ {w : Cond} (i : Nat), tables_1[i]? = some w → w.before #[Value.ref b] s = true := fun i h => hts _ (List.mem_append_right _ (List.mem_of_getElem? h))
  have kn : ∀ {C : String} {T : u_T} {N ci : Nat} {ty : Nat → FieldType}, ClsOK ci C T N ty → Cond.instantiable C N ∈ lwG → ∃ q : ClassId × (Nat → Nat), ∀ r : vw_C, vwCl[ci]? = some r → u_Kn s r.1 r.2.1 r.2.2 q.1 q.2 := fun {C T N ci ty} K hi => by
    obtain ⟨c, i, h⟩ := u_known hG K.2.1 (hG _ hi)
    refine ⟨(c, i), fun r hr => ?_⟩
    cases Option.some.inj (hr.symm.trans K.1)
    exact h
  have hc : ∀ k : Nat, ∃ q : ClassId × (Nat → Nat), ∀ r : vw_C, vwCl[k]? = some r → u_Kn s r.1 r.2.1 r.2.2 q.1 q.2 := fun k => match k with
    | 0 => kn ck_0 lin_0
    | 1 => kn ck_1 lin_1
    | 2 => kn ck_2 lin_2
    | 3 => kn ck_3 lin_3
    | 4 => kn ck_4 lin_4
    | 5 => kn ck_5 lin_5
    | 6 => kn ck_6 lin_6
    | 7 => kn ck_7 lin_7
    | 8 => kn ck_8 lin_8
    | 9 => kn ck_9 lin_9
    | 10 => kn ck_10 lin_10
    | 11 => kn ck_11 lin_11
    | 12 => kn ck_12 lin_12
    | k + 13 => ⟨(0, fun _ => 0), fun r hr => by
      rw [List.getElem?_eq_none (show vwCl.length ≤ k + 13 from Nat.le_add_left 13 k)] at hr
      cases hr⟩
  obtain ⟨fc, hfc⟩ := Classical.axiomOfChoice hc
  have ha : ∀ t : FieldType, ∃ c : ClassId, t ∈ arrTys → ArrOfT s c t ∧ va_RA s c t := fun t => by
    by_cases ht : t ∈ arrTys
    · have : ∃ c : ClassId, ArrOfT s c t ∧ va_RA s c t := by
        simp only [arrTys, List.mem_cons, List.not_mem_nil, or_false] at ht
        rcases ht with rfl | rfl | rfl | rfl | rfl | rfl | rfl
        · exact arr_p (hT 79 (by decide +kernel)) (fun _ h => by cases h)
        · exact arr_p (hT 78 (by decide +kernel)) (fun _ h => by cases h)
        · exact arr_p (hT 102 (by decide +kernel)) (fun _ h => by cases h)
        · exact arr_p (hT 453 (by decide +kernel)) (fun _ h => by cases h)
        · exact arr_o (hT 81 (by decide +kernel))
        · exact arr_o (hT 83 (by decide +kernel))
        · exact arr_o (hT 85 (by decide +kernel))
      obtain ⟨c, h⟩ := this
      exact ⟨c, fun _ => h⟩
    · exact ⟨0, fun h => absurd h ht⟩
  obtain ⟨AC, hAC⟩ := Classical.axiomOfChoice ha
  have two : ∀ {P : Nat → Prop}, P 0 → P 1 → ∀ i, i < 2 → P i := fun {P} h0 h1 i hi => by
    rcases (show i = 0 ∨ i = 1 by omega) with rfl | rfl
    · exact h0
    · exact h1
  obtain ⟨kA, kV, hS, he⟩ := vk_Sof (args := #[Value.ref b]) (s := s) (N := 2) (tm := fun i => if i = 0 then .string RX7 ixW0 else .string RX12 ixW1) (len := [lnW0, lnW1]) (byt := [byW0, byW1]) (A := fun q : Nat => s.heap.size ≤ q) (two (by decide) (by decide)) (two (fl _ nz_x0) (fl _ nz_x1)) (two (fl _ nz_k0) (fl _ nz_k1)) (two (fl _ nz_a0) (fl _ nz_a1)) (two (fl _ nz_l0) (fl _ nz_l1)) (two (fun j hj => fl _ (nz_e0 j hj)) (fun j hj => fl _ (nz_e1 j hj))) (fun i j hi hj ne => by
    rcases (show (i = 0 ∧ j = 1) ∨ (i = 1 ∧ j = 0) by omega) with ⟨rfl, rfl⟩ | ⟨rfl, rfl⟩
    · exact nz_d.imp (fl _) (fl _)
    · exact (nz_d.imp (fl _) (fl _)).symm) hA
  have fn : ∀ (k : Nat), k < 1000 → (fun j => if k = 1000 then (if j = 0 then b else if j = 1 then L else 1) else if k = 1001 then (xs j).toBitVec.toNat else if k = 1002 then kA j else if k = 1003 then kV j else (fc k).2 j) = (fc k).2 := fun k hk => by
    funext j
    rw [if_neg (by omega), if_neg (by omega), if_neg (by omega), if_neg (by omega)]
  refine ⟨((fun k => (fc k).1, fun k j => if k = 1000 then (if j = 0 then b else if j = 1 then L else 1) else if k = 1001 then (xs j).toBitVec.toNat else if k = 1002 then kA j else if k = 1003 then kV j else (fc k).2 j), AC, s.heap.size), rfl, ⟨rfl, rfl, rfl, funext fun j => i32_enc (xs j)⟩, ⟨?_, ?_⟩, ?_, ?_, ?_⟩
  · intro k r hr
    have hk : k < 13 := (List.getElem?_eq_some_iff.mp hr).1
    show u_Kn s r.1 r.2.1 r.2.2 (fc k).1 _
    dsimp only
    rw [fn k (by omega)]
    exact hfc k r hr
  · intro k q hq
    rw [List.getElem?_map] at hq
    obtain ⟨t, ht, rfl⟩ := Option.map_eq_some_iff.mp hq
    exact hAC t (List.mem_of_getElem? ht)
  · intro w hw
    obtain ⟨q1, q2⟩ := List.mem_filter.mp hw
    have h := hts w q1
    unfold isNest at q2
    split at q2
    · exact va_tabs rfl rfl h
    · exact va_tabs rfl rfl h
    · exact va_tabs rfl rfl h
    · cases q2
  · intro C hC
    simp only [List.mem_cons, List.not_mem_nil, or_false] at hC
    rcases hC with rfl | rfl | rfl
    · exact hT (w := Cond.arrayOver (.object RX3)) 81 (by decide +kernel)
    · exact hT (w := Cond.arrayOver (.object RX5)) 83 (by decide +kernel)
    · exact hT (w := Cond.arrayOver (.object RX4)) 85 (by decide +kernel)
  · refine ⟨vk_R.of (A := #[Value.ref b]) (hT 530 (by decide +kernel)) (he 0 (by decide)), vk_R.of (A := #[Value.ref b]) (hT 1868 (by decide +kernel)) (he 1 (by decide)), hS, va_Zof (hT 540 (by decide +kernel)) (hT 12 (by decide +kernel)) (va_eqt (fl _ nz_c)) hA, ⟨vx_Zqof (hT 1460 (by decide +kernel)) (hT 16 (by decide +kernel)) (fl _ nz_u) hA, vx_Zqof (hT 1462 (by decide +kernel)) (hT 16 (by decide +kernel)) (fl _ nz_s) hA, va_Nc.of (fl _ nz_n), va_Zqof (hT 556 (by decide +kernel)) (hT 14 (by decide +kernel)) (fl _ nz_f) hA⟩, fun _ => ⟨hbl, ?_⟩, Nat.le_refl _⟩
    have e : scX ((fun k => (fc k).1, fun k j => if k = 1000 then (if j = 0 then b else if j = 1 then L else 1) else if k = 1001 then (xs j).toBitVec.toNat else if k = 1002 then kA j else if k = 1003 then kV j else (fc k).2 j), AC, s.heap.size) = xs := funext fun j => i32_enc (xs j)
    rw [e]
    exact hX
end Kn
theorem room_le {p : Program} {l : Launch} {e : Env} {s : State} {m : MethodId} {args : Array Value} {below : List Frame} {meth : Method} {c : Code} {T : State} {mc ms : Nat} (hc : mc ≤ 221246) (hs : ms ≤ 8432368) (X : Stand p l e room_1 s m args below meth c T [] 0 0) : Stand p l e (rmD lD mc ms) s m args below meth c T [] 0 0 := by
  refine ⟨X.admits, X.cas, X.clock, X.frames, ?_, X.hears, X.method, X.code, X.here, X.tail, X.warmed, X.limits, X.bytes, X.same⟩
  have h := X.room
  simp only [State.hasRoom, Bool.and_eq_true, decide_eq_true_eq] at h ⊢
  obtain ⟨⟨⟨⟨h1, h2, h3, h4, h5, h6⟩, h7⟩, h8⟩, h9⟩ := h
  simp only [room_1] at h1 h2 h3 h4 h5 h6 h7 h8
  have e1 : (rmD lD mc ms).frames = 220 := rfl
  have e2 : (rmD lD mc ms).locals = 13200 := rfl
  have e3 : (rmD lD mc ms).cells = mc := rfl
  have e4 : (rmD lD mc ms).slots = ms := rfl
  rw [e1, e2, e3, e4]
  exact ⟨⟨⟨⟨by omega, by omega, by omega, by omega, by omega, h6⟩, by omega⟩, by omega⟩, h9⟩
