/-! ===== words of the statement's start ===== -/
abbrev nF : List Cond := flatC (Jvm.Cond.and given_1 narrow_1)
theorem nz_c : Cond.eq (.static "java/lang/String" "COMPACT_STRINGS" "Z") (.int 1) ∈ nF := by decide +kernel
theorem nz_f : Cond.isRef (.static "jdk/internal/util/Preconditions" "SIOOBE_FORMATTER" "Ljava/util/function/BiFunction;") ∈ nF := by decide +kernel
theorem nz_u : Cond.isRef (.static Bundle.tN "UNASSIGNED_STACK" Bundle.steD) ∈ nF := by decide +kernel
theorem nz_s : Cond.isRef (.static Bundle.tN "SUPPRESSED_SENTINEL" Bundle.listD) ∈ nF := by decide +kernel
theorem nz_n : Cond.not (.castable "java/util/NoSuchElementException" "java/lang/IndexOutOfBoundsException") ∈ nF := by decide +kernel
theorem nz_x0 : Cond.exactly (.string RX7 ixW0) "java/lang/String" ∈ nF := by decide +kernel
theorem nz_x1 : Cond.exactly (.string RX12 ixW1) "java/lang/String" ∈ nF := by decide +kernel
theorem nz_k0 : Cond.eq (.field (.string RX7 ixW0) "java/lang/String" "coder" "B") (.int 0) ∈ nF := by decide +kernel
theorem nz_k1 : Cond.eq (.field (.string RX12 ixW1) "java/lang/String" "coder" "B") (.int 0) ∈ nF := by decide +kernel
theorem nz_a0 : Cond.arrayOf (.field (.string RX7 ixW0) "java/lang/String" "value" "[B") .byte ∈ nF := by decide +kernel
theorem nz_a1 : Cond.arrayOf (.field (.string RX12 ixW1) "java/lang/String" "value" "[B") .byte ∈ nF := by decide +kernel
theorem nz_l0 : Cond.eq (.length (.field (.string RX7 ixW0) "java/lang/String" "value" "[B")) (.int (Int32.ofNat lnW0)) ∈ nF := by decide +kernel
theorem nz_l1 : Cond.eq (.length (.field (.string RX12 ixW1) "java/lang/String" "value" "[B")) (.int (Int32.ofNat lnW1)) ∈ nF := by decide +kernel
theorem nz_d : Cond.not (Cond.eq (.string RX7 ixW0) (.string RX12 ixW1)) ∈ nF ∨ Cond.not (Cond.eq (.string RX12 ixW1) (.string RX7 ixW0)) ∈ nF := by decide +kernel
theorem nz_e0_0 : ∀ j, j < 16 → nF[43 + j]? = some (Cond.eq (.elem (.field (.string RX7 ixW0) "java/lang/String" "value" "[B") (.int (Int32.ofNat (0 + j)))) (.int (byW0.getD (0 + j) 0))) := by decide +kernel
theorem nz_e0_1 : ∀ j, j < 16 → nF[59 + j]? = some (Cond.eq (.elem (.field (.string RX7 ixW0) "java/lang/String" "value" "[B") (.int (Int32.ofNat (16 + j)))) (.int (byW0.getD (16 + j) 0))) := by decide +kernel
theorem nz_e0_2 : ∀ j, j < 16 → nF[75 + j]? = some (Cond.eq (.elem (.field (.string RX7 ixW0) "java/lang/String" "value" "[B") (.int (Int32.ofNat (32 + j)))) (.int (byW0.getD (32 + j) 0))) := by decide +kernel
theorem nz_e0_3 : ∀ j, j < 16 → nF[91 + j]? = some (Cond.eq (.elem (.field (.string RX7 ixW0) "java/lang/String" "value" "[B") (.int (Int32.ofNat (48 + j)))) (.int (byW0.getD (48 + j) 0))) := by decide +kernel
theorem nz_e0_4 : ∀ j, j < 16 → nF[107 + j]? = some (Cond.eq (.elem (.field (.string RX7 ixW0) "java/lang/String" "value" "[B") (.int (Int32.ofNat (64 + j)))) (.int (byW0.getD (64 + j) 0))) := by decide +kernel
theorem nz_e0_5 : ∀ j, j < 16 → nF[123 + j]? = some (Cond.eq (.elem (.field (.string RX7 ixW0) "java/lang/String" "value" "[B") (.int (Int32.ofNat (80 + j)))) (.int (byW0.getD (80 + j) 0))) := by decide +kernel
theorem nz_e0_6 : ∀ j, j < 16 → nF[139 + j]? = some (Cond.eq (.elem (.field (.string RX7 ixW0) "java/lang/String" "value" "[B") (.int (Int32.ofNat (96 + j)))) (.int (byW0.getD (96 + j) 0))) := by decide +kernel
theorem nz_e0_7 : ∀ j, j < 16 → nF[155 + j]? = some (Cond.eq (.elem (.field (.string RX7 ixW0) "java/lang/String" "value" "[B") (.int (Int32.ofNat (112 + j)))) (.int (byW0.getD (112 + j) 0))) := by decide +kernel
theorem nz_e0_8 : ∀ j, j < 1 → nF[171 + j]? = some (Cond.eq (.elem (.field (.string RX7 ixW0) "java/lang/String" "value" "[B") (.int (Int32.ofNat (128 + j)))) (.int (byW0.getD (128 + j) 0))) := by decide +kernel
theorem nz_e0 (j : Nat) (hj : j < lnW0) : Cond.eq (.elem (.field (.string RX7 ixW0) "java/lang/String" "value" "[B") (.int (Int32.ofNat j))) (.int (byW0.getD j 0)) ∈ nF := by
  have hj : j < 129 := hj
  rcases (show (∃ r, r < 16 ∧ j = 0 + r) ∨ (∃ r, r < 16 ∧ j = 16 + r) ∨ (∃ r, r < 16 ∧ j = 32 + r) ∨ (∃ r, r < 16 ∧ j = 48 + r) ∨ (∃ r, r < 16 ∧ j = 64 + r) ∨ (∃ r, r < 16 ∧ j = 80 + r) ∨ (∃ r, r < 16 ∧ j = 96 + r) ∨ (∃ r, r < 16 ∧ j = 112 + r) ∨ (∃ r, r < 1 ∧ j = 128 + r) by
    by_cases h8 : 128 ≤ j
    · exact Or.inr (Or.inr (Or.inr (Or.inr (Or.inr (Or.inr (Or.inr (Or.inr ⟨j - 128, by omega, by omega⟩)))))))
    by_cases h7 : 112 ≤ j
    · exact Or.inr (Or.inr (Or.inr (Or.inr (Or.inr (Or.inr (Or.inr (Or.inl ⟨j - 112, by omega, by omega⟩)))))))
    by_cases h6 : 96 ≤ j
    · exact Or.inr (Or.inr (Or.inr (Or.inr (Or.inr (Or.inr (Or.inl ⟨j - 96, by omega, by omega⟩))))))
    by_cases h5 : 80 ≤ j
    · exact Or.inr (Or.inr (Or.inr (Or.inr (Or.inr (Or.inl ⟨j - 80, by omega, by omega⟩)))))
    by_cases h4 : 64 ≤ j
    · exact Or.inr (Or.inr (Or.inr (Or.inr (Or.inl ⟨j - 64, by omega, by omega⟩))))
    by_cases h3 : 48 ≤ j
    · exact Or.inr (Or.inr (Or.inr (Or.inl ⟨j - 48, by omega, by omega⟩)))
    by_cases h2 : 32 ≤ j
    · exact Or.inr (Or.inr (Or.inl ⟨j - 32, by omega, by omega⟩))
    by_cases h1 : 16 ≤ j
    · exact Or.inr (Or.inl ⟨j - 16, by omega, by omega⟩)
    exact Or.inl ⟨j, by omega, by omega⟩) with ⟨r, hr, rfl⟩ | ⟨r, hr, rfl⟩ | ⟨r, hr, rfl⟩ | ⟨r, hr, rfl⟩ | ⟨r, hr, rfl⟩ | ⟨r, hr, rfl⟩ | ⟨r, hr, rfl⟩ | ⟨r, hr, rfl⟩ | ⟨r, hr, rfl⟩
  · exact List.mem_of_getElem? (nz_e0_0 r hr)
  · exact List.mem_of_getElem? (nz_e0_1 r hr)
  · exact List.mem_of_getElem? (nz_e0_2 r hr)
  · exact List.mem_of_getElem? (nz_e0_3 r hr)
  · exact List.mem_of_getElem? (nz_e0_4 r hr)
  · exact List.mem_of_getElem? (nz_e0_5 r hr)
  · exact List.mem_of_getElem? (nz_e0_6 r hr)
  · exact List.mem_of_getElem? (nz_e0_7 r hr)
  · exact List.mem_of_getElem? (nz_e0_8 r hr)
theorem nz_e1_0 : ∀ j, j < 16 → nF[176 + j]? = some (Cond.eq (.elem (.field (.string RX12 ixW1) "java/lang/String" "value" "[B") (.int (Int32.ofNat (0 + j)))) (.int (byW1.getD (0 + j) 0))) := by decide +kernel
theorem nz_e1_1 : ∀ j, j < 16 → nF[192 + j]? = some (Cond.eq (.elem (.field (.string RX12 ixW1) "java/lang/String" "value" "[B") (.int (Int32.ofNat (16 + j)))) (.int (byW1.getD (16 + j) 0))) := by decide +kernel
theorem nz_e1_2 : ∀ j, j < 16 → nF[208 + j]? = some (Cond.eq (.elem (.field (.string RX12 ixW1) "java/lang/String" "value" "[B") (.int (Int32.ofNat (32 + j)))) (.int (byW1.getD (32 + j) 0))) := by decide +kernel
theorem nz_e1_3 : ∀ j, j < 16 → nF[224 + j]? = some (Cond.eq (.elem (.field (.string RX12 ixW1) "java/lang/String" "value" "[B") (.int (Int32.ofNat (48 + j)))) (.int (byW1.getD (48 + j) 0))) := by decide +kernel
theorem nz_e1_4 : ∀ j, j < 16 → nF[240 + j]? = some (Cond.eq (.elem (.field (.string RX12 ixW1) "java/lang/String" "value" "[B") (.int (Int32.ofNat (64 + j)))) (.int (byW1.getD (64 + j) 0))) := by decide +kernel
theorem nz_e1_5 : ∀ j, j < 16 → nF[256 + j]? = some (Cond.eq (.elem (.field (.string RX12 ixW1) "java/lang/String" "value" "[B") (.int (Int32.ofNat (80 + j)))) (.int (byW1.getD (80 + j) 0))) := by decide +kernel
theorem nz_e1_6 : ∀ j, j < 16 → nF[272 + j]? = some (Cond.eq (.elem (.field (.string RX12 ixW1) "java/lang/String" "value" "[B") (.int (Int32.ofNat (96 + j)))) (.int (byW1.getD (96 + j) 0))) := by decide +kernel
theorem nz_e1_7 : ∀ j, j < 16 → nF[288 + j]? = some (Cond.eq (.elem (.field (.string RX12 ixW1) "java/lang/String" "value" "[B") (.int (Int32.ofNat (112 + j)))) (.int (byW1.getD (112 + j) 0))) := by decide +kernel
theorem nz_e1_8 : ∀ j, j < 1 → nF[304 + j]? = some (Cond.eq (.elem (.field (.string RX12 ixW1) "java/lang/String" "value" "[B") (.int (Int32.ofNat (128 + j)))) (.int (byW1.getD (128 + j) 0))) := by decide +kernel
theorem nz_e1 (j : Nat) (hj : j < lnW1) : Cond.eq (.elem (.field (.string RX12 ixW1) "java/lang/String" "value" "[B") (.int (Int32.ofNat j))) (.int (byW1.getD j 0)) ∈ nF := by
  have hj : j < 129 := hj
  rcases (show (∃ r, r < 16 ∧ j = 0 + r) ∨ (∃ r, r < 16 ∧ j = 16 + r) ∨ (∃ r, r < 16 ∧ j = 32 + r) ∨ (∃ r, r < 16 ∧ j = 48 + r) ∨ (∃ r, r < 16 ∧ j = 64 + r) ∨ (∃ r, r < 16 ∧ j = 80 + r) ∨ (∃ r, r < 16 ∧ j = 96 + r) ∨ (∃ r, r < 16 ∧ j = 112 + r) ∨ (∃ r, r < 1 ∧ j = 128 + r) by
    by_cases h8 : 128 ≤ j
    · exact Or.inr (Or.inr (Or.inr (Or.inr (Or.inr (Or.inr (Or.inr (Or.inr ⟨j - 128, by omega, by omega⟩)))))))
    by_cases h7 : 112 ≤ j
    · exact Or.inr (Or.inr (Or.inr (Or.inr (Or.inr (Or.inr (Or.inr (Or.inl ⟨j - 112, by omega, by omega⟩)))))))
    by_cases h6 : 96 ≤ j
    · exact Or.inr (Or.inr (Or.inr (Or.inr (Or.inr (Or.inr (Or.inl ⟨j - 96, by omega, by omega⟩))))))
    by_cases h5 : 80 ≤ j
    · exact Or.inr (Or.inr (Or.inr (Or.inr (Or.inr (Or.inl ⟨j - 80, by omega, by omega⟩)))))
    by_cases h4 : 64 ≤ j
    · exact Or.inr (Or.inr (Or.inr (Or.inr (Or.inl ⟨j - 64, by omega, by omega⟩))))
    by_cases h3 : 48 ≤ j
    · exact Or.inr (Or.inr (Or.inr (Or.inl ⟨j - 48, by omega, by omega⟩)))
    by_cases h2 : 32 ≤ j
    · exact Or.inr (Or.inr (Or.inl ⟨j - 32, by omega, by omega⟩))
    by_cases h1 : 16 ≤ j
    · exact Or.inr (Or.inl ⟨j - 16, by omega, by omega⟩)
    exact Or.inl ⟨j, by omega, by omega⟩) with ⟨r, hr, rfl⟩ | ⟨r, hr, rfl⟩ | ⟨r, hr, rfl⟩ | ⟨r, hr, rfl⟩ | ⟨r, hr, rfl⟩ | ⟨r, hr, rfl⟩ | ⟨r, hr, rfl⟩ | ⟨r, hr, rfl⟩ | ⟨r, hr, rfl⟩
  · exact List.mem_of_getElem? (nz_e1_0 r hr)
  · exact List.mem_of_getElem? (nz_e1_1 r hr)
  · exact List.mem_of_getElem? (nz_e1_2 r hr)
  · exact List.mem_of_getElem? (nz_e1_3 r hr)
  · exact List.mem_of_getElem? (nz_e1_4 r hr)
  · exact List.mem_of_getElem? (nz_e1_5 r hr)
  · exact List.mem_of_getElem? (nz_e1_6 r hr)
  · exact List.mem_of_getElem? (nz_e1_7 r hr)
  · exact List.mem_of_getElem? (nz_e1_8 r hr)
