/-! how both begin -/
theorem k_1 : gI ck_X10_init 3 1 = nI 0 ∧ gR ck_X10_init 1 2 = 5 ∧ gR ck_X10_init 1 3 = 13 ∧ gR ck_X10_init 1 4 = 21 ∧ gR ck_X10_init 1 5 = 24 := by decide +kernel
theorem k_2 : gI ck_X10_init 5 0 = nI 0 ∧ gI ck_X10_init 5 5 = nI 1896 ∧ gI ck_X10_init 5 6 = nI 10 ∧ gI ck_X10_init 5 7 = nI 70 ∧ gI ck_X10_init 10 1 = nI 1 ∧ gI ck_X10_init 11 0 = (-1 : Int32) := by decide +kernel
theorem k_3 : gI ck_X10_init 21 2 = nI 0 ∧ gI ck_X10_init 31 2 = nI 0 ∧ gI ck_X10_init 1 10 = nI 0 := by decide +kernel
theorem k_4 : ∀ i : Fin 16, gR ck_X10_init 38 i.1 = 46 + 4 * i.1 := by decide +kernel
theorem k_5 : ∀ i : Fin 4, gR ck_X10_init 39 i.1 = 110 + 12 * i.1 ∧ gI ck_X10_init (110 + 12 * i.1) 0 = nI 0 := by decide +kernel
theorem k_6 : gI uM1 3 0 = nI 0 ∧ gI uM1 3 1 = nI 1896 ∧ gI uM1 3 2 = nI 10 ∧ gI uM1 3 3 = nI 70 ∧ gI uM1 9 0 = gI uM1 8 0 := by decide +kernel
theorem k_7 : gI uM1 1 1 = nI 0 ∧ gI uM1 1 45 = nI 0 ∧ gI uM1 1 46 = nI 0 ∧ gI uM1 23 0 = nI 0 ∧ gI uM1 26 0 = nI 0 := by decide +kernel
theorem k_8 : ∀ i : Fin 4, gI uM1 34 i.1 = nI 0 := by decide +kernel
