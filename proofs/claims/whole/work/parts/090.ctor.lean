def cu_ladd (k j : Nat) (u : gm_M) : gm_M := sI (sI u (j + 1) 0 (-1)) (k + 1) 1 1
def cu_X1_init (k : Nat) (u : gm_M) : gm_M := let u1 := sI u (k + 1) 0 (0); let u2 := sI u1 (k + 1) 1 (0); let u3 := sI u2 (k + 1) 2 (0); let u4 := sI u3 (k + 1) 3 (0); let u5 := sR u4 (k + 1) 4 (k + 2); let u6 := sR u5 (k + 1) 5 (k + 3); let u7 := sR u6 (k + 1) 6 (k + 4); u7
theorem cz_X1_init (k : Nat) (u : gm_M) (hz : gm_z (k + 1) u) : gm_z (k + 4) (cu_X1_init k u) := by
  unfold cu_X1_init
  exact gm_zR (gm_zR (gm_zR (gm_zI (gm_zI (gm_zI (gm_zI ((hz.up (by omega) : gm_z (k + 4) u)) (by omega)) (by omega)) (by omega)) (by omega)) (by omega)) (by omega)) (by omega)
set_option maxRecDepth 100000 in
set_option maxHeartbeats 4000000 in
theorem ct_X1_init (l : Launch) (Z : gm_Z) (B k : Nat) (u : gm_M) (hB : ∀ r, Z.2.2 (r + 1) = B + r) (hz : gm_z (k + 1) u) (hS0 : gm_SC[k]? = some (.inl 0)) (hS1 : gm_SC[k + 1]? = some (.inr (0, 6))) (hS2 : gm_SC[k + 2]? = some (.inr (0, 6))) (hS3 : gm_SC[k + 3]? = some (.inr (0, 6))) (hSl : k + 4 ≤ gm_SC.length) : gm_MetN l gm_SC Z B yX1_init cX1_init 1 ({ frames := 1, cells := 3, slots := 18, locals := 20 }) [rv Z (k + 1)] (k + 1) u (k + 4) (cu_X1_init k u) := by
  refine gm_ofWN (by decide +kernel) rfl (Nat.le_of_ble_eq_true rfl) ?_
  intro p e s m args below meth c A ls Q R hRf hRl hRc hRs hin hU hs0 C E hl hw
  have hRf : 1 ≤ R.frames := hRf
  have hRl : 20 ≤ R.locals := hRl
  have hRc : 3 ≤ R.cells := hRc
  have hRs : 18 ≤ R.slots := hRs
  obtain ⟨hx, hb, -⟩ := id C
  have hl : lv_has ls 1 [(0, rv Z (k + 1))] := hl
  refine gm_aload_nS C dX1_init_0 rfl (lv_at hl 0 rfl) ?_
  refine gm_objS C hl wq_260 wq_117 wq_objcode (by omega) (by omega) (Nat.le_of_ble_eq_true rfl) dX1_init_1 ?_
  refine gm_aload_nS C dX1_init_4 rfl (lv_at hl 0 rfl) ?_
  refine lv_iconst (v := 0) hx hb dX1_init_5 (by decide) ?_
  refine gm_putI (G := (gm_T gm_SC (k + 1))) (u := u) (r := k + 1) (ci := 0) (k := 0) (v := 0) C hw (gm_Tsh (r := k) hS0 (by omega)) fl_X1_9 fp_0_0 dX1_init_6 rfl (fun H locs hw => ?_)
  obtain ⟨u1, e_u1⟩ : ∃ x, x = sI u (k + 1) 0 (0) := ⟨_, rfl⟩
  rw [← e_u1] at hw
  have hz : gm_z (k + 1) u1 := by rw [e_u1]; exact gm_zI hz (by omega)
  refine gm_aload_nS C dX1_init_9 rfl (lv_at hl 0 rfl) ?_
  refine lv_iconst (v := 0) hx hb dX1_init_10 (by decide) ?_
  refine gm_putI (G := (gm_T gm_SC (k + 1))) (u := u1) (r := k + 1) (ci := 0) (k := 1) (v := 0) C hw (gm_Tsh (r := k) hS0 (by omega)) fl_X1_15 fp_0_1 dX1_init_11 rfl (fun H locs hw => ?_)
  obtain ⟨u2, e_u2⟩ : ∃ x, x = sI u1 (k + 1) 1 (0) := ⟨_, rfl⟩
  rw [← e_u2] at hw
  have hz : gm_z (k + 1) u2 := by rw [e_u2]; exact gm_zI hz (by omega)
  refine gm_aload_nS C dX1_init_14 rfl (lv_at hl 0 rfl) ?_
  refine lv_iconst (v := 0) hx hb dX1_init_15 (by decide) ?_
  refine gm_putI (G := (gm_T gm_SC (k + 1))) (u := u2) (r := k + 1) (ci := 0) (k := 2) (v := 0) C hw (gm_Tsh (r := k) hS0 (by omega)) fl_X1_18 fp_0_2 dX1_init_16 rfl (fun H locs hw => ?_)
  obtain ⟨u3, e_u3⟩ : ∃ x, x = sI u2 (k + 1) 2 (0) := ⟨_, rfl⟩
  rw [← e_u3] at hw
  have hz : gm_z (k + 1) u3 := by rw [e_u3]; exact gm_zI hz (by omega)
  refine gm_aload_nS C dX1_init_19 rfl (lv_at hl 0 rfl) ?_
  refine lv_iconst (v := 0) hx hb dX1_init_20 (by decide) ?_
  refine gm_putI (G := (gm_T gm_SC (k + 1))) (u := u3) (r := k + 1) (ci := 0) (k := 3) (v := 0) C hw (gm_Tsh (r := k) hS0 (by omega)) fl_X1_21 fp_0_3 dX1_init_21 rfl (fun H locs hw => ?_)
  obtain ⟨u4, e_u4⟩ : ∃ x, x = sI u3 (k + 1) 3 (0) := ⟨_, rfl⟩
  rw [← e_u4] at hw
  have hz : gm_z (k + 1) u4 := by rw [e_u4]; exact gm_zI hz (by omega)
  refine gm_aload_nS C dX1_init_24 rfl (lv_at hl 0 rfl) ?_
  refine lv_bipush (v := 6) hx hb dX1_init_25 (by decide) ?_
  refine gm_size (n := k) hw (by omega) hB (by omega) (fun hsz => ?_)
  have hsz : H.size = B + (k + 1) := by omega
  refine gm_newaS (S := gm_SC) (n := k + 1) (t := 0) (N := 6) (ty := .int) C hw hz hB hsz hS1 rfl rfl rfl wq_arr_int (fun cA => gm_dI (Z := Z) hz (Nat.lt_succ_self _) cA) (by decide) (by decide) (by decide) (by omega) (by omega) dX1_init_27 (fun H hw => ?_)
  have hz := hz.up (Nat.le_succ _)
  refine gm_putF (G := (gm_T gm_SC (k + 2))) (u := u4) (r := k + 1) (ci := 0) (k := 4) (v := k + 2) C hin hw (gm_Tsh (r := k) hS0 (by omega)) fo_X1_24 ff_0_4 dX1_init_29 rfl rfl rfl (fun H locs hw => ?_)
  obtain ⟨u5, e_u5⟩ : ∃ x, x = sR u4 (k + 1) 4 (k + 2) := ⟨_, rfl⟩
  rw [← e_u5] at hw
  have hz : gm_z (k + 2) u5 := by rw [e_u5]; exact gm_zR hz (by omega)
  refine gm_aload_nS C dX1_init_32 rfl (lv_at hl 0 rfl) ?_
  refine lv_bipush (v := 6) hx hb dX1_init_33 (by decide) ?_
  refine gm_size (n := k + 1) hw (by omega) hB (by omega) (fun hsz => ?_)
  have hsz : H.size = B + (k + 2) := by omega
  refine gm_newaS (S := gm_SC) (n := k + 2) (t := 0) (N := 6) (ty := .int) C hw hz hB hsz hS2 rfl rfl rfl wq_arr_int (fun cA => gm_dI (Z := Z) hz (Nat.lt_succ_self _) cA) (by decide) (by decide) (by decide) (by omega) (by omega) dX1_init_35 (fun H hw => ?_)
  have hz := hz.up (Nat.le_succ _)
  refine gm_putF (G := (gm_T gm_SC (k + 3))) (u := u5) (r := k + 1) (ci := 0) (k := 5) (v := k + 3) C hin hw (gm_Tsh (r := k) hS0 (by omega)) fo_X1_28 ff_0_5 dX1_init_37 rfl rfl rfl (fun H locs hw => ?_)
  obtain ⟨u6, e_u6⟩ : ∃ x, x = sR u5 (k + 1) 5 (k + 3) := ⟨_, rfl⟩
  rw [← e_u6] at hw
  have hz : gm_z (k + 3) u6 := by rw [e_u6]; exact gm_zR hz (by omega)
  refine gm_aload_nS C dX1_init_40 rfl (lv_at hl 0 rfl) ?_
  refine lv_bipush (v := 6) hx hb dX1_init_41 (by decide) ?_
  refine gm_size (n := k + 2) hw (by omega) hB (by omega) (fun hsz => ?_)
  have hsz : H.size = B + (k + 3) := by omega
  refine gm_newaS (S := gm_SC) (n := k + 3) (t := 0) (N := 6) (ty := .int) C hw hz hB hsz hS3 rfl rfl rfl wq_arr_int (fun cA => gm_dI (Z := Z) hz (Nat.lt_succ_self _) cA) (by decide) (by decide) (by decide) (by omega) (by omega) dX1_init_43 (fun H hw => ?_)
  have hz := hz.up (Nat.le_succ _)
  refine gm_putF (G := (gm_T gm_SC (k + 4))) (u := u6) (r := k + 1) (ci := 0) (k := 6) (v := k + 4) C hin hw (gm_Tsh (r := k) hS0 (by omega)) fo_X1_31 ff_0_6 dX1_init_45 rfl rfl rfl (fun H locs hw => ?_)
  obtain ⟨u7, e_u7⟩ : ∃ x, x = sR u6 (k + 1) 6 (k + 4) := ⟨_, rfl⟩
  rw [← e_u7] at hw
  have hz : gm_z (k + 4) u7 := by rw [e_u7]; exact gm_zR hz (by omega)
  exact gm_vretN C E hw rfl (by unfold cu_X1_init; simp only [e_u7, e_u6, e_u5, e_u4, e_u3, e_u2, e_u1]) (Nat.le_of_ble_eq_true rfl) (Nat.le_of_ble_eq_true rfl) dX1_init_48
def cu_X6_init (k : Nat) (u : gm_M) : gm_M := let u1 := sR u (k + 1) 0 (k + 2); let u2 := sR u1 (k + 1) 1 (k + 3); let u3 := sI u2 (k + 1) 2 (0); u3
theorem cz_X6_init (k : Nat) (u : gm_M) (hz : gm_z (k + 1) u) : gm_z (k + 3) (cu_X6_init k u) := by
  unfold cu_X6_init
  exact gm_zI (gm_zR (gm_zR ((hz.up (by omega) : gm_z (k + 3) u)) (by omega)) (by omega)) (by omega)
set_option maxRecDepth 100000 in
set_option maxHeartbeats 4000000 in
theorem ct_X6_init (l : Launch) (Z : gm_Z) (B k : Nat) (u : gm_M) (hB : ∀ r, Z.2.2 (r + 1) = B + r) (hz : gm_z (k + 1) u) (hS0 : gm_SC[k]? = some (.inl 5)) (hS1 : gm_SC[k + 1]? = some (.inr (0, 40))) (hS2 : gm_SC[k + 2]? = some (.inr (0, 40))) (hSl : k + 3 ≤ gm_SC.length) : gm_MetN l gm_SC Z B yX6_init cX6_init 1 ({ frames := 1, cells := 2, slots := 80, locals := 20 }) [rv Z (k + 1)] (k + 1) u (k + 3) (cu_X6_init k u) := by
  refine gm_ofWN (by decide +kernel) rfl (Nat.le_of_ble_eq_true rfl) ?_
  intro p e s m args below meth c A ls Q R hRf hRl hRc hRs hin hU hs0 C E hl hw
  have hRf : 1 ≤ R.frames := hRf
  have hRl : 20 ≤ R.locals := hRl
  have hRc : 2 ≤ R.cells := hRc
  have hRs : 80 ≤ R.slots := hRs
  obtain ⟨hx, hb, -⟩ := id C
  have hl : lv_has ls 1 [(0, rv Z (k + 1))] := hl
  refine gm_aload_nS C dX6_init_0 rfl (lv_at hl 0 rfl) ?_
  refine gm_objS C hl wq_242 wq_117 wq_objcode (by omega) (by omega) (Nat.le_of_ble_eq_true rfl) dX6_init_1 ?_
  refine gm_aload_nS C dX6_init_4 rfl (lv_at hl 0 rfl) ?_
  refine lv_bipush (v := 40) hx hb dX6_init_5 (by decide) ?_
  refine gm_size (n := k) hw (by omega) hB (by omega) (fun hsz => ?_)
  have hsz : s.heap.size = B + (k + 1) := by omega
  refine gm_newaS (S := gm_SC) (n := k + 1) (t := 0) (N := 40) (ty := .int) C hw hz hB hsz hS1 rfl rfl rfl wq_arr_int (fun cA => gm_dI (Z := Z) hz (Nat.lt_succ_self _) cA) (by decide) (by decide) (by decide) (by omega) (by omega) dX6_init_7 (fun H hw => ?_)
  have hz := hz.up (Nat.le_succ _)
  refine gm_putF (G := (gm_T gm_SC (k + 2))) (u := u) (r := k + 1) (ci := 5) (k := 0) (v := k + 2) C hin hw (gm_Tsh (r := k) hS0 (by omega)) fo_X6_9 ff_5_0 dX6_init_9 rfl rfl rfl (fun H locs hw => ?_)
  obtain ⟨u1, e_u1⟩ : ∃ x, x = sR u (k + 1) 0 (k + 2) := ⟨_, rfl⟩
  rw [← e_u1] at hw
  have hz : gm_z (k + 2) u1 := by rw [e_u1]; exact gm_zR hz (by omega)
  refine gm_aload_nS C dX6_init_12 rfl (lv_at hl 0 rfl) ?_
  refine lv_bipush (v := 40) hx hb dX6_init_13 (by decide) ?_
  refine gm_size (n := k + 1) hw (by omega) hB (by omega) (fun hsz => ?_)
  have hsz : H.size = B + (k + 2) := by omega
  refine gm_newaS (S := gm_SC) (n := k + 2) (t := 0) (N := 40) (ty := .int) C hw hz hB hsz hS2 rfl rfl rfl wq_arr_int (fun cA => gm_dI (Z := Z) hz (Nat.lt_succ_self _) cA) (by decide) (by decide) (by decide) (by omega) (by omega) dX6_init_15 (fun H hw => ?_)
  have hz := hz.up (Nat.le_succ _)
  refine gm_putF (G := (gm_T gm_SC (k + 3))) (u := u1) (r := k + 1) (ci := 5) (k := 1) (v := k + 3) C hin hw (gm_Tsh (r := k) hS0 (by omega)) fo_X6_15 ff_5_1 dX6_init_17 rfl rfl rfl (fun H locs hw => ?_)
  obtain ⟨u2, e_u2⟩ : ∃ x, x = sR u1 (k + 1) 1 (k + 3) := ⟨_, rfl⟩
  rw [← e_u2] at hw
  have hz : gm_z (k + 3) u2 := by rw [e_u2]; exact gm_zR hz (by omega)
  refine gm_aload_nS C dX6_init_20 rfl (lv_at hl 0 rfl) ?_
  refine lv_iconst (v := 0) hx hb dX6_init_21 (by decide) ?_
  refine gm_putI (G := (gm_T gm_SC (k + 3))) (u := u2) (r := k + 1) (ci := 5) (k := 2) (v := 0) C hw (gm_Tsh (r := k) hS0 (by omega)) fl_X6_18 fp_5_2 dX6_init_22 rfl (fun H locs hw => ?_)
  obtain ⟨u3, e_u3⟩ : ∃ x, x = sI u2 (k + 1) 2 (0) := ⟨_, rfl⟩
  rw [← e_u3] at hw
  have hz : gm_z (k + 3) u3 := by rw [e_u3]; exact gm_zI hz (by omega)
  exact gm_vretN C E hw rfl (by unfold cu_X6_init; simp only [e_u3, e_u2, e_u1]) (Nat.le_of_ble_eq_true rfl) (Nat.le_of_ble_eq_true rfl) dX6_init_25
def cu_X7_init (k : Nat) (u : gm_M) : gm_M := let u1 := sR u (k + 1) 0 (k + 2); let u2 := sR u1 (k + 1) 1 (k + 3); let u3 := sI u2 (k + 1) 2 (0); let u4 := sR u3 (k + 1) 3 (k + 4); u4
theorem cz_X7_init (k : Nat) (u : gm_M) (hz : gm_z (k + 1) u) : gm_z (k + 4) (cu_X7_init k u) := by
  unfold cu_X7_init
  exact gm_zR (gm_zI (gm_zR (gm_zR ((hz.up (by omega) : gm_z (k + 4) u)) (by omega)) (by omega)) (by omega)) (by omega)
set_option maxRecDepth 100000 in
set_option maxHeartbeats 4000000 in
theorem ct_X7_init (l : Launch) (Z : gm_Z) (B k : Nat) (u : gm_M) (hB : ∀ r, Z.2.2 (r + 1) = B + r) (hz : gm_z (k + 1) u) (hS0 : gm_SC[k]? = some (.inl 6)) (hS1 : gm_SC[k + 1]? = some (.inr (0, 8))) (hS2 : gm_SC[k + 2]? = some (.inr (2, 8))) (hS3 : gm_SC[k + 3]? = some (.inr (0, 41))) (hSl : k + 4 ≤ gm_SC.length) : gm_MetN l gm_SC Z B yX7_init cX7_init 1 ({ frames := 1, cells := 3, slots := 57, locals := 20 }) [rv Z (k + 1)] (k + 1) u (k + 4) (cu_X7_init k u) := by
  refine gm_ofWN (by decide +kernel) rfl (Nat.le_of_ble_eq_true rfl) ?_
  intro p e s m args below meth c A ls Q R hRf hRl hRc hRs hin hU hs0 C E hl hw
  have hRf : 1 ≤ R.frames := hRf
  have hRl : 20 ≤ R.locals := hRl
  have hRc : 3 ≤ R.cells := hRc
  have hRs : 57 ≤ R.slots := hRs
  obtain ⟨hx, hb, -⟩ := id C
  have hl : lv_has ls 1 [(0, rv Z (k + 1))] := hl
  refine gm_aload_nS C dX7_init_0 rfl (lv_at hl 0 rfl) ?_
  refine gm_objS C hl wq_296 wq_117 wq_objcode (by omega) (by omega) (Nat.le_of_ble_eq_true rfl) dX7_init_1 ?_
  refine gm_aload_nS C dX7_init_4 rfl (lv_at hl 0 rfl) ?_
  refine lv_bipush (v := 8) hx hb dX7_init_5 (by decide) ?_
  refine gm_size (n := k) hw (by omega) hB (by omega) (fun hsz => ?_)
  have hsz : s.heap.size = B + (k + 1) := by omega
  refine gm_newaS (S := gm_SC) (n := k + 1) (t := 0) (N := 8) (ty := .int) C hw hz hB hsz hS1 rfl rfl rfl wq_arr_int (fun cA => gm_dI (Z := Z) hz (Nat.lt_succ_self _) cA) (by decide) (by decide) (by decide) (by omega) (by omega) dX7_init_7 (fun H hw => ?_)
  have hz := hz.up (Nat.le_succ _)
  refine gm_putF (G := (gm_T gm_SC (k + 2))) (u := u) (r := k + 1) (ci := 6) (k := 0) (v := k + 2) C hin hw (gm_Tsh (r := k) hS0 (by omega)) fo_X7_9 ff_6_0 dX7_init_9 rfl rfl rfl (fun H locs hw => ?_)
  obtain ⟨u1, e_u1⟩ : ∃ x, x = sR u (k + 1) 0 (k + 2) := ⟨_, rfl⟩
  rw [← e_u1] at hw
  have hz : gm_z (k + 2) u1 := by rw [e_u1]; exact gm_zR hz (by omega)
  refine gm_aload_nS C dX7_init_12 rfl (lv_at hl 0 rfl) ?_
  refine lv_bipush (v := 8) hx hb dX7_init_13 (by decide) ?_
  refine gm_size (n := k + 1) hw (by omega) hB (by omega) (fun hsz => ?_)
  have hsz : H.size = B + (k + 2) := by omega
  refine gm_newaS (S := gm_SC) (n := k + 2) (t := 2) (N := 8) (ty := .boolean) C hw hz hB hsz hS2 rfl rfl rfl wq_arr_boolean (fun cA => gm_dI (Z := Z) hz (Nat.lt_succ_self _) cA) (by decide) (by decide) (by decide) (by omega) (by omega) dX7_init_15 (fun H hw => ?_)
  have hz := hz.up (Nat.le_succ _)
  refine gm_putF (G := (gm_T gm_SC (k + 3))) (u := u1) (r := k + 1) (ci := 6) (k := 1) (v := k + 3) C hin hw (gm_Tsh (r := k) hS0 (by omega)) fo_X7_15 ff_6_1 dX7_init_17 rfl rfl rfl (fun H locs hw => ?_)
  obtain ⟨u2, e_u2⟩ : ∃ x, x = sR u1 (k + 1) 1 (k + 3) := ⟨_, rfl⟩
  rw [← e_u2] at hw
  have hz : gm_z (k + 3) u2 := by rw [e_u2]; exact gm_zR hz (by omega)
  refine gm_aload_nS C dX7_init_20 rfl (lv_at hl 0 rfl) ?_
  refine lv_iconst (v := 0) hx hb dX7_init_21 (by decide) ?_
  refine gm_putI (G := (gm_T gm_SC (k + 3))) (u := u2) (r := k + 1) (ci := 6) (k := 2) (v := 0) C hw (gm_Tsh (r := k) hS0 (by omega)) fl_X7_19 fp_6_2 dX7_init_22 rfl (fun H locs hw => ?_)
  obtain ⟨u3, e_u3⟩ : ∃ x, x = sI u2 (k + 1) 2 (0) := ⟨_, rfl⟩
  rw [← e_u3] at hw
  have hz : gm_z (k + 3) u3 := by rw [e_u3]; exact gm_zI hz (by omega)
  refine gm_aload_nS C dX7_init_25 rfl (lv_at hl 0 rfl) ?_
  refine lv_bipush (v := 41) hx hb dX7_init_26 (by decide) ?_
  refine gm_size (n := k + 2) hw (by omega) hB (by omega) (fun hsz => ?_)
  have hsz : H.size = B + (k + 3) := by omega
  refine gm_newaS (S := gm_SC) (n := k + 3) (t := 0) (N := 41) (ty := .int) C hw hz hB hsz hS3 rfl rfl rfl wq_arr_int (fun cA => gm_dI (Z := Z) hz (Nat.lt_succ_self _) cA) (by decide) (by decide) (by decide) (by omega) (by omega) dX7_init_28 (fun H hw => ?_)
  have hz := hz.up (Nat.le_succ _)
  refine gm_putF (G := (gm_T gm_SC (k + 4))) (u := u3) (r := k + 1) (ci := 6) (k := 3) (v := k + 4) C hin hw (gm_Tsh (r := k) hS0 (by omega)) fo_X7_23 ff_6_3 dX7_init_30 rfl rfl rfl (fun H locs hw => ?_)
  obtain ⟨u4, e_u4⟩ : ∃ x, x = sR u3 (k + 1) 3 (k + 4) := ⟨_, rfl⟩
  rw [← e_u4] at hw
  have hz : gm_z (k + 4) u4 := by rw [e_u4]; exact gm_zR hz (by omega)
  exact gm_vretN C E hw rfl (by unfold cu_X7_init; simp only [e_u4, e_u3, e_u2, e_u1]) (Nat.le_of_ble_eq_true rfl) (Nat.le_of_ble_eq_true rfl) dX7_init_33
def cu_X9_init (k : Nat) (u : gm_M) : gm_M := let u1 := sR u (k + 1) 0 (k + 2); let u2 := sI u1 (k + 1) 1 (0); let u3 := sI u2 (k + 1) 2 (0); let u4 := sI u3 (k + 1) 3 (0); let u5 := sI u4 (k + 1) 4 (0); let u6 := sI u5 (k + 1) 5 (0); let u7 := sJ u6 (k + 1) 6 0; u7
theorem cz_X9_init (k : Nat) (u : gm_M) (hz : gm_z (k + 1) u) : gm_z (k + 2) (cu_X9_init k u) := by
  unfold cu_X9_init
  exact gm_zJ (gm_zI (gm_zI (gm_zI (gm_zI (gm_zI (gm_zR ((hz.up (by omega) : gm_z (k + 2) u)) (by omega)) (by omega)) (by omega)) (by omega)) (by omega)) (by omega)) (by omega)
set_option maxRecDepth 100000 in
set_option maxHeartbeats 4000000 in
theorem ct_X9_init (l : Launch) (Z : gm_Z) (B k : Nat) (u : gm_M) (hB : ∀ r, Z.2.2 (r + 1) = B + r) (hz : gm_z (k + 1) u) (hS0 : gm_SC[k]? = some (.inl 8)) (hS1 : gm_SC[k + 1]? = some (.inr (3, 1000))) (hSl : k + 2 ≤ gm_SC.length) : gm_MetN l gm_SC Z B yX9_init cX9_init 1 ({ frames := 1, cells := 1, slots := 1000, locals := 20 }) [rv Z (k + 1)] (k + 1) u (k + 2) (cu_X9_init k u) := by
  refine gm_ofWN (by decide +kernel) rfl (Nat.le_of_ble_eq_true rfl) ?_
  intro p e s m args below meth c A ls Q R hRf hRl hRc hRs hin hU hs0 C E hl hw
  have hRf : 1 ≤ R.frames := hRf
  have hRl : 20 ≤ R.locals := hRl
  have hRc : 1 ≤ R.cells := hRc
  have hRs : 1000 ≤ R.slots := hRs
  obtain ⟨hx, hb, -⟩ := id C
  have hl : lv_has ls 1 [(0, rv Z (k + 1))] := hl
  refine gm_aload_nS C dX9_init_0 rfl (lv_at hl 0 rfl) ?_
  refine gm_objS C hl wq_130 wq_117 wq_objcode (by omega) (by omega) (Nat.le_of_ble_eq_true rfl) dX9_init_1 ?_
  refine gm_aload_nS C dX9_init_4 rfl (lv_at hl 0 rfl) ?_
  refine lv_sipush (v := 1000) hx hb dX9_init_5 (by decide) ?_
  refine gm_size (n := k) hw (by omega) hB (by omega) (fun hsz => ?_)
  have hsz : s.heap.size = B + (k + 1) := by omega
  refine gm_newaS (S := gm_SC) (n := k + 1) (t := 3) (N := 1000) (ty := .char) C hw hz hB hsz hS1 rfl rfl rfl wq_arr_char (fun cA => gm_dI (Z := Z) hz (Nat.lt_succ_self _) cA) (by decide) (by decide) (by decide) (by omega) (by omega) dX9_init_8 (fun H hw => ?_)
  have hz := hz.up (Nat.le_succ _)
  refine gm_putF (G := (gm_T gm_SC (k + 2))) (u := u) (r := k + 1) (ci := 8) (k := 0) (v := k + 2) C hin hw (gm_Tsh (r := k) hS0 (by omega)) fo_X9_9 ff_8_0 dX9_init_10 rfl rfl rfl (fun H locs hw => ?_)
  obtain ⟨u1, e_u1⟩ : ∃ x, x = sR u (k + 1) 0 (k + 2) := ⟨_, rfl⟩
  rw [← e_u1] at hw
  have hz : gm_z (k + 2) u1 := by rw [e_u1]; exact gm_zR hz (by omega)
  refine gm_aload_nS C dX9_init_13 rfl (lv_at hl 0 rfl) ?_
  refine lv_iconst (v := 0) hx hb dX9_init_14 (by decide) ?_
  refine gm_putI (G := (gm_T gm_SC (k + 2))) (u := u1) (r := k + 1) (ci := 8) (k := 1) (v := 0) C hw (gm_Tsh (r := k) hS0 (by omega)) fl_X9_15 fp_8_1 dX9_init_15 rfl (fun H locs hw => ?_)
  obtain ⟨u2, e_u2⟩ : ∃ x, x = sI u1 (k + 1) 1 (0) := ⟨_, rfl⟩
  rw [← e_u2] at hw
  have hz : gm_z (k + 2) u2 := by rw [e_u2]; exact gm_zI hz (by omega)
  refine gm_aload_nS C dX9_init_18 rfl (lv_at hl 0 rfl) ?_
  refine lv_iconst (v := 0) hx hb dX9_init_19 (by decide) ?_
  refine gm_putI (G := (gm_T gm_SC (k + 2))) (u := u2) (r := k + 1) (ci := 8) (k := 2) (v := 0) C hw (gm_Tsh (r := k) hS0 (by omega)) fl_X9_19 fp_8_2 dX9_init_20 rfl (fun H locs hw => ?_)
  obtain ⟨u3, e_u3⟩ : ∃ x, x = sI u2 (k + 1) 2 (0) := ⟨_, rfl⟩
  rw [← e_u3] at hw
  have hz : gm_z (k + 2) u3 := by rw [e_u3]; exact gm_zI hz (by omega)
  refine gm_aload_nS C dX9_init_23 rfl (lv_at hl 0 rfl) ?_
  refine lv_iconst (v := 0) hx hb dX9_init_24 (by decide) ?_
  refine gm_putI (G := (gm_T gm_SC (k + 2))) (u := u3) (r := k + 1) (ci := 8) (k := 3) (v := 0) C hw (gm_Tsh (r := k) hS0 (by omega)) fl_X9_22 fp_8_3 dX9_init_25 rfl (fun H locs hw => ?_)
  obtain ⟨u4, e_u4⟩ : ∃ x, x = sI u3 (k + 1) 3 (0) := ⟨_, rfl⟩
  rw [← e_u4] at hw
  have hz : gm_z (k + 2) u4 := by rw [e_u4]; exact gm_zI hz (by omega)
  refine gm_aload_nS C dX9_init_28 rfl (lv_at hl 0 rfl) ?_
  refine lv_iconst (v := 0) hx hb dX9_init_29 (by decide) ?_
  refine gm_putI (G := (gm_T gm_SC (k + 2))) (u := u4) (r := k + 1) (ci := 8) (k := 4) (v := 0) C hw (gm_Tsh (r := k) hS0 (by omega)) fl_X9_25 fp_8_4 dX9_init_30 rfl (fun H locs hw => ?_)
  obtain ⟨u5, e_u5⟩ : ∃ x, x = sI u4 (k + 1) 4 (0) := ⟨_, rfl⟩
  rw [← e_u5] at hw
  have hz : gm_z (k + 2) u5 := by rw [e_u5]; exact gm_zI hz (by omega)
  refine gm_aload_nS C dX9_init_33 rfl (lv_at hl 0 rfl) ?_
  refine lv_iconst (v := 0) hx hb dX9_init_34 (by decide) ?_
  refine gm_putI (G := (gm_T gm_SC (k + 2))) (u := u5) (r := k + 1) (ci := 8) (k := 5) (v := 0) C hw (gm_Tsh (r := k) hS0 (by omega)) fl_X9_28 fp_8_5 dX9_init_35 rfl (fun H locs hw => ?_)
  obtain ⟨u6, e_u6⟩ : ∃ x, x = sI u5 (k + 1) 5 (0) := ⟨_, rfl⟩
  rw [← e_u6] at hw
  have hz : gm_z (k + 2) u6 := by rw [e_u6]; exact gm_zI hz (by omega)
  refine gm_aload_nS C dX9_init_38 rfl (lv_at hl 0 rfl) ?_
  refine lv_lconst (v := 0) hx hb dX9_init_39 (by decide) ?_
  refine gm_putJ (G := (gm_T gm_SC (k + 2))) (u := u6) (r := k + 1) (ci := 8) (k := 6) (v := 0) C hw (gm_Tsh (r := k) hS0 (by omega)) fl_X9_31 fp_8_6 dX9_init_40 rfl (fun H locs hw => ?_)
  obtain ⟨u7, e_u7⟩ : ∃ x, x = sJ u6 (k + 1) 6 0 := ⟨_, rfl⟩
  rw [← e_u7] at hw
  have hz : gm_z (k + 2) u7 := by rw [e_u7]; exact gm_zJ hz (by omega)
  exact gm_vretN C E hw rfl (by unfold cu_X9_init; simp only [e_u7, e_u6, e_u5, e_u4, e_u3, e_u2, e_u1]) (Nat.le_of_ble_eq_true rfl) (Nat.le_of_ble_eq_true rfl) dX9_init_43
def cu_X8_init (k : Nat) (u : gm_M) : gm_M := let u1 := cu_X9_init (k + 1) u; let u2 := sR u1 (k + 1) 0 (k + 2); let u3 := sI u2 (k + 1) 1 (0); let u4 := sI u3 (k + 1) 2 (0); u4
theorem cz_X8_init (k : Nat) (u : gm_M) (hz : gm_z (k + 1) u) : gm_z (k + 3) (cu_X8_init k u) := by
  unfold cu_X8_init
  exact (gm_zI ((gm_zI ((gm_zR ((cz_X9_init _ _ ((hz).up (by omega) : gm_z (k + 2) _)) : gm_z (k + 3) _) (by omega)) : gm_z (k + 3) _) (by omega)) : gm_z (k + 3) _) (by omega))
set_option maxRecDepth 100000 in
set_option maxHeartbeats 4000000 in
theorem ct_X8_init (l : Launch) (Z : gm_Z) (B k : Nat) (u : gm_M) (hB : ∀ r, Z.2.2 (r + 1) = B + r) (hz : gm_z (k + 1) u) (hS0 : gm_SC[k]? = some (.inl 7)) (hS1 : gm_SC[k + 1]? = some (.inl 8)) (hS2 : gm_SC[k + 2]? = some (.inr (3, 1000))) (hSl : k + 3 ≤ gm_SC.length) : gm_MetN l gm_SC Z B yX8_init cX8_init 1 ({ frames := 2, cells := 2, slots := 1007, locals := 40 }) [rv Z (k + 1)] (k + 1) u (k + 3) (cu_X8_init k u) := by
  refine gm_ofWN (by decide +kernel) rfl (Nat.le_of_ble_eq_true rfl) ?_
  intro p e s m args below meth c A ls Q R hRf hRl hRc hRs hin hU hs0 C E hl hw
  have hRf : 2 ≤ R.frames := hRf
  have hRl : 40 ≤ R.locals := hRl
  have hRc : 2 ≤ R.cells := hRc
  have hRs : 1007 ≤ R.slots := hRs
  obtain ⟨hx, hb, -⟩ := id C
  have hl : lv_has ls 1 [(0, rv Z (k + 1))] := hl
  refine gm_aload_nS C dX8_init_0 rfl (lv_at hl 0 rfl) ?_
  refine gm_objS C hl wq_124 wq_117 wq_objcode (by omega) (by omega) (Nat.le_of_ble_eq_true rfl) dX8_init_1 ?_
  refine gm_aload_nS C dX8_init_4 rfl (lv_at hl 0 rfl) ?_
  refine gm_size (n := k) hw (by omega) hB (by omega) (fun hsz => ?_)
  have hsz : s.heap.size = B + (k + 1) := by omega
  refine gm_newS (S := gm_SC) (n := k + 1) (ci := 8) (T := TX9) (N := 7) (ty := tyX9) C hw hz hB hsz hS1 rfl wq_125 wq_126 wq_91 us_X9 tyX9_ok df_X9 (by omega) (by omega) dX8_init_5 (fun H hw => ?_)
  have hz := hz.up (Nat.le_succ _)
  refine lv_dup hx hb dX8_init_8 (gm_cat _ _) ?_
  refine gm_size (n := k + 1) hw (by omega) hB (by omega) (fun hsz => ?_)
  have hsz : H.size = B + (k + 2) := by omega
  refine gm_callIN (n := k + 2) (n' := k + 3) (u := u) (u' := cu_X9_init (k + 1) u) (r := k + 1) (As := []) (rest := [rv Z (k + 2), rv Z (k + 1)]) C hU hw hB hsz (by omega) hl (ct_X9_init l Z B (k + 1) u hB hz hS1 hS2 (by omega)) mb_X8_11 wq_91 cd_X9_init (by decide +kernel) rfl im_X9_init ⟨(by omega : 1 + 1 ≤ R.frames), (by omega : 8 + (1 + 11) + 20 ≤ R.locals)⟩ ⟨(by omega : 1 + 1 ≤ R.cells), (by omega : 7 + 1000 ≤ R.slots)⟩ rfl rfl (Nat.le_of_ble_eq_true rfl) dX8_init_9 (fun H locs hw => ?_)
  show W p l e R s m args below meth c H locs 2 1007 Q _
  obtain ⟨u1, e_u1⟩ : ∃ x, x = cu_X9_init (k + 1) u := ⟨_, rfl⟩
  rw [← e_u1] at hw
  have hz : gm_z (k + 3) u1 := by rw [e_u1]; exact cz_X9_init _ _ hz
  refine gm_putF (G := (gm_T gm_SC (k + 3))) (u := u1) (r := k + 1) (ci := 7) (k := 0) (v := k + 2) C hin hw (gm_Tsh (r := k) hS0 (by omega)) fo_X8_12 ff_7_0 dX8_init_12 rfl rfl rfl (fun H locs hw => ?_)
  obtain ⟨u2, e_u2⟩ : ∃ x, x = sR u1 (k + 1) 0 (k + 2) := ⟨_, rfl⟩
  rw [← e_u2] at hw
  have hz : gm_z (k + 3) u2 := by rw [e_u2]; exact gm_zR hz (by omega)
  refine gm_aload_nS C dX8_init_15 rfl (lv_at hl 0 rfl) ?_
  refine lv_iconst (v := 0) hx hb dX8_init_16 (by decide) ?_
  refine gm_putI (G := (gm_T gm_SC (k + 3))) (u := u2) (r := k + 1) (ci := 7) (k := 1) (v := 0) C hw (gm_Tsh (r := k) hS0 (by omega)) fl_X8_18 fp_7_1 dX8_init_17 rfl (fun H locs hw => ?_)
  obtain ⟨u3, e_u3⟩ : ∃ x, x = sI u2 (k + 1) 1 (0) := ⟨_, rfl⟩
  rw [← e_u3] at hw
  have hz : gm_z (k + 3) u3 := by rw [e_u3]; exact gm_zI hz (by omega)
  refine gm_aload_nS C dX8_init_20 rfl (lv_at hl 0 rfl) ?_
  refine lv_iconst (v := 0) hx hb dX8_init_21 (by decide) ?_
  refine gm_putI (G := (gm_T gm_SC (k + 3))) (u := u3) (r := k + 1) (ci := 7) (k := 2) (v := 0) C hw (gm_Tsh (r := k) hS0 (by omega)) fl_X8_22 fp_7_2 dX8_init_22 rfl (fun H locs hw => ?_)
  obtain ⟨u4, e_u4⟩ : ∃ x, x = sI u3 (k + 1) 2 (0) := ⟨_, rfl⟩
  rw [← e_u4] at hw
  have hz : gm_z (k + 3) u4 := by rw [e_u4]; exact gm_zI hz (by omega)
  exact gm_vretN C E hw rfl (by unfold cu_X8_init; simp only [e_u4, e_u3, e_u2, e_u1]) (Nat.le_of_ble_eq_true rfl) (Nat.le_of_ble_eq_true rfl) dX8_init_25
def cu_X2_init (k : Nat) (u : gm_M) : gm_M := let u1 := sR u (k + 1) 0 (k + 2); let u2 := sR u1 (k + 1) 1 (k + 3); let u3 := sI u2 (k + 1) 2 (0); let u4 := sI u3 (k + 1) 3 (0); let u5 := sI u4 (k + 1) 4 (0); u5
theorem cz_X2_init (k : Nat) (u : gm_M) (hz : gm_z (k + 1) u) : gm_z (k + 3) (cu_X2_init k u) := by
  unfold cu_X2_init
  exact gm_zI (gm_zI (gm_zI (gm_zR (gm_zR ((hz.up (by omega) : gm_z (k + 3) u)) (by omega)) (by omega)) (by omega)) (by omega)) (by omega)
set_option maxRecDepth 100000 in
set_option maxHeartbeats 4000000 in
theorem ct_X2_init (l : Launch) (Z : gm_Z) (B k : Nat) (u : gm_M) (hB : ∀ r, Z.2.2 (r + 1) = B + r) (hz : gm_z (k + 1) u) (hS0 : gm_SC[k]? = some (.inl 1)) (hS1 : gm_SC[k + 1]? = some (.inr (0, 6))) (hS2 : gm_SC[k + 2]? = some (.inr (1, 6))) (hSl : k + 3 ≤ gm_SC.length) : gm_MetN l gm_SC Z B yX2_init cX2_init 1 ({ frames := 1, cells := 2, slots := 12, locals := 20 }) [rv Z (k + 1)] (k + 1) u (k + 3) (cu_X2_init k u) := by
  refine gm_ofWN (by decide +kernel) rfl (Nat.le_of_ble_eq_true rfl) ?_
  intro p e s m args below meth c A ls Q R hRf hRl hRc hRs hin hU hs0 C E hl hw
  have hRf : 1 ≤ R.frames := hRf
  have hRl : 20 ≤ R.locals := hRl
  have hRc : 2 ≤ R.cells := hRc
  have hRs : 12 ≤ R.slots := hRs
  obtain ⟨hx, hb, -⟩ := id C
  have hl : lv_has ls 1 [(0, rv Z (k + 1))] := hl
  refine gm_aload_nS C dX2_init_0 rfl (lv_at hl 0 rfl) ?_
  refine gm_objS C hl wq_317 wq_117 wq_objcode (by omega) (by omega) (Nat.le_of_ble_eq_true rfl) dX2_init_1 ?_
  refine gm_aload_nS C dX2_init_4 rfl (lv_at hl 0 rfl) ?_
  refine lv_bipush (v := 6) hx hb dX2_init_5 (by decide) ?_
  refine gm_size (n := k) hw (by omega) hB (by omega) (fun hsz => ?_)
  have hsz : s.heap.size = B + (k + 1) := by omega
  refine gm_newaS (S := gm_SC) (n := k + 1) (t := 0) (N := 6) (ty := .int) C hw hz hB hsz hS1 rfl rfl rfl wq_arr_int (fun cA => gm_dI (Z := Z) hz (Nat.lt_succ_self _) cA) (by decide) (by decide) (by decide) (by omega) (by omega) dX2_init_7 (fun H hw => ?_)
  have hz := hz.up (Nat.le_succ _)
  refine gm_putF (G := (gm_T gm_SC (k + 2))) (u := u) (r := k + 1) (ci := 1) (k := 0) (v := k + 2) C hin hw (gm_Tsh (r := k) hS0 (by omega)) fo_X2_9 ff_1_0 dX2_init_9 rfl rfl rfl (fun H locs hw => ?_)
  obtain ⟨u1, e_u1⟩ : ∃ x, x = sR u (k + 1) 0 (k + 2) := ⟨_, rfl⟩
  rw [← e_u1] at hw
  have hz : gm_z (k + 2) u1 := by rw [e_u1]; exact gm_zR hz (by omega)
  refine gm_aload_nS C dX2_init_12 rfl (lv_at hl 0 rfl) ?_
  refine lv_bipush (v := 6) hx hb dX2_init_13 (by decide) ?_
  refine gm_size (n := k + 1) hw (by omega) hB (by omega) (fun hsz => ?_)
  have hsz : H.size = B + (k + 2) := by omega
  refine gm_newaS (S := gm_SC) (n := k + 2) (t := 1) (N := 6) (ty := .long) C hw hz hB hsz hS2 rfl rfl rfl wq_arr_long (fun cA => gm_dJ (Z := Z) hz (Nat.lt_succ_self _) cA) (by decide) (by decide) (by decide) (by omega) (by omega) dX2_init_15 (fun H hw => ?_)
  have hz := hz.up (Nat.le_succ _)
  refine gm_putF (G := (gm_T gm_SC (k + 3))) (u := u1) (r := k + 1) (ci := 1) (k := 1) (v := k + 3) C hin hw (gm_Tsh (r := k) hS0 (by omega)) fo_X2_15 ff_1_1 dX2_init_17 rfl rfl rfl (fun H locs hw => ?_)
  obtain ⟨u2, e_u2⟩ : ∃ x, x = sR u1 (k + 1) 1 (k + 3) := ⟨_, rfl⟩
  rw [← e_u2] at hw
  have hz : gm_z (k + 3) u2 := by rw [e_u2]; exact gm_zR hz (by omega)
  refine gm_aload_nS C dX2_init_20 rfl (lv_at hl 0 rfl) ?_
  refine lv_iconst (v := 0) hx hb dX2_init_21 (by decide) ?_
  refine gm_putI (G := (gm_T gm_SC (k + 3))) (u := u2) (r := k + 1) (ci := 1) (k := 2) (v := 0) C hw (gm_Tsh (r := k) hS0 (by omega)) fl_X2_19 fp_1_2 dX2_init_22 rfl (fun H locs hw => ?_)
  obtain ⟨u3, e_u3⟩ : ∃ x, x = sI u2 (k + 1) 2 (0) := ⟨_, rfl⟩
  rw [← e_u3] at hw
  have hz : gm_z (k + 3) u3 := by rw [e_u3]; exact gm_zI hz (by omega)
  refine gm_aload_nS C dX2_init_25 rfl (lv_at hl 0 rfl) ?_
  refine lv_iconst (v := 0) hx hb dX2_init_26 (by decide) ?_
  refine gm_putI (G := (gm_T gm_SC (k + 3))) (u := u3) (r := k + 1) (ci := 1) (k := 3) (v := 0) C hw (gm_Tsh (r := k) hS0 (by omega)) fl_X2_23 fp_1_3 dX2_init_27 rfl (fun H locs hw => ?_)
  obtain ⟨u4, e_u4⟩ : ∃ x, x = sI u3 (k + 1) 3 (0) := ⟨_, rfl⟩
  rw [← e_u4] at hw
  have hz : gm_z (k + 3) u4 := by rw [e_u4]; exact gm_zI hz (by omega)
  refine gm_aload_nS C dX2_init_30 rfl (lv_at hl 0 rfl) ?_
  refine lv_iconst (v := 0) hx hb dX2_init_31 (by decide) ?_
  refine gm_putI (G := (gm_T gm_SC (k + 3))) (u := u4) (r := k + 1) (ci := 1) (k := 4) (v := 0) C hw (gm_Tsh (r := k) hS0 (by omega)) fl_X2_26 fp_1_4 dX2_init_32 rfl (fun H locs hw => ?_)
  obtain ⟨u5, e_u5⟩ : ∃ x, x = sI u4 (k + 1) 4 (0) := ⟨_, rfl⟩
  rw [← e_u5] at hw
  have hz : gm_z (k + 3) u5 := by rw [e_u5]; exact gm_zI hz (by omega)
  exact gm_vretN C E hw rfl (by unfold cu_X2_init; simp only [e_u5, e_u4, e_u3, e_u2, e_u1]) (Nat.le_of_ble_eq_true rfl) (Nat.le_of_ble_eq_true rfl) dX2_init_35
def cu_X3_init (k : Nat) (u : gm_M) : gm_M := let u1 := sR u (k + 1) 0 (k + 2); let u2 := sI u1 (k + 1) 1 (0); let u3 := sR u2 (k + 1) 2 (k + 3); u3
theorem cz_X3_init (k : Nat) (u : gm_M) (hz : gm_z (k + 1) u) : gm_z (k + 3) (cu_X3_init k u) := by
  unfold cu_X3_init
  exact gm_zR (gm_zI (gm_zR ((hz.up (by omega) : gm_z (k + 3) u)) (by omega)) (by omega)) (by omega)
set_option maxRecDepth 100000 in
set_option maxHeartbeats 4000000 in
theorem ct_X3_init (l : Launch) (Z : gm_Z) (B k : Nat) (u : gm_M) (hB : ∀ r, Z.2.2 (r + 1) = B + r) (hz : gm_z (k + 1) u) (hS0 : gm_SC[k]? = some (.inl 2)) (hS1 : gm_SC[k + 1]? = some (.inr (0, 1000))) (hS2 : gm_SC[k + 2]? = some (.inr (0, 32))) (hSl : k + 3 ≤ gm_SC.length) : gm_MetN l gm_SC Z B yX3_init cX3_init 1 ({ frames := 1, cells := 2, slots := 1032, locals := 20 }) [rv Z (k + 1)] (k + 1) u (k + 3) (cu_X3_init k u) := by
  refine gm_ofWN (by decide +kernel) rfl (Nat.le_of_ble_eq_true rfl) ?_
  intro p e s m args below meth c A ls Q R hRf hRl hRc hRs hin hU hs0 C E hl hw
  have hRf : 1 ≤ R.frames := hRf
  have hRl : 20 ≤ R.locals := hRl
  have hRc : 2 ≤ R.cells := hRc
  have hRs : 1032 ≤ R.slots := hRs
  obtain ⟨hx, hb, -⟩ := id C
  have hl : lv_has ls 1 [(0, rv Z (k + 1))] := hl
  refine gm_aload_nS C dX3_init_0 rfl (lv_at hl 0 rfl) ?_
  refine gm_objS C hl wq_181 wq_117 wq_objcode (by omega) (by omega) (Nat.le_of_ble_eq_true rfl) dX3_init_1 ?_
  refine gm_aload_nS C dX3_init_4 rfl (lv_at hl 0 rfl) ?_
  refine lv_sipush (v := 1000) hx hb dX3_init_5 (by decide) ?_
  refine gm_size (n := k) hw (by omega) hB (by omega) (fun hsz => ?_)
  have hsz : s.heap.size = B + (k + 1) := by omega
  refine gm_newaS (S := gm_SC) (n := k + 1) (t := 0) (N := 1000) (ty := .int) C hw hz hB hsz hS1 rfl rfl rfl wq_arr_int (fun cA => gm_dI (Z := Z) hz (Nat.lt_succ_self _) cA) (by decide) (by decide) (by decide) (by omega) (by omega) dX3_init_8 (fun H hw => ?_)
  have hz := hz.up (Nat.le_succ _)
  refine gm_putF (G := (gm_T gm_SC (k + 2))) (u := u) (r := k + 1) (ci := 2) (k := 0) (v := k + 2) C hin hw (gm_Tsh (r := k) hS0 (by omega)) fo_X3_9 ff_2_0 dX3_init_10 rfl rfl rfl (fun H locs hw => ?_)
  obtain ⟨u1, e_u1⟩ : ∃ x, x = sR u (k + 1) 0 (k + 2) := ⟨_, rfl⟩
  rw [← e_u1] at hw
  have hz : gm_z (k + 2) u1 := by rw [e_u1]; exact gm_zR hz (by omega)
  refine gm_aload_nS C dX3_init_13 rfl (lv_at hl 0 rfl) ?_
  refine lv_iconst (v := 0) hx hb dX3_init_14 (by decide) ?_
  refine gm_putI (G := (gm_T gm_SC (k + 2))) (u := u1) (r := k + 1) (ci := 2) (k := 1) (v := 0) C hw (gm_Tsh (r := k) hS0 (by omega)) fl_X3_15 fp_2_1 dX3_init_15 rfl (fun H locs hw => ?_)
  obtain ⟨u2, e_u2⟩ : ∃ x, x = sI u1 (k + 1) 1 (0) := ⟨_, rfl⟩
  rw [← e_u2] at hw
  have hz : gm_z (k + 2) u2 := by rw [e_u2]; exact gm_zI hz (by omega)
  refine gm_aload_nS C dX3_init_18 rfl (lv_at hl 0 rfl) ?_
  refine lv_bipush (v := 32) hx hb dX3_init_19 (by decide) ?_
  refine gm_size (n := k + 1) hw (by omega) hB (by omega) (fun hsz => ?_)
  have hsz : H.size = B + (k + 2) := by omega
  refine gm_newaS (S := gm_SC) (n := k + 2) (t := 0) (N := 32) (ty := .int) C hw hz hB hsz hS2 rfl rfl rfl wq_arr_int (fun cA => gm_dI (Z := Z) hz (Nat.lt_succ_self _) cA) (by decide) (by decide) (by decide) (by omega) (by omega) dX3_init_21 (fun H hw => ?_)
  have hz := hz.up (Nat.le_succ _)
  refine gm_putF (G := (gm_T gm_SC (k + 3))) (u := u2) (r := k + 1) (ci := 2) (k := 2) (v := k + 3) C hin hw (gm_Tsh (r := k) hS0 (by omega)) fo_X3_19 ff_2_2 dX3_init_23 rfl rfl rfl (fun H locs hw => ?_)
  obtain ⟨u3, e_u3⟩ : ∃ x, x = sR u2 (k + 1) 2 (k + 3) := ⟨_, rfl⟩
  rw [← e_u3] at hw
  have hz : gm_z (k + 3) u3 := by rw [e_u3]; exact gm_zR hz (by omega)
  exact gm_vretN C E hw rfl (by unfold cu_X3_init; simp only [e_u3, e_u2, e_u1]) (Nat.le_of_ble_eq_true rfl) (Nat.le_of_ble_eq_true rfl) dX3_init_26
def cu_X4_init (k : Nat) (u : gm_M) : gm_M := let u1 := sI u (k + 1) 0 (0); let u2 := cu_X1_init (k + 1) u1; let u3 := sR u2 (k + 1) 1 (k + 2); let u4 := cu_X6_init (k + 5) u3; let u5 := sR u4 (k + 1) 2 (k + 6); let u6 := cu_X7_init (k + 8) u5; let u7 := sR u6 (k + 1) 3 (k + 9); u7
theorem cz_X4_init (k : Nat) (u : gm_M) (hz : gm_z (k + 1) u) : gm_z (k + 12) (cu_X4_init k u) := by
  unfold cu_X4_init
  exact (gm_zR ((cz_X7_init _ _ (((gm_zR ((cz_X6_init _ _ (((gm_zR ((cz_X1_init _ _ (((gm_zI (hz : gm_z (k + 1) _) (by omega))).up (by omega) : gm_z (k + 2) _)) : gm_z (k + 5) _) (by omega))).up (by omega) : gm_z (k + 6) _)) : gm_z (k + 8) _) (by omega))).up (by omega) : gm_z (k + 9) _)) : gm_z (k + 12) _) (by omega))
set_option maxRecDepth 100000 in
set_option maxHeartbeats 4000000 in
theorem ct_X4_init (l : Launch) (Z : gm_Z) (B k : Nat) (u : gm_M) (hB : ∀ r, Z.2.2 (r + 1) = B + r) (hz : gm_z (k + 1) u) (hS0 : gm_SC[k]? = some (.inl 3)) (hS1 : gm_SC[k + 1]? = some (.inl 0)) (hS2 : gm_SC[k + 2]? = some (.inr (0, 6))) (hS3 : gm_SC[k + 3]? = some (.inr (0, 6))) (hS4 : gm_SC[k + 4]? = some (.inr (0, 6))) (hS5 : gm_SC[k + 5]? = some (.inl 5)) (hS6 : gm_SC[k + 6]? = some (.inr (0, 40))) (hS7 : gm_SC[k + 7]? = some (.inr (0, 40))) (hS8 : gm_SC[k + 8]? = some (.inl 6)) (hS9 : gm_SC[k + 9]? = some (.inr (0, 8))) (hS10 : gm_SC[k + 10]? = some (.inr (2, 8))) (hS11 : gm_SC[k + 11]? = some (.inr (0, 41))) (hSl : k + 12 ≤ gm_SC.length) : gm_MetN l gm_SC Z B yX4_init cX4_init 1 ({ frames := 2, cells := 11, slots := 169, locals := 40 }) [rv Z (k + 1)] (k + 1) u (k + 12) (cu_X4_init k u) := by
  refine gm_ofWN (by decide +kernel) rfl (Nat.le_of_ble_eq_true rfl) ?_
  intro p e s m args below meth c A ls Q R hRf hRl hRc hRs hin hU hs0 C E hl hw
  have hRf : 2 ≤ R.frames := hRf
  have hRl : 40 ≤ R.locals := hRl
  have hRc : 11 ≤ R.cells := hRc
  have hRs : 169 ≤ R.slots := hRs
  obtain ⟨hx, hb, -⟩ := id C
  have hl : lv_has ls 1 [(0, rv Z (k + 1))] := hl
  refine gm_aload_nS C dX4_init_0 rfl (lv_at hl 0 rfl) ?_
  refine gm_objS C hl wq_344 wq_117 wq_objcode (by omega) (by omega) (Nat.le_of_ble_eq_true rfl) dX4_init_1 ?_
  refine gm_aload_nS C dX4_init_4 rfl (lv_at hl 0 rfl) ?_
  refine lv_iconst (v := 0) hx hb dX4_init_5 (by decide) ?_
  refine gm_putZ (G := (gm_T gm_SC (k + 1))) (u := u) (r := k + 1) (ci := 3) (k := 0) (v := 0) C hw (gm_Tsh (r := k) hS0 (by omega)) fl_X4_7 fp_3_0 dX4_init_6 rfl (by decide) (fun H locs hw => ?_)
  obtain ⟨u1, e_u1⟩ : ∃ x, x = sI u (k + 1) 0 (0) := ⟨_, rfl⟩
  rw [← e_u1] at hw
  have hz : gm_z (k + 1) u1 := by rw [e_u1]; exact gm_zI hz (by omega)
  refine gm_aload_nS C dX4_init_9 rfl (lv_at hl 0 rfl) ?_
  refine gm_size (n := k) hw (by omega) hB (by omega) (fun hsz => ?_)
  have hsz : H.size = B + (k + 1) := by omega
  refine gm_newS (S := gm_SC) (n := k + 1) (ci := 0) (T := TX1) (N := 7) (ty := tyX1) C hw hz hB hsz hS1 rfl wq_345 wq_256 wq_95 us_X1 tyX1_ok df_X1 (by omega) (by omega) dX4_init_10 (fun H hw => ?_)
  have hz := hz.up (Nat.le_succ _)
  refine lv_dup hx hb dX4_init_13 (gm_cat _ _) ?_
  refine gm_size (n := k + 1) hw (by omega) hB (by omega) (fun hsz => ?_)
  have hsz : H.size = B + (k + 2) := by omega
  refine gm_callIN (n := k + 2) (n' := k + 5) (u := u1) (u' := cu_X1_init (k + 1) u1) (r := k + 1) (As := []) (rest := [rv Z (k + 2), rv Z (k + 1)]) C hU hw hB hsz (by omega) hl (ct_X1_init l Z B (k + 1) u1 hB hz hS1 hS2 hS3 hS4 (by omega)) mb_X4_15 wq_95 cd_X1_init (by decide +kernel) rfl im_X1_init ⟨(by omega : 1 + 1 ≤ R.frames), (by omega : 8 + (1 + 11) + 20 ≤ R.locals)⟩ ⟨(by omega : 1 + 3 ≤ R.cells), (by omega : 7 + 18 ≤ R.slots)⟩ rfl rfl (Nat.le_of_ble_eq_true rfl) dX4_init_14 (fun H locs hw => ?_)
  show W p l e R s m args below meth c H locs 4 25 Q _
  obtain ⟨u2, e_u2⟩ : ∃ x, x = cu_X1_init (k + 1) u1 := ⟨_, rfl⟩
  rw [← e_u2] at hw
  have hz : gm_z (k + 5) u2 := by rw [e_u2]; exact cz_X1_init _ _ hz
  refine gm_putF (G := (gm_T gm_SC (k + 5))) (u := u2) (r := k + 1) (ci := 3) (k := 1) (v := k + 2) C hin hw (gm_Tsh (r := k) hS0 (by omega)) fo_X4_16 ff_3_1 dX4_init_17 rfl rfl rfl (fun H locs hw => ?_)
  obtain ⟨u3, e_u3⟩ : ∃ x, x = sR u2 (k + 1) 1 (k + 2) := ⟨_, rfl⟩
  rw [← e_u3] at hw
  have hz : gm_z (k + 5) u3 := by rw [e_u3]; exact gm_zR hz (by omega)
  refine gm_aload_nS C dX4_init_20 rfl (lv_at hl 0 rfl) ?_
  refine gm_size (n := k + 4) hw (by omega) hB (by omega) (fun hsz => ?_)
  have hsz : H.size = B + (k + 5) := by omega
  refine gm_newS (S := gm_SC) (n := k + 5) (ci := 5) (T := TX6) (N := 3) (ty := tyX6) C hw hz hB hsz hS5 rfl wq_347 wq_238 wq_94 us_X6 tyX6_ok df_X6 (by omega) (by omega) dX4_init_21 (fun H hw => ?_)
  have hz := hz.up (Nat.le_succ _)
  refine lv_dup hx hb dX4_init_24 (gm_cat _ _) ?_
  refine gm_size (n := k + 5) hw (by omega) hB (by omega) (fun hsz => ?_)
  have hsz : H.size = B + (k + 6) := by omega
  refine gm_callIN (n := k + 6) (n' := k + 8) (u := u3) (u' := cu_X6_init (k + 5) u3) (r := k + 5) (As := []) (rest := [rv Z (k + 6), rv Z (k + 1)]) C hU hw hB hsz (by omega) hl (ct_X6_init l Z B (k + 5) u3 hB hz hS5 hS6 hS7 (by omega)) mb_X4_22 wq_94 cd_X6_init (by decide +kernel) rfl im_X6_init ⟨(by omega : 1 + 1 ≤ R.frames), (by omega : 8 + (1 + 11) + 20 ≤ R.locals)⟩ ⟨(by omega : 5 + 2 ≤ R.cells), (by omega : 28 + 80 ≤ R.slots)⟩ rfl rfl (Nat.le_of_ble_eq_true rfl) dX4_init_25 (fun H locs hw => ?_)
  show W p l e R s m args below meth c H locs 7 108 Q _
  obtain ⟨u4, e_u4⟩ : ∃ x, x = cu_X6_init (k + 5) u3 := ⟨_, rfl⟩
  rw [← e_u4] at hw
  have hz : gm_z (k + 8) u4 := by rw [e_u4]; exact cz_X6_init _ _ hz
  refine gm_putF (G := (gm_T gm_SC (k + 8))) (u := u4) (r := k + 1) (ci := 3) (k := 2) (v := k + 6) C hin hw (gm_Tsh (r := k) hS0 (by omega)) fo_X4_23 ff_3_2 dX4_init_28 rfl rfl rfl (fun H locs hw => ?_)
  obtain ⟨u5, e_u5⟩ : ∃ x, x = sR u4 (k + 1) 2 (k + 6) := ⟨_, rfl⟩
  rw [← e_u5] at hw
  have hz : gm_z (k + 8) u5 := by rw [e_u5]; exact gm_zR hz (by omega)
  refine gm_aload_nS C dX4_init_31 rfl (lv_at hl 0 rfl) ?_
  refine gm_size (n := k + 7) hw (by omega) hB (by omega) (fun hsz => ?_)
  have hsz : H.size = B + (k + 8) := by omega
  refine gm_newS (S := gm_SC) (n := k + 8) (ci := 6) (T := TX7) (N := 4) (ty := tyX7) C hw hz hB hsz hS8 rfl wq_349 wq_292 wq_96 us_X7 tyX7_ok df_X7 (by omega) (by omega) dX4_init_32 (fun H hw => ?_)
  have hz := hz.up (Nat.le_succ _)
  refine lv_dup hx hb dX4_init_35 (gm_cat _ _) ?_
  refine gm_size (n := k + 8) hw (by omega) hB (by omega) (fun hsz => ?_)
  have hsz : H.size = B + (k + 9) := by omega
  refine gm_callIN (n := k + 9) (n' := k + 12) (u := u5) (u' := cu_X7_init (k + 8) u5) (r := k + 8) (As := []) (rest := [rv Z (k + 9), rv Z (k + 1)]) C hU hw hB hsz (by omega) hl (ct_X7_init l Z B (k + 8) u5 hB hz hS8 hS9 hS10 hS11 (by omega)) mb_X4_29 wq_96 cd_X7_init (by decide +kernel) rfl im_X7_init ⟨(by omega : 1 + 1 ≤ R.frames), (by omega : 8 + (1 + 11) + 20 ≤ R.locals)⟩ ⟨(by omega : 8 + 3 ≤ R.cells), (by omega : 112 + 57 ≤ R.slots)⟩ rfl rfl (Nat.le_of_ble_eq_true rfl) dX4_init_36 (fun H locs hw => ?_)
  show W p l e R s m args below meth c H locs 11 169 Q _
  obtain ⟨u6, e_u6⟩ : ∃ x, x = cu_X7_init (k + 8) u5 := ⟨_, rfl⟩
  rw [← e_u6] at hw
  have hz : gm_z (k + 12) u6 := by rw [e_u6]; exact cz_X7_init _ _ hz
  refine gm_putF (G := (gm_T gm_SC (k + 12))) (u := u6) (r := k + 1) (ci := 3) (k := 3) (v := k + 9) C hin hw (gm_Tsh (r := k) hS0 (by omega)) fo_X4_30 ff_3_3 dX4_init_39 rfl rfl rfl (fun H locs hw => ?_)
  obtain ⟨u7, e_u7⟩ : ∃ x, x = sR u6 (k + 1) 3 (k + 9) := ⟨_, rfl⟩
  rw [← e_u7] at hw
  have hz : gm_z (k + 12) u7 := by rw [e_u7]; exact gm_zR hz (by omega)
  exact gm_vretN C E hw rfl (by unfold cu_X4_init; simp only [e_u7, e_u6, e_u5, e_u4, e_u3, e_u2, e_u1]) (Nat.le_of_ble_eq_true rfl) (Nat.le_of_ble_eq_true rfl) dX4_init_42
