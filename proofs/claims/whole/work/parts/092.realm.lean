theorem wq_175 : Cond.methodLink RX5 3 Lib.objectInit ∈ gm_tb := gm_ix 175 (by decide +kernel) rfl
theorem fo_X5_15 : gm_fo RX5 15 4 1 := ⟨RX5, TX5, 9, rfl, by decide, gm_ix 201 (by decide +kernel) rfl, us_X5⟩
theorem ff_4_1 : gm_ff 4 1 RX5 (.array .long) := ⟨RX5, TX5, 9, tyX5, rfl, tyX5_ok, nmX5, rfl, rfl, by decide +kernel⟩
theorem fo_X5_19 : gm_fo RX5 19 4 2 := ⟨RX5, TX5, 9, rfl, by decide, gm_ix 202 (by decide +kernel) rfl, us_X5⟩
theorem ff_4_2 : gm_ff 4 2 RX5 (.array .int) := ⟨RX5, TX5, 9, tyX5, rfl, tyX5_ok, nmX5, rfl, rfl, by decide +kernel⟩
theorem fo_X5_23 : gm_fo RX5 23 4 3 := ⟨RX5, TX5, 9, rfl, by decide, gm_ix 203 (by decide +kernel) rfl, us_X5⟩
theorem ff_4_3 : gm_ff 4 3 RX5 (.array .int) := ⟨RX5, TX5, 9, tyX5, rfl, tyX5_ok, nmX5, rfl, rfl, by decide +kernel⟩
theorem fo_X5_26 : gm_fo RX5 26 4 4 := ⟨RX5, TX5, 9, rfl, by decide, gm_ix 204 (by decide +kernel) rfl, us_X5⟩
theorem ff_4_4 : gm_ff 4 4 RX5 (.array .int) := ⟨RX5, TX5, 9, tyX5, rfl, tyX5_ok, nmX5, rfl, rfl, by decide +kernel⟩
theorem wq_176 : Cond.classLink RX5 38 RX3 ∈ gm_tb := gm_ix 176 (by decide +kernel) rfl
theorem wq_177 : Cond.instantiable RX3 3 ∈ gm_tb := gm_ix 177 (by decide +kernel) rfl
theorem wq_93 : Cond.initialized RX3 ∈ gm_tb := gm_ix 93 (by decide +kernel) rfl
theorem df_X3 : ∀ j, j < 3 → defaultValue (tyX3 j) = match gm_kd0 2 j with | 0 => .int 0 | 1 => .long 0 | _ => .null := by decide +kernel
theorem mb_X5_40 : (RX5, 40, yX3_init, "LeapCapital") ∈ gm_mb := by decide +kernel
theorem cd_X3_init : Cond.code yX3_init cX3_init 1 none ∈ gm_tb := gm_ix 180 (by decide +kernel) rfl
theorem im_X3_init : Cond.instanceMethod yX3_init ∈ gm_tb := gm_ix 179 (by decide +kernel) rfl
theorem fo_X5_41 : gm_fo RX5 41 4 8 := ⟨RX5, TX5, 9, rfl, by decide, gm_ix 215 (by decide +kernel) rfl, us_X5⟩
theorem ff_4_8 : gm_ff 4 8 RX5 (.object "LeapCapital$Law") := ⟨RX5, TX5, 9, tyX5, rfl, tyX5_ok, nmX5, rfl, rfl, by decide +kernel⟩
def cu_X5_init (k : Nat) (u : gm_M) : gm_M := let u1 := sI u (k + 1) 0 (0); let u2 := sR u1 (k + 1) 1 (k + 2); let u3 := sR u2 (k + 1) 2 (k + 3); let u4 := sR u3 (k + 1) 3 (k + 4); let u5 := sR u4 (k + 1) 4 (k + 5); let u6 := sI u5 (k + 1) 5 (1896); let u7 := sI u6 (k + 1) 6 (10); let u8 := sI u7 (k + 1) 7 (70); let u9 := cu_X3_init (k + 5) u8; let u10 := sR u9 (k + 1) 8 (k + 6); let u11 := cu_ladd (k + 5) (k + 6) u10; u11
theorem cz_X5_init (k : Nat) (u : gm_M) (hz : gm_z (k + 1) u) : gm_z (k + 8) (cu_X5_init k u) := by
  unfold cu_X5_init
  exact (gm_zI (gm_zI (gm_zR ((cz_X3_init _ _ (((gm_zI ((gm_zI ((gm_zI ((gm_zR ((gm_zR ((gm_zR ((gm_zR ((gm_zI (hz : gm_z (k + 1) _) (by omega)) : gm_z (k + 1) _) (by omega)) : gm_z (k + 1) _) (by omega)) : gm_z (k + 1) _) (by omega)) : gm_z (k + 1) _) (by omega)) : gm_z (k + 1) _) (by omega)) : gm_z (k + 1) _) (by omega)) : gm_z (k + 1) _) (by omega))).up (by omega) : gm_z (k + 6) _)) : gm_z (k + 8) _) (by omega)) (by omega)) (by omega))
set_option maxRecDepth 100000 in
set_option maxHeartbeats 4000000 in
theorem ct_X5_init (l : Launch) (Z : gm_Z) (B k : Nat) (u : gm_M) (hB : ∀ r, Z.2.2 (r + 1) = B + r) (hz : gm_z (k + 1) u) (hS0 : gm_SC[k]? = some (.inl 4)) (hS1 : gm_SC[k + 1]? = some (.inr (1, 6))) (hS2 : gm_SC[k + 2]? = some (.inr (0, 6))) (hS3 : gm_SC[k + 3]? = some (.inr (0, 6))) (hS4 : gm_SC[k + 4]? = some (.inr (0, 6))) (hS5 : gm_SC[k + 5]? = some (.inl 2)) (hS6 : gm_SC[k + 6]? = some (.inr (0, 1000))) (hS7 : gm_SC[k + 7]? = some (.inr (0, 32))) (hSl : k + 8 ≤ gm_SC.length) : gm_MetN l gm_SC Z B yX5_init cX5_init 1 ({ frames := 2, cells := 7, slots := 1059, locals := 40 }) [rv Z (k + 1)] (k + 1) u (k + 8) (cu_X5_init k u) := by
  refine gm_ofWN (by decide +kernel) rfl (Nat.le_of_ble_eq_true rfl) ?_
  intro p e s m args below meth c A ls Q R hRf hRl hRc hRs hin hU hs0 C E hl hw
  have hRf : 2 ≤ R.frames := hRf
  have hRl : 40 ≤ R.locals := hRl
  have hRc : 7 ≤ R.cells := hRc
  have hRs : 1059 ≤ R.slots := hRs
  obtain ⟨hx, hb, -⟩ := id C
  have hl : lv_has ls 1 [(0, rv Z (k + 1))] := hl
  refine gm_aload_nS C dX5_init_0 rfl (lv_at hl 0 rfl) ?_
  refine gm_objS C hl wq_175 wq_117 wq_objcode (by omega) (by omega) (Nat.le_of_ble_eq_true rfl) dX5_init_1 ?_
  refine gm_aload_nS C dX5_init_4 rfl (lv_at hl 0 rfl) ?_
  refine lv_iconst (v := 0) hx hb dX5_init_5 (by decide) ?_
  refine gm_putI (G := (gm_T gm_SC (k + 1))) (u := u) (r := k + 1) (ci := 4) (k := 0) (v := 0) C hw (gm_Tsh (r := k) hS0 (by omega)) fl_X5_9 fp_4_0 dX5_init_6 rfl (fun H locs hw => ?_)
  obtain ⟨u1, e_u1⟩ : ∃ x, x = sI u (k + 1) 0 (0) := ⟨_, rfl⟩
  rw [← e_u1] at hw
  have hz : gm_z (k + 1) u1 := by rw [e_u1]; exact gm_zI hz (by omega)
  refine gm_aload_nS C dX5_init_9 rfl (lv_at hl 0 rfl) ?_
  refine lv_bipush (v := 6) hx hb dX5_init_10 (by decide) ?_
  refine gm_size (n := k) hw (by omega) hB (by omega) (fun hsz => ?_)
  have hsz : H.size = B + (k + 1) := by omega
  refine gm_newaS (S := gm_SC) (n := k + 1) (t := 1) (N := 6) (ty := .long) C hw hz hB hsz hS1 rfl rfl rfl wq_arr_long (fun cA => gm_dJ (Z := Z) hz (Nat.lt_succ_self _) cA) (by decide) (by decide) (by decide) (by omega) (by omega) dX5_init_12 (fun H hw => ?_)
  have hz := hz.up (Nat.le_succ _)
  refine gm_putF (G := (gm_T gm_SC (k + 2))) (u := u1) (r := k + 1) (ci := 4) (k := 1) (v := k + 2) C hin hw (gm_Tsh (r := k) hS0 (by omega)) fo_X5_15 ff_4_1 dX5_init_14 rfl rfl rfl (fun H locs hw => ?_)
  obtain ⟨u2, e_u2⟩ : ∃ x, x = sR u1 (k + 1) 1 (k + 2) := ⟨_, rfl⟩
  rw [← e_u2] at hw
  have hz : gm_z (k + 2) u2 := by rw [e_u2]; exact gm_zR hz (by omega)
  refine gm_aload_nS C dX5_init_17 rfl (lv_at hl 0 rfl) ?_
  refine lv_bipush (v := 6) hx hb dX5_init_18 (by decide) ?_
  refine gm_size (n := k + 1) hw (by omega) hB (by omega) (fun hsz => ?_)
  have hsz : H.size = B + (k + 2) := by omega
  refine gm_newaS (S := gm_SC) (n := k + 2) (t := 0) (N := 6) (ty := .int) C hw hz hB hsz hS2 rfl rfl rfl wq_arr_int (fun cA => gm_dI (Z := Z) hz (Nat.lt_succ_self _) cA) (by decide) (by decide) (by decide) (by omega) (by omega) dX5_init_20 (fun H hw => ?_)
  have hz := hz.up (Nat.le_succ _)
  refine gm_putF (G := (gm_T gm_SC (k + 3))) (u := u2) (r := k + 1) (ci := 4) (k := 2) (v := k + 3) C hin hw (gm_Tsh (r := k) hS0 (by omega)) fo_X5_19 ff_4_2 dX5_init_22 rfl rfl rfl (fun H locs hw => ?_)
  obtain ⟨u3, e_u3⟩ : ∃ x, x = sR u2 (k + 1) 2 (k + 3) := ⟨_, rfl⟩
  rw [← e_u3] at hw
  have hz : gm_z (k + 3) u3 := by rw [e_u3]; exact gm_zR hz (by omega)
  refine gm_aload_nS C dX5_init_25 rfl (lv_at hl 0 rfl) ?_
  refine lv_bipush (v := 6) hx hb dX5_init_26 (by decide) ?_
  refine gm_size (n := k + 2) hw (by omega) hB (by omega) (fun hsz => ?_)
  have hsz : H.size = B + (k + 3) := by omega
  refine gm_newaS (S := gm_SC) (n := k + 3) (t := 0) (N := 6) (ty := .int) C hw hz hB hsz hS3 rfl rfl rfl wq_arr_int (fun cA => gm_dI (Z := Z) hz (Nat.lt_succ_self _) cA) (by decide) (by decide) (by decide) (by omega) (by omega) dX5_init_28 (fun H hw => ?_)
  have hz := hz.up (Nat.le_succ _)
  refine gm_putF (G := (gm_T gm_SC (k + 4))) (u := u3) (r := k + 1) (ci := 4) (k := 3) (v := k + 4) C hin hw (gm_Tsh (r := k) hS0 (by omega)) fo_X5_23 ff_4_3 dX5_init_30 rfl rfl rfl (fun H locs hw => ?_)
  obtain ⟨u4, e_u4⟩ : ∃ x, x = sR u3 (k + 1) 3 (k + 4) := ⟨_, rfl⟩
  rw [← e_u4] at hw
  have hz : gm_z (k + 4) u4 := by rw [e_u4]; exact gm_zR hz (by omega)
  refine gm_aload_nS C dX5_init_33 rfl (lv_at hl 0 rfl) ?_
  refine lv_bipush (v := 6) hx hb dX5_init_34 (by decide) ?_
  refine gm_size (n := k + 3) hw (by omega) hB (by omega) (fun hsz => ?_)
  have hsz : H.size = B + (k + 4) := by omega
  refine gm_newaS (S := gm_SC) (n := k + 4) (t := 0) (N := 6) (ty := .int) C hw hz hB hsz hS4 rfl rfl rfl wq_arr_int (fun cA => gm_dI (Z := Z) hz (Nat.lt_succ_self _) cA) (by decide) (by decide) (by decide) (by omega) (by omega) dX5_init_36 (fun H hw => ?_)
  have hz := hz.up (Nat.le_succ _)
  refine gm_putF (G := (gm_T gm_SC (k + 5))) (u := u4) (r := k + 1) (ci := 4) (k := 4) (v := k + 5) C hin hw (gm_Tsh (r := k) hS0 (by omega)) fo_X5_26 ff_4_4 dX5_init_38 rfl rfl rfl (fun H locs hw => ?_)
  obtain ⟨u5, e_u5⟩ : ∃ x, x = sR u4 (k + 1) 4 (k + 5) := ⟨_, rfl⟩
  rw [← e_u5] at hw
  have hz : gm_z (k + 5) u5 := by rw [e_u5]; exact gm_zR hz (by omega)
  refine gm_aload_nS C dX5_init_41 rfl (lv_at hl 0 rfl) ?_
  refine lv_sipush (v := 1896) hx hb dX5_init_42 (by decide) ?_
  refine gm_putI (G := (gm_T gm_SC (k + 5))) (u := u5) (r := k + 1) (ci := 4) (k := 5) (v := 1896) C hw (gm_Tsh (r := k) hS0 (by omega)) fl_X5_29 fp_4_5 dX5_init_45 rfl (fun H locs hw => ?_)
  obtain ⟨u6, e_u6⟩ : ∃ x, x = sI u5 (k + 1) 5 (1896) := ⟨_, rfl⟩
  rw [← e_u6] at hw
  have hz : gm_z (k + 5) u6 := by rw [e_u6]; exact gm_zI hz (by omega)
  refine gm_aload_nS C dX5_init_48 rfl (lv_at hl 0 rfl) ?_
  refine lv_bipush (v := 10) hx hb dX5_init_49 (by decide) ?_
  refine gm_putI (G := (gm_T gm_SC (k + 5))) (u := u6) (r := k + 1) (ci := 4) (k := 6) (v := 10) C hw (gm_Tsh (r := k) hS0 (by omega)) fl_X5_32 fp_4_6 dX5_init_51 rfl (fun H locs hw => ?_)
  obtain ⟨u7, e_u7⟩ : ∃ x, x = sI u6 (k + 1) 6 (10) := ⟨_, rfl⟩
  rw [← e_u7] at hw
  have hz : gm_z (k + 5) u7 := by rw [e_u7]; exact gm_zI hz (by omega)
  refine gm_aload_nS C dX5_init_54 rfl (lv_at hl 0 rfl) ?_
  refine lv_bipush (v := 70) hx hb dX5_init_55 (by decide) ?_
  refine gm_putI (G := (gm_T gm_SC (k + 5))) (u := u7) (r := k + 1) (ci := 4) (k := 7) (v := 70) C hw (gm_Tsh (r := k) hS0 (by omega)) fl_X5_35 fp_4_7 dX5_init_57 rfl (fun H locs hw => ?_)
  obtain ⟨u8, e_u8⟩ : ∃ x, x = sI u7 (k + 1) 7 (70) := ⟨_, rfl⟩
  rw [← e_u8] at hw
  have hz : gm_z (k + 5) u8 := by rw [e_u8]; exact gm_zI hz (by omega)
  refine gm_aload_nS C dX5_init_60 rfl (lv_at hl 0 rfl) ?_
  refine gm_size (n := k + 4) hw (by omega) hB (by omega) (fun hsz => ?_)
  have hsz : H.size = B + (k + 5) := by omega
  refine gm_newS (S := gm_SC) (n := k + 5) (ci := 2) (T := TX3) (N := 3) (ty := tyX3) C hw hz hB hsz hS5 rfl wq_176 wq_177 wq_93 us_X3 tyX3_ok df_X3 (by omega) (by omega) dX5_init_61 (fun H hw => ?_)
  have hz := hz.up (Nat.le_succ _)
  refine lv_dup hx hb dX5_init_64 (gm_cat _ _) ?_
  refine gm_size (n := k + 5) hw (by omega) hB (by omega) (fun hsz => ?_)
  have hsz : H.size = B + (k + 6) := by omega
  refine gm_callIN (n := k + 6) (n' := k + 8) (u := u8) (u' := cu_X3_init (k + 5) u8) (r := k + 5) (As := []) (rest := [rv Z (k + 6), rv Z (k + 1)]) C hU hw hB hsz (by omega) hl (ct_X3_init l Z B (k + 5) u8 hB hz hS5 hS6 hS7 (by omega)) mb_X5_40 wq_93 cd_X3_init (by decide +kernel) rfl im_X3_init ⟨(by omega : 1 + 1 ≤ R.frames), (by omega : 8 + (1 + 11) + 20 ≤ R.locals)⟩ ⟨(by omega : 5 + 2 ≤ R.cells), (by omega : 27 + 1032 ≤ R.slots)⟩ rfl rfl (Nat.le_of_ble_eq_true rfl) dX5_init_65 (fun H locs hw => ?_)
  show W p l e R s m args below meth c H locs 7 1059 Q _
  obtain ⟨u9, e_u9⟩ : ∃ x, x = cu_X3_init (k + 5) u8 := ⟨_, rfl⟩
  rw [← e_u9] at hw
  have hz : gm_z (k + 8) u9 := by rw [e_u9]; exact cz_X3_init _ _ hz
  refine gm_putF (G := (gm_T gm_SC (k + 8))) (u := u9) (r := k + 1) (ci := 4) (k := 8) (v := k + 6) C hin hw (gm_Tsh (r := k) hS0 (by omega)) fo_X5_41 ff_4_8 dX5_init_68 rfl rfl rfl (fun H locs hw => ?_)
  obtain ⟨u10, e_u10⟩ : ∃ x, x = sR u9 (k + 1) 8 (k + 6) := ⟨_, rfl⟩
  rw [← e_u10] at hw
  have hz : gm_z (k + 8) u10 := by rw [e_u10]; exact gm_zR hz (by omega)
  refine gm_aload_nS C dX5_init_71 rfl (lv_at hl 0 rfl) ?_
  refine gm_getR (G := (gm_T gm_SC (k + 8))) (u := u10) (r := k + 1) (ci := 4) (k := 8) C hw (gm_Tsh (r := k) hS0 (by omega)) fl_X5_41 dX5_init_72 rfl ?_
  refine gm_topRS (y := k + 6) (by simp only [e_u10, e_u9, e_u8, e_u7, e_u6, e_u5, e_u4, e_u3, e_u2, e_u1]; simp [cu_ladd, cu_X1_init, cu_X2_init, cu_X3_init, cu_X4_init, cu_X6_init, cu_X7_init, cu_X8_init, cu_X9_init, gI, gR, gJ, sI, sR, sJ]) ?_
  refine lv_iconst (v := -1) hx hb dX5_init_75 (by decide) ?_
  refine gm_size (n := k + 7) hw (by omega) hB (by omega) (fun hsz => ?_)
  have hsz : H.size = B + (k + 8) := by omega
  refine gm_callNV (n := k + 8) (n' := k + 8) (u := u10) (u' := cu_ladd (k + 5) (k + 6) u10) (r := k + 5) (As := [.int (-1)]) (rest := []) (ci := 2) C hU hw hB hsz (by omega) hl (ct_ladd l Z B (k + 8) (k + 5) (k + 6) u10 hS5 hS6 (by omega) (by omega) (by simp only [e_u10, e_u9, e_u8, e_u7, e_u6, e_u5, e_u4, e_u3, e_u2, e_u1]; simp [cu_ladd, cu_X1_init, cu_X2_init, cu_X3_init, cu_X4_init, cu_X6_init, cu_X7_init, cu_X8_init, cu_X9_init, gI, gR, gJ, sI, sR, sJ]) (by simp only [e_u10, e_u9, e_u8, e_u7, e_u6, e_u5, e_u4, e_u3, e_u2, e_u1]; simp [cu_ladd, cu_X1_init, cu_X2_init, cu_X3_init, cu_X4_init, cu_X6_init, cu_X7_init, cu_X8_init, cu_X9_init, gI, gR, gJ, sI, sR, sJ])) cw_X5_45 im_X3_add rfl se_X3_add (gm_Tsh (r := k + 5) hS5 (by omega)) ⟨(by omega : 0 + 1 ≤ R.frames), (by omega : 8 + (2 + 11) + 0 ≤ R.locals)⟩ ⟨(by omega : 7 + 0 ≤ R.cells), (by omega : 1059 + 0 ≤ R.slots)⟩ rfl rfl (Nat.le_of_ble_eq_true rfl) dX5_init_76 (fun H locs hw => ?_)
  show W p l e R s m args below meth c H locs 7 1059 Q _
  obtain ⟨u11, e_u11⟩ : ∃ x, x = cu_ladd (k + 5) (k + 6) u10 := ⟨_, rfl⟩
  rw [← e_u11] at hw
  have hz : gm_z (k + 8) u11 := by rw [e_u11]; exact gm_zI (gm_zI hz (by omega)) (by omega)
  exact gm_vretN C E hw rfl (by unfold cu_X5_init; simp only [e_u11, e_u10, e_u9, e_u8, e_u7, e_u6, e_u5, e_u4, e_u3, e_u2, e_u1]) (Nat.le_of_ble_eq_true rfl) (Nat.le_of_ble_eq_true rfl) dX5_init_79
