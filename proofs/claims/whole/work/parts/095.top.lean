def ck_X10_init : gm_M := let u := gm_u0; let u1 := cu_X8_init (1) u; let u2 := sR u1 (1) 1 (2); let u3 := cu_X5_init (4) u2; let u4 := sR u3 (1) 2 (5); let u5 := cu_X5_init (12) u4; let u6 := sR u5 (1) 3 (13); let u7 := cu_X6_init (20) u6; let u8 := sR u7 (1) 4 (21); let u9 := cu_X6_init (23) u8; let u10 := sR u9 (1) 5 (24); let u11 := cu_X1_init (26) u10; let u12 := sR u11 (1) 6 (27); let u13 := cu_X7_init (30) u12; let u14 := sR u13 (1) 7 (31); let u15 := cu_X2_init (34) u14; let u16 := sR u15 (1) 8 (35); let u17 := sR u16 (1) 9 (38); let u18 := sI u17 (1) 10 (0); let u19 := sR u18 (1) 11 (39); let u20 := cu_X1_init (39) u19; let u21 := sR u20 (1) 12 (40); let u22 := sR u21 (1) 13 (44); let u23 := sR u22 (1) 14 (45); let u24 := sJ u23 (1) 0 0; let u25 := cu_X1_init (45) u24; let u26 := sR u25 (38) 0 (46); let u27 := cu_X1_init (49) u26; let u28 := sR u27 (38) 1 (50); let u29 := cu_X1_init (53) u28; let u30 := sR u29 (38) 2 (54); let u31 := cu_X1_init (57) u30; let u32 := sR u31 (38) 3 (58); let u33 := cu_X1_init (61) u32; let u34 := sR u33 (38) 4 (62); let u35 := cu_X1_init (65) u34; let u36 := sR u35 (38) 5 (66); let u37 := cu_X1_init (69) u36; let u38 := sR u37 (38) 6 (70); let u39 := cu_X1_init (73) u38; let u40 := sR u39 (38) 7 (74); let u41 := cu_X1_init (77) u40; let u42 := sR u41 (38) 8 (78); let u43 := cu_X1_init (81) u42; let u44 := sR u43 (38) 9 (82); let u45 := cu_X1_init (85) u44; let u46 := sR u45 (38) 10 (86); let u47 := cu_X1_init (89) u46; let u48 := sR u47 (38) 11 (90); let u49 := cu_X1_init (93) u48; let u50 := sR u49 (38) 12 (94); let u51 := cu_X1_init (97) u50; let u52 := sR u51 (38) 13 (98); let u53 := cu_X1_init (101) u52; let u54 := sR u53 (38) 14 (102); let u55 := cu_X1_init (105) u54; let u56 := sR u55 (38) 15 (106); let u57 := cu_X4_init (109) u56; let u58 := sR u57 (39) 0 (110); let u59 := cu_X4_init (121) u58; let u60 := sR u59 (39) 1 (122); let u61 := cu_X4_init (133) u60; let u62 := sR u61 (39) 2 (134); let u63 := cu_X4_init (145) u62; let u64 := sR u63 (39) 3 (146); u64
def uC0 : gm_M := (f_X1_begin 27 5 ck_X10_init).getD gm_u0
set_option maxRecDepth 100000 in
set_option maxHeartbeats 40000000 in
theorem ct_X10_init (l : Launch) (Z : gm_Z) (B : Nat) (hB : ∀ r, Z.2.2 (r + 1) = B + r) : gm_MetT l GC gm_SC Z B yX10_init cX10_init 2 ({ frames := 3, cells := 156, slots := 4564, locals := 60 }) gm_u0 uC0 := by
  refine gm_ofWT (by decide +kernel) rfl (Nat.le_of_ble_eq_true rfl) ?_
  intro p e s m args below meth c A ls Q R hRf hRl hRc hRs hin hU hov4 hov5 hs0 C E hl hw
  have hRf : 3 ≤ R.frames := hRf
  have hRl : 60 ≤ R.locals := hRl
  have hRc : 156 ≤ R.cells := hRc
  have hRs : 4564 ≤ R.slots := hRs
  have hSl : gm_SC.length = 157 := rfl
  obtain ⟨hx, hb, -⟩ := id C
  obtain ⟨u, e_u⟩ : ∃ x, x = gm_u0 := ⟨_, rfl⟩
  rw [← e_u] at hw
  have hz : gm_z 1 u := by rw [e_u]; exact gm_z0 1
  have hl : lv_has ls 2 [(0, rv Z 1)] := hl
  refine gm_aload_nS C dX10_init_0 rfl (lv_at hl 0 rfl) ?_
  refine gm_objS C hl wq_116 wq_117 wq_objcode (by omega) (by omega) (Nat.le_of_ble_eq_true rfl) dX10_init_1 ?_
  refine gm_aload_nS C dX10_init_4 rfl (lv_at hl 0 rfl) ?_
  refine gm_size (n := 0) hw (by omega) hB (by omega) (fun hsz => ?_)
  have hsz : s.heap.size = B + (1) := by omega
  refine gm_newS (S := gm_SC) (n := 1) (ci := 7) (T := TX8) (N := 3) (ty := tyX8) C hw hz hB hsz rfl rfl wq_119 wq_120 wq_90 us_X8 tyX8_ok df_X8 (by omega) (by omega) dX10_init_5 (fun H hw => ?_)
  have hz := hz.up (Nat.le_succ _)
  refine lv_dup hx hb dX10_init_8 (gm_cat _ _) ?_
  refine gm_size (n := 1) hw (by omega) hB (by omega) (fun hsz => ?_)
  have hsz : H.size = B + (2) := by omega
  refine gm_callIN (n := 2) (n' := 4) (u := u) (u' := cu_X8_init (1) u) (r := 1) (As := []) (rest := [rv Z (2), rv Z (1)]) C hU hw hB hsz (by omega) hl (ct_X8_init l Z B (1) u hB hz rfl rfl rfl (by omega)) mb_X10_9 wq_90 cd_X8_init (by decide +kernel) rfl im_X8_init ⟨(by omega : 2 + 1 ≤ R.frames), (by omega : 8 + (1 + 11) + 40 ≤ R.locals)⟩ ⟨(by omega : 1 + 2 ≤ R.cells), (by omega : 3 + 1007 ≤ R.slots)⟩ rfl rfl (Nat.le_of_ble_eq_true rfl) dX10_init_9 (fun H locs hw => ?_)
  show W p l e R s m args below meth c H locs 3 1010 Q _
  obtain ⟨u1, e_u1⟩ : ∃ x, x = cu_X8_init (1) u := ⟨_, rfl⟩
  rw [← e_u1] at hw
  have hz : gm_z (4) u1 := by rw [e_u1]; exact cz_X8_init _ _ hz
  refine gm_putF (G := (gm_T gm_SC (4))) (u := u1) (r := 1) (ci := 9) (k := 1) (v := 2) C hin hw rfl fo_X10_10 ff_9_1 dX10_init_12 rfl rfl rfl (fun H locs hw => ?_)
  obtain ⟨u2, e_u2⟩ : ∃ x, x = sR u1 (1) 1 (2) := ⟨_, rfl⟩
  rw [← e_u2] at hw
  have hz : gm_z (4) u2 := by rw [e_u2]; exact gm_zR hz (by omega)
  refine gm_aload_nS C dX10_init_15 rfl (lv_at hl 0 rfl) ?_
  refine gm_size (n := 3) hw (by omega) hB (by omega) (fun hsz => ?_)
  have hsz : H.size = B + (4) := by omega
  refine gm_newS (S := gm_SC) (n := 4) (ci := 4) (T := TX5) (N := 9) (ty := tyX5) C hw hz hB hsz rfl rfl wq_170 wq_171 wq_92 us_X5 tyX5_ok df_X5 (by omega) (by omega) dX10_init_16 (fun H hw => ?_)
  have hz := hz.up (Nat.le_succ _)
  refine lv_dup hx hb dX10_init_19 (gm_cat _ _) ?_
  refine gm_size (n := 4) hw (by omega) hB (by omega) (fun hsz => ?_)
  have hsz : H.size = B + (5) := by omega
  refine gm_callI (n := 5) (n' := 12) (u := u2) (u' := cu_X5_init (4) u2) (r := 4) (As := []) (rest := [rv Z (5), rv Z (1)]) C hU hw hB hsz (by omega) hl (ct_X5_init l Z B (4) u2 hB hz rfl rfl rfl rfl rfl rfl rfl rfl (by omega)) cw_X10_18 rfl im_X5_init ⟨(by omega : 2 + 1 ≤ R.frames), (by omega : 8 + (1 + 11) + 40 ≤ R.locals)⟩ ⟨(by omega : 4 + 7 ≤ R.cells), (by omega : 1019 + 1059 ≤ R.slots)⟩ rfl rfl (Nat.le_of_ble_eq_true rfl) dX10_init_20 (fun H locs hw => ?_)
  show W p l e R s m args below meth c H locs 11 2078 Q _
  obtain ⟨u3, e_u3⟩ : ∃ x, x = cu_X5_init (4) u2 := ⟨_, rfl⟩
  rw [← e_u3] at hw
  have hz : gm_z (12) u3 := by rw [e_u3]; exact cz_X5_init _ _ hz
  refine gm_putR (G := (gm_T gm_SC (12))) (u := u3) (r := 1) (ci := 9) (k := 2) (v := 5) C hw rfl fl_X10_19 fp_9_2 dX10_init_23 rfl (fun H locs hw => ?_)
  obtain ⟨u4, e_u4⟩ : ∃ x, x = sR u3 (1) 2 (5) := ⟨_, rfl⟩
  rw [← e_u4] at hw
  have hz : gm_z (12) u4 := by rw [e_u4]; exact gm_zR hz (by omega)
  refine gm_aload_nS C dX10_init_26 rfl (lv_at hl 0 rfl) ?_
  refine gm_size (n := 11) hw (by omega) hB (by omega) (fun hsz => ?_)
  have hsz : H.size = B + (12) := by omega
  refine gm_newS (S := gm_SC) (n := 12) (ci := 4) (T := TX5) (N := 9) (ty := tyX5) C hw hz hB hsz rfl rfl wq_170 wq_171 wq_92 us_X5 tyX5_ok df_X5 (by omega) (by omega) dX10_init_27 (fun H hw => ?_)
  have hz := hz.up (Nat.le_succ _)
  refine lv_dup hx hb dX10_init_30 (gm_cat _ _) ?_
  refine gm_size (n := 12) hw (by omega) hB (by omega) (fun hsz => ?_)
  have hsz : H.size = B + (13) := by omega
  refine gm_callI (n := 13) (n' := 20) (u := u4) (u' := cu_X5_init (12) u4) (r := 12) (As := []) (rest := [rv Z (13), rv Z (1)]) C hU hw hB hsz (by omega) hl (ct_X5_init l Z B (12) u4 hB hz rfl rfl rfl rfl rfl rfl rfl rfl (by omega)) cw_X10_18 rfl im_X5_init ⟨(by omega : 2 + 1 ≤ R.frames), (by omega : 8 + (1 + 11) + 40 ≤ R.locals)⟩ ⟨(by omega : 12 + 7 ≤ R.cells), (by omega : 2087 + 1059 ≤ R.slots)⟩ rfl rfl (Nat.le_of_ble_eq_true rfl) dX10_init_31 (fun H locs hw => ?_)
  show W p l e R s m args below meth c H locs 19 3146 Q _
  obtain ⟨u5, e_u5⟩ : ∃ x, x = cu_X5_init (12) u4 := ⟨_, rfl⟩
  rw [← e_u5] at hw
  have hz : gm_z (20) u5 := by rw [e_u5]; exact cz_X5_init _ _ hz
  refine gm_putR (G := (gm_T gm_SC (20))) (u := u5) (r := 1) (ci := 9) (k := 3) (v := 13) C hw rfl fl_X10_23 fp_9_3 dX10_init_34 rfl (fun H locs hw => ?_)
  obtain ⟨u6, e_u6⟩ : ∃ x, x = sR u5 (1) 3 (13) := ⟨_, rfl⟩
  rw [← e_u6] at hw
  have hz : gm_z (20) u6 := by rw [e_u6]; exact gm_zR hz (by omega)
  refine gm_aload_nS C dX10_init_37 rfl (lv_at hl 0 rfl) ?_
  refine gm_size (n := 19) hw (by omega) hB (by omega) (fun hsz => ?_)
  have hsz : H.size = B + (20) := by omega
  refine gm_newS (S := gm_SC) (n := 20) (ci := 5) (T := TX6) (N := 3) (ty := tyX6) C hw hz hB hsz rfl rfl wq_237 wq_238 wq_94 us_X6 tyX6_ok df_X6 (by omega) (by omega) dX10_init_38 (fun H hw => ?_)
  have hz := hz.up (Nat.le_succ _)
  refine lv_dup hx hb dX10_init_41 (gm_cat _ _) ?_
  refine gm_size (n := 20) hw (by omega) hB (by omega) (fun hsz => ?_)
  have hsz : H.size = B + (21) := by omega
  refine gm_callIN (n := 21) (n' := 23) (u := u6) (u' := cu_X6_init (20) u6) (r := 20) (As := []) (rest := [rv Z (21), rv Z (1)]) C hU hw hB hsz (by omega) hl (ct_X6_init l Z B (20) u6 hB hz rfl rfl rfl (by omega)) mb_X10_28 wq_94 cd_X6_init (by decide +kernel) rfl im_X6_init ⟨(by omega : 1 + 1 ≤ R.frames), (by omega : 8 + (1 + 11) + 20 ≤ R.locals)⟩ ⟨(by omega : 20 + 2 ≤ R.cells), (by omega : 3149 + 80 ≤ R.slots)⟩ rfl rfl (Nat.le_of_ble_eq_true rfl) dX10_init_42 (fun H locs hw => ?_)
  show W p l e R s m args below meth c H locs 22 3229 Q _
  obtain ⟨u7, e_u7⟩ : ∃ x, x = cu_X6_init (20) u6 := ⟨_, rfl⟩
  rw [← e_u7] at hw
  have hz : gm_z (23) u7 := by rw [e_u7]; exact cz_X6_init _ _ hz
  refine gm_putR (G := (gm_T gm_SC (23))) (u := u7) (r := 1) (ci := 9) (k := 4) (v := 21) C hw rfl fl_X10_29 fp_9_4 dX10_init_45 rfl (fun H locs hw => ?_)
  obtain ⟨u8, e_u8⟩ : ∃ x, x = sR u7 (1) 4 (21) := ⟨_, rfl⟩
  rw [← e_u8] at hw
  have hz : gm_z (23) u8 := by rw [e_u8]; exact gm_zR hz (by omega)
  refine gm_aload_nS C dX10_init_48 rfl (lv_at hl 0 rfl) ?_
  refine gm_size (n := 22) hw (by omega) hB (by omega) (fun hsz => ?_)
  have hsz : H.size = B + (23) := by omega
  refine gm_newS (S := gm_SC) (n := 23) (ci := 5) (T := TX6) (N := 3) (ty := tyX6) C hw hz hB hsz rfl rfl wq_237 wq_238 wq_94 us_X6 tyX6_ok df_X6 (by omega) (by omega) dX10_init_49 (fun H hw => ?_)
  have hz := hz.up (Nat.le_succ _)
  refine lv_dup hx hb dX10_init_52 (gm_cat _ _) ?_
  refine gm_size (n := 23) hw (by omega) hB (by omega) (fun hsz => ?_)
  have hsz : H.size = B + (24) := by omega
  refine gm_callIN (n := 24) (n' := 26) (u := u8) (u' := cu_X6_init (23) u8) (r := 23) (As := []) (rest := [rv Z (24), rv Z (1)]) C hU hw hB hsz (by omega) hl (ct_X6_init l Z B (23) u8 hB hz rfl rfl rfl (by omega)) mb_X10_28 wq_94 cd_X6_init (by decide +kernel) rfl im_X6_init ⟨(by omega : 1 + 1 ≤ R.frames), (by omega : 8 + (1 + 11) + 20 ≤ R.locals)⟩ ⟨(by omega : 23 + 2 ≤ R.cells), (by omega : 3232 + 80 ≤ R.slots)⟩ rfl rfl (Nat.le_of_ble_eq_true rfl) dX10_init_53 (fun H locs hw => ?_)
  show W p l e R s m args below meth c H locs 25 3312 Q _
  obtain ⟨u9, e_u9⟩ : ∃ x, x = cu_X6_init (23) u8 := ⟨_, rfl⟩
  rw [← e_u9] at hw
  have hz : gm_z (26) u9 := by rw [e_u9]; exact cz_X6_init _ _ hz
  refine gm_putR (G := (gm_T gm_SC (26))) (u := u9) (r := 1) (ci := 9) (k := 5) (v := 24) C hw rfl fl_X10_33 fp_9_5 dX10_init_56 rfl (fun H locs hw => ?_)
  obtain ⟨u10, e_u10⟩ : ∃ x, x = sR u9 (1) 5 (24) := ⟨_, rfl⟩
  rw [← e_u10] at hw
  have hz : gm_z (26) u10 := by rw [e_u10]; exact gm_zR hz (by omega)
  refine gm_aload_nS C dX10_init_59 rfl (lv_at hl 0 rfl) ?_
  refine gm_size (n := 25) hw (by omega) hB (by omega) (fun hsz => ?_)
  have hsz : H.size = B + (26) := by omega
  refine gm_newS (S := gm_SC) (n := 26) (ci := 0) (T := TX1) (N := 7) (ty := tyX1) C hw hz hB hsz rfl rfl wq_255 wq_256 wq_95 us_X1 tyX1_ok df_X1 (by omega) (by omega) dX10_init_60 (fun H hw => ?_)
  have hz := hz.up (Nat.le_succ _)
  refine lv_dup hx hb dX10_init_63 (gm_cat _ _) ?_
  refine gm_size (n := 26) hw (by omega) hB (by omega) (fun hsz => ?_)
  have hsz : H.size = B + (27) := by omega
  refine gm_callIN (n := 27) (n' := 30) (u := u10) (u' := cu_X1_init (26) u10) (r := 26) (As := []) (rest := [rv Z (27), rv Z (1)]) C hU hw hB hsz (by omega) hl (ct_X1_init l Z B (26) u10 hB hz rfl rfl rfl rfl (by omega)) mb_X10_38 wq_95 cd_X1_init (by decide +kernel) rfl im_X1_init ⟨(by omega : 1 + 1 ≤ R.frames), (by omega : 8 + (1 + 11) + 20 ≤ R.locals)⟩ ⟨(by omega : 26 + 3 ≤ R.cells), (by omega : 3319 + 18 ≤ R.slots)⟩ rfl rfl (Nat.le_of_ble_eq_true rfl) dX10_init_64 (fun H locs hw => ?_)
  show W p l e R s m args below meth c H locs 29 3337 Q _
  obtain ⟨u11, e_u11⟩ : ∃ x, x = cu_X1_init (26) u10 := ⟨_, rfl⟩
  rw [← e_u11] at hw
  have hz : gm_z (30) u11 := by rw [e_u11]; exact cz_X1_init _ _ hz
  refine gm_putF (G := (gm_T gm_SC (30))) (u := u11) (r := 1) (ci := 9) (k := 6) (v := 27) C hin hw rfl fo_X10_39 ff_9_6 dX10_init_67 rfl rfl rfl (fun H locs hw => ?_)
  obtain ⟨u12, e_u12⟩ : ∃ x, x = sR u11 (1) 6 (27) := ⟨_, rfl⟩
  rw [← e_u12] at hw
  have hz : gm_z (30) u12 := by rw [e_u12]; exact gm_zR hz (by omega)
  refine gm_aload_nS C dX10_init_70 rfl (lv_at hl 0 rfl) ?_
  refine gm_size (n := 29) hw (by omega) hB (by omega) (fun hsz => ?_)
  have hsz : H.size = B + (30) := by omega
  refine gm_newS (S := gm_SC) (n := 30) (ci := 6) (T := TX7) (N := 4) (ty := tyX7) C hw hz hB hsz rfl rfl wq_291 wq_292 wq_96 us_X7 tyX7_ok df_X7 (by omega) (by omega) dX10_init_71 (fun H hw => ?_)
  have hz := hz.up (Nat.le_succ _)
  refine lv_dup hx hb dX10_init_74 (gm_cat _ _) ?_
  refine gm_size (n := 30) hw (by omega) hB (by omega) (fun hsz => ?_)
  have hsz : H.size = B + (31) := by omega
  refine gm_callIN (n := 31) (n' := 34) (u := u12) (u' := cu_X7_init (30) u12) (r := 30) (As := []) (rest := [rv Z (31), rv Z (1)]) C hU hw hB hsz (by omega) hl (ct_X7_init l Z B (30) u12 hB hz rfl rfl rfl rfl (by omega)) mb_X10_45 wq_96 cd_X7_init (by decide +kernel) rfl im_X7_init ⟨(by omega : 1 + 1 ≤ R.frames), (by omega : 8 + (1 + 11) + 20 ≤ R.locals)⟩ ⟨(by omega : 30 + 3 ≤ R.cells), (by omega : 3341 + 57 ≤ R.slots)⟩ rfl rfl (Nat.le_of_ble_eq_true rfl) dX10_init_75 (fun H locs hw => ?_)
  show W p l e R s m args below meth c H locs 33 3398 Q _
  obtain ⟨u13, e_u13⟩ : ∃ x, x = cu_X7_init (30) u12 := ⟨_, rfl⟩
  rw [← e_u13] at hw
  have hz : gm_z (34) u13 := by rw [e_u13]; exact cz_X7_init _ _ hz
  refine gm_putF (G := (gm_T gm_SC (34))) (u := u13) (r := 1) (ci := 9) (k := 7) (v := 31) C hin hw rfl fo_X10_46 ff_9_7 dX10_init_78 rfl rfl rfl (fun H locs hw => ?_)
  obtain ⟨u14, e_u14⟩ : ∃ x, x = sR u13 (1) 7 (31) := ⟨_, rfl⟩
  rw [← e_u14] at hw
  have hz : gm_z (34) u14 := by rw [e_u14]; exact gm_zR hz (by omega)
  refine gm_aload_nS C dX10_init_81 rfl (lv_at hl 0 rfl) ?_
  refine gm_size (n := 33) hw (by omega) hB (by omega) (fun hsz => ?_)
  have hsz : H.size = B + (34) := by omega
  refine gm_newS (S := gm_SC) (n := 34) (ci := 1) (T := TX2) (N := 5) (ty := tyX2) C hw hz hB hsz rfl rfl wq_312 wq_313 wq_97 us_X2 tyX2_ok df_X2 (by omega) (by omega) dX10_init_82 (fun H hw => ?_)
  have hz := hz.up (Nat.le_succ _)
  refine lv_dup hx hb dX10_init_85 (gm_cat _ _) ?_
  refine gm_size (n := 34) hw (by omega) hB (by omega) (fun hsz => ?_)
  have hsz : H.size = B + (35) := by omega
  refine gm_callIN (n := 35) (n' := 37) (u := u14) (u' := cu_X2_init (34) u14) (r := 34) (As := []) (rest := [rv Z (35), rv Z (1)]) C hU hw hB hsz (by omega) hl (ct_X2_init l Z B (34) u14 hB hz rfl rfl rfl (by omega)) mb_X10_52 wq_97 cd_X2_init (by decide +kernel) rfl im_X2_init ⟨(by omega : 1 + 1 ≤ R.frames), (by omega : 8 + (1 + 11) + 20 ≤ R.locals)⟩ ⟨(by omega : 34 + 2 ≤ R.cells), (by omega : 3403 + 12 ≤ R.slots)⟩ rfl rfl (Nat.le_of_ble_eq_true rfl) dX10_init_86 (fun H locs hw => ?_)
  show W p l e R s m args below meth c H locs 36 3415 Q _
  obtain ⟨u15, e_u15⟩ : ∃ x, x = cu_X2_init (34) u14 := ⟨_, rfl⟩
  rw [← e_u15] at hw
  have hz : gm_z (37) u15 := by rw [e_u15]; exact cz_X2_init _ _ hz
  refine gm_putF (G := (gm_T gm_SC (37))) (u := u15) (r := 1) (ci := 9) (k := 8) (v := 35) C hin hw rfl fo_X10_53 ff_9_8 dX10_init_89 rfl rfl rfl (fun H locs hw => ?_)
  obtain ⟨u16, e_u16⟩ : ∃ x, x = sR u15 (1) 8 (35) := ⟨_, rfl⟩
  rw [← e_u16] at hw
  have hz : gm_z (37) u16 := by rw [e_u16]; exact gm_zR hz (by omega)
  refine gm_aload_nS C dX10_init_92 rfl (lv_at hl 0 rfl) ?_
  refine lv_bipush (v := 16) hx hb dX10_init_93 (by decide) ?_
  refine gm_size (n := 36) hw (by omega) hB (by omega) (fun hsz => ?_)
  have hsz : H.size = B + (37) := by omega
  refine gm_newqS (S := gm_SC) (n := 37) (t := 4) (N := 16) C hw hz hB hsz rfl rfl wq_255 hov4 (fun cA => gm_dR (Z := Z) hz (Nat.lt_succ_self _) cA) (by decide) (by decide) (by decide) (by omega) (by omega) dX10_init_95 (fun H hw => ?_)
  have hz := hz.up (Nat.le_succ _)
  refine gm_putF (G := (gm_T gm_SC (38))) (u := u16) (r := 1) (ci := 9) (k := 9) (v := 38) C hin hw rfl fo_X10_57 ff_9_9 dX10_init_98 rfl rfl rfl (fun H locs hw => ?_)
  obtain ⟨u17, e_u17⟩ : ∃ x, x = sR u16 (1) 9 (38) := ⟨_, rfl⟩
  rw [← e_u17] at hw
  have hz : gm_z (38) u17 := by rw [e_u17]; exact gm_zR hz (by omega)
  refine gm_aload_nS C dX10_init_101 rfl (lv_at hl 0 rfl) ?_
  refine lv_iconst (v := 0) hx hb dX10_init_102 (by decide) ?_
  refine gm_putI (G := (gm_T gm_SC (38))) (u := u17) (r := 1) (ci := 9) (k := 10) (v := 0) C hw rfl fl_X10_61 fp_9_10 dX10_init_103 rfl (fun H locs hw => ?_)
  obtain ⟨u18, e_u18⟩ : ∃ x, x = sI u17 (1) 10 (0) := ⟨_, rfl⟩
  rw [← e_u18] at hw
  have hz : gm_z (38) u18 := by rw [e_u18]; exact gm_zI hz (by omega)
  refine gm_aload_nS C dX10_init_106 rfl (lv_at hl 0 rfl) ?_
  refine lv_iconst (v := 4) hx hb dX10_init_107 (by decide) ?_
  refine gm_size (n := 37) hw (by omega) hB (by omega) (fun hsz => ?_)
  have hsz : H.size = B + (38) := by omega
  refine gm_newqS (S := gm_SC) (n := 38) (t := 5) (N := 4) C hw hz hB hsz rfl rfl wq_338 hov5 (fun cA => gm_dR (Z := Z) hz (Nat.lt_succ_self _) cA) (by decide) (by decide) (by decide) (by omega) (by omega) dX10_init_108 (fun H hw => ?_)
  have hz := hz.up (Nat.le_succ _)
  refine gm_putF (G := (gm_T gm_SC (39))) (u := u18) (r := 1) (ci := 9) (k := 11) (v := 39) C hin hw rfl fo_X10_67 ff_9_11 dX10_init_111 rfl rfl rfl (fun H locs hw => ?_)
  obtain ⟨u19, e_u19⟩ : ∃ x, x = sR u18 (1) 11 (39) := ⟨_, rfl⟩
  rw [← e_u19] at hw
  have hz : gm_z (39) u19 := by rw [e_u19]; exact gm_zR hz (by omega)
  refine gm_aload_nS C dX10_init_114 rfl (lv_at hl 0 rfl) ?_
  refine gm_size (n := 38) hw (by omega) hB (by omega) (fun hsz => ?_)
  have hsz : H.size = B + (39) := by omega
  refine gm_newS (S := gm_SC) (n := 39) (ci := 0) (T := TX1) (N := 7) (ty := tyX1) C hw hz hB hsz rfl rfl wq_255 wq_256 wq_95 us_X1 tyX1_ok df_X1 (by omega) (by omega) dX10_init_115 (fun H hw => ?_)
  have hz := hz.up (Nat.le_succ _)
  refine lv_dup hx hb dX10_init_118 (gm_cat _ _) ?_
  refine gm_size (n := 39) hw (by omega) hB (by omega) (fun hsz => ?_)
  have hsz : H.size = B + (40) := by omega
  refine gm_callIN (n := 40) (n' := 43) (u := u19) (u' := cu_X1_init (39) u19) (r := 39) (As := []) (rest := [rv Z (40), rv Z (1)]) C hU hw hB hsz (by omega) hl (ct_X1_init l Z B (39) u19 hB hz rfl rfl rfl rfl (by omega)) mb_X10_38 wq_95 cd_X1_init (by decide +kernel) rfl im_X1_init ⟨(by omega : 1 + 1 ≤ R.frames), (by omega : 8 + (1 + 11) + 20 ≤ R.locals)⟩ ⟨(by omega : 39 + 3 ≤ R.cells), (by omega : 3442 + 18 ≤ R.slots)⟩ rfl rfl (Nat.le_of_ble_eq_true rfl) dX10_init_119 (fun H locs hw => ?_)
  show W p l e R s m args below meth c H locs 42 3460 Q _
  obtain ⟨u20, e_u20⟩ : ∃ x, x = cu_X1_init (39) u19 := ⟨_, rfl⟩
  rw [← e_u20] at hw
  have hz : gm_z (43) u20 := by rw [e_u20]; exact cz_X1_init _ _ hz
  refine gm_putF (G := (gm_T gm_SC (43))) (u := u20) (r := 1) (ci := 9) (k := 12) (v := 40) C hin hw rfl fo_X10_71 ff_9_12 dX10_init_122 rfl rfl rfl (fun H locs hw => ?_)
  obtain ⟨u21, e_u21⟩ : ∃ x, x = sR u20 (1) 12 (40) := ⟨_, rfl⟩
  rw [← e_u21] at hw
  have hz : gm_z (43) u21 := by rw [e_u21]; exact gm_zR hz (by omega)
  refine gm_aload_nS C dX10_init_125 rfl (lv_at hl 0 rfl) ?_
  refine lv_bipush (v := 6) hx hb dX10_init_126 (by decide) ?_
  refine gm_size (n := 42) hw (by omega) hB (by omega) (fun hsz => ?_)
  have hsz : H.size = B + (43) := by omega
  refine gm_newaS (S := gm_SC) (n := 43) (t := 0) (N := 6) (ty := .int) C hw hz hB hsz rfl rfl rfl rfl wq_arr_int (fun cA => gm_dI (Z := Z) hz (Nat.lt_succ_self _) cA) (by decide) (by decide) (by decide) (by omega) (by omega) dX10_init_128 (fun H hw => ?_)
  have hz := hz.up (Nat.le_succ _)
  refine gm_putF (G := (gm_T gm_SC (44))) (u := u21) (r := 1) (ci := 9) (k := 13) (v := 44) C hin hw rfl fo_X10_74 ff_9_13 dX10_init_130 rfl rfl rfl (fun H locs hw => ?_)
  obtain ⟨u22, e_u22⟩ : ∃ x, x = sR u21 (1) 13 (44) := ⟨_, rfl⟩
  rw [← e_u22] at hw
  have hz : gm_z (44) u22 := by rw [e_u22]; exact gm_zR hz (by omega)
  refine gm_aload_nS C dX10_init_133 rfl (lv_at hl 0 rfl) ?_
  refine lv_bipush (v := 6) hx hb dX10_init_134 (by decide) ?_
  refine gm_size (n := 43) hw (by omega) hB (by omega) (fun hsz => ?_)
  have hsz : H.size = B + (44) := by omega
  refine gm_newaS (S := gm_SC) (n := 44) (t := 0) (N := 6) (ty := .int) C hw hz hB hsz rfl rfl rfl rfl wq_arr_int (fun cA => gm_dI (Z := Z) hz (Nat.lt_succ_self _) cA) (by decide) (by decide) (by decide) (by omega) (by omega) dX10_init_136 (fun H hw => ?_)
  have hz := hz.up (Nat.le_succ _)
  refine gm_putF (G := (gm_T gm_SC (45))) (u := u22) (r := 1) (ci := 9) (k := 14) (v := 45) C hin hw rfl fo_X10_78 ff_9_14 dX10_init_138 rfl rfl rfl (fun H locs hw => ?_)
  obtain ⟨u23, e_u23⟩ : ∃ x, x = sR u22 (1) 14 (45) := ⟨_, rfl⟩
  rw [← e_u23] at hw
  have hz : gm_z (45) u23 := by rw [e_u23]; exact gm_zR hz (by omega)
  refine gm_aload_nS C dX10_init_141 rfl (lv_at hl 0 rfl) ?_
  refine lv_lconst (v := 0) hx hb dX10_init_142 (by decide) ?_
  refine gm_putJ (G := (gm_T gm_SC (45))) (u := u23) (r := 1) (ci := 9) (k := 0) (v := 0) C hw rfl fl_X10_81 fp_9_0 dX10_init_143 rfl (fun H locs hw => ?_)
  obtain ⟨u24, e_u24⟩ : ∃ x, x = sJ u23 (1) 0 0 := ⟨_, rfl⟩
  rw [← e_u24] at hw
  have hz : gm_z (45) u24 := by rw [e_u24]; exact gm_zJ hz (by omega)
  refine lv_iconst (v := 0) hx hb dX10_init_146 (by decide) ?_
  refine lv_istore_n (i := 1) (lv' := [(1, .int (0 : Int32)), (0, rv Z (1))]) hx hb dX10_init_147 rfl hl (by decide) rfl (fun ls hl => ?_)
  refine lv_iload_n hx hb dX10_init_148 rfl (lv_at hl 0 rfl) ?_
  refine gm_aload_nS C dX10_init_149 rfl (lv_at hl 1 rfl) ?_
  refine gm_getR (G := (gm_T gm_SC (45))) (u := u24) (r := 1) (ci := 9) (k := 9) C hw rfl fl_X10_57 dX10_init_150 rfl ?_
  refine gm_topRS (y := 38) (by simp only [e_u24, e_u23, e_u22, e_u21, e_u20, e_u19, e_u18, e_u17, e_u16, e_u15, e_u14, e_u13, e_u12, e_u11, e_u10, e_u9, e_u8, e_u7, e_u6, e_u5, e_u4, e_u3, e_u2, e_u1, e_u]; rfl) ?_
  refine gm_alen (G := (gm_T gm_SC (45))) (u := u24) (r := 38) (t := 4) (n := 16) (v := 16) C hw rfl (by decide) (by decide) dX10_init_153 ?_
  refine lv_icmp_ge (tgt := 176) hx hb dX10_init_154 (by decide) (fun hc => ?_) (fun hc => ?_)
  · exact absurd hc (by decide)
  refine gm_aload_nS C dX10_init_157 rfl (lv_at hl 1 rfl) ?_
  refine gm_getR (G := (gm_T gm_SC (45))) (u := u24) (r := 1) (ci := 9) (k := 9) C hw rfl fl_X10_57 dX10_init_158 rfl ?_
  refine gm_topRS (y := 38) (by simp only [e_u24, e_u23, e_u22, e_u21, e_u20, e_u19, e_u18, e_u17, e_u16, e_u15, e_u14, e_u13, e_u12, e_u11, e_u10, e_u9, e_u8, e_u7, e_u6, e_u5, e_u4, e_u3, e_u2, e_u1, e_u]; rfl) ?_
  refine lv_iload_n hx hb dX10_init_161 rfl (lv_at hl 0 rfl) ?_
  refine gm_size (n := 44) hw (by omega) hB (by omega) (fun hsz => ?_)
  have hsz : H.size = B + (45) := by omega
  refine gm_newS (S := gm_SC) (n := 45) (ci := 0) (T := TX1) (N := 7) (ty := tyX1) C hw hz hB hsz rfl rfl wq_255 wq_256 wq_95 us_X1 tyX1_ok df_X1 (by omega) (by omega) dX10_init_162 (fun H hw => ?_)
  have hz := hz.up (Nat.le_succ _)
  refine lv_dup hx hb dX10_init_165 (gm_cat _ _) ?_
  refine gm_size (n := 45) hw (by omega) hB (by omega) (fun hsz => ?_)
  have hsz : H.size = B + (46) := by omega
  refine gm_callIN (n := 46) (n' := 49) (u := u24) (u' := cu_X1_init (45) u24) (r := 45) (As := []) (rest := [rv Z (46), .int (0 : Int32), rv Z (38)]) C hU hw hB hsz (by omega) hl (ct_X1_init l Z B (45) u24 hB hz rfl rfl rfl rfl (by omega)) mb_X10_38 wq_95 cd_X1_init (by decide +kernel) rfl im_X1_init ⟨(by omega : 1 + 1 ≤ R.frames), (by omega : 8 + (1 + 11) + 20 ≤ R.locals)⟩ ⟨(by omega : 45 + 3 ≤ R.cells), (by omega : 3479 + 18 ≤ R.slots)⟩ rfl rfl (Nat.le_of_ble_eq_true rfl) dX10_init_166 (fun H locs hw => ?_)
  show W p l e R s m args below meth c H locs 48 3497 Q _
  obtain ⟨u25, e_u25⟩ : ∃ x, x = cu_X1_init (45) u24 := ⟨_, rfl⟩
  rw [← e_u25] at hw
  have hz : gm_z (49) u25 := by rw [e_u25]; exact cz_X1_init _ _ hz
  refine gm_aast (G := (gm_T gm_SC (49))) (u := u25) (r := 38) (n := 16) (q := 46) (i := 0) C hw rfl rfl (by decide) (j := 0) (by decide) dX10_init_169 (fun H locs hw => ?_)
  obtain ⟨u26, e_u26⟩ : ∃ x, x = sR u25 (38) 0 (46) := ⟨_, rfl⟩
  rw [← e_u26] at hw
  have hz : gm_z (49) u26 := by rw [e_u26]; exact gm_zR hz (by omega)
  refine lv_iinc (v := 1) (lv' := [(1, .int (1 : Int32)), (0, rv Z (1))]) hx hb dX10_init_170 hl (k := 0) rfl (by decide) (by decide) rfl (fun ls hl => ?_)
  refine lv_goto (tgt := 148) hx hb dX10_init_173 (by decide) ?_
  refine lv_iload_n hx hb dX10_init_148 rfl (lv_at hl 0 rfl) ?_
  refine gm_aload_nS C dX10_init_149 rfl (lv_at hl 1 rfl) ?_
  refine gm_getR (G := (gm_T gm_SC (49))) (u := u26) (r := 1) (ci := 9) (k := 9) C hw rfl fl_X10_57 dX10_init_150 rfl ?_
  refine gm_topRS (y := 38) (by simp only [e_u26, e_u25, e_u24, e_u23, e_u22, e_u21, e_u20, e_u19, e_u18, e_u17, e_u16, e_u15, e_u14, e_u13, e_u12, e_u11, e_u10, e_u9, e_u8, e_u7, e_u6, e_u5, e_u4, e_u3, e_u2, e_u1, e_u]; rfl) ?_
  refine gm_alen (G := (gm_T gm_SC (49))) (u := u26) (r := 38) (t := 4) (n := 16) (v := 16) C hw rfl (by decide) (by decide) dX10_init_153 ?_
  refine lv_icmp_ge (tgt := 176) hx hb dX10_init_154 (by decide) (fun hc => ?_) (fun hc => ?_)
  · exact absurd hc (by decide)
  refine gm_aload_nS C dX10_init_157 rfl (lv_at hl 1 rfl) ?_
  refine gm_getR (G := (gm_T gm_SC (49))) (u := u26) (r := 1) (ci := 9) (k := 9) C hw rfl fl_X10_57 dX10_init_158 rfl ?_
  refine gm_topRS (y := 38) (by simp only [e_u26, e_u25, e_u24, e_u23, e_u22, e_u21, e_u20, e_u19, e_u18, e_u17, e_u16, e_u15, e_u14, e_u13, e_u12, e_u11, e_u10, e_u9, e_u8, e_u7, e_u6, e_u5, e_u4, e_u3, e_u2, e_u1, e_u]; rfl) ?_
  refine lv_iload_n hx hb dX10_init_161 rfl (lv_at hl 0 rfl) ?_
  refine gm_size (n := 48) hw (by omega) hB (by omega) (fun hsz => ?_)
  have hsz : H.size = B + (49) := by omega
  refine gm_newS (S := gm_SC) (n := 49) (ci := 0) (T := TX1) (N := 7) (ty := tyX1) C hw hz hB hsz rfl rfl wq_255 wq_256 wq_95 us_X1 tyX1_ok df_X1 (by omega) (by omega) dX10_init_162 (fun H hw => ?_)
  have hz := hz.up (Nat.le_succ _)
  refine lv_dup hx hb dX10_init_165 (gm_cat _ _) ?_
  refine gm_size (n := 49) hw (by omega) hB (by omega) (fun hsz => ?_)
  have hsz : H.size = B + (50) := by omega
  refine gm_callIN (n := 50) (n' := 53) (u := u26) (u' := cu_X1_init (49) u26) (r := 49) (As := []) (rest := [rv Z (50), .int (1 : Int32), rv Z (38)]) C hU hw hB hsz (by omega) hl (ct_X1_init l Z B (49) u26 hB hz rfl rfl rfl rfl (by omega)) mb_X10_38 wq_95 cd_X1_init (by decide +kernel) rfl im_X1_init ⟨(by omega : 1 + 1 ≤ R.frames), (by omega : 8 + (1 + 11) + 20 ≤ R.locals)⟩ ⟨(by omega : 49 + 3 ≤ R.cells), (by omega : 3504 + 18 ≤ R.slots)⟩ rfl rfl (Nat.le_of_ble_eq_true rfl) dX10_init_166 (fun H locs hw => ?_)
  show W p l e R s m args below meth c H locs 52 3522 Q _
  obtain ⟨u27, e_u27⟩ : ∃ x, x = cu_X1_init (49) u26 := ⟨_, rfl⟩
  rw [← e_u27] at hw
  have hz : gm_z (53) u27 := by rw [e_u27]; exact cz_X1_init _ _ hz
  refine gm_aast (G := (gm_T gm_SC (53))) (u := u27) (r := 38) (n := 16) (q := 50) (i := 1) C hw rfl rfl (by decide) (j := 1) (by decide) dX10_init_169 (fun H locs hw => ?_)
  obtain ⟨u28, e_u28⟩ : ∃ x, x = sR u27 (38) 1 (50) := ⟨_, rfl⟩
  rw [← e_u28] at hw
  have hz : gm_z (53) u28 := by rw [e_u28]; exact gm_zR hz (by omega)
  refine lv_iinc (v := 2) (lv' := [(1, .int (2 : Int32)), (0, rv Z (1))]) hx hb dX10_init_170 hl (k := 0) rfl (by decide) (by decide) rfl (fun ls hl => ?_)
  refine lv_goto (tgt := 148) hx hb dX10_init_173 (by decide) ?_
  refine lv_iload_n hx hb dX10_init_148 rfl (lv_at hl 0 rfl) ?_
  refine gm_aload_nS C dX10_init_149 rfl (lv_at hl 1 rfl) ?_
  refine gm_getR (G := (gm_T gm_SC (53))) (u := u28) (r := 1) (ci := 9) (k := 9) C hw rfl fl_X10_57 dX10_init_150 rfl ?_
  refine gm_topRS (y := 38) (by simp only [e_u28, e_u27, e_u26, e_u25, e_u24, e_u23, e_u22, e_u21, e_u20, e_u19, e_u18, e_u17, e_u16, e_u15, e_u14, e_u13, e_u12, e_u11, e_u10, e_u9, e_u8, e_u7, e_u6, e_u5, e_u4, e_u3, e_u2, e_u1, e_u]; rfl) ?_
  refine gm_alen (G := (gm_T gm_SC (53))) (u := u28) (r := 38) (t := 4) (n := 16) (v := 16) C hw rfl (by decide) (by decide) dX10_init_153 ?_
  refine lv_icmp_ge (tgt := 176) hx hb dX10_init_154 (by decide) (fun hc => ?_) (fun hc => ?_)
  · exact absurd hc (by decide)
  refine gm_aload_nS C dX10_init_157 rfl (lv_at hl 1 rfl) ?_
  refine gm_getR (G := (gm_T gm_SC (53))) (u := u28) (r := 1) (ci := 9) (k := 9) C hw rfl fl_X10_57 dX10_init_158 rfl ?_
  refine gm_topRS (y := 38) (by simp only [e_u28, e_u27, e_u26, e_u25, e_u24, e_u23, e_u22, e_u21, e_u20, e_u19, e_u18, e_u17, e_u16, e_u15, e_u14, e_u13, e_u12, e_u11, e_u10, e_u9, e_u8, e_u7, e_u6, e_u5, e_u4, e_u3, e_u2, e_u1, e_u]; rfl) ?_
  refine lv_iload_n hx hb dX10_init_161 rfl (lv_at hl 0 rfl) ?_
  refine gm_size (n := 52) hw (by omega) hB (by omega) (fun hsz => ?_)
  have hsz : H.size = B + (53) := by omega
  refine gm_newS (S := gm_SC) (n := 53) (ci := 0) (T := TX1) (N := 7) (ty := tyX1) C hw hz hB hsz rfl rfl wq_255 wq_256 wq_95 us_X1 tyX1_ok df_X1 (by omega) (by omega) dX10_init_162 (fun H hw => ?_)
  have hz := hz.up (Nat.le_succ _)
  refine lv_dup hx hb dX10_init_165 (gm_cat _ _) ?_
  refine gm_size (n := 53) hw (by omega) hB (by omega) (fun hsz => ?_)
  have hsz : H.size = B + (54) := by omega
  refine gm_callIN (n := 54) (n' := 57) (u := u28) (u' := cu_X1_init (53) u28) (r := 53) (As := []) (rest := [rv Z (54), .int (2 : Int32), rv Z (38)]) C hU hw hB hsz (by omega) hl (ct_X1_init l Z B (53) u28 hB hz rfl rfl rfl rfl (by omega)) mb_X10_38 wq_95 cd_X1_init (by decide +kernel) rfl im_X1_init ⟨(by omega : 1 + 1 ≤ R.frames), (by omega : 8 + (1 + 11) + 20 ≤ R.locals)⟩ ⟨(by omega : 53 + 3 ≤ R.cells), (by omega : 3529 + 18 ≤ R.slots)⟩ rfl rfl (Nat.le_of_ble_eq_true rfl) dX10_init_166 (fun H locs hw => ?_)
  show W p l e R s m args below meth c H locs 56 3547 Q _
  obtain ⟨u29, e_u29⟩ : ∃ x, x = cu_X1_init (53) u28 := ⟨_, rfl⟩
  rw [← e_u29] at hw
  have hz : gm_z (57) u29 := by rw [e_u29]; exact cz_X1_init _ _ hz
  refine gm_aast (G := (gm_T gm_SC (57))) (u := u29) (r := 38) (n := 16) (q := 54) (i := 2) C hw rfl rfl (by decide) (j := 2) (by decide) dX10_init_169 (fun H locs hw => ?_)
  obtain ⟨u30, e_u30⟩ : ∃ x, x = sR u29 (38) 2 (54) := ⟨_, rfl⟩
  rw [← e_u30] at hw
  have hz : gm_z (57) u30 := by rw [e_u30]; exact gm_zR hz (by omega)
  refine lv_iinc (v := 3) (lv' := [(1, .int (3 : Int32)), (0, rv Z (1))]) hx hb dX10_init_170 hl (k := 0) rfl (by decide) (by decide) rfl (fun ls hl => ?_)
  refine lv_goto (tgt := 148) hx hb dX10_init_173 (by decide) ?_
  refine lv_iload_n hx hb dX10_init_148 rfl (lv_at hl 0 rfl) ?_
  refine gm_aload_nS C dX10_init_149 rfl (lv_at hl 1 rfl) ?_
  refine gm_getR (G := (gm_T gm_SC (57))) (u := u30) (r := 1) (ci := 9) (k := 9) C hw rfl fl_X10_57 dX10_init_150 rfl ?_
  refine gm_topRS (y := 38) (by simp only [e_u30, e_u29, e_u28, e_u27, e_u26, e_u25, e_u24, e_u23, e_u22, e_u21, e_u20, e_u19, e_u18, e_u17, e_u16, e_u15, e_u14, e_u13, e_u12, e_u11, e_u10, e_u9, e_u8, e_u7, e_u6, e_u5, e_u4, e_u3, e_u2, e_u1, e_u]; rfl) ?_
  refine gm_alen (G := (gm_T gm_SC (57))) (u := u30) (r := 38) (t := 4) (n := 16) (v := 16) C hw rfl (by decide) (by decide) dX10_init_153 ?_
  refine lv_icmp_ge (tgt := 176) hx hb dX10_init_154 (by decide) (fun hc => ?_) (fun hc => ?_)
  · exact absurd hc (by decide)
  refine gm_aload_nS C dX10_init_157 rfl (lv_at hl 1 rfl) ?_
  refine gm_getR (G := (gm_T gm_SC (57))) (u := u30) (r := 1) (ci := 9) (k := 9) C hw rfl fl_X10_57 dX10_init_158 rfl ?_
  refine gm_topRS (y := 38) (by simp only [e_u30, e_u29, e_u28, e_u27, e_u26, e_u25, e_u24, e_u23, e_u22, e_u21, e_u20, e_u19, e_u18, e_u17, e_u16, e_u15, e_u14, e_u13, e_u12, e_u11, e_u10, e_u9, e_u8, e_u7, e_u6, e_u5, e_u4, e_u3, e_u2, e_u1, e_u]; rfl) ?_
  refine lv_iload_n hx hb dX10_init_161 rfl (lv_at hl 0 rfl) ?_
  refine gm_size (n := 56) hw (by omega) hB (by omega) (fun hsz => ?_)
  have hsz : H.size = B + (57) := by omega
  refine gm_newS (S := gm_SC) (n := 57) (ci := 0) (T := TX1) (N := 7) (ty := tyX1) C hw hz hB hsz rfl rfl wq_255 wq_256 wq_95 us_X1 tyX1_ok df_X1 (by omega) (by omega) dX10_init_162 (fun H hw => ?_)
  have hz := hz.up (Nat.le_succ _)
  refine lv_dup hx hb dX10_init_165 (gm_cat _ _) ?_
  refine gm_size (n := 57) hw (by omega) hB (by omega) (fun hsz => ?_)
  have hsz : H.size = B + (58) := by omega
  refine gm_callIN (n := 58) (n' := 61) (u := u30) (u' := cu_X1_init (57) u30) (r := 57) (As := []) (rest := [rv Z (58), .int (3 : Int32), rv Z (38)]) C hU hw hB hsz (by omega) hl (ct_X1_init l Z B (57) u30 hB hz rfl rfl rfl rfl (by omega)) mb_X10_38 wq_95 cd_X1_init (by decide +kernel) rfl im_X1_init ⟨(by omega : 1 + 1 ≤ R.frames), (by omega : 8 + (1 + 11) + 20 ≤ R.locals)⟩ ⟨(by omega : 57 + 3 ≤ R.cells), (by omega : 3554 + 18 ≤ R.slots)⟩ rfl rfl (Nat.le_of_ble_eq_true rfl) dX10_init_166 (fun H locs hw => ?_)
  show W p l e R s m args below meth c H locs 60 3572 Q _
  obtain ⟨u31, e_u31⟩ : ∃ x, x = cu_X1_init (57) u30 := ⟨_, rfl⟩
  rw [← e_u31] at hw
  have hz : gm_z (61) u31 := by rw [e_u31]; exact cz_X1_init _ _ hz
  refine gm_aast (G := (gm_T gm_SC (61))) (u := u31) (r := 38) (n := 16) (q := 58) (i := 3) C hw rfl rfl (by decide) (j := 3) (by decide) dX10_init_169 (fun H locs hw => ?_)
  obtain ⟨u32, e_u32⟩ : ∃ x, x = sR u31 (38) 3 (58) := ⟨_, rfl⟩
  rw [← e_u32] at hw
  have hz : gm_z (61) u32 := by rw [e_u32]; exact gm_zR hz (by omega)
  refine lv_iinc (v := 4) (lv' := [(1, .int (4 : Int32)), (0, rv Z (1))]) hx hb dX10_init_170 hl (k := 0) rfl (by decide) (by decide) rfl (fun ls hl => ?_)
  refine lv_goto (tgt := 148) hx hb dX10_init_173 (by decide) ?_
  refine lv_iload_n hx hb dX10_init_148 rfl (lv_at hl 0 rfl) ?_
  refine gm_aload_nS C dX10_init_149 rfl (lv_at hl 1 rfl) ?_
  refine gm_getR (G := (gm_T gm_SC (61))) (u := u32) (r := 1) (ci := 9) (k := 9) C hw rfl fl_X10_57 dX10_init_150 rfl ?_
  refine gm_topRS (y := 38) (by simp only [e_u32, e_u31, e_u30, e_u29, e_u28, e_u27, e_u26, e_u25, e_u24, e_u23, e_u22, e_u21, e_u20, e_u19, e_u18, e_u17, e_u16, e_u15, e_u14, e_u13, e_u12, e_u11, e_u10, e_u9, e_u8, e_u7, e_u6, e_u5, e_u4, e_u3, e_u2, e_u1, e_u]; rfl) ?_
  refine gm_alen (G := (gm_T gm_SC (61))) (u := u32) (r := 38) (t := 4) (n := 16) (v := 16) C hw rfl (by decide) (by decide) dX10_init_153 ?_
  refine lv_icmp_ge (tgt := 176) hx hb dX10_init_154 (by decide) (fun hc => ?_) (fun hc => ?_)
  · exact absurd hc (by decide)
  refine gm_aload_nS C dX10_init_157 rfl (lv_at hl 1 rfl) ?_
  refine gm_getR (G := (gm_T gm_SC (61))) (u := u32) (r := 1) (ci := 9) (k := 9) C hw rfl fl_X10_57 dX10_init_158 rfl ?_
  refine gm_topRS (y := 38) (by simp only [e_u32, e_u31, e_u30, e_u29, e_u28, e_u27, e_u26, e_u25, e_u24, e_u23, e_u22, e_u21, e_u20, e_u19, e_u18, e_u17, e_u16, e_u15, e_u14, e_u13, e_u12, e_u11, e_u10, e_u9, e_u8, e_u7, e_u6, e_u5, e_u4, e_u3, e_u2, e_u1, e_u]; rfl) ?_
  refine lv_iload_n hx hb dX10_init_161 rfl (lv_at hl 0 rfl) ?_
  refine gm_size (n := 60) hw (by omega) hB (by omega) (fun hsz => ?_)
  have hsz : H.size = B + (61) := by omega
  refine gm_newS (S := gm_SC) (n := 61) (ci := 0) (T := TX1) (N := 7) (ty := tyX1) C hw hz hB hsz rfl rfl wq_255 wq_256 wq_95 us_X1 tyX1_ok df_X1 (by omega) (by omega) dX10_init_162 (fun H hw => ?_)
  have hz := hz.up (Nat.le_succ _)
  refine lv_dup hx hb dX10_init_165 (gm_cat _ _) ?_
  refine gm_size (n := 61) hw (by omega) hB (by omega) (fun hsz => ?_)
  have hsz : H.size = B + (62) := by omega
  refine gm_callIN (n := 62) (n' := 65) (u := u32) (u' := cu_X1_init (61) u32) (r := 61) (As := []) (rest := [rv Z (62), .int (4 : Int32), rv Z (38)]) C hU hw hB hsz (by omega) hl (ct_X1_init l Z B (61) u32 hB hz rfl rfl rfl rfl (by omega)) mb_X10_38 wq_95 cd_X1_init (by decide +kernel) rfl im_X1_init ⟨(by omega : 1 + 1 ≤ R.frames), (by omega : 8 + (1 + 11) + 20 ≤ R.locals)⟩ ⟨(by omega : 61 + 3 ≤ R.cells), (by omega : 3579 + 18 ≤ R.slots)⟩ rfl rfl (Nat.le_of_ble_eq_true rfl) dX10_init_166 (fun H locs hw => ?_)
  show W p l e R s m args below meth c H locs 64 3597 Q _
  obtain ⟨u33, e_u33⟩ : ∃ x, x = cu_X1_init (61) u32 := ⟨_, rfl⟩
  rw [← e_u33] at hw
  have hz : gm_z (65) u33 := by rw [e_u33]; exact cz_X1_init _ _ hz
  refine gm_aast (G := (gm_T gm_SC (65))) (u := u33) (r := 38) (n := 16) (q := 62) (i := 4) C hw rfl rfl (by decide) (j := 4) (by decide) dX10_init_169 (fun H locs hw => ?_)
  obtain ⟨u34, e_u34⟩ : ∃ x, x = sR u33 (38) 4 (62) := ⟨_, rfl⟩
  rw [← e_u34] at hw
  have hz : gm_z (65) u34 := by rw [e_u34]; exact gm_zR hz (by omega)
  refine lv_iinc (v := 5) (lv' := [(1, .int (5 : Int32)), (0, rv Z (1))]) hx hb dX10_init_170 hl (k := 0) rfl (by decide) (by decide) rfl (fun ls hl => ?_)
  refine lv_goto (tgt := 148) hx hb dX10_init_173 (by decide) ?_
  refine lv_iload_n hx hb dX10_init_148 rfl (lv_at hl 0 rfl) ?_
  refine gm_aload_nS C dX10_init_149 rfl (lv_at hl 1 rfl) ?_
  refine gm_getR (G := (gm_T gm_SC (65))) (u := u34) (r := 1) (ci := 9) (k := 9) C hw rfl fl_X10_57 dX10_init_150 rfl ?_
  refine gm_topRS (y := 38) (by simp only [e_u34, e_u33, e_u32, e_u31, e_u30, e_u29, e_u28, e_u27, e_u26, e_u25, e_u24, e_u23, e_u22, e_u21, e_u20, e_u19, e_u18, e_u17, e_u16, e_u15, e_u14, e_u13, e_u12, e_u11, e_u10, e_u9, e_u8, e_u7, e_u6, e_u5, e_u4, e_u3, e_u2, e_u1, e_u]; rfl) ?_
  refine gm_alen (G := (gm_T gm_SC (65))) (u := u34) (r := 38) (t := 4) (n := 16) (v := 16) C hw rfl (by decide) (by decide) dX10_init_153 ?_
  refine lv_icmp_ge (tgt := 176) hx hb dX10_init_154 (by decide) (fun hc => ?_) (fun hc => ?_)
  · exact absurd hc (by decide)
  refine gm_aload_nS C dX10_init_157 rfl (lv_at hl 1 rfl) ?_
  refine gm_getR (G := (gm_T gm_SC (65))) (u := u34) (r := 1) (ci := 9) (k := 9) C hw rfl fl_X10_57 dX10_init_158 rfl ?_
  refine gm_topRS (y := 38) (by simp only [e_u34, e_u33, e_u32, e_u31, e_u30, e_u29, e_u28, e_u27, e_u26, e_u25, e_u24, e_u23, e_u22, e_u21, e_u20, e_u19, e_u18, e_u17, e_u16, e_u15, e_u14, e_u13, e_u12, e_u11, e_u10, e_u9, e_u8, e_u7, e_u6, e_u5, e_u4, e_u3, e_u2, e_u1, e_u]; rfl) ?_
  refine lv_iload_n hx hb dX10_init_161 rfl (lv_at hl 0 rfl) ?_
  refine gm_size (n := 64) hw (by omega) hB (by omega) (fun hsz => ?_)
  have hsz : H.size = B + (65) := by omega
  refine gm_newS (S := gm_SC) (n := 65) (ci := 0) (T := TX1) (N := 7) (ty := tyX1) C hw hz hB hsz rfl rfl wq_255 wq_256 wq_95 us_X1 tyX1_ok df_X1 (by omega) (by omega) dX10_init_162 (fun H hw => ?_)
  have hz := hz.up (Nat.le_succ _)
  refine lv_dup hx hb dX10_init_165 (gm_cat _ _) ?_
  refine gm_size (n := 65) hw (by omega) hB (by omega) (fun hsz => ?_)
  have hsz : H.size = B + (66) := by omega
  refine gm_callIN (n := 66) (n' := 69) (u := u34) (u' := cu_X1_init (65) u34) (r := 65) (As := []) (rest := [rv Z (66), .int (5 : Int32), rv Z (38)]) C hU hw hB hsz (by omega) hl (ct_X1_init l Z B (65) u34 hB hz rfl rfl rfl rfl (by omega)) mb_X10_38 wq_95 cd_X1_init (by decide +kernel) rfl im_X1_init ⟨(by omega : 1 + 1 ≤ R.frames), (by omega : 8 + (1 + 11) + 20 ≤ R.locals)⟩ ⟨(by omega : 65 + 3 ≤ R.cells), (by omega : 3604 + 18 ≤ R.slots)⟩ rfl rfl (Nat.le_of_ble_eq_true rfl) dX10_init_166 (fun H locs hw => ?_)
  show W p l e R s m args below meth c H locs 68 3622 Q _
  obtain ⟨u35, e_u35⟩ : ∃ x, x = cu_X1_init (65) u34 := ⟨_, rfl⟩
  rw [← e_u35] at hw
  have hz : gm_z (69) u35 := by rw [e_u35]; exact cz_X1_init _ _ hz
  refine gm_aast (G := (gm_T gm_SC (69))) (u := u35) (r := 38) (n := 16) (q := 66) (i := 5) C hw rfl rfl (by decide) (j := 5) (by decide) dX10_init_169 (fun H locs hw => ?_)
  obtain ⟨u36, e_u36⟩ : ∃ x, x = sR u35 (38) 5 (66) := ⟨_, rfl⟩
  rw [← e_u36] at hw
  have hz : gm_z (69) u36 := by rw [e_u36]; exact gm_zR hz (by omega)
  refine lv_iinc (v := 6) (lv' := [(1, .int (6 : Int32)), (0, rv Z (1))]) hx hb dX10_init_170 hl (k := 0) rfl (by decide) (by decide) rfl (fun ls hl => ?_)
  refine lv_goto (tgt := 148) hx hb dX10_init_173 (by decide) ?_
  refine lv_iload_n hx hb dX10_init_148 rfl (lv_at hl 0 rfl) ?_
  refine gm_aload_nS C dX10_init_149 rfl (lv_at hl 1 rfl) ?_
  refine gm_getR (G := (gm_T gm_SC (69))) (u := u36) (r := 1) (ci := 9) (k := 9) C hw rfl fl_X10_57 dX10_init_150 rfl ?_
  refine gm_topRS (y := 38) (by simp only [e_u36, e_u35, e_u34, e_u33, e_u32, e_u31, e_u30, e_u29, e_u28, e_u27, e_u26, e_u25, e_u24, e_u23, e_u22, e_u21, e_u20, e_u19, e_u18, e_u17, e_u16, e_u15, e_u14, e_u13, e_u12, e_u11, e_u10, e_u9, e_u8, e_u7, e_u6, e_u5, e_u4, e_u3, e_u2, e_u1, e_u]; rfl) ?_
  refine gm_alen (G := (gm_T gm_SC (69))) (u := u36) (r := 38) (t := 4) (n := 16) (v := 16) C hw rfl (by decide) (by decide) dX10_init_153 ?_
  refine lv_icmp_ge (tgt := 176) hx hb dX10_init_154 (by decide) (fun hc => ?_) (fun hc => ?_)
  · exact absurd hc (by decide)
  refine gm_aload_nS C dX10_init_157 rfl (lv_at hl 1 rfl) ?_
  refine gm_getR (G := (gm_T gm_SC (69))) (u := u36) (r := 1) (ci := 9) (k := 9) C hw rfl fl_X10_57 dX10_init_158 rfl ?_
  refine gm_topRS (y := 38) (by simp only [e_u36, e_u35, e_u34, e_u33, e_u32, e_u31, e_u30, e_u29, e_u28, e_u27, e_u26, e_u25, e_u24, e_u23, e_u22, e_u21, e_u20, e_u19, e_u18, e_u17, e_u16, e_u15, e_u14, e_u13, e_u12, e_u11, e_u10, e_u9, e_u8, e_u7, e_u6, e_u5, e_u4, e_u3, e_u2, e_u1, e_u]; rfl) ?_
  refine lv_iload_n hx hb dX10_init_161 rfl (lv_at hl 0 rfl) ?_
  refine gm_size (n := 68) hw (by omega) hB (by omega) (fun hsz => ?_)
  have hsz : H.size = B + (69) := by omega
  refine gm_newS (S := gm_SC) (n := 69) (ci := 0) (T := TX1) (N := 7) (ty := tyX1) C hw hz hB hsz rfl rfl wq_255 wq_256 wq_95 us_X1 tyX1_ok df_X1 (by omega) (by omega) dX10_init_162 (fun H hw => ?_)
  have hz := hz.up (Nat.le_succ _)
  refine lv_dup hx hb dX10_init_165 (gm_cat _ _) ?_
  refine gm_size (n := 69) hw (by omega) hB (by omega) (fun hsz => ?_)
  have hsz : H.size = B + (70) := by omega
  refine gm_callIN (n := 70) (n' := 73) (u := u36) (u' := cu_X1_init (69) u36) (r := 69) (As := []) (rest := [rv Z (70), .int (6 : Int32), rv Z (38)]) C hU hw hB hsz (by omega) hl (ct_X1_init l Z B (69) u36 hB hz rfl rfl rfl rfl (by omega)) mb_X10_38 wq_95 cd_X1_init (by decide +kernel) rfl im_X1_init ⟨(by omega : 1 + 1 ≤ R.frames), (by omega : 8 + (1 + 11) + 20 ≤ R.locals)⟩ ⟨(by omega : 69 + 3 ≤ R.cells), (by omega : 3629 + 18 ≤ R.slots)⟩ rfl rfl (Nat.le_of_ble_eq_true rfl) dX10_init_166 (fun H locs hw => ?_)
  show W p l e R s m args below meth c H locs 72 3647 Q _
  obtain ⟨u37, e_u37⟩ : ∃ x, x = cu_X1_init (69) u36 := ⟨_, rfl⟩
  rw [← e_u37] at hw
  have hz : gm_z (73) u37 := by rw [e_u37]; exact cz_X1_init _ _ hz
  refine gm_aast (G := (gm_T gm_SC (73))) (u := u37) (r := 38) (n := 16) (q := 70) (i := 6) C hw rfl rfl (by decide) (j := 6) (by decide) dX10_init_169 (fun H locs hw => ?_)
  obtain ⟨u38, e_u38⟩ : ∃ x, x = sR u37 (38) 6 (70) := ⟨_, rfl⟩
  rw [← e_u38] at hw
  have hz : gm_z (73) u38 := by rw [e_u38]; exact gm_zR hz (by omega)
  refine lv_iinc (v := 7) (lv' := [(1, .int (7 : Int32)), (0, rv Z (1))]) hx hb dX10_init_170 hl (k := 0) rfl (by decide) (by decide) rfl (fun ls hl => ?_)
  refine lv_goto (tgt := 148) hx hb dX10_init_173 (by decide) ?_
  refine lv_iload_n hx hb dX10_init_148 rfl (lv_at hl 0 rfl) ?_
  refine gm_aload_nS C dX10_init_149 rfl (lv_at hl 1 rfl) ?_
  refine gm_getR (G := (gm_T gm_SC (73))) (u := u38) (r := 1) (ci := 9) (k := 9) C hw rfl fl_X10_57 dX10_init_150 rfl ?_
  refine gm_topRS (y := 38) (by simp only [e_u38, e_u37, e_u36, e_u35, e_u34, e_u33, e_u32, e_u31, e_u30, e_u29, e_u28, e_u27, e_u26, e_u25, e_u24, e_u23, e_u22, e_u21, e_u20, e_u19, e_u18, e_u17, e_u16, e_u15, e_u14, e_u13, e_u12, e_u11, e_u10, e_u9, e_u8, e_u7, e_u6, e_u5, e_u4, e_u3, e_u2, e_u1, e_u]; rfl) ?_
  refine gm_alen (G := (gm_T gm_SC (73))) (u := u38) (r := 38) (t := 4) (n := 16) (v := 16) C hw rfl (by decide) (by decide) dX10_init_153 ?_
  refine lv_icmp_ge (tgt := 176) hx hb dX10_init_154 (by decide) (fun hc => ?_) (fun hc => ?_)
  · exact absurd hc (by decide)
  refine gm_aload_nS C dX10_init_157 rfl (lv_at hl 1 rfl) ?_
  refine gm_getR (G := (gm_T gm_SC (73))) (u := u38) (r := 1) (ci := 9) (k := 9) C hw rfl fl_X10_57 dX10_init_158 rfl ?_
  refine gm_topRS (y := 38) (by simp only [e_u38, e_u37, e_u36, e_u35, e_u34, e_u33, e_u32, e_u31, e_u30, e_u29, e_u28, e_u27, e_u26, e_u25, e_u24, e_u23, e_u22, e_u21, e_u20, e_u19, e_u18, e_u17, e_u16, e_u15, e_u14, e_u13, e_u12, e_u11, e_u10, e_u9, e_u8, e_u7, e_u6, e_u5, e_u4, e_u3, e_u2, e_u1, e_u]; rfl) ?_
  refine lv_iload_n hx hb dX10_init_161 rfl (lv_at hl 0 rfl) ?_
  refine gm_size (n := 72) hw (by omega) hB (by omega) (fun hsz => ?_)
  have hsz : H.size = B + (73) := by omega
  refine gm_newS (S := gm_SC) (n := 73) (ci := 0) (T := TX1) (N := 7) (ty := tyX1) C hw hz hB hsz rfl rfl wq_255 wq_256 wq_95 us_X1 tyX1_ok df_X1 (by omega) (by omega) dX10_init_162 (fun H hw => ?_)
  have hz := hz.up (Nat.le_succ _)
  refine lv_dup hx hb dX10_init_165 (gm_cat _ _) ?_
  refine gm_size (n := 73) hw (by omega) hB (by omega) (fun hsz => ?_)
  have hsz : H.size = B + (74) := by omega
  refine gm_callIN (n := 74) (n' := 77) (u := u38) (u' := cu_X1_init (73) u38) (r := 73) (As := []) (rest := [rv Z (74), .int (7 : Int32), rv Z (38)]) C hU hw hB hsz (by omega) hl (ct_X1_init l Z B (73) u38 hB hz rfl rfl rfl rfl (by omega)) mb_X10_38 wq_95 cd_X1_init (by decide +kernel) rfl im_X1_init ⟨(by omega : 1 + 1 ≤ R.frames), (by omega : 8 + (1 + 11) + 20 ≤ R.locals)⟩ ⟨(by omega : 73 + 3 ≤ R.cells), (by omega : 3654 + 18 ≤ R.slots)⟩ rfl rfl (Nat.le_of_ble_eq_true rfl) dX10_init_166 (fun H locs hw => ?_)
  show W p l e R s m args below meth c H locs 76 3672 Q _
  obtain ⟨u39, e_u39⟩ : ∃ x, x = cu_X1_init (73) u38 := ⟨_, rfl⟩
  rw [← e_u39] at hw
  have hz : gm_z (77) u39 := by rw [e_u39]; exact cz_X1_init _ _ hz
  refine gm_aast (G := (gm_T gm_SC (77))) (u := u39) (r := 38) (n := 16) (q := 74) (i := 7) C hw rfl rfl (by decide) (j := 7) (by decide) dX10_init_169 (fun H locs hw => ?_)
  obtain ⟨u40, e_u40⟩ : ∃ x, x = sR u39 (38) 7 (74) := ⟨_, rfl⟩
  rw [← e_u40] at hw
  have hz : gm_z (77) u40 := by rw [e_u40]; exact gm_zR hz (by omega)
  refine lv_iinc (v := 8) (lv' := [(1, .int (8 : Int32)), (0, rv Z (1))]) hx hb dX10_init_170 hl (k := 0) rfl (by decide) (by decide) rfl (fun ls hl => ?_)
  refine lv_goto (tgt := 148) hx hb dX10_init_173 (by decide) ?_
  refine lv_iload_n hx hb dX10_init_148 rfl (lv_at hl 0 rfl) ?_
  refine gm_aload_nS C dX10_init_149 rfl (lv_at hl 1 rfl) ?_
  refine gm_getR (G := (gm_T gm_SC (77))) (u := u40) (r := 1) (ci := 9) (k := 9) C hw rfl fl_X10_57 dX10_init_150 rfl ?_
  refine gm_topRS (y := 38) (by simp only [e_u40, e_u39, e_u38, e_u37, e_u36, e_u35, e_u34, e_u33, e_u32, e_u31, e_u30, e_u29, e_u28, e_u27, e_u26, e_u25, e_u24, e_u23, e_u22, e_u21, e_u20, e_u19, e_u18, e_u17, e_u16, e_u15, e_u14, e_u13, e_u12, e_u11, e_u10, e_u9, e_u8, e_u7, e_u6, e_u5, e_u4, e_u3, e_u2, e_u1, e_u]; rfl) ?_
  refine gm_alen (G := (gm_T gm_SC (77))) (u := u40) (r := 38) (t := 4) (n := 16) (v := 16) C hw rfl (by decide) (by decide) dX10_init_153 ?_
  refine lv_icmp_ge (tgt := 176) hx hb dX10_init_154 (by decide) (fun hc => ?_) (fun hc => ?_)
  · exact absurd hc (by decide)
  refine gm_aload_nS C dX10_init_157 rfl (lv_at hl 1 rfl) ?_
  refine gm_getR (G := (gm_T gm_SC (77))) (u := u40) (r := 1) (ci := 9) (k := 9) C hw rfl fl_X10_57 dX10_init_158 rfl ?_
  refine gm_topRS (y := 38) (by simp only [e_u40, e_u39, e_u38, e_u37, e_u36, e_u35, e_u34, e_u33, e_u32, e_u31, e_u30, e_u29, e_u28, e_u27, e_u26, e_u25, e_u24, e_u23, e_u22, e_u21, e_u20, e_u19, e_u18, e_u17, e_u16, e_u15, e_u14, e_u13, e_u12, e_u11, e_u10, e_u9, e_u8, e_u7, e_u6, e_u5, e_u4, e_u3, e_u2, e_u1, e_u]; rfl) ?_
  refine lv_iload_n hx hb dX10_init_161 rfl (lv_at hl 0 rfl) ?_
  refine gm_size (n := 76) hw (by omega) hB (by omega) (fun hsz => ?_)
  have hsz : H.size = B + (77) := by omega
  refine gm_newS (S := gm_SC) (n := 77) (ci := 0) (T := TX1) (N := 7) (ty := tyX1) C hw hz hB hsz rfl rfl wq_255 wq_256 wq_95 us_X1 tyX1_ok df_X1 (by omega) (by omega) dX10_init_162 (fun H hw => ?_)
  have hz := hz.up (Nat.le_succ _)
  refine lv_dup hx hb dX10_init_165 (gm_cat _ _) ?_
  refine gm_size (n := 77) hw (by omega) hB (by omega) (fun hsz => ?_)
  have hsz : H.size = B + (78) := by omega
  refine gm_callIN (n := 78) (n' := 81) (u := u40) (u' := cu_X1_init (77) u40) (r := 77) (As := []) (rest := [rv Z (78), .int (8 : Int32), rv Z (38)]) C hU hw hB hsz (by omega) hl (ct_X1_init l Z B (77) u40 hB hz rfl rfl rfl rfl (by omega)) mb_X10_38 wq_95 cd_X1_init (by decide +kernel) rfl im_X1_init ⟨(by omega : 1 + 1 ≤ R.frames), (by omega : 8 + (1 + 11) + 20 ≤ R.locals)⟩ ⟨(by omega : 77 + 3 ≤ R.cells), (by omega : 3679 + 18 ≤ R.slots)⟩ rfl rfl (Nat.le_of_ble_eq_true rfl) dX10_init_166 (fun H locs hw => ?_)
  show W p l e R s m args below meth c H locs 80 3697 Q _
  obtain ⟨u41, e_u41⟩ : ∃ x, x = cu_X1_init (77) u40 := ⟨_, rfl⟩
  rw [← e_u41] at hw
  have hz : gm_z (81) u41 := by rw [e_u41]; exact cz_X1_init _ _ hz
  refine gm_aast (G := (gm_T gm_SC (81))) (u := u41) (r := 38) (n := 16) (q := 78) (i := 8) C hw rfl rfl (by decide) (j := 8) (by decide) dX10_init_169 (fun H locs hw => ?_)
  obtain ⟨u42, e_u42⟩ : ∃ x, x = sR u41 (38) 8 (78) := ⟨_, rfl⟩
  rw [← e_u42] at hw
  have hz : gm_z (81) u42 := by rw [e_u42]; exact gm_zR hz (by omega)
  refine lv_iinc (v := 9) (lv' := [(1, .int (9 : Int32)), (0, rv Z (1))]) hx hb dX10_init_170 hl (k := 0) rfl (by decide) (by decide) rfl (fun ls hl => ?_)
  refine lv_goto (tgt := 148) hx hb dX10_init_173 (by decide) ?_
  refine lv_iload_n hx hb dX10_init_148 rfl (lv_at hl 0 rfl) ?_
  refine gm_aload_nS C dX10_init_149 rfl (lv_at hl 1 rfl) ?_
  refine gm_getR (G := (gm_T gm_SC (81))) (u := u42) (r := 1) (ci := 9) (k := 9) C hw rfl fl_X10_57 dX10_init_150 rfl ?_
  refine gm_topRS (y := 38) (by simp only [e_u42, e_u41, e_u40, e_u39, e_u38, e_u37, e_u36, e_u35, e_u34, e_u33, e_u32, e_u31, e_u30, e_u29, e_u28, e_u27, e_u26, e_u25, e_u24, e_u23, e_u22, e_u21, e_u20, e_u19, e_u18, e_u17, e_u16, e_u15, e_u14, e_u13, e_u12, e_u11, e_u10, e_u9, e_u8, e_u7, e_u6, e_u5, e_u4, e_u3, e_u2, e_u1, e_u]; rfl) ?_
  refine gm_alen (G := (gm_T gm_SC (81))) (u := u42) (r := 38) (t := 4) (n := 16) (v := 16) C hw rfl (by decide) (by decide) dX10_init_153 ?_
  refine lv_icmp_ge (tgt := 176) hx hb dX10_init_154 (by decide) (fun hc => ?_) (fun hc => ?_)
  · exact absurd hc (by decide)
  refine gm_aload_nS C dX10_init_157 rfl (lv_at hl 1 rfl) ?_
  refine gm_getR (G := (gm_T gm_SC (81))) (u := u42) (r := 1) (ci := 9) (k := 9) C hw rfl fl_X10_57 dX10_init_158 rfl ?_
  refine gm_topRS (y := 38) (by simp only [e_u42, e_u41, e_u40, e_u39, e_u38, e_u37, e_u36, e_u35, e_u34, e_u33, e_u32, e_u31, e_u30, e_u29, e_u28, e_u27, e_u26, e_u25, e_u24, e_u23, e_u22, e_u21, e_u20, e_u19, e_u18, e_u17, e_u16, e_u15, e_u14, e_u13, e_u12, e_u11, e_u10, e_u9, e_u8, e_u7, e_u6, e_u5, e_u4, e_u3, e_u2, e_u1, e_u]; rfl) ?_
  refine lv_iload_n hx hb dX10_init_161 rfl (lv_at hl 0 rfl) ?_
  refine gm_size (n := 80) hw (by omega) hB (by omega) (fun hsz => ?_)
  have hsz : H.size = B + (81) := by omega
  refine gm_newS (S := gm_SC) (n := 81) (ci := 0) (T := TX1) (N := 7) (ty := tyX1) C hw hz hB hsz rfl rfl wq_255 wq_256 wq_95 us_X1 tyX1_ok df_X1 (by omega) (by omega) dX10_init_162 (fun H hw => ?_)
  have hz := hz.up (Nat.le_succ _)
  refine lv_dup hx hb dX10_init_165 (gm_cat _ _) ?_
  refine gm_size (n := 81) hw (by omega) hB (by omega) (fun hsz => ?_)
  have hsz : H.size = B + (82) := by omega
  refine gm_callIN (n := 82) (n' := 85) (u := u42) (u' := cu_X1_init (81) u42) (r := 81) (As := []) (rest := [rv Z (82), .int (9 : Int32), rv Z (38)]) C hU hw hB hsz (by omega) hl (ct_X1_init l Z B (81) u42 hB hz rfl rfl rfl rfl (by omega)) mb_X10_38 wq_95 cd_X1_init (by decide +kernel) rfl im_X1_init ⟨(by omega : 1 + 1 ≤ R.frames), (by omega : 8 + (1 + 11) + 20 ≤ R.locals)⟩ ⟨(by omega : 81 + 3 ≤ R.cells), (by omega : 3704 + 18 ≤ R.slots)⟩ rfl rfl (Nat.le_of_ble_eq_true rfl) dX10_init_166 (fun H locs hw => ?_)
  show W p l e R s m args below meth c H locs 84 3722 Q _
  obtain ⟨u43, e_u43⟩ : ∃ x, x = cu_X1_init (81) u42 := ⟨_, rfl⟩
  rw [← e_u43] at hw
  have hz : gm_z (85) u43 := by rw [e_u43]; exact cz_X1_init _ _ hz
  refine gm_aast (G := (gm_T gm_SC (85))) (u := u43) (r := 38) (n := 16) (q := 82) (i := 9) C hw rfl rfl (by decide) (j := 9) (by decide) dX10_init_169 (fun H locs hw => ?_)
  obtain ⟨u44, e_u44⟩ : ∃ x, x = sR u43 (38) 9 (82) := ⟨_, rfl⟩
  rw [← e_u44] at hw
  have hz : gm_z (85) u44 := by rw [e_u44]; exact gm_zR hz (by omega)
  refine lv_iinc (v := 10) (lv' := [(1, .int (10 : Int32)), (0, rv Z (1))]) hx hb dX10_init_170 hl (k := 0) rfl (by decide) (by decide) rfl (fun ls hl => ?_)
  refine lv_goto (tgt := 148) hx hb dX10_init_173 (by decide) ?_
  refine lv_iload_n hx hb dX10_init_148 rfl (lv_at hl 0 rfl) ?_
  refine gm_aload_nS C dX10_init_149 rfl (lv_at hl 1 rfl) ?_
  refine gm_getR (G := (gm_T gm_SC (85))) (u := u44) (r := 1) (ci := 9) (k := 9) C hw rfl fl_X10_57 dX10_init_150 rfl ?_
  refine gm_topRS (y := 38) (by simp only [e_u44, e_u43, e_u42, e_u41, e_u40, e_u39, e_u38, e_u37, e_u36, e_u35, e_u34, e_u33, e_u32, e_u31, e_u30, e_u29, e_u28, e_u27, e_u26, e_u25, e_u24, e_u23, e_u22, e_u21, e_u20, e_u19, e_u18, e_u17, e_u16, e_u15, e_u14, e_u13, e_u12, e_u11, e_u10, e_u9, e_u8, e_u7, e_u6, e_u5, e_u4, e_u3, e_u2, e_u1, e_u]; rfl) ?_
  refine gm_alen (G := (gm_T gm_SC (85))) (u := u44) (r := 38) (t := 4) (n := 16) (v := 16) C hw rfl (by decide) (by decide) dX10_init_153 ?_
  refine lv_icmp_ge (tgt := 176) hx hb dX10_init_154 (by decide) (fun hc => ?_) (fun hc => ?_)
  · exact absurd hc (by decide)
  refine gm_aload_nS C dX10_init_157 rfl (lv_at hl 1 rfl) ?_
  refine gm_getR (G := (gm_T gm_SC (85))) (u := u44) (r := 1) (ci := 9) (k := 9) C hw rfl fl_X10_57 dX10_init_158 rfl ?_
  refine gm_topRS (y := 38) (by simp only [e_u44, e_u43, e_u42, e_u41, e_u40, e_u39, e_u38, e_u37, e_u36, e_u35, e_u34, e_u33, e_u32, e_u31, e_u30, e_u29, e_u28, e_u27, e_u26, e_u25, e_u24, e_u23, e_u22, e_u21, e_u20, e_u19, e_u18, e_u17, e_u16, e_u15, e_u14, e_u13, e_u12, e_u11, e_u10, e_u9, e_u8, e_u7, e_u6, e_u5, e_u4, e_u3, e_u2, e_u1, e_u]; rfl) ?_
  refine lv_iload_n hx hb dX10_init_161 rfl (lv_at hl 0 rfl) ?_
  refine gm_size (n := 84) hw (by omega) hB (by omega) (fun hsz => ?_)
  have hsz : H.size = B + (85) := by omega
  refine gm_newS (S := gm_SC) (n := 85) (ci := 0) (T := TX1) (N := 7) (ty := tyX1) C hw hz hB hsz rfl rfl wq_255 wq_256 wq_95 us_X1 tyX1_ok df_X1 (by omega) (by omega) dX10_init_162 (fun H hw => ?_)
  have hz := hz.up (Nat.le_succ _)
  refine lv_dup hx hb dX10_init_165 (gm_cat _ _) ?_
  refine gm_size (n := 85) hw (by omega) hB (by omega) (fun hsz => ?_)
  have hsz : H.size = B + (86) := by omega
  refine gm_callIN (n := 86) (n' := 89) (u := u44) (u' := cu_X1_init (85) u44) (r := 85) (As := []) (rest := [rv Z (86), .int (10 : Int32), rv Z (38)]) C hU hw hB hsz (by omega) hl (ct_X1_init l Z B (85) u44 hB hz rfl rfl rfl rfl (by omega)) mb_X10_38 wq_95 cd_X1_init (by decide +kernel) rfl im_X1_init ⟨(by omega : 1 + 1 ≤ R.frames), (by omega : 8 + (1 + 11) + 20 ≤ R.locals)⟩ ⟨(by omega : 85 + 3 ≤ R.cells), (by omega : 3729 + 18 ≤ R.slots)⟩ rfl rfl (Nat.le_of_ble_eq_true rfl) dX10_init_166 (fun H locs hw => ?_)
  show W p l e R s m args below meth c H locs 88 3747 Q _
  obtain ⟨u45, e_u45⟩ : ∃ x, x = cu_X1_init (85) u44 := ⟨_, rfl⟩
  rw [← e_u45] at hw
  have hz : gm_z (89) u45 := by rw [e_u45]; exact cz_X1_init _ _ hz
  refine gm_aast (G := (gm_T gm_SC (89))) (u := u45) (r := 38) (n := 16) (q := 86) (i := 10) C hw rfl rfl (by decide) (j := 10) (by decide) dX10_init_169 (fun H locs hw => ?_)
  obtain ⟨u46, e_u46⟩ : ∃ x, x = sR u45 (38) 10 (86) := ⟨_, rfl⟩
  rw [← e_u46] at hw
  have hz : gm_z (89) u46 := by rw [e_u46]; exact gm_zR hz (by omega)
  refine lv_iinc (v := 11) (lv' := [(1, .int (11 : Int32)), (0, rv Z (1))]) hx hb dX10_init_170 hl (k := 0) rfl (by decide) (by decide) rfl (fun ls hl => ?_)
  refine lv_goto (tgt := 148) hx hb dX10_init_173 (by decide) ?_
  refine lv_iload_n hx hb dX10_init_148 rfl (lv_at hl 0 rfl) ?_
  refine gm_aload_nS C dX10_init_149 rfl (lv_at hl 1 rfl) ?_
  refine gm_getR (G := (gm_T gm_SC (89))) (u := u46) (r := 1) (ci := 9) (k := 9) C hw rfl fl_X10_57 dX10_init_150 rfl ?_
  refine gm_topRS (y := 38) (by simp only [e_u46, e_u45, e_u44, e_u43, e_u42, e_u41, e_u40, e_u39, e_u38, e_u37, e_u36, e_u35, e_u34, e_u33, e_u32, e_u31, e_u30, e_u29, e_u28, e_u27, e_u26, e_u25, e_u24, e_u23, e_u22, e_u21, e_u20, e_u19, e_u18, e_u17, e_u16, e_u15, e_u14, e_u13, e_u12, e_u11, e_u10, e_u9, e_u8, e_u7, e_u6, e_u5, e_u4, e_u3, e_u2, e_u1, e_u]; rfl) ?_
  refine gm_alen (G := (gm_T gm_SC (89))) (u := u46) (r := 38) (t := 4) (n := 16) (v := 16) C hw rfl (by decide) (by decide) dX10_init_153 ?_
  refine lv_icmp_ge (tgt := 176) hx hb dX10_init_154 (by decide) (fun hc => ?_) (fun hc => ?_)
  · exact absurd hc (by decide)
  refine gm_aload_nS C dX10_init_157 rfl (lv_at hl 1 rfl) ?_
  refine gm_getR (G := (gm_T gm_SC (89))) (u := u46) (r := 1) (ci := 9) (k := 9) C hw rfl fl_X10_57 dX10_init_158 rfl ?_
  refine gm_topRS (y := 38) (by simp only [e_u46, e_u45, e_u44, e_u43, e_u42, e_u41, e_u40, e_u39, e_u38, e_u37, e_u36, e_u35, e_u34, e_u33, e_u32, e_u31, e_u30, e_u29, e_u28, e_u27, e_u26, e_u25, e_u24, e_u23, e_u22, e_u21, e_u20, e_u19, e_u18, e_u17, e_u16, e_u15, e_u14, e_u13, e_u12, e_u11, e_u10, e_u9, e_u8, e_u7, e_u6, e_u5, e_u4, e_u3, e_u2, e_u1, e_u]; rfl) ?_
  refine lv_iload_n hx hb dX10_init_161 rfl (lv_at hl 0 rfl) ?_
  refine gm_size (n := 88) hw (by omega) hB (by omega) (fun hsz => ?_)
  have hsz : H.size = B + (89) := by omega
  refine gm_newS (S := gm_SC) (n := 89) (ci := 0) (T := TX1) (N := 7) (ty := tyX1) C hw hz hB hsz rfl rfl wq_255 wq_256 wq_95 us_X1 tyX1_ok df_X1 (by omega) (by omega) dX10_init_162 (fun H hw => ?_)
  have hz := hz.up (Nat.le_succ _)
  refine lv_dup hx hb dX10_init_165 (gm_cat _ _) ?_
  refine gm_size (n := 89) hw (by omega) hB (by omega) (fun hsz => ?_)
  have hsz : H.size = B + (90) := by omega
  refine gm_callIN (n := 90) (n' := 93) (u := u46) (u' := cu_X1_init (89) u46) (r := 89) (As := []) (rest := [rv Z (90), .int (11 : Int32), rv Z (38)]) C hU hw hB hsz (by omega) hl (ct_X1_init l Z B (89) u46 hB hz rfl rfl rfl rfl (by omega)) mb_X10_38 wq_95 cd_X1_init (by decide +kernel) rfl im_X1_init ⟨(by omega : 1 + 1 ≤ R.frames), (by omega : 8 + (1 + 11) + 20 ≤ R.locals)⟩ ⟨(by omega : 89 + 3 ≤ R.cells), (by omega : 3754 + 18 ≤ R.slots)⟩ rfl rfl (Nat.le_of_ble_eq_true rfl) dX10_init_166 (fun H locs hw => ?_)
  show W p l e R s m args below meth c H locs 92 3772 Q _
  obtain ⟨u47, e_u47⟩ : ∃ x, x = cu_X1_init (89) u46 := ⟨_, rfl⟩
  rw [← e_u47] at hw
  have hz : gm_z (93) u47 := by rw [e_u47]; exact cz_X1_init _ _ hz
  refine gm_aast (G := (gm_T gm_SC (93))) (u := u47) (r := 38) (n := 16) (q := 90) (i := 11) C hw rfl rfl (by decide) (j := 11) (by decide) dX10_init_169 (fun H locs hw => ?_)
  obtain ⟨u48, e_u48⟩ : ∃ x, x = sR u47 (38) 11 (90) := ⟨_, rfl⟩
  rw [← e_u48] at hw
  have hz : gm_z (93) u48 := by rw [e_u48]; exact gm_zR hz (by omega)
  refine lv_iinc (v := 12) (lv' := [(1, .int (12 : Int32)), (0, rv Z (1))]) hx hb dX10_init_170 hl (k := 0) rfl (by decide) (by decide) rfl (fun ls hl => ?_)
  refine lv_goto (tgt := 148) hx hb dX10_init_173 (by decide) ?_
  refine lv_iload_n hx hb dX10_init_148 rfl (lv_at hl 0 rfl) ?_
  refine gm_aload_nS C dX10_init_149 rfl (lv_at hl 1 rfl) ?_
  refine gm_getR (G := (gm_T gm_SC (93))) (u := u48) (r := 1) (ci := 9) (k := 9) C hw rfl fl_X10_57 dX10_init_150 rfl ?_
  refine gm_topRS (y := 38) (by simp only [e_u48, e_u47, e_u46, e_u45, e_u44, e_u43, e_u42, e_u41, e_u40, e_u39, e_u38, e_u37, e_u36, e_u35, e_u34, e_u33, e_u32, e_u31, e_u30, e_u29, e_u28, e_u27, e_u26, e_u25, e_u24, e_u23, e_u22, e_u21, e_u20, e_u19, e_u18, e_u17, e_u16, e_u15, e_u14, e_u13, e_u12, e_u11, e_u10, e_u9, e_u8, e_u7, e_u6, e_u5, e_u4, e_u3, e_u2, e_u1, e_u]; rfl) ?_
  refine gm_alen (G := (gm_T gm_SC (93))) (u := u48) (r := 38) (t := 4) (n := 16) (v := 16) C hw rfl (by decide) (by decide) dX10_init_153 ?_
  refine lv_icmp_ge (tgt := 176) hx hb dX10_init_154 (by decide) (fun hc => ?_) (fun hc => ?_)
  · exact absurd hc (by decide)
  refine gm_aload_nS C dX10_init_157 rfl (lv_at hl 1 rfl) ?_
  refine gm_getR (G := (gm_T gm_SC (93))) (u := u48) (r := 1) (ci := 9) (k := 9) C hw rfl fl_X10_57 dX10_init_158 rfl ?_
  refine gm_topRS (y := 38) (by simp only [e_u48, e_u47, e_u46, e_u45, e_u44, e_u43, e_u42, e_u41, e_u40, e_u39, e_u38, e_u37, e_u36, e_u35, e_u34, e_u33, e_u32, e_u31, e_u30, e_u29, e_u28, e_u27, e_u26, e_u25, e_u24, e_u23, e_u22, e_u21, e_u20, e_u19, e_u18, e_u17, e_u16, e_u15, e_u14, e_u13, e_u12, e_u11, e_u10, e_u9, e_u8, e_u7, e_u6, e_u5, e_u4, e_u3, e_u2, e_u1, e_u]; rfl) ?_
  refine lv_iload_n hx hb dX10_init_161 rfl (lv_at hl 0 rfl) ?_
  refine gm_size (n := 92) hw (by omega) hB (by omega) (fun hsz => ?_)
  have hsz : H.size = B + (93) := by omega
  refine gm_newS (S := gm_SC) (n := 93) (ci := 0) (T := TX1) (N := 7) (ty := tyX1) C hw hz hB hsz rfl rfl wq_255 wq_256 wq_95 us_X1 tyX1_ok df_X1 (by omega) (by omega) dX10_init_162 (fun H hw => ?_)
  have hz := hz.up (Nat.le_succ _)
  refine lv_dup hx hb dX10_init_165 (gm_cat _ _) ?_
  refine gm_size (n := 93) hw (by omega) hB (by omega) (fun hsz => ?_)
  have hsz : H.size = B + (94) := by omega
  refine gm_callIN (n := 94) (n' := 97) (u := u48) (u' := cu_X1_init (93) u48) (r := 93) (As := []) (rest := [rv Z (94), .int (12 : Int32), rv Z (38)]) C hU hw hB hsz (by omega) hl (ct_X1_init l Z B (93) u48 hB hz rfl rfl rfl rfl (by omega)) mb_X10_38 wq_95 cd_X1_init (by decide +kernel) rfl im_X1_init ⟨(by omega : 1 + 1 ≤ R.frames), (by omega : 8 + (1 + 11) + 20 ≤ R.locals)⟩ ⟨(by omega : 93 + 3 ≤ R.cells), (by omega : 3779 + 18 ≤ R.slots)⟩ rfl rfl (Nat.le_of_ble_eq_true rfl) dX10_init_166 (fun H locs hw => ?_)
  show W p l e R s m args below meth c H locs 96 3797 Q _
  obtain ⟨u49, e_u49⟩ : ∃ x, x = cu_X1_init (93) u48 := ⟨_, rfl⟩
  rw [← e_u49] at hw
  have hz : gm_z (97) u49 := by rw [e_u49]; exact cz_X1_init _ _ hz
  refine gm_aast (G := (gm_T gm_SC (97))) (u := u49) (r := 38) (n := 16) (q := 94) (i := 12) C hw rfl rfl (by decide) (j := 12) (by decide) dX10_init_169 (fun H locs hw => ?_)
  obtain ⟨u50, e_u50⟩ : ∃ x, x = sR u49 (38) 12 (94) := ⟨_, rfl⟩
  rw [← e_u50] at hw
  have hz : gm_z (97) u50 := by rw [e_u50]; exact gm_zR hz (by omega)
  refine lv_iinc (v := 13) (lv' := [(1, .int (13 : Int32)), (0, rv Z (1))]) hx hb dX10_init_170 hl (k := 0) rfl (by decide) (by decide) rfl (fun ls hl => ?_)
  refine lv_goto (tgt := 148) hx hb dX10_init_173 (by decide) ?_
  refine lv_iload_n hx hb dX10_init_148 rfl (lv_at hl 0 rfl) ?_
  refine gm_aload_nS C dX10_init_149 rfl (lv_at hl 1 rfl) ?_
  refine gm_getR (G := (gm_T gm_SC (97))) (u := u50) (r := 1) (ci := 9) (k := 9) C hw rfl fl_X10_57 dX10_init_150 rfl ?_
  refine gm_topRS (y := 38) (by simp only [e_u50, e_u49, e_u48, e_u47, e_u46, e_u45, e_u44, e_u43, e_u42, e_u41, e_u40, e_u39, e_u38, e_u37, e_u36, e_u35, e_u34, e_u33, e_u32, e_u31, e_u30, e_u29, e_u28, e_u27, e_u26, e_u25, e_u24, e_u23, e_u22, e_u21, e_u20, e_u19, e_u18, e_u17, e_u16, e_u15, e_u14, e_u13, e_u12, e_u11, e_u10, e_u9, e_u8, e_u7, e_u6, e_u5, e_u4, e_u3, e_u2, e_u1, e_u]; rfl) ?_
  refine gm_alen (G := (gm_T gm_SC (97))) (u := u50) (r := 38) (t := 4) (n := 16) (v := 16) C hw rfl (by decide) (by decide) dX10_init_153 ?_
  refine lv_icmp_ge (tgt := 176) hx hb dX10_init_154 (by decide) (fun hc => ?_) (fun hc => ?_)
  · exact absurd hc (by decide)
  refine gm_aload_nS C dX10_init_157 rfl (lv_at hl 1 rfl) ?_
  refine gm_getR (G := (gm_T gm_SC (97))) (u := u50) (r := 1) (ci := 9) (k := 9) C hw rfl fl_X10_57 dX10_init_158 rfl ?_
  refine gm_topRS (y := 38) (by simp only [e_u50, e_u49, e_u48, e_u47, e_u46, e_u45, e_u44, e_u43, e_u42, e_u41, e_u40, e_u39, e_u38, e_u37, e_u36, e_u35, e_u34, e_u33, e_u32, e_u31, e_u30, e_u29, e_u28, e_u27, e_u26, e_u25, e_u24, e_u23, e_u22, e_u21, e_u20, e_u19, e_u18, e_u17, e_u16, e_u15, e_u14, e_u13, e_u12, e_u11, e_u10, e_u9, e_u8, e_u7, e_u6, e_u5, e_u4, e_u3, e_u2, e_u1, e_u]; rfl) ?_
  refine lv_iload_n hx hb dX10_init_161 rfl (lv_at hl 0 rfl) ?_
  refine gm_size (n := 96) hw (by omega) hB (by omega) (fun hsz => ?_)
  have hsz : H.size = B + (97) := by omega
  refine gm_newS (S := gm_SC) (n := 97) (ci := 0) (T := TX1) (N := 7) (ty := tyX1) C hw hz hB hsz rfl rfl wq_255 wq_256 wq_95 us_X1 tyX1_ok df_X1 (by omega) (by omega) dX10_init_162 (fun H hw => ?_)
  have hz := hz.up (Nat.le_succ _)
  refine lv_dup hx hb dX10_init_165 (gm_cat _ _) ?_
  refine gm_size (n := 97) hw (by omega) hB (by omega) (fun hsz => ?_)
  have hsz : H.size = B + (98) := by omega
  refine gm_callIN (n := 98) (n' := 101) (u := u50) (u' := cu_X1_init (97) u50) (r := 97) (As := []) (rest := [rv Z (98), .int (13 : Int32), rv Z (38)]) C hU hw hB hsz (by omega) hl (ct_X1_init l Z B (97) u50 hB hz rfl rfl rfl rfl (by omega)) mb_X10_38 wq_95 cd_X1_init (by decide +kernel) rfl im_X1_init ⟨(by omega : 1 + 1 ≤ R.frames), (by omega : 8 + (1 + 11) + 20 ≤ R.locals)⟩ ⟨(by omega : 97 + 3 ≤ R.cells), (by omega : 3804 + 18 ≤ R.slots)⟩ rfl rfl (Nat.le_of_ble_eq_true rfl) dX10_init_166 (fun H locs hw => ?_)
  show W p l e R s m args below meth c H locs 100 3822 Q _
  obtain ⟨u51, e_u51⟩ : ∃ x, x = cu_X1_init (97) u50 := ⟨_, rfl⟩
  rw [← e_u51] at hw
  have hz : gm_z (101) u51 := by rw [e_u51]; exact cz_X1_init _ _ hz
  refine gm_aast (G := (gm_T gm_SC (101))) (u := u51) (r := 38) (n := 16) (q := 98) (i := 13) C hw rfl rfl (by decide) (j := 13) (by decide) dX10_init_169 (fun H locs hw => ?_)
  obtain ⟨u52, e_u52⟩ : ∃ x, x = sR u51 (38) 13 (98) := ⟨_, rfl⟩
  rw [← e_u52] at hw
  have hz : gm_z (101) u52 := by rw [e_u52]; exact gm_zR hz (by omega)
  refine lv_iinc (v := 14) (lv' := [(1, .int (14 : Int32)), (0, rv Z (1))]) hx hb dX10_init_170 hl (k := 0) rfl (by decide) (by decide) rfl (fun ls hl => ?_)
  refine lv_goto (tgt := 148) hx hb dX10_init_173 (by decide) ?_
  refine lv_iload_n hx hb dX10_init_148 rfl (lv_at hl 0 rfl) ?_
  refine gm_aload_nS C dX10_init_149 rfl (lv_at hl 1 rfl) ?_
  refine gm_getR (G := (gm_T gm_SC (101))) (u := u52) (r := 1) (ci := 9) (k := 9) C hw rfl fl_X10_57 dX10_init_150 rfl ?_
  refine gm_topRS (y := 38) (by simp only [e_u52, e_u51, e_u50, e_u49, e_u48, e_u47, e_u46, e_u45, e_u44, e_u43, e_u42, e_u41, e_u40, e_u39, e_u38, e_u37, e_u36, e_u35, e_u34, e_u33, e_u32, e_u31, e_u30, e_u29, e_u28, e_u27, e_u26, e_u25, e_u24, e_u23, e_u22, e_u21, e_u20, e_u19, e_u18, e_u17, e_u16, e_u15, e_u14, e_u13, e_u12, e_u11, e_u10, e_u9, e_u8, e_u7, e_u6, e_u5, e_u4, e_u3, e_u2, e_u1, e_u]; rfl) ?_
  refine gm_alen (G := (gm_T gm_SC (101))) (u := u52) (r := 38) (t := 4) (n := 16) (v := 16) C hw rfl (by decide) (by decide) dX10_init_153 ?_
  refine lv_icmp_ge (tgt := 176) hx hb dX10_init_154 (by decide) (fun hc => ?_) (fun hc => ?_)
  · exact absurd hc (by decide)
  refine gm_aload_nS C dX10_init_157 rfl (lv_at hl 1 rfl) ?_
  refine gm_getR (G := (gm_T gm_SC (101))) (u := u52) (r := 1) (ci := 9) (k := 9) C hw rfl fl_X10_57 dX10_init_158 rfl ?_
  refine gm_topRS (y := 38) (by simp only [e_u52, e_u51, e_u50, e_u49, e_u48, e_u47, e_u46, e_u45, e_u44, e_u43, e_u42, e_u41, e_u40, e_u39, e_u38, e_u37, e_u36, e_u35, e_u34, e_u33, e_u32, e_u31, e_u30, e_u29, e_u28, e_u27, e_u26, e_u25, e_u24, e_u23, e_u22, e_u21, e_u20, e_u19, e_u18, e_u17, e_u16, e_u15, e_u14, e_u13, e_u12, e_u11, e_u10, e_u9, e_u8, e_u7, e_u6, e_u5, e_u4, e_u3, e_u2, e_u1, e_u]; rfl) ?_
  refine lv_iload_n hx hb dX10_init_161 rfl (lv_at hl 0 rfl) ?_
  refine gm_size (n := 100) hw (by omega) hB (by omega) (fun hsz => ?_)
  have hsz : H.size = B + (101) := by omega
  refine gm_newS (S := gm_SC) (n := 101) (ci := 0) (T := TX1) (N := 7) (ty := tyX1) C hw hz hB hsz rfl rfl wq_255 wq_256 wq_95 us_X1 tyX1_ok df_X1 (by omega) (by omega) dX10_init_162 (fun H hw => ?_)
  have hz := hz.up (Nat.le_succ _)
  refine lv_dup hx hb dX10_init_165 (gm_cat _ _) ?_
  refine gm_size (n := 101) hw (by omega) hB (by omega) (fun hsz => ?_)
  have hsz : H.size = B + (102) := by omega
  refine gm_callIN (n := 102) (n' := 105) (u := u52) (u' := cu_X1_init (101) u52) (r := 101) (As := []) (rest := [rv Z (102), .int (14 : Int32), rv Z (38)]) C hU hw hB hsz (by omega) hl (ct_X1_init l Z B (101) u52 hB hz rfl rfl rfl rfl (by omega)) mb_X10_38 wq_95 cd_X1_init (by decide +kernel) rfl im_X1_init ⟨(by omega : 1 + 1 ≤ R.frames), (by omega : 8 + (1 + 11) + 20 ≤ R.locals)⟩ ⟨(by omega : 101 + 3 ≤ R.cells), (by omega : 3829 + 18 ≤ R.slots)⟩ rfl rfl (Nat.le_of_ble_eq_true rfl) dX10_init_166 (fun H locs hw => ?_)
  show W p l e R s m args below meth c H locs 104 3847 Q _
  obtain ⟨u53, e_u53⟩ : ∃ x, x = cu_X1_init (101) u52 := ⟨_, rfl⟩
  rw [← e_u53] at hw
  have hz : gm_z (105) u53 := by rw [e_u53]; exact cz_X1_init _ _ hz
  refine gm_aast (G := (gm_T gm_SC (105))) (u := u53) (r := 38) (n := 16) (q := 102) (i := 14) C hw rfl rfl (by decide) (j := 14) (by decide) dX10_init_169 (fun H locs hw => ?_)
  obtain ⟨u54, e_u54⟩ : ∃ x, x = sR u53 (38) 14 (102) := ⟨_, rfl⟩
  rw [← e_u54] at hw
  have hz : gm_z (105) u54 := by rw [e_u54]; exact gm_zR hz (by omega)
  refine lv_iinc (v := 15) (lv' := [(1, .int (15 : Int32)), (0, rv Z (1))]) hx hb dX10_init_170 hl (k := 0) rfl (by decide) (by decide) rfl (fun ls hl => ?_)
  refine lv_goto (tgt := 148) hx hb dX10_init_173 (by decide) ?_
  refine lv_iload_n hx hb dX10_init_148 rfl (lv_at hl 0 rfl) ?_
  refine gm_aload_nS C dX10_init_149 rfl (lv_at hl 1 rfl) ?_
  refine gm_getR (G := (gm_T gm_SC (105))) (u := u54) (r := 1) (ci := 9) (k := 9) C hw rfl fl_X10_57 dX10_init_150 rfl ?_
  refine gm_topRS (y := 38) (by simp only [e_u54, e_u53, e_u52, e_u51, e_u50, e_u49, e_u48, e_u47, e_u46, e_u45, e_u44, e_u43, e_u42, e_u41, e_u40, e_u39, e_u38, e_u37, e_u36, e_u35, e_u34, e_u33, e_u32, e_u31, e_u30, e_u29, e_u28, e_u27, e_u26, e_u25, e_u24, e_u23, e_u22, e_u21, e_u20, e_u19, e_u18, e_u17, e_u16, e_u15, e_u14, e_u13, e_u12, e_u11, e_u10, e_u9, e_u8, e_u7, e_u6, e_u5, e_u4, e_u3, e_u2, e_u1, e_u]; rfl) ?_
  refine gm_alen (G := (gm_T gm_SC (105))) (u := u54) (r := 38) (t := 4) (n := 16) (v := 16) C hw rfl (by decide) (by decide) dX10_init_153 ?_
  refine lv_icmp_ge (tgt := 176) hx hb dX10_init_154 (by decide) (fun hc => ?_) (fun hc => ?_)
  · exact absurd hc (by decide)
  refine gm_aload_nS C dX10_init_157 rfl (lv_at hl 1 rfl) ?_
  refine gm_getR (G := (gm_T gm_SC (105))) (u := u54) (r := 1) (ci := 9) (k := 9) C hw rfl fl_X10_57 dX10_init_158 rfl ?_
  refine gm_topRS (y := 38) (by simp only [e_u54, e_u53, e_u52, e_u51, e_u50, e_u49, e_u48, e_u47, e_u46, e_u45, e_u44, e_u43, e_u42, e_u41, e_u40, e_u39, e_u38, e_u37, e_u36, e_u35, e_u34, e_u33, e_u32, e_u31, e_u30, e_u29, e_u28, e_u27, e_u26, e_u25, e_u24, e_u23, e_u22, e_u21, e_u20, e_u19, e_u18, e_u17, e_u16, e_u15, e_u14, e_u13, e_u12, e_u11, e_u10, e_u9, e_u8, e_u7, e_u6, e_u5, e_u4, e_u3, e_u2, e_u1, e_u]; rfl) ?_
  refine lv_iload_n hx hb dX10_init_161 rfl (lv_at hl 0 rfl) ?_
  refine gm_size (n := 104) hw (by omega) hB (by omega) (fun hsz => ?_)
  have hsz : H.size = B + (105) := by omega
  refine gm_newS (S := gm_SC) (n := 105) (ci := 0) (T := TX1) (N := 7) (ty := tyX1) C hw hz hB hsz rfl rfl wq_255 wq_256 wq_95 us_X1 tyX1_ok df_X1 (by omega) (by omega) dX10_init_162 (fun H hw => ?_)
  have hz := hz.up (Nat.le_succ _)
  refine lv_dup hx hb dX10_init_165 (gm_cat _ _) ?_
  refine gm_size (n := 105) hw (by omega) hB (by omega) (fun hsz => ?_)
  have hsz : H.size = B + (106) := by omega
  refine gm_callIN (n := 106) (n' := 109) (u := u54) (u' := cu_X1_init (105) u54) (r := 105) (As := []) (rest := [rv Z (106), .int (15 : Int32), rv Z (38)]) C hU hw hB hsz (by omega) hl (ct_X1_init l Z B (105) u54 hB hz rfl rfl rfl rfl (by omega)) mb_X10_38 wq_95 cd_X1_init (by decide +kernel) rfl im_X1_init ⟨(by omega : 1 + 1 ≤ R.frames), (by omega : 8 + (1 + 11) + 20 ≤ R.locals)⟩ ⟨(by omega : 105 + 3 ≤ R.cells), (by omega : 3854 + 18 ≤ R.slots)⟩ rfl rfl (Nat.le_of_ble_eq_true rfl) dX10_init_166 (fun H locs hw => ?_)
  show W p l e R s m args below meth c H locs 108 3872 Q _
  obtain ⟨u55, e_u55⟩ : ∃ x, x = cu_X1_init (105) u54 := ⟨_, rfl⟩
  rw [← e_u55] at hw
  have hz : gm_z (109) u55 := by rw [e_u55]; exact cz_X1_init _ _ hz
  refine gm_aast (G := (gm_T gm_SC (109))) (u := u55) (r := 38) (n := 16) (q := 106) (i := 15) C hw rfl rfl (by decide) (j := 15) (by decide) dX10_init_169 (fun H locs hw => ?_)
  obtain ⟨u56, e_u56⟩ : ∃ x, x = sR u55 (38) 15 (106) := ⟨_, rfl⟩
  rw [← e_u56] at hw
  have hz : gm_z (109) u56 := by rw [e_u56]; exact gm_zR hz (by omega)
  refine lv_iinc (v := 16) (lv' := [(1, .int (16 : Int32)), (0, rv Z (1))]) hx hb dX10_init_170 hl (k := 0) rfl (by decide) (by decide) rfl (fun ls hl => ?_)
  refine lv_goto (tgt := 148) hx hb dX10_init_173 (by decide) ?_
  refine lv_iload_n hx hb dX10_init_148 rfl (lv_at hl 0 rfl) ?_
  refine gm_aload_nS C dX10_init_149 rfl (lv_at hl 1 rfl) ?_
  refine gm_getR (G := (gm_T gm_SC (109))) (u := u56) (r := 1) (ci := 9) (k := 9) C hw rfl fl_X10_57 dX10_init_150 rfl ?_
  refine gm_topRS (y := 38) (by simp only [e_u56, e_u55, e_u54, e_u53, e_u52, e_u51, e_u50, e_u49, e_u48, e_u47, e_u46, e_u45, e_u44, e_u43, e_u42, e_u41, e_u40, e_u39, e_u38, e_u37, e_u36, e_u35, e_u34, e_u33, e_u32, e_u31, e_u30, e_u29, e_u28, e_u27, e_u26, e_u25, e_u24, e_u23, e_u22, e_u21, e_u20, e_u19, e_u18, e_u17, e_u16, e_u15, e_u14, e_u13, e_u12, e_u11, e_u10, e_u9, e_u8, e_u7, e_u6, e_u5, e_u4, e_u3, e_u2, e_u1, e_u]; rfl) ?_
  refine gm_alen (G := (gm_T gm_SC (109))) (u := u56) (r := 38) (t := 4) (n := 16) (v := 16) C hw rfl (by decide) (by decide) dX10_init_153 ?_
  refine lv_icmp_ge (tgt := 176) hx hb dX10_init_154 (by decide) (fun hc => ?_) (fun hc => ?_)
  rotate_left
  · exact absurd (by decide) hc
  refine lv_iconst (v := 0) hx hb dX10_init_176 (by decide) ?_
  refine lv_istore_n (i := 1) (lv' := [(1, .int (0 : Int32)), (0, rv Z (1))]) hx hb dX10_init_177 rfl hl (by decide) rfl (fun ls hl => ?_)
  refine lv_iload_n hx hb dX10_init_178 rfl (lv_at hl 0 rfl) ?_
  refine gm_aload_nS C dX10_init_179 rfl (lv_at hl 1 rfl) ?_
  refine gm_getR (G := (gm_T gm_SC (109))) (u := u56) (r := 1) (ci := 9) (k := 11) C hw rfl fl_X10_67 dX10_init_180 rfl ?_
  refine gm_topRS (y := 39) (by simp only [e_u56, e_u55, e_u54, e_u53, e_u52, e_u51, e_u50, e_u49, e_u48, e_u47, e_u46, e_u45, e_u44, e_u43, e_u42, e_u41, e_u40, e_u39, e_u38, e_u37, e_u36, e_u35, e_u34, e_u33, e_u32, e_u31, e_u30, e_u29, e_u28, e_u27, e_u26, e_u25, e_u24, e_u23, e_u22, e_u21, e_u20, e_u19, e_u18, e_u17, e_u16, e_u15, e_u14, e_u13, e_u12, e_u11, e_u10, e_u9, e_u8, e_u7, e_u6, e_u5, e_u4, e_u3, e_u2, e_u1, e_u]; rfl) ?_
  refine gm_alen (G := (gm_T gm_SC (109))) (u := u56) (r := 39) (t := 5) (n := 4) (v := 4) C hw rfl (by decide) (by decide) dX10_init_183 ?_
  refine lv_icmp_ge (tgt := 206) hx hb dX10_init_184 (by decide) (fun hc => ?_) (fun hc => ?_)
  · exact absurd hc (by decide)
  refine gm_aload_nS C dX10_init_187 rfl (lv_at hl 1 rfl) ?_
  refine gm_getR (G := (gm_T gm_SC (109))) (u := u56) (r := 1) (ci := 9) (k := 11) C hw rfl fl_X10_67 dX10_init_188 rfl ?_
  refine gm_topRS (y := 39) (by simp only [e_u56, e_u55, e_u54, e_u53, e_u52, e_u51, e_u50, e_u49, e_u48, e_u47, e_u46, e_u45, e_u44, e_u43, e_u42, e_u41, e_u40, e_u39, e_u38, e_u37, e_u36, e_u35, e_u34, e_u33, e_u32, e_u31, e_u30, e_u29, e_u28, e_u27, e_u26, e_u25, e_u24, e_u23, e_u22, e_u21, e_u20, e_u19, e_u18, e_u17, e_u16, e_u15, e_u14, e_u13, e_u12, e_u11, e_u10, e_u9, e_u8, e_u7, e_u6, e_u5, e_u4, e_u3, e_u2, e_u1, e_u]; rfl) ?_
  refine lv_iload_n hx hb dX10_init_191 rfl (lv_at hl 0 rfl) ?_
  refine gm_size (n := 108) hw (by omega) hB (by omega) (fun hsz => ?_)
  have hsz : H.size = B + (109) := by omega
  refine gm_newS (S := gm_SC) (n := 109) (ci := 3) (T := TX4) (N := 4) (ty := tyX4) C hw hz hB hsz rfl rfl wq_338 wq_340 wq_98 us_X4 tyX4_ok df_X4 (by omega) (by omega) dX10_init_192 (fun H hw => ?_)
  have hz := hz.up (Nat.le_succ _)
  refine lv_dup hx hb dX10_init_195 (gm_cat _ _) ?_
  refine gm_size (n := 109) hw (by omega) hB (by omega) (fun hsz => ?_)
  have hsz : H.size = B + (110) := by omega
  refine gm_callIN (n := 110) (n' := 121) (u := u56) (u' := cu_X4_init (109) u56) (r := 109) (As := []) (rest := [rv Z (110), .int (0 : Int32), rv Z (39)]) C hU hw hB hsz (by omega) hl (ct_X4_init l Z B (109) u56 hB hz rfl rfl rfl rfl rfl rfl rfl rfl rfl rfl rfl rfl (by omega)) mb_X10_85 wq_98 cd_X4_init (by decide +kernel) rfl im_X4_init ⟨(by omega : 2 + 1 ≤ R.frames), (by omega : 8 + (1 + 11) + 40 ≤ R.locals)⟩ ⟨(by omega : 109 + 11 ≤ R.cells), (by omega : 3876 + 169 ≤ R.slots)⟩ rfl rfl (Nat.le_of_ble_eq_true rfl) dX10_init_196 (fun H locs hw => ?_)
  show W p l e R s m args below meth c H locs 120 4045 Q _
  obtain ⟨u57, e_u57⟩ : ∃ x, x = cu_X4_init (109) u56 := ⟨_, rfl⟩
  rw [← e_u57] at hw
  have hz : gm_z (121) u57 := by rw [e_u57]; exact cz_X4_init _ _ hz
  refine gm_aast5 (G := (gm_T gm_SC (121))) (u := u57) (r := 39) (n := 4) (q := 110) (i := 0) C hw rfl rfl (by decide) (j := 0) (by decide) dX10_init_199 (fun H locs hw => ?_)
  obtain ⟨u58, e_u58⟩ : ∃ x, x = sR u57 (39) 0 (110) := ⟨_, rfl⟩
  rw [← e_u58] at hw
  have hz : gm_z (121) u58 := by rw [e_u58]; exact gm_zR hz (by omega)
  refine lv_iinc (v := 1) (lv' := [(1, .int (1 : Int32)), (0, rv Z (1))]) hx hb dX10_init_200 hl (k := 0) rfl (by decide) (by decide) rfl (fun ls hl => ?_)
  refine lv_goto (tgt := 178) hx hb dX10_init_203 (by decide) ?_
  refine lv_iload_n hx hb dX10_init_178 rfl (lv_at hl 0 rfl) ?_
  refine gm_aload_nS C dX10_init_179 rfl (lv_at hl 1 rfl) ?_
  refine gm_getR (G := (gm_T gm_SC (121))) (u := u58) (r := 1) (ci := 9) (k := 11) C hw rfl fl_X10_67 dX10_init_180 rfl ?_
  refine gm_topRS (y := 39) (by simp only [e_u58, e_u57, e_u56, e_u55, e_u54, e_u53, e_u52, e_u51, e_u50, e_u49, e_u48, e_u47, e_u46, e_u45, e_u44, e_u43, e_u42, e_u41, e_u40, e_u39, e_u38, e_u37, e_u36, e_u35, e_u34, e_u33, e_u32, e_u31, e_u30, e_u29, e_u28, e_u27, e_u26, e_u25, e_u24, e_u23, e_u22, e_u21, e_u20, e_u19, e_u18, e_u17, e_u16, e_u15, e_u14, e_u13, e_u12, e_u11, e_u10, e_u9, e_u8, e_u7, e_u6, e_u5, e_u4, e_u3, e_u2, e_u1, e_u]; rfl) ?_
  refine gm_alen (G := (gm_T gm_SC (121))) (u := u58) (r := 39) (t := 5) (n := 4) (v := 4) C hw rfl (by decide) (by decide) dX10_init_183 ?_
  refine lv_icmp_ge (tgt := 206) hx hb dX10_init_184 (by decide) (fun hc => ?_) (fun hc => ?_)
  · exact absurd hc (by decide)
  refine gm_aload_nS C dX10_init_187 rfl (lv_at hl 1 rfl) ?_
  refine gm_getR (G := (gm_T gm_SC (121))) (u := u58) (r := 1) (ci := 9) (k := 11) C hw rfl fl_X10_67 dX10_init_188 rfl ?_
  refine gm_topRS (y := 39) (by simp only [e_u58, e_u57, e_u56, e_u55, e_u54, e_u53, e_u52, e_u51, e_u50, e_u49, e_u48, e_u47, e_u46, e_u45, e_u44, e_u43, e_u42, e_u41, e_u40, e_u39, e_u38, e_u37, e_u36, e_u35, e_u34, e_u33, e_u32, e_u31, e_u30, e_u29, e_u28, e_u27, e_u26, e_u25, e_u24, e_u23, e_u22, e_u21, e_u20, e_u19, e_u18, e_u17, e_u16, e_u15, e_u14, e_u13, e_u12, e_u11, e_u10, e_u9, e_u8, e_u7, e_u6, e_u5, e_u4, e_u3, e_u2, e_u1, e_u]; rfl) ?_
  refine lv_iload_n hx hb dX10_init_191 rfl (lv_at hl 0 rfl) ?_
  refine gm_size (n := 120) hw (by omega) hB (by omega) (fun hsz => ?_)
  have hsz : H.size = B + (121) := by omega
  refine gm_newS (S := gm_SC) (n := 121) (ci := 3) (T := TX4) (N := 4) (ty := tyX4) C hw hz hB hsz rfl rfl wq_338 wq_340 wq_98 us_X4 tyX4_ok df_X4 (by omega) (by omega) dX10_init_192 (fun H hw => ?_)
  have hz := hz.up (Nat.le_succ _)
  refine lv_dup hx hb dX10_init_195 (gm_cat _ _) ?_
  refine gm_size (n := 121) hw (by omega) hB (by omega) (fun hsz => ?_)
  have hsz : H.size = B + (122) := by omega
  refine gm_callIN (n := 122) (n' := 133) (u := u58) (u' := cu_X4_init (121) u58) (r := 121) (As := []) (rest := [rv Z (122), .int (1 : Int32), rv Z (39)]) C hU hw hB hsz (by omega) hl (ct_X4_init l Z B (121) u58 hB hz rfl rfl rfl rfl rfl rfl rfl rfl rfl rfl rfl rfl (by omega)) mb_X10_85 wq_98 cd_X4_init (by decide +kernel) rfl im_X4_init ⟨(by omega : 2 + 1 ≤ R.frames), (by omega : 8 + (1 + 11) + 40 ≤ R.locals)⟩ ⟨(by omega : 121 + 11 ≤ R.cells), (by omega : 4049 + 169 ≤ R.slots)⟩ rfl rfl (Nat.le_of_ble_eq_true rfl) dX10_init_196 (fun H locs hw => ?_)
  show W p l e R s m args below meth c H locs 132 4218 Q _
  obtain ⟨u59, e_u59⟩ : ∃ x, x = cu_X4_init (121) u58 := ⟨_, rfl⟩
  rw [← e_u59] at hw
  have hz : gm_z (133) u59 := by rw [e_u59]; exact cz_X4_init _ _ hz
  refine gm_aast5 (G := (gm_T gm_SC (133))) (u := u59) (r := 39) (n := 4) (q := 122) (i := 1) C hw rfl rfl (by decide) (j := 1) (by decide) dX10_init_199 (fun H locs hw => ?_)
  obtain ⟨u60, e_u60⟩ : ∃ x, x = sR u59 (39) 1 (122) := ⟨_, rfl⟩
  rw [← e_u60] at hw
  have hz : gm_z (133) u60 := by rw [e_u60]; exact gm_zR hz (by omega)
  refine lv_iinc (v := 2) (lv' := [(1, .int (2 : Int32)), (0, rv Z (1))]) hx hb dX10_init_200 hl (k := 0) rfl (by decide) (by decide) rfl (fun ls hl => ?_)
  refine lv_goto (tgt := 178) hx hb dX10_init_203 (by decide) ?_
  refine lv_iload_n hx hb dX10_init_178 rfl (lv_at hl 0 rfl) ?_
  refine gm_aload_nS C dX10_init_179 rfl (lv_at hl 1 rfl) ?_
  refine gm_getR (G := (gm_T gm_SC (133))) (u := u60) (r := 1) (ci := 9) (k := 11) C hw rfl fl_X10_67 dX10_init_180 rfl ?_
  refine gm_topRS (y := 39) (by simp only [e_u60, e_u59, e_u58, e_u57, e_u56, e_u55, e_u54, e_u53, e_u52, e_u51, e_u50, e_u49, e_u48, e_u47, e_u46, e_u45, e_u44, e_u43, e_u42, e_u41, e_u40, e_u39, e_u38, e_u37, e_u36, e_u35, e_u34, e_u33, e_u32, e_u31, e_u30, e_u29, e_u28, e_u27, e_u26, e_u25, e_u24, e_u23, e_u22, e_u21, e_u20, e_u19, e_u18, e_u17, e_u16, e_u15, e_u14, e_u13, e_u12, e_u11, e_u10, e_u9, e_u8, e_u7, e_u6, e_u5, e_u4, e_u3, e_u2, e_u1, e_u]; rfl) ?_
  refine gm_alen (G := (gm_T gm_SC (133))) (u := u60) (r := 39) (t := 5) (n := 4) (v := 4) C hw rfl (by decide) (by decide) dX10_init_183 ?_
  refine lv_icmp_ge (tgt := 206) hx hb dX10_init_184 (by decide) (fun hc => ?_) (fun hc => ?_)
  · exact absurd hc (by decide)
  refine gm_aload_nS C dX10_init_187 rfl (lv_at hl 1 rfl) ?_
  refine gm_getR (G := (gm_T gm_SC (133))) (u := u60) (r := 1) (ci := 9) (k := 11) C hw rfl fl_X10_67 dX10_init_188 rfl ?_
  refine gm_topRS (y := 39) (by simp only [e_u60, e_u59, e_u58, e_u57, e_u56, e_u55, e_u54, e_u53, e_u52, e_u51, e_u50, e_u49, e_u48, e_u47, e_u46, e_u45, e_u44, e_u43, e_u42, e_u41, e_u40, e_u39, e_u38, e_u37, e_u36, e_u35, e_u34, e_u33, e_u32, e_u31, e_u30, e_u29, e_u28, e_u27, e_u26, e_u25, e_u24, e_u23, e_u22, e_u21, e_u20, e_u19, e_u18, e_u17, e_u16, e_u15, e_u14, e_u13, e_u12, e_u11, e_u10, e_u9, e_u8, e_u7, e_u6, e_u5, e_u4, e_u3, e_u2, e_u1, e_u]; rfl) ?_
  refine lv_iload_n hx hb dX10_init_191 rfl (lv_at hl 0 rfl) ?_
  refine gm_size (n := 132) hw (by omega) hB (by omega) (fun hsz => ?_)
  have hsz : H.size = B + (133) := by omega
  refine gm_newS (S := gm_SC) (n := 133) (ci := 3) (T := TX4) (N := 4) (ty := tyX4) C hw hz hB hsz rfl rfl wq_338 wq_340 wq_98 us_X4 tyX4_ok df_X4 (by omega) (by omega) dX10_init_192 (fun H hw => ?_)
  have hz := hz.up (Nat.le_succ _)
  refine lv_dup hx hb dX10_init_195 (gm_cat _ _) ?_
  refine gm_size (n := 133) hw (by omega) hB (by omega) (fun hsz => ?_)
  have hsz : H.size = B + (134) := by omega
  refine gm_callIN (n := 134) (n' := 145) (u := u60) (u' := cu_X4_init (133) u60) (r := 133) (As := []) (rest := [rv Z (134), .int (2 : Int32), rv Z (39)]) C hU hw hB hsz (by omega) hl (ct_X4_init l Z B (133) u60 hB hz rfl rfl rfl rfl rfl rfl rfl rfl rfl rfl rfl rfl (by omega)) mb_X10_85 wq_98 cd_X4_init (by decide +kernel) rfl im_X4_init ⟨(by omega : 2 + 1 ≤ R.frames), (by omega : 8 + (1 + 11) + 40 ≤ R.locals)⟩ ⟨(by omega : 133 + 11 ≤ R.cells), (by omega : 4222 + 169 ≤ R.slots)⟩ rfl rfl (Nat.le_of_ble_eq_true rfl) dX10_init_196 (fun H locs hw => ?_)
  show W p l e R s m args below meth c H locs 144 4391 Q _
  obtain ⟨u61, e_u61⟩ : ∃ x, x = cu_X4_init (133) u60 := ⟨_, rfl⟩
  rw [← e_u61] at hw
  have hz : gm_z (145) u61 := by rw [e_u61]; exact cz_X4_init _ _ hz
  refine gm_aast5 (G := (gm_T gm_SC (145))) (u := u61) (r := 39) (n := 4) (q := 134) (i := 2) C hw rfl rfl (by decide) (j := 2) (by decide) dX10_init_199 (fun H locs hw => ?_)
  obtain ⟨u62, e_u62⟩ : ∃ x, x = sR u61 (39) 2 (134) := ⟨_, rfl⟩
  rw [← e_u62] at hw
  have hz : gm_z (145) u62 := by rw [e_u62]; exact gm_zR hz (by omega)
  refine lv_iinc (v := 3) (lv' := [(1, .int (3 : Int32)), (0, rv Z (1))]) hx hb dX10_init_200 hl (k := 0) rfl (by decide) (by decide) rfl (fun ls hl => ?_)
  refine lv_goto (tgt := 178) hx hb dX10_init_203 (by decide) ?_
  refine lv_iload_n hx hb dX10_init_178 rfl (lv_at hl 0 rfl) ?_
  refine gm_aload_nS C dX10_init_179 rfl (lv_at hl 1 rfl) ?_
  refine gm_getR (G := (gm_T gm_SC (145))) (u := u62) (r := 1) (ci := 9) (k := 11) C hw rfl fl_X10_67 dX10_init_180 rfl ?_
  refine gm_topRS (y := 39) (by simp only [e_u62, e_u61, e_u60, e_u59, e_u58, e_u57, e_u56, e_u55, e_u54, e_u53, e_u52, e_u51, e_u50, e_u49, e_u48, e_u47, e_u46, e_u45, e_u44, e_u43, e_u42, e_u41, e_u40, e_u39, e_u38, e_u37, e_u36, e_u35, e_u34, e_u33, e_u32, e_u31, e_u30, e_u29, e_u28, e_u27, e_u26, e_u25, e_u24, e_u23, e_u22, e_u21, e_u20, e_u19, e_u18, e_u17, e_u16, e_u15, e_u14, e_u13, e_u12, e_u11, e_u10, e_u9, e_u8, e_u7, e_u6, e_u5, e_u4, e_u3, e_u2, e_u1, e_u]; rfl) ?_
  refine gm_alen (G := (gm_T gm_SC (145))) (u := u62) (r := 39) (t := 5) (n := 4) (v := 4) C hw rfl (by decide) (by decide) dX10_init_183 ?_
  refine lv_icmp_ge (tgt := 206) hx hb dX10_init_184 (by decide) (fun hc => ?_) (fun hc => ?_)
  · exact absurd hc (by decide)
  refine gm_aload_nS C dX10_init_187 rfl (lv_at hl 1 rfl) ?_
  refine gm_getR (G := (gm_T gm_SC (145))) (u := u62) (r := 1) (ci := 9) (k := 11) C hw rfl fl_X10_67 dX10_init_188 rfl ?_
  refine gm_topRS (y := 39) (by simp only [e_u62, e_u61, e_u60, e_u59, e_u58, e_u57, e_u56, e_u55, e_u54, e_u53, e_u52, e_u51, e_u50, e_u49, e_u48, e_u47, e_u46, e_u45, e_u44, e_u43, e_u42, e_u41, e_u40, e_u39, e_u38, e_u37, e_u36, e_u35, e_u34, e_u33, e_u32, e_u31, e_u30, e_u29, e_u28, e_u27, e_u26, e_u25, e_u24, e_u23, e_u22, e_u21, e_u20, e_u19, e_u18, e_u17, e_u16, e_u15, e_u14, e_u13, e_u12, e_u11, e_u10, e_u9, e_u8, e_u7, e_u6, e_u5, e_u4, e_u3, e_u2, e_u1, e_u]; rfl) ?_
  refine lv_iload_n hx hb dX10_init_191 rfl (lv_at hl 0 rfl) ?_
  refine gm_size (n := 144) hw (by omega) hB (by omega) (fun hsz => ?_)
  have hsz : H.size = B + (145) := by omega
  refine gm_newS (S := gm_SC) (n := 145) (ci := 3) (T := TX4) (N := 4) (ty := tyX4) C hw hz hB hsz rfl rfl wq_338 wq_340 wq_98 us_X4 tyX4_ok df_X4 (by omega) (by omega) dX10_init_192 (fun H hw => ?_)
  have hz := hz.up (Nat.le_succ _)
  refine lv_dup hx hb dX10_init_195 (gm_cat _ _) ?_
  refine gm_size (n := 145) hw (by omega) hB (by omega) (fun hsz => ?_)
  have hsz : H.size = B + (146) := by omega
  refine gm_callIN (n := 146) (n' := 157) (u := u62) (u' := cu_X4_init (145) u62) (r := 145) (As := []) (rest := [rv Z (146), .int (3 : Int32), rv Z (39)]) C hU hw hB hsz (by omega) hl (ct_X4_init l Z B (145) u62 hB hz rfl rfl rfl rfl rfl rfl rfl rfl rfl rfl rfl rfl (by omega)) mb_X10_85 wq_98 cd_X4_init (by decide +kernel) rfl im_X4_init ⟨(by omega : 2 + 1 ≤ R.frames), (by omega : 8 + (1 + 11) + 40 ≤ R.locals)⟩ ⟨(by omega : 145 + 11 ≤ R.cells), (by omega : 4395 + 169 ≤ R.slots)⟩ rfl rfl (Nat.le_of_ble_eq_true rfl) dX10_init_196 (fun H locs hw => ?_)
  show W p l e R s m args below meth c H locs 156 4564 Q _
  obtain ⟨u63, e_u63⟩ : ∃ x, x = cu_X4_init (145) u62 := ⟨_, rfl⟩
  rw [← e_u63] at hw
  have hz : gm_z (157) u63 := by rw [e_u63]; exact cz_X4_init _ _ hz
  refine gm_aast5 (G := (gm_T gm_SC (157))) (u := u63) (r := 39) (n := 4) (q := 146) (i := 3) C hw rfl rfl (by decide) (j := 3) (by decide) dX10_init_199 (fun H locs hw => ?_)
  obtain ⟨u64, e_u64⟩ : ∃ x, x = sR u63 (39) 3 (146) := ⟨_, rfl⟩
  rw [← e_u64] at hw
  have hz : gm_z (157) u64 := by rw [e_u64]; exact gm_zR hz (by omega)
  refine lv_iinc (v := 4) (lv' := [(1, .int (4 : Int32)), (0, rv Z (1))]) hx hb dX10_init_200 hl (k := 0) rfl (by decide) (by decide) rfl (fun ls hl => ?_)
  refine lv_goto (tgt := 178) hx hb dX10_init_203 (by decide) ?_
  refine lv_iload_n hx hb dX10_init_178 rfl (lv_at hl 0 rfl) ?_
  refine gm_aload_nS C dX10_init_179 rfl (lv_at hl 1 rfl) ?_
  refine gm_getR (G := (gm_T gm_SC (157))) (u := u64) (r := 1) (ci := 9) (k := 11) C hw rfl fl_X10_67 dX10_init_180 rfl ?_
  refine gm_topRS (y := 39) (by simp only [e_u64, e_u63, e_u62, e_u61, e_u60, e_u59, e_u58, e_u57, e_u56, e_u55, e_u54, e_u53, e_u52, e_u51, e_u50, e_u49, e_u48, e_u47, e_u46, e_u45, e_u44, e_u43, e_u42, e_u41, e_u40, e_u39, e_u38, e_u37, e_u36, e_u35, e_u34, e_u33, e_u32, e_u31, e_u30, e_u29, e_u28, e_u27, e_u26, e_u25, e_u24, e_u23, e_u22, e_u21, e_u20, e_u19, e_u18, e_u17, e_u16, e_u15, e_u14, e_u13, e_u12, e_u11, e_u10, e_u9, e_u8, e_u7, e_u6, e_u5, e_u4, e_u3, e_u2, e_u1, e_u]; rfl) ?_
  refine gm_alen (G := (gm_T gm_SC (157))) (u := u64) (r := 39) (t := 5) (n := 4) (v := 4) C hw rfl (by decide) (by decide) dX10_init_183 ?_
  refine lv_icmp_ge (tgt := 206) hx hb dX10_init_184 (by decide) (fun hc => ?_) (fun hc => ?_)
  rotate_left
  · exact absurd (by decide) hc
  refine gm_aload_nS C dX10_init_206 rfl (lv_at hl 1 rfl) ?_
  refine gm_getR (G := (gm_T gm_SC (157))) (u := u64) (r := 1) (ci := 9) (k := 6) C hw rfl fl_X10_39 dX10_init_207 rfl ?_
  refine gm_topRS (y := 27) (by simp only [e_u64, e_u63, e_u62, e_u61, e_u60, e_u59, e_u58, e_u57, e_u56, e_u55, e_u54, e_u53, e_u52, e_u51, e_u50, e_u49, e_u48, e_u47, e_u46, e_u45, e_u44, e_u43, e_u42, e_u41, e_u40, e_u39, e_u38, e_u37, e_u36, e_u35, e_u34, e_u33, e_u32, e_u31, e_u30, e_u29, e_u28, e_u27, e_u26, e_u25, e_u24, e_u23, e_u22, e_u21, e_u20, e_u19, e_u18, e_u17, e_u16, e_u15, e_u14, e_u13, e_u12, e_u11, e_u10, e_u9, e_u8, e_u7, e_u6, e_u5, e_u4, e_u3, e_u2, e_u1, e_u]; rfl) ?_
  refine gm_aload_nS C dX10_init_210 rfl (lv_at hl 1 rfl) ?_
  refine gm_getR (G := (gm_T gm_SC (157))) (u := u64) (r := 1) (ci := 9) (k := 2) C hw rfl fl_X10_19 dX10_init_211 rfl ?_
  refine gm_topRS (y := 5) (by simp only [e_u64, e_u63, e_u62, e_u61, e_u60, e_u59, e_u58, e_u57, e_u56, e_u55, e_u54, e_u53, e_u52, e_u51, e_u50, e_u49, e_u48, e_u47, e_u46, e_u45, e_u44, e_u43, e_u42, e_u41, e_u40, e_u39, e_u38, e_u37, e_u36, e_u35, e_u34, e_u33, e_u32, e_u31, e_u30, e_u29, e_u28, e_u27, e_u26, e_u25, e_u24, e_u23, e_u22, e_u21, e_u20, e_u19, e_u18, e_u17, e_u16, e_u15, e_u14, e_u13, e_u12, e_u11, e_u10, e_u9, e_u8, e_u7, e_u6, e_u5, e_u4, e_u3, e_u2, e_u1, e_u]; rfl) ?_
  have hu : u64 = ck_X10_init := by simp only [e_u64, e_u63, e_u62, e_u61, e_u60, e_u59, e_u58, e_u57, e_u56, e_u55, e_u54, e_u53, e_u52, e_u51, e_u50, e_u49, e_u48, e_u47, e_u46, e_u45, e_u44, e_u43, e_u42, e_u41, e_u40, e_u39, e_u38, e_u37, e_u36, e_u35, e_u34, e_u33, e_u32, e_u31, e_u30, e_u29, e_u28, e_u27, e_u26, e_u25, e_u24, e_u23, e_u22, e_u21, e_u20, e_u19, e_u18, e_u17, e_u16, e_u15, e_u14, e_u13, e_u12, e_u11, e_u10, e_u9, e_u8, e_u7, e_u6, e_u5, e_u4, e_u3, e_u2, e_u1, e_u]; rfl
  rw [hu] at hw
  have hw : wd GC Z ck_X10_init A s.heap H locs := by
    have hc := gm_conv (G := GC) (Z := Z) (u := ck_X10_init) (n := 157) rfl rfl gm_kd_lt (by decide +kernel)
    obtain ⟨w1, w2, w3, w4⟩ := hw
    exact ⟨by rw [← hc]; exact w1, by rw [← hc]; exact w2, w3, w4⟩
  refine gm_callL (G := GC) (u := ck_X10_init) (u' := uC0) (r := 27) (ci := 0) (As := [rv Z 5]) (rest := []) (res := none) C hw hl (ok_X1_begin l Z 27 5 ck_X10_init rfl rfl uC0 (rfl)) cw_X10_86 im_X1_begin rfl se_X1_begin rfl rfl rfl ⟨(by omega : 0 + 1 ≤ R.frames), (by omega : 8 + (2 + 11) + 0 ≤ R.locals)⟩ ⟨(by omega : 156 ≤ R.cells), (by omega : 4564 ≤ R.slots)⟩ rfl rfl (Nat.le_of_ble_eq_true rfl) dX10_init_214 (fun H locs hw _ => ?_)
  exact gm_vretT C E hw rfl rfl (Nat.le_of_ble_eq_true rfl) (Nat.le_of_ble_eq_true rfl) dX10_init_217
def ck_X11_init : gm_M := let u := gm_u0; let u1 := sR u (1) 2 (2); let u2 := sR u1 (1) 10 (3); let u3 := sR u2 (1) 11 (4); let u4 := sR u3 (1) 12 (5); let u5 := sR u4 (1) 13 (6); let u6 := sR u5 (1) 14 (7); let u7 := sR u6 (1) 15 (8); let u8 := sR u7 (1) 16 (9); let u9 := sR u8 (1) 17 (10); let u10 := sR u9 (1) 20 (11); let u11 := sR u10 (1) 21 (12); let u12 := sR u11 (1) 22 (13); let u13 := sR u12 (1) 23 (14); let u14 := sR u13 (1) 24 (15); let u15 := sR u14 (1) 25 (16); let u16 := sR u15 (1) 26 (17); let u17 := sR u16 (1) 27 (18); let u18 := sR u17 (1) 28 (19); let u19 := sR u18 (1) 29 (20); let u20 := sR u19 (1) 30 (21); let u21 := sR u20 (1) 31 (22); let u22 := sR u21 (1) 33 (23); let u23 := sR u22 (1) 34 (24); let u24 := sR u23 (1) 35 (25); let u25 := sR u24 (1) 36 (26); let u26 := sR u25 (1) 37 (27); let u27 := sR u26 (1) 38 (28); let u28 := sR u27 (1) 39 (29); let u29 := sR u28 (1) 40 (30); let u30 := sR u29 (1) 41 (31); let u31 := sR u30 (1) 42 (32); let u32 := sR u31 (1) 43 (33); let u33 := sR u32 (1) 44 (34); let u34 := sR u33 (1) 47 (35); let u35 := sR u34 (1) 48 (36); let u36 := sI u35 (1) 49 (10); let u37 := sR u36 (1) 52 (37); let u38 := sR u37 (1) 53 (38); let u39 := sR u38 (1) 55 (39); u39
def uM1 : gm_M := (f_X11_usual 0 ck_X11_init).getD gm_u0
def uM0 : gm_M := (f_X11_fresh0 uM1).getD gm_u0
set_option maxRecDepth 100000 in
set_option maxHeartbeats 40000000 in
theorem ct_X11_init (l : Launch) (Z : gm_Z) (B : Nat) (hB : ∀ r, Z.2.2 (r + 1) = B + r) : gm_MetT l GM gm_SM Z B yX11_init cX11_init 1 ({ frames := 1, cells := 38, slots := 4303, locals := 21 }) gm_u0 uM0 := by
  refine gm_ofWT (by decide +kernel) rfl (Nat.le_of_ble_eq_true rfl) ?_
  intro p e s m args below meth c A ls Q R hRf hRl hRc hRs hin hU hov4 hov5 hs0 C E hl hw
  have hRf : 1 ≤ R.frames := hRf
  have hRl : 21 ≤ R.locals := hRl
  have hRc : 38 ≤ R.cells := hRc
  have hRs : 4303 ≤ R.slots := hRs
  have hSl : gm_SM.length = 39 := rfl
  obtain ⟨hx, hb, -⟩ := id C
  obtain ⟨u, e_u⟩ : ∃ x, x = gm_u0 := ⟨_, rfl⟩
  rw [← e_u] at hw
  have hz : gm_z 1 u := by rw [e_u]; exact gm_z0 1
  have hl : lv_has ls 1 [(0, rv Z 1)] := hl
  refine gm_aload_nS C dX11_init_0 rfl (lv_at hl 0 rfl) ?_
  refine gm_objS C hl wq_1126 wq_117 wq_objcode (by omega) (by omega) (Nat.le_of_ble_eq_true rfl) dX11_init_1 ?_
  refine gm_aload_nS C dX11_init_4 rfl (lv_at hl 0 rfl) ?_
  refine lv_sipush (v := 1000) hx hb dX11_init_5 (by decide) ?_
  refine gm_size (n := 0) hw (by omega) hB (by omega) (fun hsz => ?_)
  have hsz : s.heap.size = B + (1) := by omega
  refine gm_newaS (S := gm_SM) (n := 1) (t := 0) (N := 1000) (ty := .int) C hw hz hB hsz rfl rfl rfl rfl wq_arr_int (fun cA => gm_dI (Z := Z) hz (Nat.lt_succ_self _) cA) (by decide) (by decide) (by decide) (by omega) (by omega) dX11_init_8 (fun H hw => ?_)
  have hz := hz.up (Nat.le_succ _)
  refine gm_putF (G := (gm_T gm_SM (2))) (u := u) (r := 1) (ci := 10) (k := 2) (v := 2) C hin hw rfl fo_X11_7 ff_10_2 dX11_init_10 rfl rfl rfl (fun H locs hw => ?_)
  obtain ⟨u1, e_u1⟩ : ∃ x, x = sR u (1) 2 (2) := ⟨_, rfl⟩
  rw [← e_u1] at hw
  have hz : gm_z (2) u1 := by rw [e_u1]; exact gm_zR hz (by omega)
  refine gm_aload_nS C dX11_init_13 rfl (lv_at hl 0 rfl) ?_
  refine lv_bipush (v := 8) hx hb dX11_init_14 (by decide) ?_
  refine gm_size (n := 1) hw (by omega) hB (by omega) (fun hsz => ?_)
  have hsz : H.size = B + (2) := by omega
  refine gm_newaS (S := gm_SM) (n := 2) (t := 0) (N := 8) (ty := .int) C hw hz hB hsz rfl rfl rfl rfl wq_arr_int (fun cA => gm_dI (Z := Z) hz (Nat.lt_succ_self _) cA) (by decide) (by decide) (by decide) (by omega) (by omega) dX11_init_16 (fun H hw => ?_)
  have hz := hz.up (Nat.le_succ _)
  refine gm_putF (G := (gm_T gm_SM (3))) (u := u1) (r := 1) (ci := 10) (k := 10) (v := 3) C hin hw rfl fo_X11_13 ff_10_10 dX11_init_18 rfl rfl rfl (fun H locs hw => ?_)
  obtain ⟨u2, e_u2⟩ : ∃ x, x = sR u1 (1) 10 (3) := ⟨_, rfl⟩
  rw [← e_u2] at hw
  have hz : gm_z (3) u2 := by rw [e_u2]; exact gm_zR hz (by omega)
  refine gm_aload_nS C dX11_init_21 rfl (lv_at hl 0 rfl) ?_
  refine lv_bipush (v := 12) hx hb dX11_init_22 (by decide) ?_
  refine gm_size (n := 2) hw (by omega) hB (by omega) (fun hsz => ?_)
  have hsz : H.size = B + (3) := by omega
  refine gm_newaS (S := gm_SM) (n := 3) (t := 1) (N := 12) (ty := .long) C hw hz hB hsz rfl rfl rfl rfl wq_arr_long (fun cA => gm_dJ (Z := Z) hz (Nat.lt_succ_self _) cA) (by decide) (by decide) (by decide) (by omega) (by omega) dX11_init_24 (fun H hw => ?_)
  have hz := hz.up (Nat.le_succ _)
  refine gm_putF (G := (gm_T gm_SM (4))) (u := u2) (r := 1) (ci := 10) (k := 11) (v := 4) C hin hw rfl fo_X11_16 ff_10_11 dX11_init_26 rfl rfl rfl (fun H locs hw => ?_)
  obtain ⟨u3, e_u3⟩ : ∃ x, x = sR u2 (1) 11 (4) := ⟨_, rfl⟩
  rw [← e_u3] at hw
  have hz : gm_z (4) u3 := by rw [e_u3]; exact gm_zR hz (by omega)
  refine gm_aload_nS C dX11_init_29 rfl (lv_at hl 0 rfl) ?_
  refine lv_bipush (v := 12) hx hb dX11_init_30 (by decide) ?_
  refine gm_size (n := 3) hw (by omega) hB (by omega) (fun hsz => ?_)
  have hsz : H.size = B + (4) := by omega
  refine gm_newaS (S := gm_SM) (n := 4) (t := 0) (N := 12) (ty := .int) C hw hz hB hsz rfl rfl rfl rfl wq_arr_int (fun cA => gm_dI (Z := Z) hz (Nat.lt_succ_self _) cA) (by decide) (by decide) (by decide) (by omega) (by omega) dX11_init_32 (fun H hw => ?_)
  have hz := hz.up (Nat.le_succ _)
  refine gm_putF (G := (gm_T gm_SM (5))) (u := u3) (r := 1) (ci := 10) (k := 12) (v := 5) C hin hw rfl fo_X11_20 ff_10_12 dX11_init_34 rfl rfl rfl (fun H locs hw => ?_)
  obtain ⟨u4, e_u4⟩ : ∃ x, x = sR u3 (1) 12 (5) := ⟨_, rfl⟩
  rw [← e_u4] at hw
  have hz : gm_z (5) u4 := by rw [e_u4]; exact gm_zR hz (by omega)
  refine gm_aload_nS C dX11_init_37 rfl (lv_at hl 0 rfl) ?_
  refine lv_bipush (v := 12) hx hb dX11_init_38 (by decide) ?_
  refine gm_size (n := 4) hw (by omega) hB (by omega) (fun hsz => ?_)
  have hsz : H.size = B + (5) := by omega
  refine gm_newaS (S := gm_SM) (n := 5) (t := 0) (N := 12) (ty := .int) C hw hz hB hsz rfl rfl rfl rfl wq_arr_int (fun cA => gm_dI (Z := Z) hz (Nat.lt_succ_self _) cA) (by decide) (by decide) (by decide) (by omega) (by omega) dX11_init_40 (fun H hw => ?_)
  have hz := hz.up (Nat.le_succ _)
  refine gm_putF (G := (gm_T gm_SM (6))) (u := u4) (r := 1) (ci := 10) (k := 13) (v := 6) C hin hw rfl fo_X11_23 ff_10_13 dX11_init_42 rfl rfl rfl (fun H locs hw => ?_)
  obtain ⟨u5, e_u5⟩ : ∃ x, x = sR u4 (1) 13 (6) := ⟨_, rfl⟩
  rw [← e_u5] at hw
  have hz : gm_z (6) u5 := by rw [e_u5]; exact gm_zR hz (by omega)
  refine gm_aload_nS C dX11_init_45 rfl (lv_at hl 0 rfl) ?_
  refine lv_bipush (v := 12) hx hb dX11_init_46 (by decide) ?_
  refine gm_size (n := 5) hw (by omega) hB (by omega) (fun hsz => ?_)
  have hsz : H.size = B + (6) := by omega
  refine gm_newaS (S := gm_SM) (n := 6) (t := 0) (N := 12) (ty := .int) C hw hz hB hsz rfl rfl rfl rfl wq_arr_int (fun cA => gm_dI (Z := Z) hz (Nat.lt_succ_self _) cA) (by decide) (by decide) (by decide) (by omega) (by omega) dX11_init_48 (fun H hw => ?_)
  have hz := hz.up (Nat.le_succ _)
  refine gm_putF (G := (gm_T gm_SM (7))) (u := u5) (r := 1) (ci := 10) (k := 14) (v := 7) C hin hw rfl fo_X11_26 ff_10_14 dX11_init_50 rfl rfl rfl (fun H locs hw => ?_)
  obtain ⟨u6, e_u6⟩ : ∃ x, x = sR u5 (1) 14 (7) := ⟨_, rfl⟩
  rw [← e_u6] at hw
  have hz : gm_z (7) u6 := by rw [e_u6]; exact gm_zR hz (by omega)
  refine gm_aload_nS C dX11_init_53 rfl (lv_at hl 0 rfl) ?_
  refine lv_iconst (v := 2) hx hb dX11_init_54 (by decide) ?_
  refine gm_size (n := 6) hw (by omega) hB (by omega) (fun hsz => ?_)
  have hsz : H.size = B + (7) := by omega
  refine gm_newaS (S := gm_SM) (n := 7) (t := 0) (N := 2) (ty := .int) C hw hz hB hsz rfl rfl rfl rfl wq_arr_int (fun cA => gm_dI (Z := Z) hz (Nat.lt_succ_self _) cA) (by decide) (by decide) (by decide) (by omega) (by omega) dX11_init_55 (fun H hw => ?_)
  have hz := hz.up (Nat.le_succ _)
  refine gm_putF (G := (gm_T gm_SM (8))) (u := u6) (r := 1) (ci := 10) (k := 15) (v := 8) C hin hw rfl fo_X11_29 ff_10_15 dX11_init_57 rfl rfl rfl (fun H locs hw => ?_)
  obtain ⟨u7, e_u7⟩ : ∃ x, x = sR u6 (1) 15 (8) := ⟨_, rfl⟩
  rw [← e_u7] at hw
  have hz : gm_z (8) u7 := by rw [e_u7]; exact gm_zR hz (by omega)
  refine gm_aload_nS C dX11_init_60 rfl (lv_at hl 0 rfl) ?_
  refine lv_iconst (v := 2) hx hb dX11_init_61 (by decide) ?_
  refine gm_size (n := 7) hw (by omega) hB (by omega) (fun hsz => ?_)
  have hsz : H.size = B + (8) := by omega
  refine gm_newaS (S := gm_SM) (n := 8) (t := 0) (N := 2) (ty := .int) C hw hz hB hsz rfl rfl rfl rfl wq_arr_int (fun cA => gm_dI (Z := Z) hz (Nat.lt_succ_self _) cA) (by decide) (by decide) (by decide) (by omega) (by omega) dX11_init_62 (fun H hw => ?_)
  have hz := hz.up (Nat.le_succ _)
  refine gm_putF (G := (gm_T gm_SM (9))) (u := u7) (r := 1) (ci := 10) (k := 16) (v := 9) C hin hw rfl fo_X11_32 ff_10_16 dX11_init_64 rfl rfl rfl (fun H locs hw => ?_)
  obtain ⟨u8, e_u8⟩ : ∃ x, x = sR u7 (1) 16 (9) := ⟨_, rfl⟩
  rw [← e_u8] at hw
  have hz : gm_z (9) u8 := by rw [e_u8]; exact gm_zR hz (by omega)
  refine gm_aload_nS C dX11_init_67 rfl (lv_at hl 0 rfl) ?_
  refine lv_sipush (v := 2000) hx hb dX11_init_68 (by decide) ?_
  refine gm_size (n := 8) hw (by omega) hB (by omega) (fun hsz => ?_)
  have hsz : H.size = B + (9) := by omega
  refine gm_newaS (S := gm_SM) (n := 9) (t := 0) (N := 2000) (ty := .int) C hw hz hB hsz rfl rfl rfl rfl wq_arr_int (fun cA => gm_dI (Z := Z) hz (Nat.lt_succ_self _) cA) (by decide) (by decide) (by decide) (by omega) (by omega) dX11_init_71 (fun H hw => ?_)
  have hz := hz.up (Nat.le_succ _)
  refine gm_putF (G := (gm_T gm_SM (10))) (u := u8) (r := 1) (ci := 10) (k := 17) (v := 10) C hin hw rfl fo_X11_35 ff_10_17 dX11_init_73 rfl rfl rfl (fun H locs hw => ?_)
  obtain ⟨u9, e_u9⟩ : ∃ x, x = sR u8 (1) 17 (10) := ⟨_, rfl⟩
  rw [← e_u9] at hw
  have hz : gm_z (10) u9 := by rw [e_u9]; exact gm_zR hz (by omega)
  refine gm_aload_nS C dX11_init_76 rfl (lv_at hl 0 rfl) ?_
  refine lv_bipush (v := 7) hx hb dX11_init_77 (by decide) ?_
  refine gm_size (n := 9) hw (by omega) hB (by omega) (fun hsz => ?_)
  have hsz : H.size = B + (10) := by omega
  refine gm_newaS (S := gm_SM) (n := 10) (t := 0) (N := 7) (ty := .int) C hw hz hB hsz rfl rfl rfl rfl wq_arr_int (fun cA => gm_dI (Z := Z) hz (Nat.lt_succ_self _) cA) (by decide) (by decide) (by decide) (by omega) (by omega) dX11_init_79 (fun H hw => ?_)
  have hz := hz.up (Nat.le_succ _)
  refine gm_putF (G := (gm_T gm_SM (11))) (u := u9) (r := 1) (ci := 10) (k := 20) (v := 11) C hin hw rfl fo_X11_38 ff_10_20 dX11_init_81 rfl rfl rfl (fun H locs hw => ?_)
  obtain ⟨u10, e_u10⟩ : ∃ x, x = sR u9 (1) 20 (11) := ⟨_, rfl⟩
  rw [← e_u10] at hw
  have hz : gm_z (11) u10 := by rw [e_u10]; exact gm_zR hz (by omega)
  refine gm_aload_nS C dX11_init_84 rfl (lv_at hl 0 rfl) ?_
  refine lv_bipush (v := 7) hx hb dX11_init_85 (by decide) ?_
  refine gm_size (n := 10) hw (by omega) hB (by omega) (fun hsz => ?_)
  have hsz : H.size = B + (11) := by omega
  refine gm_newaS (S := gm_SM) (n := 11) (t := 2) (N := 7) (ty := .boolean) C hw hz hB hsz rfl rfl rfl rfl wq_arr_boolean (fun cA => gm_dI (Z := Z) hz (Nat.lt_succ_self _) cA) (by decide) (by decide) (by decide) (by omega) (by omega) dX11_init_87 (fun H hw => ?_)
  have hz := hz.up (Nat.le_succ _)
  refine gm_putF (G := (gm_T gm_SM (12))) (u := u10) (r := 1) (ci := 10) (k := 21) (v := 12) C hin hw rfl fo_X11_41 ff_10_21 dX11_init_89 rfl rfl rfl (fun H locs hw => ?_)
  obtain ⟨u11, e_u11⟩ : ∃ x, x = sR u10 (1) 21 (12) := ⟨_, rfl⟩
  rw [← e_u11] at hw
  have hz : gm_z (12) u11 := by rw [e_u11]; exact gm_zR hz (by omega)
  refine gm_aload_nS C dX11_init_92 rfl (lv_at hl 0 rfl) ?_
  refine lv_bipush (v := 7) hx hb dX11_init_93 (by decide) ?_
  refine gm_size (n := 11) hw (by omega) hB (by omega) (fun hsz => ?_)
  have hsz : H.size = B + (12) := by omega
  refine gm_newaS (S := gm_SM) (n := 12) (t := 0) (N := 7) (ty := .int) C hw hz hB hsz rfl rfl rfl rfl wq_arr_int (fun cA => gm_dI (Z := Z) hz (Nat.lt_succ_self _) cA) (by decide) (by decide) (by decide) (by omega) (by omega) dX11_init_95 (fun H hw => ?_)
  have hz := hz.up (Nat.le_succ _)
  refine gm_putF (G := (gm_T gm_SM (13))) (u := u11) (r := 1) (ci := 10) (k := 22) (v := 13) C hin hw rfl fo_X11_45 ff_10_22 dX11_init_97 rfl rfl rfl (fun H locs hw => ?_)
  obtain ⟨u12, e_u12⟩ : ∃ x, x = sR u11 (1) 22 (13) := ⟨_, rfl⟩
  rw [← e_u12] at hw
  have hz : gm_z (13) u12 := by rw [e_u12]; exact gm_zR hz (by omega)
  refine gm_aload_nS C dX11_init_100 rfl (lv_at hl 0 rfl) ?_
  refine lv_bipush (v := 7) hx hb dX11_init_101 (by decide) ?_
  refine gm_size (n := 12) hw (by omega) hB (by omega) (fun hsz => ?_)
  have hsz : H.size = B + (13) := by omega
  refine gm_newaS (S := gm_SM) (n := 13) (t := 0) (N := 7) (ty := .int) C hw hz hB hsz rfl rfl rfl rfl wq_arr_int (fun cA => gm_dI (Z := Z) hz (Nat.lt_succ_self _) cA) (by decide) (by decide) (by decide) (by omega) (by omega) dX11_init_103 (fun H hw => ?_)
  have hz := hz.up (Nat.le_succ _)
  refine gm_putF (G := (gm_T gm_SM (14))) (u := u12) (r := 1) (ci := 10) (k := 23) (v := 14) C hin hw rfl fo_X11_48 ff_10_23 dX11_init_105 rfl rfl rfl (fun H locs hw => ?_)
  obtain ⟨u13, e_u13⟩ : ∃ x, x = sR u12 (1) 23 (14) := ⟨_, rfl⟩
  rw [← e_u13] at hw
  have hz : gm_z (14) u13 := by rw [e_u13]; exact gm_zR hz (by omega)
  refine gm_aload_nS C dX11_init_108 rfl (lv_at hl 0 rfl) ?_
  refine lv_bipush (v := 7) hx hb dX11_init_109 (by decide) ?_
  refine gm_size (n := 13) hw (by omega) hB (by omega) (fun hsz => ?_)
  have hsz : H.size = B + (14) := by omega
  refine gm_newaS (S := gm_SM) (n := 14) (t := 0) (N := 7) (ty := .int) C hw hz hB hsz rfl rfl rfl rfl wq_arr_int (fun cA => gm_dI (Z := Z) hz (Nat.lt_succ_self _) cA) (by decide) (by decide) (by decide) (by omega) (by omega) dX11_init_111 (fun H hw => ?_)
  have hz := hz.up (Nat.le_succ _)
  refine gm_putF (G := (gm_T gm_SM (15))) (u := u13) (r := 1) (ci := 10) (k := 24) (v := 15) C hin hw rfl fo_X11_51 ff_10_24 dX11_init_113 rfl rfl rfl (fun H locs hw => ?_)
  obtain ⟨u14, e_u14⟩ : ∃ x, x = sR u13 (1) 24 (15) := ⟨_, rfl⟩
  rw [← e_u14] at hw
  have hz : gm_z (15) u14 := by rw [e_u14]; exact gm_zR hz (by omega)
  refine gm_aload_nS C dX11_init_116 rfl (lv_at hl 0 rfl) ?_
  refine lv_bipush (v := 7) hx hb dX11_init_117 (by decide) ?_
  refine gm_size (n := 14) hw (by omega) hB (by omega) (fun hsz => ?_)
  have hsz : H.size = B + (15) := by omega
  refine gm_newaS (S := gm_SM) (n := 15) (t := 0) (N := 7) (ty := .int) C hw hz hB hsz rfl rfl rfl rfl wq_arr_int (fun cA => gm_dI (Z := Z) hz (Nat.lt_succ_self _) cA) (by decide) (by decide) (by decide) (by omega) (by omega) dX11_init_119 (fun H hw => ?_)
  have hz := hz.up (Nat.le_succ _)
  refine gm_putF (G := (gm_T gm_SM (16))) (u := u14) (r := 1) (ci := 10) (k := 25) (v := 16) C hin hw rfl fo_X11_54 ff_10_25 dX11_init_121 rfl rfl rfl (fun H locs hw => ?_)
  obtain ⟨u15, e_u15⟩ : ∃ x, x = sR u14 (1) 25 (16) := ⟨_, rfl⟩
  rw [← e_u15] at hw
  have hz : gm_z (16) u15 := by rw [e_u15]; exact gm_zR hz (by omega)
  refine gm_aload_nS C dX11_init_124 rfl (lv_at hl 0 rfl) ?_
  refine lv_bipush (v := 7) hx hb dX11_init_125 (by decide) ?_
  refine gm_size (n := 15) hw (by omega) hB (by omega) (fun hsz => ?_)
  have hsz : H.size = B + (16) := by omega
  refine gm_newaS (S := gm_SM) (n := 16) (t := 0) (N := 7) (ty := .int) C hw hz hB hsz rfl rfl rfl rfl wq_arr_int (fun cA => gm_dI (Z := Z) hz (Nat.lt_succ_self _) cA) (by decide) (by decide) (by decide) (by omega) (by omega) dX11_init_127 (fun H hw => ?_)
  have hz := hz.up (Nat.le_succ _)
  refine gm_putF (G := (gm_T gm_SM (17))) (u := u15) (r := 1) (ci := 10) (k := 26) (v := 17) C hin hw rfl fo_X11_57 ff_10_26 dX11_init_129 rfl rfl rfl (fun H locs hw => ?_)
  obtain ⟨u16, e_u16⟩ : ∃ x, x = sR u15 (1) 26 (17) := ⟨_, rfl⟩
  rw [← e_u16] at hw
  have hz : gm_z (17) u16 := by rw [e_u16]; exact gm_zR hz (by omega)
  refine gm_aload_nS C dX11_init_132 rfl (lv_at hl 0 rfl) ?_
  refine lv_bipush (v := 7) hx hb dX11_init_133 (by decide) ?_
  refine gm_size (n := 16) hw (by omega) hB (by omega) (fun hsz => ?_)
  have hsz : H.size = B + (17) := by omega
  refine gm_newaS (S := gm_SM) (n := 17) (t := 0) (N := 7) (ty := .int) C hw hz hB hsz rfl rfl rfl rfl wq_arr_int (fun cA => gm_dI (Z := Z) hz (Nat.lt_succ_self _) cA) (by decide) (by decide) (by decide) (by omega) (by omega) dX11_init_135 (fun H hw => ?_)
  have hz := hz.up (Nat.le_succ _)
  refine gm_putF (G := (gm_T gm_SM (18))) (u := u16) (r := 1) (ci := 10) (k := 27) (v := 18) C hin hw rfl fo_X11_60 ff_10_27 dX11_init_137 rfl rfl rfl (fun H locs hw => ?_)
  obtain ⟨u17, e_u17⟩ : ∃ x, x = sR u16 (1) 27 (18) := ⟨_, rfl⟩
  rw [← e_u17] at hw
  have hz : gm_z (18) u17 := by rw [e_u17]; exact gm_zR hz (by omega)
  refine gm_aload_nS C dX11_init_140 rfl (lv_at hl 0 rfl) ?_
  refine lv_bipush (v := 7) hx hb dX11_init_141 (by decide) ?_
  refine gm_size (n := 17) hw (by omega) hB (by omega) (fun hsz => ?_)
  have hsz : H.size = B + (18) := by omega
  refine gm_newaS (S := gm_SM) (n := 18) (t := 0) (N := 7) (ty := .int) C hw hz hB hsz rfl rfl rfl rfl wq_arr_int (fun cA => gm_dI (Z := Z) hz (Nat.lt_succ_self _) cA) (by decide) (by decide) (by decide) (by omega) (by omega) dX11_init_143 (fun H hw => ?_)
  have hz := hz.up (Nat.le_succ _)
  refine gm_putF (G := (gm_T gm_SM (19))) (u := u17) (r := 1) (ci := 10) (k := 28) (v := 19) C hin hw rfl fo_X11_63 ff_10_28 dX11_init_145 rfl rfl rfl (fun H locs hw => ?_)
  obtain ⟨u18, e_u18⟩ : ∃ x, x = sR u17 (1) 28 (19) := ⟨_, rfl⟩
  rw [← e_u18] at hw
  have hz : gm_z (19) u18 := by rw [e_u18]; exact gm_zR hz (by omega)
  refine gm_aload_nS C dX11_init_148 rfl (lv_at hl 0 rfl) ?_
  refine lv_bipush (v := 7) hx hb dX11_init_149 (by decide) ?_
  refine gm_size (n := 18) hw (by omega) hB (by omega) (fun hsz => ?_)
  have hsz : H.size = B + (19) := by omega
  refine gm_newaS (S := gm_SM) (n := 19) (t := 0) (N := 7) (ty := .int) C hw hz hB hsz rfl rfl rfl rfl wq_arr_int (fun cA => gm_dI (Z := Z) hz (Nat.lt_succ_self _) cA) (by decide) (by decide) (by decide) (by omega) (by omega) dX11_init_151 (fun H hw => ?_)
  have hz := hz.up (Nat.le_succ _)
  refine gm_putF (G := (gm_T gm_SM (20))) (u := u18) (r := 1) (ci := 10) (k := 29) (v := 20) C hin hw rfl fo_X11_66 ff_10_29 dX11_init_153 rfl rfl rfl (fun H locs hw => ?_)
  obtain ⟨u19, e_u19⟩ : ∃ x, x = sR u18 (1) 29 (20) := ⟨_, rfl⟩
  rw [← e_u19] at hw
  have hz : gm_z (20) u19 := by rw [e_u19]; exact gm_zR hz (by omega)
  refine gm_aload_nS C dX11_init_156 rfl (lv_at hl 0 rfl) ?_
  refine lv_bipush (v := 7) hx hb dX11_init_157 (by decide) ?_
  refine gm_size (n := 19) hw (by omega) hB (by omega) (fun hsz => ?_)
  have hsz : H.size = B + (20) := by omega
  refine gm_newaS (S := gm_SM) (n := 20) (t := 0) (N := 7) (ty := .int) C hw hz hB hsz rfl rfl rfl rfl wq_arr_int (fun cA => gm_dI (Z := Z) hz (Nat.lt_succ_self _) cA) (by decide) (by decide) (by decide) (by omega) (by omega) dX11_init_159 (fun H hw => ?_)
  have hz := hz.up (Nat.le_succ _)
  refine gm_putF (G := (gm_T gm_SM (21))) (u := u19) (r := 1) (ci := 10) (k := 30) (v := 21) C hin hw rfl fo_X11_69 ff_10_30 dX11_init_161 rfl rfl rfl (fun H locs hw => ?_)
  obtain ⟨u20, e_u20⟩ : ∃ x, x = sR u19 (1) 30 (21) := ⟨_, rfl⟩
  rw [← e_u20] at hw
  have hz : gm_z (21) u20 := by rw [e_u20]; exact gm_zR hz (by omega)
  refine gm_aload_nS C dX11_init_164 rfl (lv_at hl 0 rfl) ?_
  refine lv_bipush (v := 20) hx hb dX11_init_165 (by decide) ?_
  refine gm_size (n := 20) hw (by omega) hB (by omega) (fun hsz => ?_)
  have hsz : H.size = B + (21) := by omega
  refine gm_newaS (S := gm_SM) (n := 21) (t := 0) (N := 20) (ty := .int) C hw hz hB hsz rfl rfl rfl rfl wq_arr_int (fun cA => gm_dI (Z := Z) hz (Nat.lt_succ_self _) cA) (by decide) (by decide) (by decide) (by omega) (by omega) dX11_init_167 (fun H hw => ?_)
  have hz := hz.up (Nat.le_succ _)
  refine gm_putF (G := (gm_T gm_SM (22))) (u := u20) (r := 1) (ci := 10) (k := 31) (v := 22) C hin hw rfl fo_X11_72 ff_10_31 dX11_init_169 rfl rfl rfl (fun H locs hw => ?_)
  obtain ⟨u21, e_u21⟩ : ∃ x, x = sR u20 (1) 31 (22) := ⟨_, rfl⟩
  rw [← e_u21] at hw
  have hz : gm_z (22) u21 := by rw [e_u21]; exact gm_zR hz (by omega)
  refine gm_aload_nS C dX11_init_172 rfl (lv_at hl 0 rfl) ?_
  refine lv_bipush (v := 6) hx hb dX11_init_173 (by decide) ?_
  refine gm_size (n := 21) hw (by omega) hB (by omega) (fun hsz => ?_)
  have hsz : H.size = B + (22) := by omega
  refine gm_newaS (S := gm_SM) (n := 22) (t := 0) (N := 6) (ty := .int) C hw hz hB hsz rfl rfl rfl rfl wq_arr_int (fun cA => gm_dI (Z := Z) hz (Nat.lt_succ_self _) cA) (by decide) (by decide) (by decide) (by omega) (by omega) dX11_init_175 (fun H hw => ?_)
  have hz := hz.up (Nat.le_succ _)
  refine gm_putF (G := (gm_T gm_SM (23))) (u := u21) (r := 1) (ci := 10) (k := 33) (v := 23) C hin hw rfl fo_X11_75 ff_10_33 dX11_init_177 rfl rfl rfl (fun H locs hw => ?_)
  obtain ⟨u22, e_u22⟩ : ∃ x, x = sR u21 (1) 33 (23) := ⟨_, rfl⟩
  rw [← e_u22] at hw
  have hz : gm_z (23) u22 := by rw [e_u22]; exact gm_zR hz (by omega)
  refine gm_aload_nS C dX11_init_180 rfl (lv_at hl 0 rfl) ?_
  refine lv_sipush (v := 240) hx hb dX11_init_181 (by decide) ?_
  refine gm_size (n := 22) hw (by omega) hB (by omega) (fun hsz => ?_)
  have hsz : H.size = B + (23) := by omega
  refine gm_newaS (S := gm_SM) (n := 23) (t := 0) (N := 240) (ty := .int) C hw hz hB hsz rfl rfl rfl rfl wq_arr_int (fun cA => gm_dI (Z := Z) hz (Nat.lt_succ_self _) cA) (by decide) (by decide) (by decide) (by omega) (by omega) dX11_init_184 (fun H hw => ?_)
  have hz := hz.up (Nat.le_succ _)
  refine gm_putF (G := (gm_T gm_SM (24))) (u := u22) (r := 1) (ci := 10) (k := 34) (v := 24) C hin hw rfl fo_X11_78 ff_10_34 dX11_init_186 rfl rfl rfl (fun H locs hw => ?_)
  obtain ⟨u23, e_u23⟩ : ∃ x, x = sR u22 (1) 34 (24) := ⟨_, rfl⟩
  rw [← e_u23] at hw
  have hz : gm_z (24) u23 := by rw [e_u23]; exact gm_zR hz (by omega)
  refine gm_aload_nS C dX11_init_189 rfl (lv_at hl 0 rfl) ?_
  refine lv_sipush (v := 240) hx hb dX11_init_190 (by decide) ?_
  refine gm_size (n := 23) hw (by omega) hB (by omega) (fun hsz => ?_)
  have hsz : H.size = B + (24) := by omega
  refine gm_newaS (S := gm_SM) (n := 24) (t := 0) (N := 240) (ty := .int) C hw hz hB hsz rfl rfl rfl rfl wq_arr_int (fun cA => gm_dI (Z := Z) hz (Nat.lt_succ_self _) cA) (by decide) (by decide) (by decide) (by omega) (by omega) dX11_init_193 (fun H hw => ?_)
  have hz := hz.up (Nat.le_succ _)
  refine gm_putF (G := (gm_T gm_SM (25))) (u := u23) (r := 1) (ci := 10) (k := 35) (v := 25) C hin hw rfl fo_X11_81 ff_10_35 dX11_init_195 rfl rfl rfl (fun H locs hw => ?_)
  obtain ⟨u24, e_u24⟩ : ∃ x, x = sR u23 (1) 35 (25) := ⟨_, rfl⟩
  rw [← e_u24] at hw
  have hz : gm_z (25) u24 := by rw [e_u24]; exact gm_zR hz (by omega)
  refine gm_aload_nS C dX11_init_198 rfl (lv_at hl 0 rfl) ?_
  refine lv_iconst (v := 5) hx hb dX11_init_199 (by decide) ?_
  refine gm_size (n := 24) hw (by omega) hB (by omega) (fun hsz => ?_)
  have hsz : H.size = B + (25) := by omega
  refine gm_newaS (S := gm_SM) (n := 25) (t := 0) (N := 5) (ty := .int) C hw hz hB hsz rfl rfl rfl rfl wq_arr_int (fun cA => gm_dI (Z := Z) hz (Nat.lt_succ_self _) cA) (by decide) (by decide) (by decide) (by omega) (by omega) dX11_init_200 (fun H hw => ?_)
  have hz := hz.up (Nat.le_succ _)
  refine gm_putF (G := (gm_T gm_SM (26))) (u := u24) (r := 1) (ci := 10) (k := 36) (v := 26) C hin hw rfl fo_X11_84 ff_10_36 dX11_init_202 rfl rfl rfl (fun H locs hw => ?_)
  obtain ⟨u25, e_u25⟩ : ∃ x, x = sR u24 (1) 36 (26) := ⟨_, rfl⟩
  rw [← e_u25] at hw
  have hz : gm_z (26) u25 := by rw [e_u25]; exact gm_zR hz (by omega)
  refine gm_aload_nS C dX11_init_205 rfl (lv_at hl 0 rfl) ?_
  refine lv_bipush (v := 40) hx hb dX11_init_206 (by decide) ?_
  refine gm_size (n := 25) hw (by omega) hB (by omega) (fun hsz => ?_)
  have hsz : H.size = B + (26) := by omega
  refine gm_newaS (S := gm_SM) (n := 26) (t := 0) (N := 40) (ty := .int) C hw hz hB hsz rfl rfl rfl rfl wq_arr_int (fun cA => gm_dI (Z := Z) hz (Nat.lt_succ_self _) cA) (by decide) (by decide) (by decide) (by omega) (by omega) dX11_init_208 (fun H hw => ?_)
  have hz := hz.up (Nat.le_succ _)
  refine gm_putF (G := (gm_T gm_SM (27))) (u := u25) (r := 1) (ci := 10) (k := 37) (v := 27) C hin hw rfl fo_X11_87 ff_10_37 dX11_init_210 rfl rfl rfl (fun H locs hw => ?_)
  obtain ⟨u26, e_u26⟩ : ∃ x, x = sR u25 (1) 37 (27) := ⟨_, rfl⟩
  rw [← e_u26] at hw
  have hz : gm_z (27) u26 := by rw [e_u26]; exact gm_zR hz (by omega)
  refine gm_aload_nS C dX11_init_213 rfl (lv_at hl 0 rfl) ?_
  refine lv_bipush (v := 40) hx hb dX11_init_214 (by decide) ?_
  refine gm_size (n := 26) hw (by omega) hB (by omega) (fun hsz => ?_)
  have hsz : H.size = B + (27) := by omega
  refine gm_newaS (S := gm_SM) (n := 27) (t := 2) (N := 40) (ty := .boolean) C hw hz hB hsz rfl rfl rfl rfl wq_arr_boolean (fun cA => gm_dI (Z := Z) hz (Nat.lt_succ_self _) cA) (by decide) (by decide) (by decide) (by omega) (by omega) dX11_init_216 (fun H hw => ?_)
  have hz := hz.up (Nat.le_succ _)
  refine gm_putF (G := (gm_T gm_SM (28))) (u := u26) (r := 1) (ci := 10) (k := 38) (v := 28) C hin hw rfl fo_X11_90 ff_10_38 dX11_init_218 rfl rfl rfl (fun H locs hw => ?_)
  obtain ⟨u27, e_u27⟩ : ∃ x, x = sR u26 (1) 38 (28) := ⟨_, rfl⟩
  rw [← e_u27] at hw
  have hz : gm_z (28) u27 := by rw [e_u27]; exact gm_zR hz (by omega)
  refine gm_aload_nS C dX11_init_221 rfl (lv_at hl 0 rfl) ?_
  refine lv_bipush (v := 22) hx hb dX11_init_222 (by decide) ?_
  refine gm_size (n := 27) hw (by omega) hB (by omega) (fun hsz => ?_)
  have hsz : H.size = B + (28) := by omega
  refine gm_newaS (S := gm_SM) (n := 28) (t := 0) (N := 22) (ty := .int) C hw hz hB hsz rfl rfl rfl rfl wq_arr_int (fun cA => gm_dI (Z := Z) hz (Nat.lt_succ_self _) cA) (by decide) (by decide) (by decide) (by omega) (by omega) dX11_init_224 (fun H hw => ?_)
  have hz := hz.up (Nat.le_succ _)
  refine gm_putF (G := (gm_T gm_SM (29))) (u := u27) (r := 1) (ci := 10) (k := 39) (v := 29) C hin hw rfl fo_X11_93 ff_10_39 dX11_init_226 rfl rfl rfl (fun H locs hw => ?_)
  obtain ⟨u28, e_u28⟩ : ∃ x, x = sR u27 (1) 39 (29) := ⟨_, rfl⟩
  rw [← e_u28] at hw
  have hz : gm_z (29) u28 := by rw [e_u28]; exact gm_zR hz (by omega)
  refine gm_aload_nS C dX11_init_229 rfl (lv_at hl 0 rfl) ?_
  refine lv_bipush (v := 22) hx hb dX11_init_230 (by decide) ?_
  refine gm_size (n := 28) hw (by omega) hB (by omega) (fun hsz => ?_)
  have hsz : H.size = B + (29) := by omega
  refine gm_newaS (S := gm_SM) (n := 29) (t := 0) (N := 22) (ty := .int) C hw hz hB hsz rfl rfl rfl rfl wq_arr_int (fun cA => gm_dI (Z := Z) hz (Nat.lt_succ_self _) cA) (by decide) (by decide) (by decide) (by omega) (by omega) dX11_init_232 (fun H hw => ?_)
  have hz := hz.up (Nat.le_succ _)
  refine gm_putF (G := (gm_T gm_SM (30))) (u := u28) (r := 1) (ci := 10) (k := 40) (v := 30) C hin hw rfl fo_X11_96 ff_10_40 dX11_init_234 rfl rfl rfl (fun H locs hw => ?_)
  obtain ⟨u29, e_u29⟩ : ∃ x, x = sR u28 (1) 40 (30) := ⟨_, rfl⟩
  rw [← e_u29] at hw
  have hz : gm_z (30) u29 := by rw [e_u29]; exact gm_zR hz (by omega)
  refine gm_aload_nS C dX11_init_237 rfl (lv_at hl 0 rfl) ?_
  refine lv_bipush (v := 22) hx hb dX11_init_238 (by decide) ?_
  refine gm_size (n := 29) hw (by omega) hB (by omega) (fun hsz => ?_)
  have hsz : H.size = B + (30) := by omega
  refine gm_newaS (S := gm_SM) (n := 30) (t := 0) (N := 22) (ty := .int) C hw hz hB hsz rfl rfl rfl rfl wq_arr_int (fun cA => gm_dI (Z := Z) hz (Nat.lt_succ_self _) cA) (by decide) (by decide) (by decide) (by omega) (by omega) dX11_init_240 (fun H hw => ?_)
  have hz := hz.up (Nat.le_succ _)
  refine gm_putF (G := (gm_T gm_SM (31))) (u := u29) (r := 1) (ci := 10) (k := 41) (v := 31) C hin hw rfl fo_X11_99 ff_10_41 dX11_init_242 rfl rfl rfl (fun H locs hw => ?_)
  obtain ⟨u30, e_u30⟩ : ∃ x, x = sR u29 (1) 41 (31) := ⟨_, rfl⟩
  rw [← e_u30] at hw
  have hz : gm_z (31) u30 := by rw [e_u30]; exact gm_zR hz (by omega)
  refine gm_aload_nS C dX11_init_245 rfl (lv_at hl 0 rfl) ?_
  refine lv_bipush (v := 88) hx hb dX11_init_246 (by decide) ?_
  refine gm_size (n := 30) hw (by omega) hB (by omega) (fun hsz => ?_)
  have hsz : H.size = B + (31) := by omega
  refine gm_newaS (S := gm_SM) (n := 31) (t := 0) (N := 88) (ty := .int) C hw hz hB hsz rfl rfl rfl rfl wq_arr_int (fun cA => gm_dI (Z := Z) hz (Nat.lt_succ_self _) cA) (by decide) (by decide) (by decide) (by omega) (by omega) dX11_init_248 (fun H hw => ?_)
  have hz := hz.up (Nat.le_succ _)
  refine gm_putF (G := (gm_T gm_SM (32))) (u := u30) (r := 1) (ci := 10) (k := 42) (v := 32) C hin hw rfl fo_X11_102 ff_10_42 dX11_init_250 rfl rfl rfl (fun H locs hw => ?_)
  obtain ⟨u31, e_u31⟩ : ∃ x, x = sR u30 (1) 42 (32) := ⟨_, rfl⟩
  rw [← e_u31] at hw
  have hz : gm_z (32) u31 := by rw [e_u31]; exact gm_zR hz (by omega)
  refine gm_aload_nS C dX11_init_253 rfl (lv_at hl 0 rfl) ?_
  refine lv_sipush (v := 352) hx hb dX11_init_254 (by decide) ?_
  refine gm_size (n := 31) hw (by omega) hB (by omega) (fun hsz => ?_)
  have hsz : H.size = B + (32) := by omega
  refine gm_newaS (S := gm_SM) (n := 32) (t := 0) (N := 352) (ty := .int) C hw hz hB hsz rfl rfl rfl rfl wq_arr_int (fun cA => gm_dI (Z := Z) hz (Nat.lt_succ_self _) cA) (by decide) (by decide) (by decide) (by omega) (by omega) dX11_init_257 (fun H hw => ?_)
  have hz := hz.up (Nat.le_succ _)
  refine gm_putF (G := (gm_T gm_SM (33))) (u := u31) (r := 1) (ci := 10) (k := 43) (v := 33) C hin hw rfl fo_X11_105 ff_10_43 dX11_init_259 rfl rfl rfl (fun H locs hw => ?_)
  obtain ⟨u32, e_u32⟩ : ∃ x, x = sR u31 (1) 43 (33) := ⟨_, rfl⟩
  rw [← e_u32] at hw
  have hz : gm_z (33) u32 := by rw [e_u32]; exact gm_zR hz (by omega)
  refine gm_aload_nS C dX11_init_262 rfl (lv_at hl 0 rfl) ?_
  refine lv_iconst (v := 4) hx hb dX11_init_263 (by decide) ?_
  refine gm_size (n := 32) hw (by omega) hB (by omega) (fun hsz => ?_)
  have hsz : H.size = B + (33) := by omega
  refine gm_newaS (S := gm_SM) (n := 33) (t := 2) (N := 4) (ty := .boolean) C hw hz hB hsz rfl rfl rfl rfl wq_arr_boolean (fun cA => gm_dI (Z := Z) hz (Nat.lt_succ_self _) cA) (by decide) (by decide) (by decide) (by omega) (by omega) dX11_init_264 (fun H hw => ?_)
  have hz := hz.up (Nat.le_succ _)
  refine gm_putF (G := (gm_T gm_SM (34))) (u := u32) (r := 1) (ci := 10) (k := 44) (v := 34) C hin hw rfl fo_X11_108 ff_10_44 dX11_init_266 rfl rfl rfl (fun H locs hw => ?_)
  obtain ⟨u33, e_u33⟩ : ∃ x, x = sR u32 (1) 44 (34) := ⟨_, rfl⟩
  rw [← e_u33] at hw
  have hz : gm_z (34) u33 := by rw [e_u33]; exact gm_zR hz (by omega)
  refine gm_aload_nS C dX11_init_269 rfl (lv_at hl 0 rfl) ?_
  refine lv_bipush (v := 6) hx hb dX11_init_270 (by decide) ?_
  refine gm_size (n := 33) hw (by omega) hB (by omega) (fun hsz => ?_)
  have hsz : H.size = B + (34) := by omega
  refine gm_newaS (S := gm_SM) (n := 34) (t := 0) (N := 6) (ty := .int) C hw hz hB hsz rfl rfl rfl rfl wq_arr_int (fun cA => gm_dI (Z := Z) hz (Nat.lt_succ_self _) cA) (by decide) (by decide) (by decide) (by omega) (by omega) dX11_init_272 (fun H hw => ?_)
  have hz := hz.up (Nat.le_succ _)
  refine gm_putF (G := (gm_T gm_SM (35))) (u := u33) (r := 1) (ci := 10) (k := 47) (v := 35) C hin hw rfl fo_X11_111 ff_10_47 dX11_init_274 rfl rfl rfl (fun H locs hw => ?_)
  obtain ⟨u34, e_u34⟩ : ∃ x, x = sR u33 (1) 47 (35) := ⟨_, rfl⟩
  rw [← e_u34] at hw
  have hz : gm_z (35) u34 := by rw [e_u34]; exact gm_zR hz (by omega)
  refine gm_aload_nS C dX11_init_277 rfl (lv_at hl 0 rfl) ?_
  refine lv_bipush (v := 6) hx hb dX11_init_278 (by decide) ?_
  refine gm_size (n := 34) hw (by omega) hB (by omega) (fun hsz => ?_)
  have hsz : H.size = B + (35) := by omega
  refine gm_newaS (S := gm_SM) (n := 35) (t := 0) (N := 6) (ty := .int) C hw hz hB hsz rfl rfl rfl rfl wq_arr_int (fun cA => gm_dI (Z := Z) hz (Nat.lt_succ_self _) cA) (by decide) (by decide) (by decide) (by omega) (by omega) dX11_init_280 (fun H hw => ?_)
  have hz := hz.up (Nat.le_succ _)
  refine gm_putF (G := (gm_T gm_SM (36))) (u := u34) (r := 1) (ci := 10) (k := 48) (v := 36) C hin hw rfl fo_X11_114 ff_10_48 dX11_init_282 rfl rfl rfl (fun H locs hw => ?_)
  obtain ⟨u35, e_u35⟩ : ∃ x, x = sR u34 (1) 48 (36) := ⟨_, rfl⟩
  rw [← e_u35] at hw
  have hz : gm_z (36) u35 := by rw [e_u35]; exact gm_zR hz (by omega)
  refine gm_aload_nS C dX11_init_285 rfl (lv_at hl 0 rfl) ?_
  refine lv_bipush (v := 10) hx hb dX11_init_286 (by decide) ?_
  refine gm_putI (G := (gm_T gm_SM (36))) (u := u35) (r := 1) (ci := 10) (k := 49) (v := 10) C hw rfl fl_X11_117 fp_10_49 dX11_init_288 rfl (fun H locs hw => ?_)
  obtain ⟨u36, e_u36⟩ : ∃ x, x = sI u35 (1) 49 (10) := ⟨_, rfl⟩
  rw [← e_u36] at hw
  have hz : gm_z (36) u36 := by rw [e_u36]; exact gm_zI hz (by omega)
  refine gm_aload_nS C dX11_init_291 rfl (lv_at hl 0 rfl) ?_
  refine lv_bipush (v := 6) hx hb dX11_init_292 (by decide) ?_
  refine gm_size (n := 35) hw (by omega) hB (by omega) (fun hsz => ?_)
  have hsz : H.size = B + (36) := by omega
  refine gm_newaS (S := gm_SM) (n := 36) (t := 0) (N := 6) (ty := .int) C hw hz hB hsz rfl rfl rfl rfl wq_arr_int (fun cA => gm_dI (Z := Z) hz (Nat.lt_succ_self _) cA) (by decide) (by decide) (by decide) (by omega) (by omega) dX11_init_294 (fun H hw => ?_)
  have hz := hz.up (Nat.le_succ _)
  refine gm_putF (G := (gm_T gm_SM (37))) (u := u36) (r := 1) (ci := 10) (k := 52) (v := 37) C hin hw rfl fo_X11_121 ff_10_52 dX11_init_296 rfl rfl rfl (fun H locs hw => ?_)
  obtain ⟨u37, e_u37⟩ : ∃ x, x = sR u36 (1) 52 (37) := ⟨_, rfl⟩
  rw [← e_u37] at hw
  have hz : gm_z (37) u37 := by rw [e_u37]; exact gm_zR hz (by omega)
  refine gm_aload_nS C dX11_init_299 rfl (lv_at hl 0 rfl) ?_
  refine lv_bipush (v := 6) hx hb dX11_init_300 (by decide) ?_
  refine gm_size (n := 36) hw (by omega) hB (by omega) (fun hsz => ?_)
  have hsz : H.size = B + (37) := by omega
  refine gm_newaS (S := gm_SM) (n := 37) (t := 0) (N := 6) (ty := .int) C hw hz hB hsz rfl rfl rfl rfl wq_arr_int (fun cA => gm_dI (Z := Z) hz (Nat.lt_succ_self _) cA) (by decide) (by decide) (by decide) (by omega) (by omega) dX11_init_302 (fun H hw => ?_)
  have hz := hz.up (Nat.le_succ _)
  refine gm_putF (G := (gm_T gm_SM (38))) (u := u37) (r := 1) (ci := 10) (k := 53) (v := 38) C hin hw rfl fo_X11_124 ff_10_53 dX11_init_304 rfl rfl rfl (fun H locs hw => ?_)
  obtain ⟨u38, e_u38⟩ : ∃ x, x = sR u37 (1) 53 (38) := ⟨_, rfl⟩
  rw [← e_u38] at hw
  have hz : gm_z (38) u38 := by rw [e_u38]; exact gm_zR hz (by omega)
  refine gm_aload_nS C dX11_init_307 rfl (lv_at hl 0 rfl) ?_
  refine lv_bipush (v := 41) hx hb dX11_init_308 (by decide) ?_
  refine gm_size (n := 37) hw (by omega) hB (by omega) (fun hsz => ?_)
  have hsz : H.size = B + (38) := by omega
  refine gm_newaS (S := gm_SM) (n := 38) (t := 0) (N := 41) (ty := .int) C hw hz hB hsz rfl rfl rfl rfl wq_arr_int (fun cA => gm_dI (Z := Z) hz (Nat.lt_succ_self _) cA) (by decide) (by decide) (by decide) (by omega) (by omega) dX11_init_310 (fun H hw => ?_)
  have hz := hz.up (Nat.le_succ _)
  refine gm_putF (G := (gm_T gm_SM (39))) (u := u38) (r := 1) (ci := 10) (k := 55) (v := 39) C hin hw rfl fo_X11_127 ff_10_55 dX11_init_312 rfl rfl rfl (fun H locs hw => ?_)
  obtain ⟨u39, e_u39⟩ : ∃ x, x = sR u38 (1) 55 (39) := ⟨_, rfl⟩
  rw [← e_u39] at hw
  have hz : gm_z (39) u39 := by rw [e_u39]; exact gm_zR hz (by omega)
  refine gm_aload_nS C dX11_init_315 rfl (lv_at hl 0 rfl) ?_
  refine lv_iconst (v := 0) hx hb dX11_init_316 (by decide) ?_
  have hu : u39 = ck_X11_init := by simp only [e_u39, e_u38, e_u37, e_u36, e_u35, e_u34, e_u33, e_u32, e_u31, e_u30, e_u29, e_u28, e_u27, e_u26, e_u25, e_u24, e_u23, e_u22, e_u21, e_u20, e_u19, e_u18, e_u17, e_u16, e_u15, e_u14, e_u13, e_u12, e_u11, e_u10, e_u9, e_u8, e_u7, e_u6, e_u5, e_u4, e_u3, e_u2, e_u1, e_u]; rfl
  rw [hu] at hw
  have hw : wd GM Z ck_X11_init A s.heap H locs := by
    have hc := gm_conv (G := GM) (Z := Z) (u := ck_X11_init) (n := 39) rfl rfl gm_kd_lt (by decide +kernel)
    obtain ⟨w1, w2, w3, w4⟩ := hw
    exact ⟨by rw [← hc]; exact w1, by rw [← hc]; exact w2, w3, w4⟩
  refine gm_callL (G := GM) (u := ck_X11_init) (u' := uM1) (r := 1) (ci := 10) (As := [.int 0]) (rest := []) (res := none) C hw hl (ok_X11_usual l Z 0 ck_X11_init uM1 (rfl)) cw_X11_130 im_X11_usual rfl se_X11_usual rfl rfl rfl ⟨(by omega : 0 + 1 ≤ R.frames), (by omega : 8 + (2 + 11) + 0 ≤ R.locals)⟩ ⟨(by omega : 38 ≤ R.cells), (by omega : 4303 ≤ R.slots)⟩ rfl rfl (Nat.le_of_ble_eq_true rfl) dX11_init_317 (fun H locs hw _ => ?_)
  refine gm_aload_nS C dX11_init_320 rfl (lv_at hl 0 rfl) ?_
  refine gm_callL (G := GM) (u := uM1) (u' := uM0) (r := 1) (ci := 10) (As := []) (rest := []) (res := none) C hw hl (ok_X11_fresh0 l Z uM1 uM0 (rfl)) cw_X11_134 im_X11_fresh0 rfl se_X11_fresh0 rfl rfl rfl ⟨(by omega : 0 + 1 ≤ R.frames), (by omega : 8 + (2 + 11) + 0 ≤ R.locals)⟩ ⟨(by omega : 38 ≤ R.cells), (by omega : 4303 ≤ R.slots)⟩ rfl rfl (Nat.le_of_ble_eq_true rfl) dX11_init_321 (fun H locs hw _ => ?_)
  exact gm_vretT C E hw rfl rfl (Nat.le_of_ble_eq_true rfl) (Nat.le_of_ble_eq_true rfl) dX11_init_324
