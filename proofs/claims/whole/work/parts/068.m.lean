/-! LeapCapital.count -/
def f_X10_count (a1 : Int32) (u : gm_M) : Option Int32 := if a1 = (0 : Int32) then if isRealm (gR u 1 2) = true then some (gI u (gR u 1 2) 0) else none else if a1 = (1 : Int32) then some (gI u 27 0) else if a1 = (2 : Int32) then if isRealm (gR u 1 2) = true then some (gI u (gR u 1 2) 6) else none else if a1 = (3 : Int32) then if isRealm (gR u 1 2) = true then some (gI u (gR u 1 2) 7) else none else if a1 = (4 : Int32) then some (gI u 27 1) else if a1 = (5 : Int32) then some (gI u 27 3) else if a1 = (6 : Int32) then (f_X1_queueBits 27 u).bind fun r_13 => some r_13 else if a1 = (7 : Int32) then some (gI u 27 2) else if a1 = (8 : Int32) then if isRealm (gR u 1 2) = true then (f_X5_deadBits (gR u 1 2) (gI u 27 0) u).bind fun r_19 => some r_19 else none else if a1 = (9 : Int32) then if isReign (gR u 1 4) = true then some (gI u (gR u 1 4) 2) else none else if a1 = (10 : Int32) then some (gI u 31 2) else if a1 = (11 : Int32) then some (gI u 1 10) else if a1 = (12 : Int32) then some (gI u 3 1) else some (-1 : Int32)
set_option maxRecDepth 100000 in
set_option maxHeartbeats 4000000 in
theorem ok_X10_count (l : Launch) (Z : gm_Z) (a1 : Int32) (u : gm_M)  (r : Int32) (hf : f_X10_count a1 u = some r) : gm_Met l GC Z yX10_count cX10_count 2 (some .int) ({ frames := 3, cells := 0, slots := 0, locals := 66 }) [rv Z 1, .int a1] u (some (.int r)) u := by
  unfold f_X10_count at hf
  refine gm_ofW (by decide +kernel) (Nat.le_of_ble_eq_true rfl) ?_
  intro p e s m args below meth c A ls Q R hRf hRl C E hl hw
  obtain ⟨hx, hb, -⟩ := id C
  have hl : lv_has ls 2 [(0, rv Z 1), (1, .int a1)] := hl
  refine lv_iload_n hx hb dX10_count_0 rfl (lv_at hl 1 rfl) ?_
  by_cases hq_3 : a1 = (0 : Int32)
  · replace hf := (if_pos hq_3).symm.trans hf
    refine lv_tableIn (off := 67) (tgt := 68) hx hb dX10_count_1 (by rw [hq_3]; decide) (by rw [hq_3]; decide) (by rw [hq_3]; rfl) (by decide) ?_
    refine gm_aload_n (G := GC) (r := 1) C rfl dX10_count_68 rfl (lv_at hl 0 rfl) ?_
    refine gm_getR (G := GC) (u := u) (r := 1) (ci := 9) (k := 2) C hw rfl fl_X10_19 dX10_count_69 rfl ?_
    obtain ⟨g_1, hf⟩ := gm_grd hf
    obtain ⟨k_2_0, k_2_1, k_2_2, k_2_3, k_2_4, k_2_5, k_2_6, k_2_7, k_2_8, k_2_9, k_2_10, k_2_11⟩ := fc_Realm g_1
    refine gm_getI (G := GC) (u := u) (r := (gR u 1 2)) (ci := 4) (k := 0) C hw k_2_0 fl_X10_312 dX10_count_72 rfl ?_
    exact gm_iret C E hw rfl ((congrArg (fun z => some (Value.int z)) (Option.some.inj hf)).symm) rfl dX10_count_75
  replace hf := (if_neg hq_3).symm.trans hf
  by_cases hq_4 : a1 = (1 : Int32)
  · replace hf := (if_pos hq_4).symm.trans hf
    refine lv_tableIn (off := 75) (tgt := 76) hx hb dX10_count_1 (by rw [hq_4]; decide) (by rw [hq_4]; decide) (by rw [hq_4]; rfl) (by decide) ?_
    refine gm_aload_n (G := GC) (r := 1) C rfl dX10_count_76 rfl (lv_at hl 0 rfl) ?_
    refine gm_getS (G := GC) (u := u) (r := 1) (ci := 9) (k := 6) C hw rfl fl_X10_39 dX10_count_77 rfl (q := 27) rfl ?_
    refine gm_getI (G := GC) (u := u) (r := 27) (ci := 0) (k := 0) C hw rfl fl_X10_142 dX10_count_80 rfl ?_
    exact gm_iret C E hw rfl ((congrArg (fun z => some (Value.int z)) (Option.some.inj hf)).symm) rfl dX10_count_83
  replace hf := (if_neg hq_4).symm.trans hf
  by_cases hq_7 : a1 = (2 : Int32)
  · replace hf := (if_pos hq_7).symm.trans hf
    refine lv_tableIn (off := 83) (tgt := 84) hx hb dX10_count_1 (by rw [hq_7]; decide) (by rw [hq_7]; decide) (by rw [hq_7]; rfl) (by decide) ?_
    refine gm_aload_n (G := GC) (r := 1) C rfl dX10_count_84 rfl (lv_at hl 0 rfl) ?_
    refine gm_getR (G := GC) (u := u) (r := 1) (ci := 9) (k := 2) C hw rfl fl_X10_19 dX10_count_85 rfl ?_
    obtain ⟨g_5, hf⟩ := gm_grd hf
    obtain ⟨k_6_0, k_6_1, k_6_2, k_6_3, k_6_4, k_6_5, k_6_6, k_6_7, k_6_8, k_6_9, k_6_10, k_6_11⟩ := fc_Realm g_5
    refine gm_getI (G := GC) (u := u) (r := (gR u 1 2)) (ci := 4) (k := 6) C hw k_6_0 fl_X10_182 dX10_count_88 rfl ?_
    exact gm_iret C E hw rfl ((congrArg (fun z => some (Value.int z)) (Option.some.inj hf)).symm) rfl dX10_count_91
  replace hf := (if_neg hq_7).symm.trans hf
  by_cases hq_10 : a1 = (3 : Int32)
  · replace hf := (if_pos hq_10).symm.trans hf
    refine lv_tableIn (off := 91) (tgt := 92) hx hb dX10_count_1 (by rw [hq_10]; decide) (by rw [hq_10]; decide) (by rw [hq_10]; rfl) (by decide) ?_
    refine gm_aload_n (G := GC) (r := 1) C rfl dX10_count_92 rfl (lv_at hl 0 rfl) ?_
    refine gm_getR (G := GC) (u := u) (r := 1) (ci := 9) (k := 2) C hw rfl fl_X10_19 dX10_count_93 rfl ?_
    obtain ⟨g_8, hf⟩ := gm_grd hf
    obtain ⟨k_9_0, k_9_1, k_9_2, k_9_3, k_9_4, k_9_5, k_9_6, k_9_7, k_9_8, k_9_9, k_9_10, k_9_11⟩ := fc_Realm g_8
    refine gm_getI (G := GC) (u := u) (r := (gR u 1 2)) (ci := 4) (k := 7) C hw k_9_0 fl_X10_233 dX10_count_96 rfl ?_
    exact gm_iret C E hw rfl ((congrArg (fun z => some (Value.int z)) (Option.some.inj hf)).symm) rfl dX10_count_99
  replace hf := (if_neg hq_10).symm.trans hf
  by_cases hq_11 : a1 = (4 : Int32)
  · replace hf := (if_pos hq_11).symm.trans hf
    refine lv_tableIn (off := 99) (tgt := 100) hx hb dX10_count_1 (by rw [hq_11]; decide) (by rw [hq_11]; decide) (by rw [hq_11]; rfl) (by decide) ?_
    refine gm_aload_n (G := GC) (r := 1) C rfl dX10_count_100 rfl (lv_at hl 0 rfl) ?_
    refine gm_getS (G := GC) (u := u) (r := 1) (ci := 9) (k := 6) C hw rfl fl_X10_39 dX10_count_101 rfl (q := 27) rfl ?_
    refine gm_getI (G := GC) (u := u) (r := 27) (ci := 0) (k := 1) C hw rfl fl_X10_175 dX10_count_104 rfl ?_
    exact gm_iret C E hw rfl ((congrArg (fun z => some (Value.int z)) (Option.some.inj hf)).symm) rfl dX10_count_107
  replace hf := (if_neg hq_11).symm.trans hf
  by_cases hq_12 : a1 = (5 : Int32)
  · replace hf := (if_pos hq_12).symm.trans hf
    refine lv_tableIn (off := 107) (tgt := 108) hx hb dX10_count_1 (by rw [hq_12]; decide) (by rw [hq_12]; decide) (by rw [hq_12]; rfl) (by decide) ?_
    refine gm_aload_n (G := GC) (r := 1) C rfl dX10_count_108 rfl (lv_at hl 0 rfl) ?_
    refine gm_getS (G := GC) (u := u) (r := 1) (ci := 9) (k := 6) C hw rfl fl_X10_39 dX10_count_109 rfl (q := 27) rfl ?_
    refine gm_getI (G := GC) (u := u) (r := 27) (ci := 0) (k := 3) C hw rfl fl_X10_279 dX10_count_112 rfl ?_
    exact gm_iret C E hw rfl ((congrArg (fun z => some (Value.int z)) (Option.some.inj hf)).symm) rfl dX10_count_115
  replace hf := (if_neg hq_12).symm.trans hf
  by_cases hq_15 : a1 = (6 : Int32)
  · replace hf := (if_pos hq_15).symm.trans hf
    refine lv_tableIn (off := 115) (tgt := 116) hx hb dX10_count_1 (by rw [hq_15]; decide) (by rw [hq_15]; decide) (by rw [hq_15]; rfl) (by decide) ?_
    refine gm_aload_n (G := GC) (r := 1) C rfl dX10_count_116 rfl (lv_at hl 0 rfl) ?_
    refine gm_getS (G := GC) (u := u) (r := 1) (ci := 9) (k := 6) C hw rfl fl_X10_39 dX10_count_117 rfl (q := 27) rfl ?_
    obtain ⟨r_13, hc_14, hf⟩ := gm_bnd hf
    refine gm_callV (G := GC) (u := u) (u' := u) (r := 27) (ci := 0) (As := []) (rest := []) (res := (some (.int r_13))) C hw hl (ok_X1_queueBits l Z 27 u rfl r_13 hc_14) cw_X10_261 im_X1_queueBits rfl se_X1_queueBits rfl rfl rfl ⟨Nat.le_trans (Nat.le_of_ble_eq_true rfl) hRf, Nat.le_trans (Nat.le_of_ble_eq_true rfl) hRl⟩ rfl rfl (Nat.le_of_ble_eq_true rfl) dX10_count_120 (fun H locs hw => ?_)
    exact gm_iret C E hw rfl ((congrArg (fun z => some (Value.int z)) (Option.some.inj hf)).symm) rfl dX10_count_123
  replace hf := (if_neg hq_15).symm.trans hf
  by_cases hq_16 : a1 = (7 : Int32)
  · replace hf := (if_pos hq_16).symm.trans hf
    refine lv_tableIn (off := 123) (tgt := 124) hx hb dX10_count_1 (by rw [hq_16]; decide) (by rw [hq_16]; decide) (by rw [hq_16]; rfl) (by decide) ?_
    refine gm_aload_n (G := GC) (r := 1) C rfl dX10_count_124 rfl (lv_at hl 0 rfl) ?_
    refine gm_getS (G := GC) (u := u) (r := 1) (ci := 9) (k := 6) C hw rfl fl_X10_39 dX10_count_125 rfl (q := 27) rfl ?_
    refine gm_getI (G := GC) (u := u) (r := 27) (ci := 0) (k := 2) C hw rfl fl_X10_139 dX10_count_128 rfl ?_
    exact gm_iret C E hw rfl ((congrArg (fun z => some (Value.int z)) (Option.some.inj hf)).symm) rfl dX10_count_131
  replace hf := (if_neg hq_16).symm.trans hf
  by_cases hq_21 : a1 = (8 : Int32)
  · replace hf := (if_pos hq_21).symm.trans hf
    refine lv_tableIn (off := 131) (tgt := 132) hx hb dX10_count_1 (by rw [hq_21]; decide) (by rw [hq_21]; decide) (by rw [hq_21]; rfl) (by decide) ?_
    refine gm_aload_n (G := GC) (r := 1) C rfl dX10_count_132 rfl (lv_at hl 0 rfl) ?_
    refine gm_getR (G := GC) (u := u) (r := 1) (ci := 9) (k := 2) C hw rfl fl_X10_19 dX10_count_133 rfl ?_
    obtain ⟨g_17, hf⟩ := gm_grd hf
    obtain ⟨k_18_0, k_18_1, k_18_2, k_18_3, k_18_4, k_18_5, k_18_6, k_18_7, k_18_8, k_18_9, k_18_10, k_18_11⟩ := fc_Realm g_17
    refine gm_aload_n (G := GC) (r := 1) C rfl dX10_count_136 rfl (lv_at hl 0 rfl) ?_
    refine gm_getS (G := GC) (u := u) (r := 1) (ci := 9) (k := 6) C hw rfl fl_X10_39 dX10_count_137 rfl (q := 27) rfl ?_
    refine gm_getI (G := GC) (u := u) (r := 27) (ci := 0) (k := 0) C hw rfl fl_X10_142 dX10_count_140 rfl ?_
    obtain ⟨r_19, hc_20, hf⟩ := gm_bnd hf
    refine gm_callV (G := GC) (u := u) (u' := u) (r := (gR u 1 2)) (ci := 4) (As := [.int (gI u 27 0)]) (rest := []) (res := (some (.int r_19))) C hw hl (ok_X5_deadBits l Z (gR u 1 2) (gI u 27 0) u g_17 r_19 hc_20) cw_X10_336 im_X5_deadBits rfl se_X5_deadBits k_18_0 rfl rfl ⟨Nat.le_trans (Nat.le_of_ble_eq_true rfl) hRf, Nat.le_trans (Nat.le_of_ble_eq_true rfl) hRl⟩ rfl rfl (Nat.le_of_ble_eq_true rfl) dX10_count_143 (fun H locs hw => ?_)
    exact gm_iret C E hw rfl ((congrArg (fun z => some (Value.int z)) (Option.some.inj hf)).symm) rfl dX10_count_146
  replace hf := (if_neg hq_21).symm.trans hf
  by_cases hq_24 : a1 = (9 : Int32)
  · replace hf := (if_pos hq_24).symm.trans hf
    refine lv_tableIn (off := 146) (tgt := 147) hx hb dX10_count_1 (by rw [hq_24]; decide) (by rw [hq_24]; decide) (by rw [hq_24]; rfl) (by decide) ?_
    refine gm_aload_n (G := GC) (r := 1) C rfl dX10_count_147 rfl (lv_at hl 0 rfl) ?_
    refine gm_getR (G := GC) (u := u) (r := 1) (ci := 9) (k := 4) C hw rfl fl_X10_29 dX10_count_148 rfl ?_
    obtain ⟨g_22, hf⟩ := gm_grd hf
    obtain ⟨k_23_0, k_23_1, k_23_2, k_23_3, k_23_4⟩ := fc_Reign g_22
    refine gm_getI (G := GC) (u := u) (r := (gR u 1 4)) (ci := 5) (k := 2) C hw k_23_0 fl_X10_193 dX10_count_151 rfl ?_
    exact gm_iret C E hw rfl ((congrArg (fun z => some (Value.int z)) (Option.some.inj hf)).symm) rfl dX10_count_154
  replace hf := (if_neg hq_24).symm.trans hf
  by_cases hq_25 : a1 = (10 : Int32)
  · replace hf := (if_pos hq_25).symm.trans hf
    refine lv_tableIn (off := 154) (tgt := 155) hx hb dX10_count_1 (by rw [hq_25]; decide) (by rw [hq_25]; decide) (by rw [hq_25]; rfl) (by decide) ?_
    refine gm_aload_n (G := GC) (r := 1) C rfl dX10_count_155 rfl (lv_at hl 0 rfl) ?_
    refine gm_getS (G := GC) (u := u) (r := 1) (ci := 9) (k := 7) C hw rfl fl_X10_46 dX10_count_156 rfl (q := 31) rfl ?_
    refine gm_getI (G := GC) (u := u) (r := 31) (ci := 6) (k := 2) C hw rfl fl_X10_339 dX10_count_159 rfl ?_
    exact gm_iret C E hw rfl ((congrArg (fun z => some (Value.int z)) (Option.some.inj hf)).symm) rfl dX10_count_162
  replace hf := (if_neg hq_25).symm.trans hf
  by_cases hq_26 : a1 = (11 : Int32)
  · replace hf := (if_pos hq_26).symm.trans hf
    refine lv_tableIn (off := 162) (tgt := 163) hx hb dX10_count_1 (by rw [hq_26]; decide) (by rw [hq_26]; decide) (by rw [hq_26]; rfl) (by decide) ?_
    refine gm_aload_n (G := GC) (r := 1) C rfl dX10_count_163 rfl (lv_at hl 0 rfl) ?_
    refine gm_getI (G := GC) (u := u) (r := 1) (ci := 9) (k := 10) C hw rfl fl_X10_61 dX10_count_164 rfl ?_
    exact gm_iret C E hw rfl ((congrArg (fun z => some (Value.int z)) (Option.some.inj hf)).symm) rfl dX10_count_167
  replace hf := (if_neg hq_26).symm.trans hf
  by_cases hq_27 : a1 = (12 : Int32)
  · replace hf := (if_pos hq_27).symm.trans hf
    refine lv_tableIn (off := 167) (tgt := 168) hx hb dX10_count_1 (by rw [hq_27]; decide) (by rw [hq_27]; decide) (by rw [hq_27]; rfl) (by decide) ?_
    refine gm_aload_n (G := GC) (r := 1) C rfl dX10_count_168 rfl (lv_at hl 0 rfl) ?_
    refine gm_getS (G := GC) (u := u) (r := 1) (ci := 9) (k := 1) C hw rfl fl_X10_10 dX10_count_169 rfl (q := 2) rfl ?_
    refine gm_getS (G := GC) (u := u) (r := 2) (ci := 7) (k := 0) C hw rfl fl_X10_90 dX10_count_172 rfl (q := 3) rfl ?_
    refine gm_getI (G := GC) (u := u) (r := 3) (ci := 8) (k := 1) C hw rfl fl_X10_100 dX10_count_175 rfl ?_
    exact gm_iret C E hw rfl ((congrArg (fun z => some (Value.int z)) (Option.some.inj hf)).symm) rfl dX10_count_178
  replace hf := (if_neg hq_27).symm.trans hf
  refine lv_tableOut (tgt := 179) hx hb dX10_count_1 (Classical.byContradiction (fun hq => by
    obtain ⟨i, hi, e⟩ := gm_rng hq
    match i, hi with
    | 0, _ => exact hq_3 (e.trans (by decide))
    | 1, _ => exact hq_4 (e.trans (by decide))
    | 2, _ => exact hq_7 (e.trans (by decide))
    | 3, _ => exact hq_10 (e.trans (by decide))
    | 4, _ => exact hq_11 (e.trans (by decide))
    | 5, _ => exact hq_12 (e.trans (by decide))
    | 6, _ => exact hq_15 (e.trans (by decide))
    | 7, _ => exact hq_16 (e.trans (by decide))
    | 8, _ => exact hq_21 (e.trans (by decide))
    | 9, _ => exact hq_24 (e.trans (by decide))
    | 10, _ => exact hq_25 (e.trans (by decide))
    | 11, _ => exact hq_26 (e.trans (by decide))
    | 12, _ => exact hq_27 (e.trans (by decide))
    | (n + 13), h => exact absurd h (by simp only [Int.reduceSub, Int.reduceAdd, Int.reduceToNat, Int.reduceNeg, Int.sub_neg]; omega))) (by decide) ?_
  refine lv_iconst (v := -1) hx hb dX10_count_179 (by decide) ?_
  exact gm_iret C E hw rfl ((congrArg (fun z => some (Value.int z)) (Option.some.inj hf)).symm) rfl dX10_count_180
