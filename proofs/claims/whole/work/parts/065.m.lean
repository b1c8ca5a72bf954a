/-! LeapCapital.leave -/
def f_X10_leave (a1 : Int32) (u : gm_M) : Option (Int32 × gm_M) := (f_X1_isQueued 27 a1 u).bind fun r_1 => if r_1 = 0 then some ((0 : Int32), u) else (f_X10_remember u).bind fun u_3 => (f_X1_goOut 27 a1 u_3).bind fun u_5 => some ((1 : Int32), u_5)
set_option maxRecDepth 100000 in
set_option maxHeartbeats 4000000 in
theorem ok_X10_leave (l : Launch) (Z : gm_Z) (a1 : Int32) (u : gm_M)  (r : Int32) (u' : gm_M) (hf : f_X10_leave a1 u = some (r, u')) : gm_Met l GC Z yX10_leave cX10_leave 2 (some .boolean) ({ frames := 2, cells := 0, slots := 0, locals := 45 }) [rv Z 1, .int a1] u (some (.int r)) u' := by
  unfold f_X10_leave at hf
  refine gm_ofW (by decide +kernel) (Nat.le_of_ble_eq_true rfl) ?_
  intro p e s m args below meth c A ls Q R hRf hRl C E hl hw
  obtain ⟨hx, hb, -⟩ := id C
  have hl : lv_has ls 2 [(0, rv Z 1), (1, .int a1)] := hl
  refine gm_aload_n (G := GC) (r := 1) C rfl dX10_leave_0 rfl (lv_at hl 0 rfl) ?_
  refine gm_getS (G := GC) (u := u) (r := 1) (ci := 9) (k := 6) C hw rfl fl_X10_39 dX10_leave_1 rfl (q := 27) rfl ?_
  refine lv_iload_n hx hb dX10_leave_4 rfl (lv_at hl 1 rfl) ?_
  obtain ⟨r_1, hc_2, hf⟩ := gm_bnd hf
  refine gm_callV (G := GC) (u := u) (u' := u) (r := 27) (ci := 0) (As := [.int a1]) (rest := []) (res := (some (.int r_1))) C hw hl (ok_X1_isQueued l Z 27 a1 u rfl r_1 hc_2) cw_X10_149 im_X1_isQueued rfl se_X1_isQueued rfl rfl rfl ⟨Nat.le_trans (Nat.le_of_ble_eq_true rfl) hRf, Nat.le_trans (Nat.le_of_ble_eq_true rfl) hRl⟩ rfl rfl (Nat.le_of_ble_eq_true rfl) dX10_leave_5 (fun H locs hw => ?_)
  refine lv_if_ne (tgt := 13) hx hb dX10_leave_8 (by decide) (fun hc => ?_) (fun hc => ?_)
  · replace hf := (if_neg hc).symm.trans hf
    refine gm_aload_n (G := GC) (r := 1) C rfl dX10_leave_13 rfl (lv_at hl 0 rfl) ?_
    obtain ⟨u_3, hc_4, hf⟩ := gm_bnd hf
    refine gm_callV (G := GC) (u := u) (u' := u_3) (r := 1) (ci := 9) (As := []) (rest := []) (res := none) C hw hl (ok_X10_remember l Z u u_3 hc_4) cw_X10_162 im_X10_remember rfl se_X10_remember rfl rfl rfl ⟨Nat.le_trans (Nat.le_of_ble_eq_true rfl) hRf, Nat.le_trans (Nat.le_of_ble_eq_true rfl) hRl⟩ rfl rfl (Nat.le_of_ble_eq_true rfl) dX10_leave_14 (fun H locs hw => ?_)
    refine gm_aload_n (G := GC) (r := 1) C rfl dX10_leave_17 rfl (lv_at hl 0 rfl) ?_
    refine gm_getS (G := GC) (u := u_3) (r := 1) (ci := 9) (k := 6) C hw rfl fl_X10_39 dX10_leave_18 rfl (q := 27) rfl ?_
    refine lv_iload_n hx hb dX10_leave_21 rfl (lv_at hl 1 rfl) ?_
    obtain ⟨u_5, hc_6, hf⟩ := gm_bnd hf
    refine gm_callV (G := GC) (u := u_3) (u' := u_5) (r := 27) (ci := 0) (As := [.int a1]) (rest := []) (res := none) C hw hl (ok_X1_goOut l Z 27 a1 u_3 rfl u_5 hc_6) cw_X10_169 im_X1_goOut rfl se_X1_goOut rfl rfl rfl ⟨Nat.le_trans (Nat.le_of_ble_eq_true rfl) hRf, Nat.le_trans (Nat.le_of_ble_eq_true rfl) hRl⟩ rfl rfl (Nat.le_of_ble_eq_true rfl) dX10_leave_22 (fun H locs hw => ?_)
    refine lv_iconst (v := 1) hx hb dX10_leave_25 (by decide) ?_
    exact gm_zret C E hw rfl rfl ((congrArg (fun z => some (Value.int z)) (gm_sp hf).1).symm) (gm_sp hf).2.symm dX10_leave_26
  · replace hf := (if_pos hc).symm.trans hf
    refine lv_iconst (v := 0) hx hb dX10_leave_11 (by decide) ?_
    exact gm_zret C E hw rfl rfl ((congrArg (fun z => some (Value.int z)) (gm_sp hf).1).symm) (gm_sp hf).2.symm dX10_leave_12
/-! LeapCapital.lamp -/
def f_X10_lamp (a1 : Int32) (u : gm_M) : Option (Int32 × gm_M) := if a1 < (1 : Int32) then some ((-1 : Int32), u) else if a1 ≤ (20 : Int32) then (f_X10_remember u).bind fun u_1 => (f_X1_light 27 a1 u_1).bind fun u_3 => some (gI u_3 27 1, u_3) else some ((-1 : Int32), u)
set_option maxRecDepth 100000 in
set_option maxHeartbeats 4000000 in
theorem ok_X10_lamp (l : Launch) (Z : gm_Z) (a1 : Int32) (u : gm_M)  (r : Int32) (u' : gm_M) (hf : f_X10_lamp a1 u = some (r, u')) : gm_Met l GC Z yX10_lamp cX10_lamp 2 (some .int) ({ frames := 2, cells := 0, slots := 0, locals := 53 }) [rv Z 1, .int a1] u (some (.int r)) u' := by
  unfold f_X10_lamp at hf
  refine gm_ofW (by decide +kernel) (Nat.le_of_ble_eq_true rfl) ?_
  intro p e s m args below meth c A ls Q R hRf hRl C E hl hw
  obtain ⟨hx, hb, -⟩ := id C
  have hl : lv_has ls 2 [(0, rv Z 1), (1, .int a1)] := hl
  refine lv_iload_n hx hb dX10_lamp_0 rfl (lv_at hl 1 rfl) ?_
  refine lv_iconst (v := 1) hx hb dX10_lamp_1 (by decide) ?_
  refine lv_icmp_lt (tgt := 11) hx hb dX10_lamp_2 (by decide) (fun hc => ?_) (fun hc => ?_)
  · replace hf := (if_pos hc).symm.trans hf
    refine lv_iconst (v := -1) hx hb dX10_lamp_11 (by decide) ?_
    exact gm_iret C E hw rfl ((congrArg (fun z => some (Value.int z)) (gm_sp hf).1).symm) (gm_sp hf).2.symm dX10_lamp_12
  · replace hf := (if_neg hc).symm.trans hf
    refine lv_iload_n hx hb dX10_lamp_5 rfl (lv_at hl 1 rfl) ?_
    refine lv_bipush (v := 20) hx hb dX10_lamp_6 (by decide) ?_
    refine lv_icmp_le (tgt := 13) hx hb dX10_lamp_8 (by decide) (fun hc => ?_) (fun hc => ?_)
    · replace hf := (if_pos hc).symm.trans hf
      refine gm_aload_n (G := GC) (r := 1) C rfl dX10_lamp_13 rfl (lv_at hl 0 rfl) ?_
      obtain ⟨u_1, hc_2, hf⟩ := gm_bnd hf
      refine gm_callV (G := GC) (u := u) (u' := u_1) (r := 1) (ci := 9) (As := []) (rest := []) (res := none) C hw hl (ok_X10_remember l Z u u_1 hc_2) cw_X10_162 im_X10_remember rfl se_X10_remember rfl rfl rfl ⟨Nat.le_trans (Nat.le_of_ble_eq_true rfl) hRf, Nat.le_trans (Nat.le_of_ble_eq_true rfl) hRl⟩ rfl rfl (Nat.le_of_ble_eq_true rfl) dX10_lamp_14 (fun H locs hw => ?_)
      refine gm_aload_n (G := GC) (r := 1) C rfl dX10_lamp_17 rfl (lv_at hl 0 rfl) ?_
      refine gm_getS (G := GC) (u := u_1) (r := 1) (ci := 9) (k := 6) C hw rfl fl_X10_39 dX10_lamp_18 rfl (q := 27) rfl ?_
      refine lv_iload_n hx hb dX10_lamp_21 rfl (lv_at hl 1 rfl) ?_
      obtain ⟨u_3, hc_4, hf⟩ := gm_bnd hf
      refine gm_callV (G := GC) (u := u_1) (u' := u_3) (r := 27) (ci := 0) (As := [.int a1]) (rest := []) (res := none) C hw hl (ok_X1_light l Z 27 a1 u_1 rfl u_3 hc_4) cw_X10_172 im_X1_light rfl se_X1_light rfl rfl rfl ⟨Nat.le_trans (Nat.le_of_ble_eq_true rfl) hRf, Nat.le_trans (Nat.le_of_ble_eq_true rfl) hRl⟩ rfl rfl (Nat.le_of_ble_eq_true rfl) dX10_lamp_22 (fun H locs hw => ?_)
      refine gm_aload_n (G := GC) (r := 1) C rfl dX10_lamp_25 rfl (lv_at hl 0 rfl) ?_
      refine gm_getS (G := GC) (u := u_3) (r := 1) (ci := 9) (k := 6) C hw rfl fl_X10_39 dX10_lamp_26 rfl (q := 27) rfl ?_
      refine gm_getI (G := GC) (u := u_3) (r := 27) (ci := 0) (k := 1) C hw rfl fl_X10_175 dX10_lamp_29 rfl ?_
      exact gm_iret C E hw rfl ((congrArg (fun z => some (Value.int z)) (gm_sp hf).1).symm) (gm_sp hf).2.symm dX10_lamp_32
    · replace hf := (if_neg hc).symm.trans hf
      refine lv_iconst (v := -1) hx hb dX10_lamp_11 (by decide) ?_
      exact gm_iret C E hw rfl ((congrArg (fun z => some (Value.int z)) (gm_sp hf).1).symm) (gm_sp hf).2.symm dX10_lamp_12
/-! LeapCapital.waits -/
def f_X10_waits  (u : gm_M) : Option (Int32 × gm_M) := (f_X10_remember u).bind fun u_1 => if isRealm (gR u_1 1 2) = true then (f_X2_passYear (gR u_1 1 2) 27 (0 : Int32) u_1).bind fun o => match o with | (r_5, u_6) => some (r_5, u_6) else none
set_option maxRecDepth 100000 in
set_option maxHeartbeats 4000000 in
theorem ok_X10_waits (l : Launch) (Z : gm_Z)  (u : gm_M)  (r : Int32) (u' : gm_M) (hf : f_X10_waits u = some (r, u')) : gm_Met l GC Z yX10_waits cX10_waits 1 (some .int) ({ frames := 6, cells := 0, slots := 0, locals := 154 }) [rv Z 1] u (some (.int r)) u' := by
  unfold f_X10_waits at hf
  refine gm_ofW (by decide +kernel) (Nat.le_of_ble_eq_true rfl) ?_
  intro p e s m args below meth c A ls Q R hRf hRl C E hl hw
  obtain ⟨hx, hb, -⟩ := id C
  have hl : lv_has ls 1 [(0, rv Z 1)] := hl
  refine gm_aload_n (G := GC) (r := 1) C rfl dX10_waits_0 rfl (lv_at hl 0 rfl) ?_
  obtain ⟨u_1, hc_2, hf⟩ := gm_bnd hf
  refine gm_callV (G := GC) (u := u) (u' := u_1) (r := 1) (ci := 9) (As := []) (rest := []) (res := none) C hw hl (ok_X10_remember l Z u u_1 hc_2) cw_X10_162 im_X10_remember rfl se_X10_remember rfl rfl rfl ⟨Nat.le_trans (Nat.le_of_ble_eq_true rfl) hRf, Nat.le_trans (Nat.le_of_ble_eq_true rfl) hRl⟩ rfl rfl (Nat.le_of_ble_eq_true rfl) dX10_waits_1 (fun H locs hw => ?_)
  refine gm_aload_n (G := GC) (r := 1) C rfl dX10_waits_4 rfl (lv_at hl 0 rfl) ?_
  refine gm_getS (G := GC) (u := u_1) (r := 1) (ci := 9) (k := 8) C hw rfl fl_X10_53 dX10_waits_5 rfl (q := 35) rfl ?_
  refine gm_aload_n (G := GC) (r := 1) C rfl dX10_waits_8 rfl (lv_at hl 0 rfl) ?_
  refine gm_getR (G := GC) (u := u_1) (r := 1) (ci := 9) (k := 2) C hw rfl fl_X10_19 dX10_waits_9 rfl ?_
  obtain ⟨g_3, hf⟩ := gm_grd hf
  obtain ⟨k_4_0, k_4_1, k_4_2, k_4_3, k_4_4, k_4_5, k_4_6, k_4_7, k_4_8, k_4_9, k_4_10, k_4_11⟩ := fc_Realm g_3
  refine gm_aload_n (G := GC) (r := 1) C rfl dX10_waits_12 rfl (lv_at hl 0 rfl) ?_
  refine gm_getS (G := GC) (u := u_1) (r := 1) (ci := 9) (k := 6) C hw rfl fl_X10_39 dX10_waits_13 rfl (q := 27) rfl ?_
  refine lv_iconst (v := 0) hx hb dX10_waits_16 (by decide) ?_
  obtain ⟨⟨r_5, u_6⟩, hc_7, hf⟩ := gm_bnd hf
  try dsimp only at hf
  refine gm_callV (G := GC) (u := u_1) (u' := u_6) (r := 35) (ci := 1) (As := [rv Z (gR u_1 1 2), rv Z 27, .int (0 : Int32)]) (rest := []) (res := (some (.int r_5))) C hw hl (ok_X2_passYear l Z (gR u_1 1 2) 27 (0 : Int32) u_1 g_3 rfl r_5 u_6 hc_7) cw_X10_178 im_X2_passYear rfl se_X2_passYear rfl rfl rfl ⟨Nat.le_trans (Nat.le_of_ble_eq_true rfl) hRf, Nat.le_trans (Nat.le_of_ble_eq_true rfl) hRl⟩ rfl rfl (Nat.le_of_ble_eq_true rfl) dX10_waits_17 (fun H locs hw => ?_)
  exact gm_iret C E hw rfl ((congrArg (fun z => some (Value.int z)) (gm_sp hf).1).symm) (gm_sp hf).2.symm dX10_waits_20
/-! LeapCapital.ride -/
def f_X10_ride  (u : gm_M) : Option (Int32 × gm_M) := (f_X10_remember u).bind fun u_1 => if isRealm (gR u_1 1 2) = true then (f_X2_passToDay (gR u_1 1 2) 27 (gI u_1 (gR u_1 1 2) 6) u_1).bind fun o => match o with | (r_5, u_6) => some (r_5, u_6) else none
set_option maxRecDepth 100000 in
set_option maxHeartbeats 4000000 in
theorem ok_X10_ride (l : Launch) (Z : gm_Z)  (u : gm_M)  (r : Int32) (u' : gm_M) (hf : f_X10_ride u = some (r, u')) : gm_Met l GC Z yX10_ride cX10_ride 1 (some .int) ({ frames := 6, cells := 0, slots := 0, locals := 152 }) [rv Z 1] u (some (.int r)) u' := by
  unfold f_X10_ride at hf
  refine gm_ofW (by decide +kernel) (Nat.le_of_ble_eq_true rfl) ?_
  intro p e s m args below meth c A ls Q R hRf hRl C E hl hw
  obtain ⟨hx, hb, -⟩ := id C
  have hl : lv_has ls 1 [(0, rv Z 1)] := hl
  refine gm_aload_n (G := GC) (r := 1) C rfl dX10_ride_0 rfl (lv_at hl 0 rfl) ?_
  obtain ⟨u_1, hc_2, hf⟩ := gm_bnd hf
  refine gm_callV (G := GC) (u := u) (u' := u_1) (r := 1) (ci := 9) (As := []) (rest := []) (res := none) C hw hl (ok_X10_remember l Z u u_1 hc_2) cw_X10_162 im_X10_remember rfl se_X10_remember rfl rfl rfl ⟨Nat.le_trans (Nat.le_of_ble_eq_true rfl) hRf, Nat.le_trans (Nat.le_of_ble_eq_true rfl) hRl⟩ rfl rfl (Nat.le_of_ble_eq_true rfl) dX10_ride_1 (fun H locs hw => ?_)
  refine gm_aload_n (G := GC) (r := 1) C rfl dX10_ride_4 rfl (lv_at hl 0 rfl) ?_
  refine gm_getS (G := GC) (u := u_1) (r := 1) (ci := 9) (k := 8) C hw rfl fl_X10_53 dX10_ride_5 rfl (q := 35) rfl ?_
  refine gm_aload_n (G := GC) (r := 1) C rfl dX10_ride_8 rfl (lv_at hl 0 rfl) ?_
  refine gm_getR (G := GC) (u := u_1) (r := 1) (ci := 9) (k := 2) C hw rfl fl_X10_19 dX10_ride_9 rfl ?_
  obtain ⟨g_3, hf⟩ := gm_grd hf
  obtain ⟨k_4_0, k_4_1, k_4_2, k_4_3, k_4_4, k_4_5, k_4_6, k_4_7, k_4_8, k_4_9, k_4_10, k_4_11⟩ := fc_Realm g_3
  refine gm_aload_n (G := GC) (r := 1) C rfl dX10_ride_12 rfl (lv_at hl 0 rfl) ?_
  refine gm_getS (G := GC) (u := u_1) (r := 1) (ci := 9) (k := 6) C hw rfl fl_X10_39 dX10_ride_13 rfl (q := 27) rfl ?_
  refine gm_aload_n (G := GC) (r := 1) C rfl dX10_ride_16 rfl (lv_at hl 0 rfl) ?_
  refine gm_getR (G := GC) (u := u_1) (r := 1) (ci := 9) (k := 2) C hw rfl fl_X10_19 dX10_ride_17 rfl ?_
  refine gm_getI (G := GC) (u := u_1) (r := (gR u_1 1 2)) (ci := 4) (k := 6) C hw k_4_0 fl_X10_182 dX10_ride_20 rfl ?_
  obtain ⟨⟨r_5, u_6⟩, hc_7, hf⟩ := gm_bnd hf
  try dsimp only at hf
  refine gm_callV (G := GC) (u := u_1) (u' := u_6) (r := 35) (ci := 1) (As := [rv Z (gR u_1 1 2), rv Z 27, .int (gI u_1 (gR u_1 1 2) 6)]) (rest := []) (res := (some (.int r_5))) C hw hl (ok_X2_passToDay l Z (gR u_1 1 2) 27 (gI u_1 (gR u_1 1 2) 6) u_1 g_3 rfl r_5 u_6 hc_7) cw_X10_185 im_X2_passToDay rfl se_X2_passToDay rfl rfl rfl ⟨Nat.le_trans (Nat.le_of_ble_eq_true rfl) hRf, Nat.le_trans (Nat.le_of_ble_eq_true rfl) hRl⟩ rfl rfl (Nat.le_of_ble_eq_true rfl) dX10_ride_23 (fun H locs hw => ?_)
  exact gm_iret C E hw rfl ((congrArg (fun z => some (Value.int z)) (gm_sp hf).1).symm) (gm_sp hf).2.symm dX10_ride_26
/-! LeapCapital.undo -/
def f_X10_undo  (u : gm_M) : Option (Int32 × gm_M) := if (gI u 1 10) ≤ 0 then some ((0 : Int32), u) else if (gI u 1 10) ≤ (16 : Int32) then if ib ((gI u 1 10) - (1 : Int32)) 16 = true then if isCourt (gR u 38 (ix ((gI u 1 10) - (1 : Int32)))) = true then gm_let (gR u 38 (ix ((gI u 1 10) - (1 : Int32)))) fun v1_4 => (f_X1_copyFrom 27 v1_4 u).bind fun u_7 => gm_let (sI u_7 1 10 ((gI u_7 1 10) - (1 : Int32))) fun u_9 => some ((1 : Int32), u_9) else none else none else some ((0 : Int32), u)
set_option maxRecDepth 100000 in
set_option maxHeartbeats 4000000 in
theorem ok_X10_undo (l : Launch) (Z : gm_Z)  (u : gm_M)  (r : Int32) (u' : gm_M) (hf : f_X10_undo u = some (r, u')) : gm_Met l GC Z yX10_undo cX10_undo 2 (some .boolean) ({ frames := 1, cells := 0, slots := 0, locals := 22 }) [rv Z 1] u (some (.int r)) u' := by
  unfold f_X10_undo at hf
  refine gm_ofW (by decide +kernel) (Nat.le_of_ble_eq_true rfl) ?_
  intro p e s m args below meth c A ls Q R hRf hRl C E hl hw
  obtain ⟨hx, hb, -⟩ := id C
  have hl : lv_has ls 2 [(0, rv Z 1)] := hl
  refine gm_aload_n (G := GC) (r := 1) C rfl dX10_undo_0 rfl (lv_at hl 0 rfl) ?_
  refine gm_getI (G := GC) (u := u) (r := 1) (ci := 9) (k := 10) C hw rfl fl_X10_61 dX10_undo_1 rfl ?_
  refine lv_if_le (tgt := 19) hx hb dX10_undo_4 (by decide) (fun hc => ?_) (fun hc => ?_)
  · replace hf := (if_pos hc).symm.trans hf
    refine lv_iconst (v := 0) hx hb dX10_undo_19 (by decide) ?_
    exact gm_zret C E hw rfl rfl ((congrArg (fun z => some (Value.int z)) (gm_sp hf).1).symm) (gm_sp hf).2.symm dX10_undo_20
  · replace hf := (if_neg hc).symm.trans hf
    refine gm_aload_n (G := GC) (r := 1) C rfl dX10_undo_7 rfl (lv_at hl 0 rfl) ?_
    refine gm_getI (G := GC) (u := u) (r := 1) (ci := 9) (k := 10) C hw rfl fl_X10_61 dX10_undo_8 rfl ?_
    refine gm_aload_n (G := GC) (r := 1) C rfl dX10_undo_11 rfl (lv_at hl 0 rfl) ?_
    refine gm_getS (G := GC) (u := u) (r := 1) (ci := 9) (k := 9) C hw rfl fl_X10_57 dX10_undo_12 rfl (q := 38) rfl ?_
    refine gm_alen (G := GC) (u := u) (r := 38) (t := 4) (n := 16) (v := 16) C hw rfl (by decide) (by decide) dX10_undo_15 ?_
    refine lv_icmp_le (tgt := 21) hx hb dX10_undo_16 (by decide) (fun hc => ?_) (fun hc => ?_)
    · replace hf := (if_pos hc).symm.trans hf
      refine gm_aload_n (G := GC) (r := 1) C rfl dX10_undo_21 rfl (lv_at hl 0 rfl) ?_
      refine gm_getS (G := GC) (u := u) (r := 1) (ci := 9) (k := 9) C hw rfl fl_X10_57 dX10_undo_22 rfl (q := 38) rfl ?_
      refine gm_aload_n (G := GC) (r := 1) C rfl dX10_undo_25 rfl (lv_at hl 0 rfl) ?_
      refine gm_getI (G := GC) (u := u) (r := 1) (ci := 9) (k := 10) C hw rfl fl_X10_61 dX10_undo_26 rfl ?_
      refine lv_iconst (v := 1) hx hb dX10_undo_29 (by decide) ?_
      refine lv_isub hx hb dX10_undo_30 ?_
      obtain ⟨g_1, hf⟩ := gm_grd hf
      refine gm_aald4 (G := GC) (u := u) (r := 38) (n := 16) (i := (gI u 1 10) - (1 : Int32)) C hw rfl g_1 rfl dX10_undo_31 ?_
      obtain ⟨g_2, hf⟩ := gm_grd hf
      obtain ⟨k_3_0, k_3_1, k_3_2, k_3_3, k_3_4, k_3_5, k_3_6⟩ := fc_Court g_2
      obtain ⟨v1_4, e_v1_4, hf⟩ := gm_le hf
      refine gm_topR e_v1_4 ?_
      have g_5 : isCourt v1_4 = true := by rw [e_v1_4]; exact g_2
      obtain ⟨k_6_0, k_6_1, k_6_2, k_6_3, k_6_4, k_6_5, k_6_6⟩ := fc_Court g_5
      refine gm_astore_n (G := GC) (i := 1) (r := v1_4) (lv' := [(1, rv Z v1_4), (0, rv Z 1)]) C k_6_0 dX10_undo_32 rfl hl (by decide) rfl (fun ls hl => ?_)
      refine gm_aload_n (G := GC) (r := v1_4) C k_6_0 dX10_undo_33 rfl (lv_at hl 0 rfl) ?_
      refine gm_ifnonnull (G := GC) (r := v1_4) (tgt := 39) C k_6_0 dX10_undo_34 (by decide) ?_
      refine gm_aload_n (G := GC) (r := 1) C rfl dX10_undo_39 rfl (lv_at hl 1 rfl) ?_
      refine gm_getS (G := GC) (u := u) (r := 1) (ci := 9) (k := 6) C hw rfl fl_X10_39 dX10_undo_40 rfl (q := 27) rfl ?_
      refine gm_aload_n (G := GC) (r := v1_4) C k_6_0 dX10_undo_43 rfl (lv_at hl 0 rfl) ?_
      obtain ⟨u_7, hc_8, hf⟩ := gm_bnd hf
      refine gm_callV (G := GC) (u := u) (u' := u_7) (r := 27) (ci := 0) (As := [rv Z v1_4]) (rest := []) (res := none) C hw hl (ok_X1_copyFrom l Z 27 v1_4 u rfl g_5 u_7 hc_8) cw_X10_189 im_X1_copyFrom rfl se_X1_copyFrom rfl rfl rfl ⟨Nat.le_trans (Nat.le_of_ble_eq_true rfl) hRf, Nat.le_trans (Nat.le_of_ble_eq_true rfl) hRl⟩ rfl rfl (Nat.le_of_ble_eq_true rfl) dX10_undo_44 (fun H locs hw => ?_)
      refine gm_aload_n (G := GC) (r := 1) C rfl dX10_undo_47 rfl (lv_at hl 1 rfl) ?_
      refine lv_dup hx hb dX10_undo_48 (gm_cat _ _) ?_
      refine gm_getI (G := GC) (u := u_7) (r := 1) (ci := 9) (k := 10) C hw rfl fl_X10_61 dX10_undo_49 rfl ?_
      refine lv_iconst (v := 1) hx hb dX10_undo_52 (by decide) ?_
      refine lv_isub hx hb dX10_undo_53 ?_
      refine gm_putI (G := GC) (u := u_7) (r := 1) (ci := 9) (k := 10) (v := (gI u_7 1 10) - (1 : Int32)) C hw rfl fl_X10_61 fp_9_10 dX10_undo_54 rfl (fun H locs hw => ?_)
      obtain ⟨u_9, e_u_9, hf⟩ := gm_le hf
      rw [← e_u_9] at hw
      refine lv_iconst (v := 1) hx hb dX10_undo_57 (by decide) ?_
      exact gm_zret C E hw rfl rfl ((congrArg (fun z => some (Value.int z)) (gm_sp hf).1).symm) (gm_sp hf).2.symm dX10_undo_58
    · replace hf := (if_neg hc).symm.trans hf
      refine lv_iconst (v := 0) hx hb dX10_undo_19 (by decide) ?_
      exact gm_zret C E hw rfl rfl ((congrArg (fun z => some (Value.int z)) (gm_sp hf).1).symm) (gm_sp hf).2.symm dX10_undo_20
/-! LeapCapital.follow -/
def f_X10_follow (a1 : Int32) (a2 : Int32) (u : gm_M) : Option (Int32 × gm_M) := if a1 = (7 : Int32) then if isRealm (gR u 1 2) = true then (f_X1_mayEnter 40 (gR u 1 2) a2 u).bind fun r_3 => if r_3 = 0 then some ((0 : Int32), u) else (f_X1_enter 40 a2 u).bind fun u_5 => some ((1 : Int32), u_5) else none else if a1 = (8 : Int32) then (f_X1_isQueued 40 a2 u).bind fun r_8 => if r_8 = 0 then some ((0 : Int32), u) else (f_X1_goOut 40 a2 u).bind fun u_10 => some ((1 : Int32), u_10) else if a1 = (9 : Int32) then (f_X1_light 40 a2 u).bind fun u_13 => some ((1 : Int32), u_13) else if a1 = (10 : Int32) then if isRealm (gR u 1 2) = true then (f_X2_passYear (gR u 1 2) 40 (0 : Int32) u).bind fun o => match o with | (r_18, u_19) => some ((1 : Int32), u_19) else none else if isRealm (gR u 1 2) = true then (f_X2_passToDay (gR u 1 2) 40 (gI u (gR u 1 2) 6) u).bind fun o => match o with | (r_25, u_26) => some ((1 : Int32), u_26) else none
set_option maxRecDepth 100000 in
set_option maxHeartbeats 4000000 in
theorem ok_X10_follow (l : Launch) (Z : gm_Z) (a1 : Int32) (a2 : Int32) (u : gm_M)  (r : Int32) (u' : gm_M) (hf : f_X10_follow a1 a2 u = some (r, u')) : gm_Met l GC Z yX10_follow cX10_follow 3 (some .boolean) ({ frames := 6, cells := 0, slots := 0, locals := 154 }) [rv Z 1, .int a1, .int a2] u (some (.int r)) u' := by
  unfold f_X10_follow at hf
  refine gm_ofW (by decide +kernel) (Nat.le_of_ble_eq_true rfl) ?_
  intro p e s m args below meth c A ls Q R hRf hRl C E hl hw
  obtain ⟨hx, hb, -⟩ := id C
  have hl : lv_has ls 3 [(0, rv Z 1), (1, .int a1), (2, .int a2)] := hl
  refine lv_iload_n hx hb dX10_follow_0 rfl (lv_at hl 1 rfl) ?_
  by_cases hq_7 : a1 = (7 : Int32)
  · replace hf := (if_pos hq_7).symm.trans hf
    refine lv_tableIn (off := 31) (tgt := 32) hx hb dX10_follow_1 (by rw [hq_7]; decide) (by rw [hq_7]; decide) (by rw [hq_7]; rfl) (by decide) ?_
    refine gm_aload_n (G := GC) (r := 1) C rfl dX10_follow_32 rfl (lv_at hl 0 rfl) ?_
    refine gm_getS (G := GC) (u := u) (r := 1) (ci := 9) (k := 12) C hw rfl fl_X10_71 dX10_follow_33 rfl (q := 40) rfl ?_
    refine gm_aload_n (G := GC) (r := 1) C rfl dX10_follow_36 rfl (lv_at hl 0 rfl) ?_
    refine gm_getR (G := GC) (u := u) (r := 1) (ci := 9) (k := 2) C hw rfl fl_X10_19 dX10_follow_37 rfl ?_
    obtain ⟨g_1, hf⟩ := gm_grd hf
    obtain ⟨k_2_0, k_2_1, k_2_2, k_2_3, k_2_4, k_2_5, k_2_6, k_2_7, k_2_8, k_2_9, k_2_10, k_2_11⟩ := fc_Realm g_1
    refine lv_iload_n hx hb dX10_follow_40 rfl (lv_at hl 2 rfl) ?_
    obtain ⟨r_3, hc_4, hf⟩ := gm_bnd hf
    refine gm_callV (G := GC) (u := u) (u' := u) (r := 40) (ci := 0) (As := [rv Z (gR u 1 2), .int a2]) (rest := []) (res := (some (.int r_3))) C hw hl (ok_X1_mayEnter l Z 40 (gR u 1 2) a2 u rfl g_1 r_3 hc_4) cw_X10_158 im_X1_mayEnter rfl se_X1_mayEnter rfl rfl rfl ⟨Nat.le_trans (Nat.le_of_ble_eq_true rfl) hRf, Nat.le_trans (Nat.le_of_ble_eq_true rfl) hRl⟩ rfl rfl (Nat.le_of_ble_eq_true rfl) dX10_follow_41 (fun H locs hw => ?_)
    refine lv_if_ne (tgt := 49) hx hb dX10_follow_44 (by decide) (fun hc => ?_) (fun hc => ?_)
    · replace hf := (if_neg hc).symm.trans hf
      refine gm_aload_n (G := GC) (r := 1) C rfl dX10_follow_49 rfl (lv_at hl 0 rfl) ?_
      refine gm_getS (G := GC) (u := u) (r := 1) (ci := 9) (k := 12) C hw rfl fl_X10_71 dX10_follow_50 rfl (q := 40) rfl ?_
      refine lv_iload_n hx hb dX10_follow_53 rfl (lv_at hl 2 rfl) ?_
      obtain ⟨u_5, hc_6, hf⟩ := gm_bnd hf
      refine gm_callV (G := GC) (u := u) (u' := u_5) (r := 40) (ci := 0) (As := [.int a2]) (rest := []) (res := none) C hw hl (ok_X1_enter l Z 40 a2 u rfl u_5 hc_6) cw_X10_165 im_X1_enter rfl se_X1_enter rfl rfl rfl ⟨Nat.le_trans (Nat.le_of_ble_eq_true rfl) hRf, Nat.le_trans (Nat.le_of_ble_eq_true rfl) hRl⟩ rfl rfl (Nat.le_of_ble_eq_true rfl) dX10_follow_54 (fun H locs hw => ?_)
      refine lv_iconst (v := 1) hx hb dX10_follow_57 (by decide) ?_
      exact gm_zret C E hw rfl rfl ((congrArg (fun z => some (Value.int z)) (gm_sp hf).1).symm) (gm_sp hf).2.symm dX10_follow_58
    · replace hf := (if_pos hc).symm.trans hf
      refine lv_iconst (v := 0) hx hb dX10_follow_47 (by decide) ?_
      exact gm_zret C E hw rfl rfl ((congrArg (fun z => some (Value.int z)) (gm_sp hf).1).symm) (gm_sp hf).2.symm dX10_follow_48
  replace hf := (if_neg hq_7).symm.trans hf
  by_cases hq_12 : a1 = (8 : Int32)
  · replace hf := (if_pos hq_12).symm.trans hf
    refine lv_tableIn (off := 58) (tgt := 59) hx hb dX10_follow_1 (by rw [hq_12]; decide) (by rw [hq_12]; decide) (by rw [hq_12]; rfl) (by decide) ?_
    refine gm_aload_n (G := GC) (r := 1) C rfl dX10_follow_59 rfl (lv_at hl 0 rfl) ?_
    refine gm_getS (G := GC) (u := u) (r := 1) (ci := 9) (k := 12) C hw rfl fl_X10_71 dX10_follow_60 rfl (q := 40) rfl ?_
    refine lv_iload_n hx hb dX10_follow_63 rfl (lv_at hl 2 rfl) ?_
    obtain ⟨r_8, hc_9, hf⟩ := gm_bnd hf
    refine gm_callV (G := GC) (u := u) (u' := u) (r := 40) (ci := 0) (As := [.int a2]) (rest := []) (res := (some (.int r_8))) C hw hl (ok_X1_isQueued l Z 40 a2 u rfl r_8 hc_9) cw_X10_149 im_X1_isQueued rfl se_X1_isQueued rfl rfl rfl ⟨Nat.le_trans (Nat.le_of_ble_eq_true rfl) hRf, Nat.le_trans (Nat.le_of_ble_eq_true rfl) hRl⟩ rfl rfl (Nat.le_of_ble_eq_true rfl) dX10_follow_64 (fun H locs hw => ?_)
    refine lv_if_ne (tgt := 72) hx hb dX10_follow_67 (by decide) (fun hc => ?_) (fun hc => ?_)
    · replace hf := (if_neg hc).symm.trans hf
      refine gm_aload_n (G := GC) (r := 1) C rfl dX10_follow_72 rfl (lv_at hl 0 rfl) ?_
      refine gm_getS (G := GC) (u := u) (r := 1) (ci := 9) (k := 12) C hw rfl fl_X10_71 dX10_follow_73 rfl (q := 40) rfl ?_
      refine lv_iload_n hx hb dX10_follow_76 rfl (lv_at hl 2 rfl) ?_
      obtain ⟨u_10, hc_11, hf⟩ := gm_bnd hf
      refine gm_callV (G := GC) (u := u) (u' := u_10) (r := 40) (ci := 0) (As := [.int a2]) (rest := []) (res := none) C hw hl (ok_X1_goOut l Z 40 a2 u rfl u_10 hc_11) cw_X10_169 im_X1_goOut rfl se_X1_goOut rfl rfl rfl ⟨Nat.le_trans (Nat.le_of_ble_eq_true rfl) hRf, Nat.le_trans (Nat.le_of_ble_eq_true rfl) hRl⟩ rfl rfl (Nat.le_of_ble_eq_true rfl) dX10_follow_77 (fun H locs hw => ?_)
      refine lv_iconst (v := 1) hx hb dX10_follow_80 (by decide) ?_
      exact gm_zret C E hw rfl rfl ((congrArg (fun z => some (Value.int z)) (gm_sp hf).1).symm) (gm_sp hf).2.symm dX10_follow_81
    · replace hf := (if_pos hc).symm.trans hf
      refine lv_iconst (v := 0) hx hb dX10_follow_70 (by decide) ?_
      exact gm_zret C E hw rfl rfl ((congrArg (fun z => some (Value.int z)) (gm_sp hf).1).symm) (gm_sp hf).2.symm dX10_follow_71
  replace hf := (if_neg hq_12).symm.trans hf
  by_cases hq_15 : a1 = (9 : Int32)
  · replace hf := (if_pos hq_15).symm.trans hf
    refine lv_tableIn (off := 81) (tgt := 82) hx hb dX10_follow_1 (by rw [hq_15]; decide) (by rw [hq_15]; decide) (by rw [hq_15]; rfl) (by decide) ?_
    refine gm_aload_n (G := GC) (r := 1) C rfl dX10_follow_82 rfl (lv_at hl 0 rfl) ?_
    refine gm_getS (G := GC) (u := u) (r := 1) (ci := 9) (k := 12) C hw rfl fl_X10_71 dX10_follow_83 rfl (q := 40) rfl ?_
    refine lv_iload_n hx hb dX10_follow_86 rfl (lv_at hl 2 rfl) ?_
    obtain ⟨u_13, hc_14, hf⟩ := gm_bnd hf
    refine gm_callV (G := GC) (u := u) (u' := u_13) (r := 40) (ci := 0) (As := [.int a2]) (rest := []) (res := none) C hw hl (ok_X1_light l Z 40 a2 u rfl u_13 hc_14) cw_X10_172 im_X1_light rfl se_X1_light rfl rfl rfl ⟨Nat.le_trans (Nat.le_of_ble_eq_true rfl) hRf, Nat.le_trans (Nat.le_of_ble_eq_true rfl) hRl⟩ rfl rfl (Nat.le_of_ble_eq_true rfl) dX10_follow_87 (fun H locs hw => ?_)
    refine lv_iconst (v := 1) hx hb dX10_follow_90 (by decide) ?_
    exact gm_zret C E hw rfl rfl ((congrArg (fun z => some (Value.int z)) (gm_sp hf).1).symm) (gm_sp hf).2.symm dX10_follow_91
  replace hf := (if_neg hq_15).symm.trans hf
  by_cases hq_22 : a1 = (10 : Int32)
  · replace hf := (if_pos hq_22).symm.trans hf
    refine lv_tableIn (off := 91) (tgt := 92) hx hb dX10_follow_1 (by rw [hq_22]; decide) (by rw [hq_22]; decide) (by rw [hq_22]; rfl) (by decide) ?_
    refine gm_aload_n (G := GC) (r := 1) C rfl dX10_follow_92 rfl (lv_at hl 0 rfl) ?_
    refine gm_getS (G := GC) (u := u) (r := 1) (ci := 9) (k := 8) C hw rfl fl_X10_53 dX10_follow_93 rfl (q := 35) rfl ?_
    refine gm_aload_n (G := GC) (r := 1) C rfl dX10_follow_96 rfl (lv_at hl 0 rfl) ?_
    refine gm_getR (G := GC) (u := u) (r := 1) (ci := 9) (k := 2) C hw rfl fl_X10_19 dX10_follow_97 rfl ?_
    obtain ⟨g_16, hf⟩ := gm_grd hf
    obtain ⟨k_17_0, k_17_1, k_17_2, k_17_3, k_17_4, k_17_5, k_17_6, k_17_7, k_17_8, k_17_9, k_17_10, k_17_11⟩ := fc_Realm g_16
    refine gm_aload_n (G := GC) (r := 1) C rfl dX10_follow_100 rfl (lv_at hl 0 rfl) ?_
    refine gm_getS (G := GC) (u := u) (r := 1) (ci := 9) (k := 12) C hw rfl fl_X10_71 dX10_follow_101 rfl (q := 40) rfl ?_
    refine lv_iconst (v := 0) hx hb dX10_follow_104 (by decide) ?_
    obtain ⟨⟨r_18, u_19⟩, hc_20, hf⟩ := gm_bnd hf
    try dsimp only at hf
    refine gm_callV (G := GC) (u := u) (u' := u_19) (r := 35) (ci := 1) (As := [rv Z (gR u 1 2), rv Z 40, .int (0 : Int32)]) (rest := []) (res := (some (.int r_18))) C hw hl (ok_X2_passYear l Z (gR u 1 2) 40 (0 : Int32) u g_16 rfl r_18 u_19 hc_20) cw_X10_178 im_X2_passYear rfl se_X2_passYear rfl rfl rfl ⟨Nat.le_trans (Nat.le_of_ble_eq_true rfl) hRf, Nat.le_trans (Nat.le_of_ble_eq_true rfl) hRl⟩ rfl rfl (Nat.le_of_ble_eq_true rfl) dX10_follow_105 (fun H locs hw => ?_)
    refine lv_pop hx hb dX10_follow_108 rfl ?_
    refine lv_iconst (v := 1) hx hb dX10_follow_109 (by decide) ?_
    exact gm_zret C E hw rfl rfl ((congrArg (fun z => some (Value.int z)) (gm_sp hf).1).symm) (gm_sp hf).2.symm dX10_follow_110
  replace hf := (if_neg hq_22).symm.trans hf
  refine lv_tableOut (tgt := 111) hx hb dX10_follow_1 (Classical.byContradiction (fun hq => by
    obtain ⟨i, hi, e⟩ := gm_rng hq
    match i, hi with
    | 0, _ => exact hq_7 (e.trans (by decide))
    | 1, _ => exact hq_12 (e.trans (by decide))
    | 2, _ => exact hq_15 (e.trans (by decide))
    | 3, _ => exact hq_22 (e.trans (by decide))
    | (n + 4), h => exact absurd h (by simp only [Int.reduceSub, Int.reduceAdd, Int.reduceToNat, Int.reduceNeg, Int.sub_neg]; omega))) (by decide) ?_
  refine gm_aload_n (G := GC) (r := 1) C rfl dX10_follow_111 rfl (lv_at hl 0 rfl) ?_
  refine gm_getS (G := GC) (u := u) (r := 1) (ci := 9) (k := 8) C hw rfl fl_X10_53 dX10_follow_112 rfl (q := 35) rfl ?_
  refine gm_aload_n (G := GC) (r := 1) C rfl dX10_follow_115 rfl (lv_at hl 0 rfl) ?_
  refine gm_getR (G := GC) (u := u) (r := 1) (ci := 9) (k := 2) C hw rfl fl_X10_19 dX10_follow_116 rfl ?_
  obtain ⟨g_23, hf⟩ := gm_grd hf
  obtain ⟨k_24_0, k_24_1, k_24_2, k_24_3, k_24_4, k_24_5, k_24_6, k_24_7, k_24_8, k_24_9, k_24_10, k_24_11⟩ := fc_Realm g_23
  refine gm_aload_n (G := GC) (r := 1) C rfl dX10_follow_119 rfl (lv_at hl 0 rfl) ?_
  refine gm_getS (G := GC) (u := u) (r := 1) (ci := 9) (k := 12) C hw rfl fl_X10_71 dX10_follow_120 rfl (q := 40) rfl ?_
  refine gm_aload_n (G := GC) (r := 1) C rfl dX10_follow_123 rfl (lv_at hl 0 rfl) ?_
  refine gm_getR (G := GC) (u := u) (r := 1) (ci := 9) (k := 2) C hw rfl fl_X10_19 dX10_follow_124 rfl ?_
  refine gm_getI (G := GC) (u := u) (r := (gR u 1 2)) (ci := 4) (k := 6) C hw k_24_0 fl_X10_182 dX10_follow_127 rfl ?_
  obtain ⟨⟨r_25, u_26⟩, hc_27, hf⟩ := gm_bnd hf
  try dsimp only at hf
  refine gm_callV (G := GC) (u := u) (u' := u_26) (r := 35) (ci := 1) (As := [rv Z (gR u 1 2), rv Z 40, .int (gI u (gR u 1 2) 6)]) (rest := []) (res := (some (.int r_25))) C hw hl (ok_X2_passToDay l Z (gR u 1 2) 40 (gI u (gR u 1 2) 6) u g_23 rfl r_25 u_26 hc_27) cw_X10_185 im_X2_passToDay rfl se_X2_passToDay rfl rfl rfl ⟨Nat.le_trans (Nat.le_of_ble_eq_true rfl) hRf, Nat.le_trans (Nat.le_of_ble_eq_true rfl) hRl⟩ rfl rfl (Nat.le_of_ble_eq_true rfl) dX10_follow_130 (fun H locs hw => ?_)
  refine lv_pop hx hb dX10_follow_133 rfl ?_
  refine lv_iconst (v := 1) hx hb dX10_follow_134 (by decide) ?_
  exact gm_zret C E hw rfl rfl ((congrArg (fun z => some (Value.int z)) (gm_sp hf).1).symm) (gm_sp hf).2.symm dX10_follow_135
/-! java/lang/Integer.bitCount -/
def f_J6_bitCount_0f7a4 (a0 : Int32) : Int32 := gm_let (a0 - (((a0.toUInt32 >>> ((1 : Int32).toUInt32 &&& Int32.toUInt32 31)).toInt32) &&& (1431655765 : Int32))) fun v0_1 => gm_let ((v0_1 &&& (858993459 : Int32)) + (((v0_1.toUInt32 >>> ((2 : Int32).toUInt32 &&& Int32.toUInt32 31)).toInt32) &&& (858993459 : Int32))) fun v0_2 => gm_let ((v0_2 + ((v0_2.toUInt32 >>> ((4 : Int32).toUInt32 &&& Int32.toUInt32 31)).toInt32)) &&& (252645135 : Int32)) fun v0_3 => gm_let (v0_3 + ((v0_3.toUInt32 >>> ((8 : Int32).toUInt32 &&& Int32.toUInt32 31)).toInt32)) fun v0_4 => gm_let (v0_4 + ((v0_4.toUInt32 >>> ((16 : Int32).toUInt32 &&& Int32.toUInt32 31)).toInt32)) fun v0_5 => v0_5 &&& (63 : Int32)
set_option maxRecDepth 100000 in
set_option maxHeartbeats 4000000 in
theorem ok_J6_bitCount_0f7a4 (l : Launch) (Z : gm_Z) (a0 : Int32) (u : gm_M)  : gm_Met l GC Z yJ6_bitCount_0f7a4 cJ6_bitCount_0f7a4 1 (some .int) ({ frames := 0, cells := 0, slots := 0, locals := 0 }) [.int a0] u (some (.int (f_J6_bitCount_0f7a4 a0))) u := by
  obtain ⟨r, hf⟩ : ∃ r, f_J6_bitCount_0f7a4 a0 = r := ⟨_, rfl⟩
  rw [hf]
  unfold f_J6_bitCount_0f7a4 at hf
  refine gm_ofW (by decide +kernel) (Nat.le_of_ble_eq_true rfl) ?_
  intro p e s m args below meth c A ls Q R hRf hRl C E hl hw
  obtain ⟨hx, hb, -⟩ := id C
  have hl : lv_has ls 1 [(0, .int a0)] := hl
  refine lv_iload_n hx hb dJ6_bitCount_0f7a4_0 rfl (lv_at hl 0 rfl) ?_
  refine lv_iload_n hx hb dJ6_bitCount_0f7a4_1 rfl (lv_at hl 0 rfl) ?_
  refine lv_iconst (v := 1) hx hb dJ6_bitCount_0f7a4_2 (by decide) ?_
  refine lv_iushr hx hb dJ6_bitCount_0f7a4_3 rfl ?_
  refine lv_ldcw hx hb C.2.2.2.1 (C.2.2.2.2.1 _ kn_J6_265) dJ6_bitCount_0f7a4_4 ?_
  refine lv_iand hx hb dJ6_bitCount_0f7a4_7 ?_
  refine lv_isub hx hb dJ6_bitCount_0f7a4_8 ?_
  obtain ⟨v0_1, e_v0_1, hf⟩ := gm_le hf
  refine gm_topI e_v0_1 ?_
  refine lv_istore_n (i := 0) (lv' := [(0, .int v0_1)]) hx hb dJ6_bitCount_0f7a4_9 rfl hl (by decide) rfl (fun ls hl => ?_)
  refine lv_iload_n hx hb dJ6_bitCount_0f7a4_10 rfl (lv_at hl 0 rfl) ?_
  refine lv_ldcw hx hb C.2.2.2.1 (C.2.2.2.2.1 _ kn_J6_266) dJ6_bitCount_0f7a4_11 ?_
  refine lv_iand hx hb dJ6_bitCount_0f7a4_14 ?_
  refine lv_iload_n hx hb dJ6_bitCount_0f7a4_15 rfl (lv_at hl 0 rfl) ?_
  refine lv_iconst (v := 2) hx hb dJ6_bitCount_0f7a4_16 (by decide) ?_
  refine lv_iushr hx hb dJ6_bitCount_0f7a4_17 rfl ?_
  refine lv_ldcw hx hb C.2.2.2.1 (C.2.2.2.2.1 _ kn_J6_266) dJ6_bitCount_0f7a4_18 ?_
  refine lv_iand hx hb dJ6_bitCount_0f7a4_21 ?_
  refine lv_iadd hx hb dJ6_bitCount_0f7a4_22 ?_
  obtain ⟨v0_2, e_v0_2, hf⟩ := gm_le hf
  refine gm_topI e_v0_2 ?_
  refine lv_istore_n (i := 0) (lv' := [(0, .int v0_2)]) hx hb dJ6_bitCount_0f7a4_23 rfl hl (by decide) rfl (fun ls hl => ?_)
  refine lv_iload_n hx hb dJ6_bitCount_0f7a4_24 rfl (lv_at hl 0 rfl) ?_
  refine lv_iload_n hx hb dJ6_bitCount_0f7a4_25 rfl (lv_at hl 0 rfl) ?_
  refine lv_iconst (v := 4) hx hb dJ6_bitCount_0f7a4_26 (by decide) ?_
  refine lv_iushr hx hb dJ6_bitCount_0f7a4_27 rfl ?_
  refine lv_iadd hx hb dJ6_bitCount_0f7a4_28 ?_
  refine lv_ldcw hx hb C.2.2.2.1 (C.2.2.2.2.1 _ kn_J6_267) dJ6_bitCount_0f7a4_29 ?_
  refine lv_iand hx hb dJ6_bitCount_0f7a4_32 ?_
  obtain ⟨v0_3, e_v0_3, hf⟩ := gm_le hf
  refine gm_topI e_v0_3 ?_
  refine lv_istore_n (i := 0) (lv' := [(0, .int v0_3)]) hx hb dJ6_bitCount_0f7a4_33 rfl hl (by decide) rfl (fun ls hl => ?_)
  refine lv_iload_n hx hb dJ6_bitCount_0f7a4_34 rfl (lv_at hl 0 rfl) ?_
  refine lv_iload_n hx hb dJ6_bitCount_0f7a4_35 rfl (lv_at hl 0 rfl) ?_
  refine lv_bipush (v := 8) hx hb dJ6_bitCount_0f7a4_36 (by decide) ?_
  refine lv_iushr hx hb dJ6_bitCount_0f7a4_38 rfl ?_
  refine lv_iadd hx hb dJ6_bitCount_0f7a4_39 ?_
  obtain ⟨v0_4, e_v0_4, hf⟩ := gm_le hf
  refine gm_topI e_v0_4 ?_
  refine lv_istore_n (i := 0) (lv' := [(0, .int v0_4)]) hx hb dJ6_bitCount_0f7a4_40 rfl hl (by decide) rfl (fun ls hl => ?_)
  refine lv_iload_n hx hb dJ6_bitCount_0f7a4_41 rfl (lv_at hl 0 rfl) ?_
  refine lv_iload_n hx hb dJ6_bitCount_0f7a4_42 rfl (lv_at hl 0 rfl) ?_
  refine lv_bipush (v := 16) hx hb dJ6_bitCount_0f7a4_43 (by decide) ?_
  refine lv_iushr hx hb dJ6_bitCount_0f7a4_45 rfl ?_
  refine lv_iadd hx hb dJ6_bitCount_0f7a4_46 ?_
  obtain ⟨v0_5, e_v0_5, hf⟩ := gm_le hf
  refine gm_topI e_v0_5 ?_
  refine lv_istore_n (i := 0) (lv' := [(0, .int v0_5)]) hx hb dJ6_bitCount_0f7a4_47 rfl hl (by decide) rfl (fun ls hl => ?_)
  refine lv_iload_n hx hb dJ6_bitCount_0f7a4_48 rfl (lv_at hl 0 rfl) ?_
  refine lv_bipush (v := 63) hx hb dJ6_bitCount_0f7a4_49 (by decide) ?_
  refine lv_iand hx hb dJ6_bitCount_0f7a4_51 ?_
  exact gm_iret C E hw rfl ((congrArg (fun z => some (Value.int z)) hf).symm) rfl dJ6_bitCount_0f7a4_52
/-! LeapCapital.judged -/
def j_X10_judged_79 (a1 : Int32) (v2_10 : Int32) (v3_11 : Int32) (v4_12 : Int32) (u_9 : gm_M) : Option ((Int32 × Int32 × Int32 × gm_M) ⊕ ((Int32 × Int32 × gm_M))) := if (gI u_9 40 2) = 0 then some (.inl (v2_10, v3_11, v4_12 + (1 : Int32), u_9)) else if v3_11 = (-1 : Int32) then some (.inl (v2_10, v4_12, v4_12 + (1 : Int32), u_9)) else some (.inl (v2_10, v3_11, v4_12 + (1 : Int32), u_9))
def b_X10_judged_30 (a1 : Int32) : (Int32 × Int32 × Int32 × gm_M) → Option ((Int32 × Int32 × Int32 × gm_M) ⊕ ((Int32 × Int32 × gm_M))) := fun x => match x with | (v2_6, v3_7, v4_8, u_5) => if isReign (gR u_5 1 4) = true then if (gI u_5 (gR u_5 1 4) 2) ≤ v4_8 then some (.inr (v2_6, v3_7, u_5)) else (f_X6_actOf (gR u_5 1 4) v4_8 u_5).bind fun r_15 => (f_X6_partOf (gR u_5 1 4) v4_8 u_5).bind fun r_17 => (f_X10_follow r_15 r_17 u_5).bind fun o => match o with | (r_19, u_20) => if r_19 = 0 then if v2_6 = (-1 : Int32) then j_X10_judged_79 a1 v4_8 v3_7 v4_8 u_20 else j_X10_judged_79 a1 v2_6 v3_7 v4_8 u_20 else j_X10_judged_79 a1 v2_6 v3_7 v4_8 u_20 else none
def f_X10_judged (a1 : Int32) (u : gm_M) : Option (Int32 × gm_M) := if a1 < 0 then some ((-2 : Int32), u) else if a1 ≤ (2 : Int32) then if isRealm (gR u 1 2) = true then (f_X1_begin 40 (gR u 1 2) u).bind fun u_3 => ((gm_lp (b_X10_judged_30 a1) gm_FU ((-1 : Int32), (-1 : Int32), (0 : Int32), u_3)).bind fun o => match o with | (w2_23, w3_24, u_25) => if a1 = 0 then some (w2_23, u_25) else if a1 = (1 : Int32) then some (w3_24, u_25) else gm_let (f_J6_bitCount_0f7a4 (gI u_25 40 2)) fun r_26 => some (r_26, u_25)) else none else some ((-2 : Int32), u)
set_option maxRecDepth 100000 in
set_option maxHeartbeats 4000000 in
theorem ok_X10_judged (l : Launch) (Z : gm_Z) (a1 : Int32) (u : gm_M)  (r : Int32) (u' : gm_M) (hf : f_X10_judged a1 u = some (r, u')) : gm_Met l GC Z yX10_judged cX10_judged 6 (some .int) ({ frames := 7, cells := 0, slots := 0, locals := 176 }) [rv Z 1, .int a1] u (some (.int r)) u' := by
  unfold f_X10_judged at hf
  refine gm_ofW (by decide +kernel) (Nat.le_of_ble_eq_true rfl) ?_
  intro p e s m args below meth c A ls Q R hRf hRl C E hl hw
  obtain ⟨hx, hb, -⟩ := id C
  have hl : lv_has ls 6 [(0, rv Z 1), (1, .int a1)] := hl
  refine lv_iload_n hx hb dX10_judged_0 rfl (lv_at hl 1 rfl) ?_
  refine lv_if_lt (tgt := 9) hx hb dX10_judged_1 (by decide) (fun hc => ?_) (fun hc => ?_)
  · replace hf := (if_pos hc).symm.trans hf
    refine lv_bipush (v := -2) hx hb dX10_judged_9 (by decide) ?_
    exact gm_iret C E hw rfl ((congrArg (fun z => some (Value.int z)) (gm_sp hf).1).symm) (gm_sp hf).2.symm dX10_judged_11
  · replace hf := (if_neg hc).symm.trans hf
    refine lv_iload_n hx hb dX10_judged_4 rfl (lv_at hl 1 rfl) ?_
    refine lv_iconst (v := 2) hx hb dX10_judged_5 (by decide) ?_
    refine lv_icmp_le (tgt := 12) hx hb dX10_judged_6 (by decide) (fun hc => ?_) (fun hc => ?_)
    · replace hf := (if_pos hc).symm.trans hf
      refine lv_iconst (v := -1) hx hb dX10_judged_12 (by decide) ?_
      refine lv_istore_n (i := 2) (lv' := [(2, .int (-1 : Int32)), (0, rv Z 1), (1, .int a1)]) hx hb dX10_judged_13 rfl hl (by decide) rfl (fun ls hl => ?_)
      refine lv_iconst (v := -1) hx hb dX10_judged_14 (by decide) ?_
      refine lv_istore_n (i := 3) (lv' := [(3, .int (-1 : Int32)), (2, .int (-1 : Int32)), (0, rv Z 1), (1, .int a1)]) hx hb dX10_judged_15 rfl hl (by decide) rfl (fun ls hl => ?_)
      refine gm_aload_n (G := GC) (r := 1) C rfl dX10_judged_16 rfl (lv_at hl 2 rfl) ?_
      refine gm_getS (G := GC) (u := u) (r := 1) (ci := 9) (k := 12) C hw rfl fl_X10_71 dX10_judged_17 rfl (q := 40) rfl ?_
      refine gm_aload_n (G := GC) (r := 1) C rfl dX10_judged_20 rfl (lv_at hl 2 rfl) ?_
      refine gm_getR (G := GC) (u := u) (r := 1) (ci := 9) (k := 2) C hw rfl fl_X10_19 dX10_judged_21 rfl ?_
      obtain ⟨g_1, hf⟩ := gm_grd hf
      obtain ⟨k_2_0, k_2_1, k_2_2, k_2_3, k_2_4, k_2_5, k_2_6, k_2_7, k_2_8, k_2_9, k_2_10, k_2_11⟩ := fc_Realm g_1
      obtain ⟨u_3, hc_4, hf⟩ := gm_bnd hf
      refine gm_callV (G := GC) (u := u) (u' := u_3) (r := 40) (ci := 0) (As := [rv Z (gR u 1 2)]) (rest := []) (res := none) C hw hl (ok_X1_begin l Z 40 (gR u 1 2) u rfl g_1 u_3 hc_4) cw_X10_86 im_X1_begin rfl se_X1_begin rfl rfl rfl ⟨Nat.le_trans (Nat.le_of_ble_eq_true rfl) hRf, Nat.le_trans (Nat.le_of_ble_eq_true rfl) hRl⟩ rfl rfl (Nat.le_of_ble_eq_true rfl) dX10_judged_24 (fun H locs hw => ?_)
      refine lv_iconst (v := 0) hx hb dX10_judged_27 (by decide) ?_
      refine lv_istore (i := 4) (lv' := [(4, .int (0 : Int32)), (3, .int (-1 : Int32)), (2, .int (-1 : Int32)), (0, rv Z 1), (1, .int a1)]) hx hb dX10_judged_28 hl (by decide) rfl (fun ls hl => ?_)
      obtain ⟨o1, hlp, hf⟩ := gm_bnd hf
      have L30_1 := gm_loop (b_X10_judged_30 a1) (fun x : (Int32 × Int32 × Int32 × gm_M) => ∀ (H : Heap) (locs : List Loc) (ls : Array Slot), lv_has ls 6 [(0, rv Z 1), (1, .int a1), (2, .int x.1), (3, .int x.2.1), (4, .int x.2.2.1)] → wd GC Z x.2.2.2 A s.heap H locs → W p l e R s m args below meth c H locs 0 0 Q (F0 m 30 ls [])) (fun z : ((Int32 × Int32 × gm_M)) => ∀ (H : Heap) (locs : List Loc) (ls : Array Slot), lv_has ls 6 [(0, rv Z 1), (1, .int a1), (2, .int z.1), (3, .int z.2.1)] → wd GC Z z.2.2 A s.heap H locs → W p l e R s m args below meth c H locs 0 0 Q (F0 m 103 ls [])) (by
        intro x o1 hf Kc Kx
        obtain ⟨v2_6, v3_7, v4_8, u_5⟩ := x
        intro H locs ls hl hw
        unfold b_X10_judged_30 at hf
        try dsimp only at hf
        have J79 : ∀ (v2_10 : Int32) (v3_11 : Int32) (v4_12 : Int32) (u_9 : gm_M) (H : Heap) (locs : List Loc) (ls : Array Slot), j_X10_judged_79 a1 v2_10 v3_11 v4_12 u_9 = some o1 → lv_has ls 6 [(0, rv Z 1), (1, .int a1), (2, .int v2_10), (3, .int v3_11), (4, .int v4_12)] → wd GC Z u_9 A s.heap H locs → W p l e R s m args below meth c H locs 0 0 Q (F0 m 79 ls []) := by
          intro v2_10 v3_11 v4_12 u_9 H locs ls hf  hl hw
          unfold j_X10_judged_79 at hf
          refine gm_aload_n (G := GC) (r := 1) C rfl dX10_judged_79 rfl (lv_at hl 0 rfl) ?_
          refine gm_getS (G := GC) (u := u_9) (r := 1) (ci := 9) (k := 12) C hw rfl fl_X10_71 dX10_judged_80 rfl (q := 40) rfl ?_
          refine gm_getI (G := GC) (u := u_9) (r := 40) (ci := 0) (k := 2) C hw rfl fl_X10_139 dX10_judged_83 rfl ?_
          refine lv_if_eq (tgt := 97) hx hb dX10_judged_86 (by decide) (fun hc => ?_) (fun hc => ?_)
          · replace hf := (if_pos hc).symm.trans hf
            refine lv_iinc (v := v4_12 + (1 : Int32)) (lv' := [(4, .int (v4_12 + (1 : Int32))), (0, rv Z 1), (1, .int a1), (2, .int v2_10), (3, .int v3_11)]) hx hb dX10_judged_97 hl (k := 4) rfl rfl (by decide) rfl (fun ls hl => ?_)
            refine lv_goto (tgt := 30) hx hb dX10_judged_100 (by decide) ?_
            exact Kc _ (gm_si hf) _ _ _ (lv_sub hl [1, 2, 3, 4, 0] rfl) hw
          · replace hf := (if_neg hc).symm.trans hf
            refine lv_iload_n hx hb dX10_judged_89 rfl (lv_at hl 3 rfl) ?_
            refine lv_iconst (v := -1) hx hb dX10_judged_90 (by decide) ?_
            refine lv_icmp_ne (tgt := 97) hx hb dX10_judged_91 (by decide) (fun hc => ?_) (fun hc => ?_)
            · replace hf := (if_neg hc).symm.trans hf
              refine lv_iinc (v := v4_12 + (1 : Int32)) (lv' := [(4, .int (v4_12 + (1 : Int32))), (0, rv Z 1), (1, .int a1), (2, .int v2_10), (3, .int v3_11)]) hx hb dX10_judged_97 hl (k := 4) rfl rfl (by decide) rfl (fun ls hl => ?_)
              refine lv_goto (tgt := 30) hx hb dX10_judged_100 (by decide) ?_
              exact Kc _ (gm_si hf) _ _ _ (lv_sub hl [1, 2, 3, 4, 0] rfl) hw
            · replace hf := (if_pos hc).symm.trans hf
              refine lv_iload hx hb dX10_judged_94 (lv_at hl 4 rfl) ?_
              refine lv_istore_n (i := 3) (lv' := [(3, .int v4_12), (0, rv Z 1), (1, .int a1), (2, .int v2_10), (4, .int v4_12)]) hx hb dX10_judged_96 rfl hl (by decide) rfl (fun ls hl => ?_)
              refine lv_iinc (v := v4_12 + (1 : Int32)) (lv' := [(4, .int (v4_12 + (1 : Int32))), (3, .int v4_12), (0, rv Z 1), (1, .int a1), (2, .int v2_10)]) hx hb dX10_judged_97 hl (k := 4) rfl rfl (by decide) rfl (fun ls hl => ?_)
              refine lv_goto (tgt := 30) hx hb dX10_judged_100 (by decide) ?_
              exact Kc _ (gm_si hf) _ _ _ (lv_sub hl [2, 3, 4, 1, 0] rfl) hw
        refine lv_iload hx hb dX10_judged_30 (lv_at hl 4 rfl) ?_
        refine gm_aload_n (G := GC) (r := 1) C rfl dX10_judged_32 rfl (lv_at hl 0 rfl) ?_
        refine gm_getR (G := GC) (u := u_5) (r := 1) (ci := 9) (k := 4) C hw rfl fl_X10_29 dX10_judged_33 rfl ?_
        obtain ⟨g_13, hf⟩ := gm_grd hf
        obtain ⟨k_14_0, k_14_1, k_14_2, k_14_3, k_14_4⟩ := fc_Reign g_13
        refine gm_getI (G := GC) (u := u_5) (r := (gR u_5 1 4)) (ci := 5) (k := 2) C hw k_14_0 fl_X10_193 dX10_judged_36 rfl ?_
        refine lv_icmp_ge (tgt := 103) hx hb dX10_judged_39 (by decide) (fun hc => ?_) (fun hc => ?_)
        · replace hf := (if_pos hc).symm.trans hf
          exact Kx _ (gm_si hf) _ _ _ (lv_sub hl [0, 1, 2, 3] rfl) hw
        · replace hf := (if_neg hc).symm.trans hf
          refine gm_aload_n (G := GC) (r := 1) C rfl dX10_judged_42 rfl (lv_at hl 0 rfl) ?_
          refine gm_aload_n (G := GC) (r := 1) C rfl dX10_judged_43 rfl (lv_at hl 0 rfl) ?_
          refine gm_getR (G := GC) (u := u_5) (r := 1) (ci := 9) (k := 4) C hw rfl fl_X10_29 dX10_judged_44 rfl ?_
          refine lv_iload hx hb dX10_judged_47 (lv_at hl 4 rfl) ?_
          obtain ⟨r_15, hc_16, hf⟩ := gm_bnd hf
          refine gm_callV (G := GC) (u := u_5) (u' := u_5) (r := (gR u_5 1 4)) (ci := 5) (As := [.int v4_8]) (rest := [rv Z 1]) (res := (some (.int r_15))) C hw hl (ok_X6_actOf l Z (gR u_5 1 4) v4_8 u_5 g_13 r_15 hc_16) cw_X10_196 im_X6_actOf rfl se_X6_actOf k_14_0 rfl rfl ⟨Nat.le_trans (Nat.le_of_ble_eq_true rfl) hRf, Nat.le_trans (Nat.le_of_ble_eq_true rfl) hRl⟩ rfl rfl (Nat.le_of_ble_eq_true rfl) dX10_judged_49 (fun H locs hw => ?_)
          refine gm_aload_n (G := GC) (r := 1) C rfl dX10_judged_52 rfl (lv_at hl 0 rfl) ?_
          refine gm_getR (G := GC) (u := u_5) (r := 1) (ci := 9) (k := 4) C hw rfl fl_X10_29 dX10_judged_53 rfl ?_
          refine lv_iload hx hb dX10_judged_56 (lv_at hl 4 rfl) ?_
          obtain ⟨r_17, hc_18, hf⟩ := gm_bnd hf
          refine gm_callV (G := GC) (u := u_5) (u' := u_5) (r := (gR u_5 1 4)) (ci := 5) (As := [.int v4_8]) (rest := [.int r_15, rv Z 1]) (res := (some (.int r_17))) C hw hl (ok_X6_partOf l Z (gR u_5 1 4) v4_8 u_5 g_13 r_17 hc_18) cw_X10_199 im_X6_partOf rfl se_X6_partOf k_14_0 rfl rfl ⟨Nat.le_trans (Nat.le_of_ble_eq_true rfl) hRf, Nat.le_trans (Nat.le_of_ble_eq_true rfl) hRl⟩ rfl rfl (Nat.le_of_ble_eq_true rfl) dX10_judged_58 (fun H locs hw => ?_)
          obtain ⟨⟨r_19, u_20⟩, hc_21, hf⟩ := gm_bnd hf
          try dsimp only at hf
          refine gm_callV (G := GC) (u := u_5) (u' := u_20) (r := 1) (ci := 9) (As := [.int r_15, .int r_17]) (rest := []) (res := (some (.int r_19))) C hw hl (ok_X10_follow l Z r_15 r_17 u_5 r_19 u_20 hc_21) cw_X10_202 im_X10_follow rfl se_X10_follow rfl rfl rfl ⟨Nat.le_trans (Nat.le_of_ble_eq_true rfl) hRf, Nat.le_trans (Nat.le_of_ble_eq_true rfl) hRl⟩ rfl rfl (Nat.le_of_ble_eq_true rfl) dX10_judged_61 (fun H locs hw => ?_)
          refine lv_istore (i := 5) (lv' := [(5, .int r_19), (0, rv Z 1), (1, .int a1), (2, .int v2_6), (3, .int v3_7), (4, .int v4_8)]) hx hb dX10_judged_64 hl (by decide) rfl (fun ls hl => ?_)
          refine lv_iload hx hb dX10_judged_66 (lv_at hl 0 rfl) ?_
          refine lv_if_ne (tgt := 79) hx hb dX10_judged_68 (by decide) (fun hc => ?_) (fun hc => ?_)
          · replace hf := (if_neg hc).symm.trans hf
            exact J79 v2_6 v3_7 v4_8 u_20 _ _ _ hf  (lv_sub hl [1, 2, 3, 4, 5] rfl) hw
          · replace hf := (if_pos hc).symm.trans hf
            refine lv_iload_n hx hb dX10_judged_71 rfl (lv_at hl 3 rfl) ?_
            refine lv_iconst (v := -1) hx hb dX10_judged_72 (by decide) ?_
            refine lv_icmp_ne (tgt := 79) hx hb dX10_judged_73 (by decide) (fun hc => ?_) (fun hc => ?_)
            · replace hf := (if_neg hc).symm.trans hf
              exact J79 v2_6 v3_7 v4_8 u_20 _ _ _ hf  (lv_sub hl [1, 2, 3, 4, 5] rfl) hw
            · replace hf := (if_pos hc).symm.trans hf
              refine lv_iload hx hb dX10_judged_76 (lv_at hl 5 rfl) ?_
              refine lv_istore_n (i := 2) (lv' := [(2, .int v4_8), (5, .int r_19), (0, rv Z 1), (1, .int a1), (3, .int v3_7), (4, .int v4_8)]) hx hb dX10_judged_78 rfl hl (by decide) rfl (fun ls hl => ?_)
              exact J79 v4_8 v3_7 v4_8 u_20 _ _ _ hf  (lv_sub hl [2, 3, 0, 4, 5] rfl) hw)
      refine L30_1 _ _ _ hlp ?_ _ _ _ (lv_sub hl [3, 4, 2, 1, 0] rfl) hw
      obtain ⟨w2_23, w3_24, u_25⟩ := o1
      intro H locs ls hl hw
      try dsimp only at hf
      refine lv_iload_n hx hb dX10_judged_103 rfl (lv_at hl 1 rfl) ?_
      refine lv_if_ne (tgt := 109) hx hb dX10_judged_104 (by decide) (fun hc => ?_) (fun hc => ?_)
      · replace hf := (if_neg hc).symm.trans hf
        refine lv_iload_n hx hb dX10_judged_109 rfl (lv_at hl 1 rfl) ?_
        refine lv_iconst (v := 1) hx hb dX10_judged_110 (by decide) ?_
        refine lv_icmp_ne (tgt := 118) hx hb dX10_judged_111 (by decide) (fun hc => ?_) (fun hc => ?_)
        · replace hf := (if_neg hc).symm.trans hf
          refine gm_aload_n (G := GC) (r := 1) C rfl dX10_judged_118 rfl (lv_at hl 0 rfl) ?_
          refine gm_getS (G := GC) (u := u_25) (r := 1) (ci := 9) (k := 12) C hw rfl fl_X10_71 dX10_judged_119 rfl (q := 40) rfl ?_
          refine gm_getI (G := GC) (u := u_25) (r := 40) (ci := 0) (k := 2) C hw rfl fl_X10_139 dX10_judged_122 rfl ?_
          obtain ⟨r_26, e_r_26, hf⟩ := gm_le hf
          refine gm_callS (G := GC) (u := u_25) (u' := u_25) (As := [.int (gI u_25 40 2)]) (rest := []) (res := (some (.int (f_J6_bitCount_0f7a4 (gI u_25 40 2))))) C hw hl (ok_J6_bitCount_0f7a4 l Z (gI u_25 40 2) u_25) cw_X10_205 st_J6_bitCount_0f7a4 rfl rfl ⟨Nat.le_trans (Nat.le_of_ble_eq_true rfl) hRf, Nat.le_trans (Nat.le_of_ble_eq_true rfl) hRl⟩ rfl rfl (Nat.le_of_ble_eq_true rfl) dX10_judged_125 (fun H locs hw => ?_)
          refine gm_topI e_r_26 ?_
          exact gm_iret C E hw rfl ((congrArg (fun z => some (Value.int z)) (gm_sp hf).1).symm) (gm_sp hf).2.symm dX10_judged_128
        · replace hf := (if_pos hc).symm.trans hf
          refine lv_iload_n hx hb dX10_judged_114 rfl (lv_at hl 3 rfl) ?_
          refine lv_goto (tgt := 128) hx hb dX10_judged_115 (by decide) ?_
          exact gm_iret C E hw rfl ((congrArg (fun z => some (Value.int z)) (gm_sp hf).1).symm) (gm_sp hf).2.symm dX10_judged_128
      · replace hf := (if_pos hc).symm.trans hf
        refine lv_iload_n hx hb dX10_judged_107 rfl (lv_at hl 2 rfl) ?_
        exact gm_iret C E hw rfl ((congrArg (fun z => some (Value.int z)) (gm_sp hf).1).symm) (gm_sp hf).2.symm dX10_judged_108
    · replace hf := (if_neg hc).symm.trans hf
      refine lv_bipush (v := -2) hx hb dX10_judged_9 (by decide) ?_
      exact gm_iret C E hw rfl ((congrArg (fun z => some (Value.int z)) (gm_sp hf).1).symm) (gm_sp hf).2.symm dX10_judged_11
/-! LeapCapital.leap -/
def f_X10_leap (a1 : Int32) : Int32 := gm_let (f_X0_isTold a1) fun r_1 => if r_1 = 0 then (-1 : Int32) else gm_let (f_X0_isLeap a1) fun r_2 => if r_2 = 0 then (0 : Int32) else (1 : Int32)
set_option maxRecDepth 100000 in
set_option maxHeartbeats 4000000 in
theorem ok_X10_leap (l : Launch) (Z : gm_Z) (a1 : Int32) (u : gm_M)  : gm_Met l GC Z yX10_leap cX10_leap 2 (some .int) ({ frames := 1, cells := 0, slots := 0, locals := 20 }) [rv Z 1, .int a1] u (some (.int (f_X10_leap a1))) u := by
  obtain ⟨r, hf⟩ : ∃ r, f_X10_leap a1 = r := ⟨_, rfl⟩
  rw [hf]
  unfold f_X10_leap at hf
  refine gm_ofW (by decide +kernel) (Nat.le_of_ble_eq_true rfl) ?_
  intro p e s m args below meth c A ls Q R hRf hRl C E hl hw
  obtain ⟨hx, hb, -⟩ := id C
  have hl : lv_has ls 2 [(0, rv Z 1), (1, .int a1)] := hl
  refine lv_iload_n hx hb dX10_leap_0 rfl (lv_at hl 1 rfl) ?_
  obtain ⟨r_1, e_r_1, hf⟩ := gm_le hf
  refine gm_callS (G := GC) (u := u) (u' := u) (As := [.int a1]) (rest := []) (res := (some (.int (f_X0_isTold a1)))) C hw hl (ok_X0_isTold l Z a1 u) cw_X10_210 st_X0_isTold rfl rfl ⟨Nat.le_trans (Nat.le_of_ble_eq_true rfl) hRf, Nat.le_trans (Nat.le_of_ble_eq_true rfl) hRl⟩ rfl rfl (Nat.le_of_ble_eq_true rfl) dX10_leap_1 (fun H locs hw => ?_)
  refine gm_topI e_r_1 ?_
  refine lv_if_ne (tgt := 9) hx hb dX10_leap_4 (by decide) (fun hc => ?_) (fun hc => ?_)
  · replace hf := (if_neg hc).symm.trans hf
    refine lv_iload_n hx hb dX10_leap_9 rfl (lv_at hl 1 rfl) ?_
    obtain ⟨r_2, e_r_2, hf⟩ := gm_le hf
    refine gm_callS (G := GC) (u := u) (u' := u) (As := [.int a1]) (rest := []) (res := (some (.int (f_X0_isLeap a1)))) C hw hl (ok_X0_isLeap l Z a1 u) cw_X10_215 st_X0_isLeap rfl rfl ⟨Nat.le_trans (Nat.le_of_ble_eq_true rfl) hRf, Nat.le_trans (Nat.le_of_ble_eq_true rfl) hRl⟩ rfl rfl (Nat.le_of_ble_eq_true rfl) dX10_leap_10 (fun H locs hw => ?_)
    refine gm_topI e_r_2 ?_
    refine lv_if_eq (tgt := 20) hx hb dX10_leap_13 (by decide) (fun hc => ?_) (fun hc => ?_)
    · replace hf := (if_pos hc).symm.trans hf
      refine lv_iconst (v := 0) hx hb dX10_leap_20 (by decide) ?_
      exact gm_iret C E hw rfl ((congrArg (fun z => some (Value.int z)) hf).symm) rfl dX10_leap_21
    · replace hf := (if_neg hc).symm.trans hf
      refine lv_iconst (v := 1) hx hb dX10_leap_16 (by decide) ?_
      refine lv_goto (tgt := 21) hx hb dX10_leap_17 (by decide) ?_
      exact gm_iret C E hw rfl ((congrArg (fun z => some (Value.int z)) hf).symm) rfl dX10_leap_21
  · replace hf := (if_pos hc).symm.trans hf
    refine lv_iconst (v := -1) hx hb dX10_leap_7 (by decide) ?_
    exact gm_iret C E hw rfl ((congrArg (fun z => some (Value.int z)) hf).symm) rfl dX10_leap_8
/-! LeapCapital.between -/
def f_X10_between (a1 : Int32) (a2 : Int32) : Int32 := gm_let (f_X0_isTold a1) fun r_1 => if r_1 = 0 then (-1 : Int32) else gm_let (f_X0_isTold a2) fun r_2 => if r_2 = 0 then (-1 : Int32) else if a1 ≤ a2 then gm_let (f_X0_leapsUpTo a2) fun r_3 => gm_let (f_X0_leapsUpTo a1) fun r_4 => r_3 - r_4 else (-1 : Int32)
set_option maxRecDepth 100000 in
set_option maxHeartbeats 4000000 in
theorem ok_X10_between (l : Launch) (Z : gm_Z) (a1 : Int32) (a2 : Int32) (u : gm_M)  : gm_Met l GC Z yX10_between cX10_between 3 (some .int) ({ frames := 1, cells := 0, slots := 0, locals := 20 }) [rv Z 1, .int a1, .int a2] u (some (.int (f_X10_between a1 a2))) u := by
  obtain ⟨r, hf⟩ : ∃ r, f_X10_between a1 a2 = r := ⟨_, rfl⟩
  rw [hf]
  unfold f_X10_between at hf
  refine gm_ofW (by decide +kernel) (Nat.le_of_ble_eq_true rfl) ?_
  intro p e s m args below meth c A ls Q R hRf hRl C E hl hw
  obtain ⟨hx, hb, -⟩ := id C
  have hl : lv_has ls 3 [(0, rv Z 1), (1, .int a1), (2, .int a2)] := hl
  refine lv_iload_n hx hb dX10_between_0 rfl (lv_at hl 1 rfl) ?_
  obtain ⟨r_1, e_r_1, hf⟩ := gm_le hf
  refine gm_callS (G := GC) (u := u) (u' := u) (As := [.int a1]) (rest := []) (res := (some (.int (f_X0_isTold a1)))) C hw hl (ok_X0_isTold l Z a1 u) cw_X10_210 st_X0_isTold rfl rfl ⟨Nat.le_trans (Nat.le_of_ble_eq_true rfl) hRf, Nat.le_trans (Nat.le_of_ble_eq_true rfl) hRl⟩ rfl rfl (Nat.le_of_ble_eq_true rfl) dX10_between_1 (fun H locs hw => ?_)
  refine gm_topI e_r_1 ?_
  refine lv_if_eq (tgt := 19) hx hb dX10_between_4 (by decide) (fun hc => ?_) (fun hc => ?_)
  · replace hf := (if_pos hc).symm.trans hf
    refine lv_iconst (v := -1) hx hb dX10_between_19 (by decide) ?_
    exact gm_iret C E hw rfl ((congrArg (fun z => some (Value.int z)) hf).symm) rfl dX10_between_20
  · replace hf := (if_neg hc).symm.trans hf
    refine lv_iload_n hx hb dX10_between_7 rfl (lv_at hl 2 rfl) ?_
    obtain ⟨r_2, e_r_2, hf⟩ := gm_le hf
    refine gm_callS (G := GC) (u := u) (u' := u) (As := [.int a2]) (rest := []) (res := (some (.int (f_X0_isTold a2)))) C hw hl (ok_X0_isTold l Z a2 u) cw_X10_210 st_X0_isTold rfl rfl ⟨Nat.le_trans (Nat.le_of_ble_eq_true rfl) hRf, Nat.le_trans (Nat.le_of_ble_eq_true rfl) hRl⟩ rfl rfl (Nat.le_of_ble_eq_true rfl) dX10_between_8 (fun H locs hw => ?_)
    refine gm_topI e_r_2 ?_
    refine lv_if_eq (tgt := 19) hx hb dX10_between_11 (by decide) (fun hc => ?_) (fun hc => ?_)
    · replace hf := (if_pos hc).symm.trans hf
      refine lv_iconst (v := -1) hx hb dX10_between_19 (by decide) ?_
      exact gm_iret C E hw rfl ((congrArg (fun z => some (Value.int z)) hf).symm) rfl dX10_between_20
    · replace hf := (if_neg hc).symm.trans hf
      refine lv_iload_n hx hb dX10_between_14 rfl (lv_at hl 2 rfl) ?_
      refine lv_iload_n hx hb dX10_between_15 rfl (lv_at hl 1 rfl) ?_
      refine lv_icmp_ge (tgt := 21) hx hb dX10_between_16 (by decide) (fun hc => ?_) (fun hc => ?_)
      · replace hf := (if_pos hc).symm.trans hf
        refine lv_iload_n hx hb dX10_between_21 rfl (lv_at hl 2 rfl) ?_
        obtain ⟨r_3, e_r_3, hf⟩ := gm_le hf
        refine gm_callS (G := GC) (u := u) (u' := u) (As := [.int a2]) (rest := []) (res := (some (.int (f_X0_leapsUpTo a2)))) C hw hl (ok_X0_leapsUpTo l Z a2 u) cw_X10_218 st_X0_leapsUpTo rfl rfl ⟨Nat.le_trans (Nat.le_of_ble_eq_true rfl) hRf, Nat.le_trans (Nat.le_of_ble_eq_true rfl) hRl⟩ rfl rfl (Nat.le_of_ble_eq_true rfl) dX10_between_22 (fun H locs hw => ?_)
        refine gm_topI e_r_3 ?_
        refine lv_iload_n hx hb dX10_between_25 rfl (lv_at hl 1 rfl) ?_
        obtain ⟨r_4, e_r_4, hf⟩ := gm_le hf
        refine gm_callS (G := GC) (u := u) (u' := u) (As := [.int a1]) (rest := [.int r_3]) (res := (some (.int (f_X0_leapsUpTo a1)))) C hw hl (ok_X0_leapsUpTo l Z a1 u) cw_X10_218 st_X0_leapsUpTo rfl rfl ⟨Nat.le_trans (Nat.le_of_ble_eq_true rfl) hRf, Nat.le_trans (Nat.le_of_ble_eq_true rfl) hRl⟩ rfl rfl (Nat.le_of_ble_eq_true rfl) dX10_between_26 (fun H locs hw => ?_)
        refine gm_topI e_r_4 ?_
        refine lv_isub hx hb dX10_between_29 ?_
        exact gm_iret C E hw rfl ((congrArg (fun z => some (Value.int z)) hf).symm) rfl dX10_between_30
      · replace hf := (if_neg hc).symm.trans hf
        refine lv_iconst (v := -1) hx hb dX10_between_19 (by decide) ?_
        exact gm_iret C E hw rfl ((congrArg (fun z => some (Value.int z)) hf).symm) rfl dX10_between_20
/-! LeapCapital.next -/
def f_X10_next (a1 : Int32) : Option Int32 := gm_let (f_X0_isTold a1) fun r_1 => if r_1 = 0 then some (-1 : Int32) else (f_X0_leapBehind a1).bind fun r_2 => some r_2
set_option maxRecDepth 100000 in
set_option maxHeartbeats 4000000 in
theorem ok_X10_next (l : Launch) (Z : gm_Z) (a1 : Int32) (u : gm_M)  (r : Int32) (hf : f_X10_next a1 = some r) : gm_Met l GC Z yX10_next cX10_next 2 (some .int) ({ frames := 2, cells := 0, slots := 0, locals := 41 }) [rv Z 1, .int a1] u (some (.int r)) u := by
  unfold f_X10_next at hf
  refine gm_ofW (by decide +kernel) (Nat.le_of_ble_eq_true rfl) ?_
  intro p e s m args below meth c A ls Q R hRf hRl C E hl hw
  obtain ⟨hx, hb, -⟩ := id C
  have hl : lv_has ls 2 [(0, rv Z 1), (1, .int a1)] := hl
  refine lv_iload_n hx hb dX10_next_0 rfl (lv_at hl 1 rfl) ?_
  obtain ⟨r_1, e_r_1, hf⟩ := gm_le hf
  refine gm_callS (G := GC) (u := u) (u' := u) (As := [.int a1]) (rest := []) (res := (some (.int (f_X0_isTold a1)))) C hw hl (ok_X0_isTold l Z a1 u) cw_X10_210 st_X0_isTold rfl rfl ⟨Nat.le_trans (Nat.le_of_ble_eq_true rfl) hRf, Nat.le_trans (Nat.le_of_ble_eq_true rfl) hRl⟩ rfl rfl (Nat.le_of_ble_eq_true rfl) dX10_next_1 (fun H locs hw => ?_)
  refine gm_topI e_r_1 ?_
  refine lv_if_eq (tgt := 14) hx hb dX10_next_4 (by decide) (fun hc => ?_) (fun hc => ?_)
  · replace hf := (if_pos hc).symm.trans hf
    refine lv_iconst (v := -1) hx hb dX10_next_14 (by decide) ?_
    exact gm_iret C E hw rfl ((congrArg (fun z => some (Value.int z)) (Option.some.inj hf)).symm) rfl dX10_next_15
  · replace hf := (if_neg hc).symm.trans hf
    refine lv_iload_n hx hb dX10_next_7 rfl (lv_at hl 1 rfl) ?_
    obtain ⟨r_2, hc_3, hf⟩ := gm_bnd hf
    refine gm_callS (G := GC) (u := u) (u' := u) (As := [.int a1]) (rest := []) (res := (some (.int r_2))) C hw hl (ok_X0_leapBehind l Z a1 u r_2 hc_3) cw_X10_221 st_X0_leapBehind rfl rfl ⟨Nat.le_trans (Nat.le_of_ble_eq_true rfl) hRf, Nat.le_trans (Nat.le_of_ble_eq_true rfl) hRl⟩ rfl rfl (Nat.le_of_ble_eq_true rfl) dX10_next_8 (fun H locs hw => ?_)
    refine lv_goto (tgt := 15) hx hb dX10_next_11 (by decide) ?_
    exact gm_iret C E hw rfl ((congrArg (fun z => some (Value.int z)) (Option.some.inj hf)).symm) rfl dX10_next_15
/-! LeapCapital.weekday -/
def f_X10_weekday (a1 : Int32) : Int32 := gm_let (f_X0_isTold a1) fun r_1 => if r_1 = 0 then (-1 : Int32) else gm_let (f_X0_isLeap a1) fun r_2 => if r_2 = 0 then (-1 : Int32) else gm_let (f_X0_weekdayOf a1) fun r_3 => r_3
set_option maxRecDepth 100000 in
set_option maxHeartbeats 4000000 in
theorem ok_X10_weekday (l : Launch) (Z : gm_Z) (a1 : Int32) (u : gm_M)  : gm_Met l GC Z yX10_weekday cX10_weekday 2 (some .int) ({ frames := 2, cells := 0, slots := 0, locals := 43 }) [rv Z 1, .int a1] u (some (.int (f_X10_weekday a1))) u := by
  obtain ⟨r, hf⟩ : ∃ r, f_X10_weekday a1 = r := ⟨_, rfl⟩
  rw [hf]
  unfold f_X10_weekday at hf
  refine gm_ofW (by decide +kernel) (Nat.le_of_ble_eq_true rfl) ?_
  intro p e s m args below meth c A ls Q R hRf hRl C E hl hw
  obtain ⟨hx, hb, -⟩ := id C
  have hl : lv_has ls 2 [(0, rv Z 1), (1, .int a1)] := hl
  refine lv_iload_n hx hb dX10_weekday_0 rfl (lv_at hl 1 rfl) ?_
  obtain ⟨r_1, e_r_1, hf⟩ := gm_le hf
  refine gm_callS (G := GC) (u := u) (u' := u) (As := [.int a1]) (rest := []) (res := (some (.int (f_X0_isTold a1)))) C hw hl (ok_X0_isTold l Z a1 u) cw_X10_210 st_X0_isTold rfl rfl ⟨Nat.le_trans (Nat.le_of_ble_eq_true rfl) hRf, Nat.le_trans (Nat.le_of_ble_eq_true rfl) hRl⟩ rfl rfl (Nat.le_of_ble_eq_true rfl) dX10_weekday_1 (fun H locs hw => ?_)
  refine gm_topI e_r_1 ?_
  refine lv_if_eq (tgt := 21) hx hb dX10_weekday_4 (by decide) (fun hc => ?_) (fun hc => ?_)
  · replace hf := (if_pos hc).symm.trans hf
    refine lv_iconst (v := -1) hx hb dX10_weekday_21 (by decide) ?_
    exact gm_iret C E hw rfl ((congrArg (fun z => some (Value.int z)) hf).symm) rfl dX10_weekday_22
  · replace hf := (if_neg hc).symm.trans hf
    refine lv_iload_n hx hb dX10_weekday_7 rfl (lv_at hl 1 rfl) ?_
    obtain ⟨r_2, e_r_2, hf⟩ := gm_le hf
    refine gm_callS (G := GC) (u := u) (u' := u) (As := [.int a1]) (rest := []) (res := (some (.int (f_X0_isLeap a1)))) C hw hl (ok_X0_isLeap l Z a1 u) cw_X10_215 st_X0_isLeap rfl rfl ⟨Nat.le_trans (Nat.le_of_ble_eq_true rfl) hRf, Nat.le_trans (Nat.le_of_ble_eq_true rfl) hRl⟩ rfl rfl (Nat.le_of_ble_eq_true rfl) dX10_weekday_8 (fun H locs hw => ?_)
    refine gm_topI e_r_2 ?_
    refine lv_if_eq (tgt := 21) hx hb dX10_weekday_11 (by decide) (fun hc => ?_) (fun hc => ?_)
    · replace hf := (if_pos hc).symm.trans hf
      refine lv_iconst (v := -1) hx hb dX10_weekday_21 (by decide) ?_
      exact gm_iret C E hw rfl ((congrArg (fun z => some (Value.int z)) hf).symm) rfl dX10_weekday_22
    · replace hf := (if_neg hc).symm.trans hf
      refine lv_iload_n hx hb dX10_weekday_14 rfl (lv_at hl 1 rfl) ?_
      obtain ⟨r_3, e_r_3, hf⟩ := gm_le hf
      refine gm_callS (G := GC) (u := u) (u' := u) (As := [.int a1]) (rest := []) (res := (some (.int (f_X0_weekdayOf a1)))) C hw hl (ok_X0_weekdayOf l Z a1 u) cw_X10_224 st_X0_weekdayOf rfl rfl ⟨Nat.le_trans (Nat.le_of_ble_eq_true rfl) hRf, Nat.le_trans (Nat.le_of_ble_eq_true rfl) hRl⟩ rfl rfl (Nat.le_of_ble_eq_true rfl) dX10_weekday_15 (fun H locs hw => ?_)
      refine gm_topI e_r_3 ?_
      refine lv_goto (tgt := 22) hx hb dX10_weekday_18 (by decide) ?_
      exact gm_iret C E hw rfl ((congrArg (fun z => some (Value.int z)) hf).symm) rfl dX10_weekday_22
/-! LeapCapital.gate -/
def b_X10_gate_29 (a1 : Int32) (a2 : Int32) : (Int32 × Int32 × Int32) → Option ((Int32 × Int32 × Int32) ⊕ Int32) := fun x => match x with | (v3_3, v4_4, v5_5) => if a2 < v5_5 then some (.inr v3_3) else gm_let (f_X0_isLeap v5_5) fun r_6 => if r_6 = 0 then some (.inl (v3_3, v4_4, v5_5 + (1 : Int32))) else if v4_4 ≤ 0 then some (.inl (v3_3, v5_5, v5_5 + (1 : Int32))) else gm_let (if v3_3 < (v5_5 - v4_4) then (v5_5 - v4_4) else v3_3) fun v_7 => some (.inl (v_7, v5_5, v5_5 + (1 : Int32)))
def f_X10_gate (a1 : Int32) (a2 : Int32) : Option Int32 := gm_let (f_X0_isTold a1) fun r_1 => if r_1 = 0 then some (-1 : Int32) else gm_let (f_X0_isTold a2) fun r_2 => if r_2 = 0 then some (-1 : Int32) else if a1 ≤ a2 then ((gm_lp (b_X10_gate_29 a1 a2) gm_FU ((0 : Int32), (0 : Int32), a1)).bind fun o => match o with | w3_8 => some w3_8) else some (-1 : Int32)
set_option maxRecDepth 100000 in
set_option maxHeartbeats 4000000 in
theorem ok_X10_gate (l : Launch) (Z : gm_Z) (a1 : Int32) (a2 : Int32) (u : gm_M)  (r : Int32) (hf : f_X10_gate a1 a2 = some r) : gm_Met l GC Z yX10_gate cX10_gate 6 (some .int) ({ frames := 1, cells := 0, slots := 0, locals := 32 }) [rv Z 1, .int a1, .int a2] u (some (.int r)) u := by
  unfold f_X10_gate at hf
  refine gm_ofW (by decide +kernel) (Nat.le_of_ble_eq_true rfl) ?_
  intro p e s m args below meth c A ls Q R hRf hRl C E hl hw
  obtain ⟨hx, hb, -⟩ := id C
  have hl : lv_has ls 6 [(0, rv Z 1), (1, .int a1), (2, .int a2)] := hl
  refine lv_iload_n hx hb dX10_gate_0 rfl (lv_at hl 1 rfl) ?_
  obtain ⟨r_1, e_r_1, hf⟩ := gm_le hf
  refine gm_callS (G := GC) (u := u) (u' := u) (As := [.int a1]) (rest := []) (res := (some (.int (f_X0_isTold a1)))) C hw hl (ok_X0_isTold l Z a1 u) cw_X10_210 st_X0_isTold rfl rfl ⟨Nat.le_trans (Nat.le_of_ble_eq_true rfl) hRf, Nat.le_trans (Nat.le_of_ble_eq_true rfl) hRl⟩ rfl rfl (Nat.le_of_ble_eq_true rfl) dX10_gate_1 (fun H locs hw => ?_)
  refine gm_topI e_r_1 ?_
  refine lv_if_eq (tgt := 19) hx hb dX10_gate_4 (by decide) (fun hc => ?_) (fun hc => ?_)
  · replace hf := (if_pos hc).symm.trans hf
    refine lv_iconst (v := -1) hx hb dX10_gate_19 (by decide) ?_
    exact gm_iret C E hw rfl ((congrArg (fun z => some (Value.int z)) (Option.some.inj hf)).symm) rfl dX10_gate_20
  · replace hf := (if_neg hc).symm.trans hf
    refine lv_iload_n hx hb dX10_gate_7 rfl (lv_at hl 2 rfl) ?_
    obtain ⟨r_2, e_r_2, hf⟩ := gm_le hf
    refine gm_callS (G := GC) (u := u) (u' := u) (As := [.int a2]) (rest := []) (res := (some (.int (f_X0_isTold a2)))) C hw hl (ok_X0_isTold l Z a2 u) cw_X10_210 st_X0_isTold rfl rfl ⟨Nat.le_trans (Nat.le_of_ble_eq_true rfl) hRf, Nat.le_trans (Nat.le_of_ble_eq_true rfl) hRl⟩ rfl rfl (Nat.le_of_ble_eq_true rfl) dX10_gate_8 (fun H locs hw => ?_)
    refine gm_topI e_r_2 ?_
    refine lv_if_eq (tgt := 19) hx hb dX10_gate_11 (by decide) (fun hc => ?_) (fun hc => ?_)
    · replace hf := (if_pos hc).symm.trans hf
      refine lv_iconst (v := -1) hx hb dX10_gate_19 (by decide) ?_
      exact gm_iret C E hw rfl ((congrArg (fun z => some (Value.int z)) (Option.some.inj hf)).symm) rfl dX10_gate_20
    · replace hf := (if_neg hc).symm.trans hf
      refine lv_iload_n hx hb dX10_gate_14 rfl (lv_at hl 2 rfl) ?_
      refine lv_iload_n hx hb dX10_gate_15 rfl (lv_at hl 1 rfl) ?_
      refine lv_icmp_ge (tgt := 21) hx hb dX10_gate_16 (by decide) (fun hc => ?_) (fun hc => ?_)
      · replace hf := (if_pos hc).symm.trans hf
        refine lv_iconst (v := 0) hx hb dX10_gate_21 (by decide) ?_
        refine lv_istore_n (i := 3) (lv' := [(3, .int (0 : Int32)), (0, rv Z 1), (1, .int a1), (2, .int a2)]) hx hb dX10_gate_22 rfl hl (by decide) rfl (fun ls hl => ?_)
        refine lv_iconst (v := 0) hx hb dX10_gate_23 (by decide) ?_
        refine lv_istore (i := 4) (lv' := [(4, .int (0 : Int32)), (3, .int (0 : Int32)), (0, rv Z 1), (1, .int a1), (2, .int a2)]) hx hb dX10_gate_24 hl (by decide) rfl (fun ls hl => ?_)
        refine lv_iload_n hx hb dX10_gate_26 rfl (lv_at hl 3 rfl) ?_
        refine lv_istore (i := 5) (lv' := [(5, .int a1), (4, .int (0 : Int32)), (3, .int (0 : Int32)), (0, rv Z 1), (1, .int a1), (2, .int a2)]) hx hb dX10_gate_27 hl (by decide) rfl (fun ls hl => ?_)
        obtain ⟨o1, hlp, hf⟩ := gm_bnd hf
        have L29_1 := gm_loop (b_X10_gate_29 a1 a2) (fun x : (Int32 × Int32 × Int32) => ∀ (H : Heap) (locs : List Loc) (ls : Array Slot), lv_has ls 6 [(2, .int a2), (3, .int x.1), (4, .int x.2.1), (5, .int x.2.2)] → wd GC Z u A s.heap H locs → W p l e R s m args below meth c H locs 0 0 Q (F0 m 29 ls [])) (fun z : Int32 => ∀ (H : Heap) (locs : List Loc) (ls : Array Slot), lv_has ls 6 [(3, .int z)] → wd GC Z u A s.heap H locs → W p l e R s m args below meth c H locs 0 0 Q (F0 m 68 ls [])) (by
          intro x o1 hf Kc Kx
          obtain ⟨v3_3, v4_4, v5_5⟩ := x
          intro H locs ls hl hw
          unfold b_X10_gate_29 at hf
          try dsimp only at hf
          refine lv_iload hx hb dX10_gate_29 (lv_at hl 3 rfl) ?_
          refine lv_iload_n hx hb dX10_gate_31 rfl (lv_at hl 0 rfl) ?_
          refine lv_icmp_gt (tgt := 68) hx hb dX10_gate_32 (by decide) (fun hc => ?_) (fun hc => ?_)
          · replace hf := (if_pos hc).symm.trans hf
            exact Kx _ (gm_si hf) _ _ _ (lv_sub hl [1] rfl) hw
          · replace hf := (if_neg hc).symm.trans hf
            refine lv_iload hx hb dX10_gate_35 (lv_at hl 3 rfl) ?_
            obtain ⟨r_6, e_r_6, hf⟩ := gm_le hf
            refine gm_callS (G := GC) (u := u) (u' := u) (As := [.int v5_5]) (rest := []) (res := (some (.int (f_X0_isLeap v5_5)))) C hw hl (ok_X0_isLeap l Z v5_5 u) cw_X10_215 st_X0_isLeap rfl rfl ⟨Nat.le_trans (Nat.le_of_ble_eq_true rfl) hRf, Nat.le_trans (Nat.le_of_ble_eq_true rfl) hRl⟩ rfl rfl (Nat.le_of_ble_eq_true rfl) dX10_gate_37 (fun H locs hw => ?_)
            refine gm_topI e_r_6 ?_
            refine lv_if_eq (tgt := 62) hx hb dX10_gate_40 (by decide) (fun hc => ?_) (fun hc => ?_)
            · replace hf := (if_pos hc).symm.trans hf
              refine lv_iinc (v := v5_5 + (1 : Int32)) (lv' := [(5, .int (v5_5 + (1 : Int32))), (2, .int a2), (3, .int v3_3), (4, .int v4_4)]) hx hb dX10_gate_62 hl (k := 3) rfl rfl (by decide) rfl (fun ls hl => ?_)
              refine lv_goto (tgt := 29) hx hb dX10_gate_65 (by decide) ?_
              exact Kc _ (gm_si hf) _ _ _ (lv_sub hl [1, 2, 3, 0] rfl) hw
            · replace hf := (if_neg hc).symm.trans hf
              refine lv_iload hx hb dX10_gate_43 (lv_at hl 2 rfl) ?_
              refine lv_if_le (tgt := 58) hx hb dX10_gate_45 (by decide) (fun hc => ?_) (fun hc => ?_)
              · replace hf := (if_pos hc).symm.trans hf
                refine lv_iload hx hb dX10_gate_58 (lv_at hl 3 rfl) ?_
                refine lv_istore (i := 4) (lv' := [(4, .int v5_5), (2, .int a2), (3, .int v3_3), (5, .int v5_5)]) hx hb dX10_gate_60 hl (by decide) rfl (fun ls hl => ?_)
                refine lv_iinc (v := v5_5 + (1 : Int32)) (lv' := [(5, .int (v5_5 + (1 : Int32))), (4, .int v5_5), (2, .int a2), (3, .int v3_3)]) hx hb dX10_gate_62 hl (k := 3) rfl rfl (by decide) rfl (fun ls hl => ?_)
                refine lv_goto (tgt := 29) hx hb dX10_gate_65 (by decide) ?_
                exact Kc _ (gm_si hf) _ _ _ (lv_sub hl [2, 3, 1, 0] rfl) hw
              · replace hf := (if_neg hc).symm.trans hf
                refine lv_iload_n hx hb dX10_gate_48 rfl (lv_at hl 1 rfl) ?_
                refine lv_iload hx hb dX10_gate_49 (lv_at hl 3 rfl) ?_
                refine lv_iload hx hb dX10_gate_51 (lv_at hl 2 rfl) ?_
                refine lv_isub hx hb dX10_gate_53 ?_
                refine gm_max C hl mw_X10_227 (Nat.le_trans (Nat.le_of_ble_eq_true rfl) hRf) (Nat.le_trans (Nat.le_of_ble_eq_true rfl) hRl) (Nat.le_of_ble_eq_true rfl) dX10_gate_54 ?_
                obtain ⟨v_7, e_v_7, hf⟩ := gm_le hf
                refine gm_topI e_v_7 ?_
                refine lv_istore_n (i := 3) (lv' := [(3, .int v_7), (2, .int a2), (4, .int v4_4), (5, .int v5_5)]) hx hb dX10_gate_57 rfl hl (by decide) rfl (fun ls hl => ?_)
                refine lv_iload hx hb dX10_gate_58 (lv_at hl 3 rfl) ?_
                refine lv_istore (i := 4) (lv' := [(4, .int v5_5), (3, .int v_7), (2, .int a2), (5, .int v5_5)]) hx hb dX10_gate_60 hl (by decide) rfl (fun ls hl => ?_)
                refine lv_iinc (v := v5_5 + (1 : Int32)) (lv' := [(5, .int (v5_5 + (1 : Int32))), (4, .int v5_5), (3, .int v_7), (2, .int a2)]) hx hb dX10_gate_62 hl (k := 3) rfl rfl (by decide) rfl (fun ls hl => ?_)
                refine lv_goto (tgt := 29) hx hb dX10_gate_65 (by decide) ?_
                exact Kc _ (gm_si hf) _ _ _ (lv_sub hl [3, 2, 1, 0] rfl) hw)
        refine L29_1 _ _ _ hlp ?_ _ _ _ (lv_sub hl [5, 2, 1, 0] rfl) hw
        obtain ⟨w3_8, rfl⟩ : ∃ y, y = o1 := ⟨_, rfl⟩
        intro H locs ls hl hw
        try dsimp only at hf
        refine lv_iload_n hx hb dX10_gate_68 rfl (lv_at hl 0 rfl) ?_
        exact gm_iret C E hw rfl ((congrArg (fun z => some (Value.int z)) (Option.some.inj hf)).symm) rfl dX10_gate_69
      · replace hf := (if_neg hc).symm.trans hf
        refine lv_iconst (v := -1) hx hb dX10_gate_19 (by decide) ?_
        exact gm_iret C E hw rfl ((congrArg (fun z => some (Value.int z)) (Option.some.inj hf)).symm) rfl dX10_gate_20
/-! LeapCapital.cycle -/
def b_X10_cycle_25 (a1 : Int32) (r_3 : Int32) : Int32 → Option (Int32 ⊕ (Int32 ⊕ Unit)) := fun x => match x with | v3_5 => if (a1 + (400 : Int32)) < v3_5 then some (.inr (.inr ())) else gm_let (f_X0_isLeap v3_5) fun r_6 => if r_6 = 0 then some (.inl (v3_5 + (1 : Int32))) else gm_let (f_X0_weekdayOf v3_5) fun r_7 => if r_7 = r_3 then some (.inr (.inl v3_5)) else some (.inl (v3_5 + (1 : Int32)))
def f_X10_cycle (a1 : Int32) : Option Int32 := gm_let (f_X0_isTold a1) fun r_1 => if r_1 = 0 then some (-1 : Int32) else gm_let (f_X0_isLeap a1) fun r_2 => if r_2 = 0 then some (-1 : Int32) else gm_let (f_X0_weekdayOf a1) fun r_3 => gm_let (a1 + (1 : Int32)) fun v3_4 => ((gm_lp (b_X10_cycle_25 a1 r_3) gm_FU v3_4).bind fun o => match o with | .inl w3_8 => (some w3_8) | .inr (_) => (some (-1 : Int32)))
set_option maxRecDepth 100000 in
set_option maxHeartbeats 4000000 in
theorem ok_X10_cycle (l : Launch) (Z : gm_Z) (a1 : Int32) (u : gm_M)  (r : Int32) (hf : f_X10_cycle a1 = some r) : gm_Met l GC Z yX10_cycle cX10_cycle 4 (some .int) ({ frames := 2, cells := 0, slots := 0, locals := 43 }) [rv Z 1, .int a1] u (some (.int r)) u := by
  unfold f_X10_cycle at hf
  refine gm_ofW (by decide +kernel) (Nat.le_of_ble_eq_true rfl) ?_
  intro p e s m args below meth c A ls Q R hRf hRl C E hl hw
  obtain ⟨hx, hb, -⟩ := id C
  have hl : lv_has ls 4 [(0, rv Z 1), (1, .int a1)] := hl
  refine lv_iload_n hx hb dX10_cycle_0 rfl (lv_at hl 1 rfl) ?_
  obtain ⟨r_1, e_r_1, hf⟩ := gm_le hf
  refine gm_callS (G := GC) (u := u) (u' := u) (As := [.int a1]) (rest := []) (res := (some (.int (f_X0_isTold a1)))) C hw hl (ok_X0_isTold l Z a1 u) cw_X10_210 st_X0_isTold rfl rfl ⟨Nat.le_trans (Nat.le_of_ble_eq_true rfl) hRf, Nat.le_trans (Nat.le_of_ble_eq_true rfl) hRl⟩ rfl rfl (Nat.le_of_ble_eq_true rfl) dX10_cycle_1 (fun H locs hw => ?_)
  refine gm_topI e_r_1 ?_
  refine lv_if_eq (tgt := 14) hx hb dX10_cycle_4 (by decide) (fun hc => ?_) (fun hc => ?_)
  · replace hf := (if_pos hc).symm.trans hf
    refine lv_iconst (v := -1) hx hb dX10_cycle_14 (by decide) ?_
    exact gm_iret C E hw rfl ((congrArg (fun z => some (Value.int z)) (Option.some.inj hf)).symm) rfl dX10_cycle_15
  · replace hf := (if_neg hc).symm.trans hf
    refine lv_iload_n hx hb dX10_cycle_7 rfl (lv_at hl 1 rfl) ?_
    obtain ⟨r_2, e_r_2, hf⟩ := gm_le hf
    refine gm_callS (G := GC) (u := u) (u' := u) (As := [.int a1]) (rest := []) (res := (some (.int (f_X0_isLeap a1)))) C hw hl (ok_X0_isLeap l Z a1 u) cw_X10_215 st_X0_isLeap rfl rfl ⟨Nat.le_trans (Nat.le_of_ble_eq_true rfl) hRf, Nat.le_trans (Nat.le_of_ble_eq_true rfl) hRl⟩ rfl rfl (Nat.le_of_ble_eq_true rfl) dX10_cycle_8 (fun H locs hw => ?_)
    refine gm_topI e_r_2 ?_
    refine lv_if_ne (tgt := 16) hx hb dX10_cycle_11 (by decide) (fun hc => ?_) (fun hc => ?_)
    · replace hf := (if_neg hc).symm.trans hf
      refine lv_iload_n hx hb dX10_cycle_16 rfl (lv_at hl 1 rfl) ?_
      obtain ⟨r_3, e_r_3, hf⟩ := gm_le hf
      refine gm_callS (G := GC) (u := u) (u' := u) (As := [.int a1]) (rest := []) (res := (some (.int (f_X0_weekdayOf a1)))) C hw hl (ok_X0_weekdayOf l Z a1 u) cw_X10_224 st_X0_weekdayOf rfl rfl ⟨Nat.le_trans (Nat.le_of_ble_eq_true rfl) hRf, Nat.le_trans (Nat.le_of_ble_eq_true rfl) hRl⟩ rfl rfl (Nat.le_of_ble_eq_true rfl) dX10_cycle_17 (fun H locs hw => ?_)
      refine gm_topI e_r_3 ?_
      refine lv_istore_n (i := 2) (lv' := [(2, .int r_3), (0, rv Z 1), (1, .int a1)]) hx hb dX10_cycle_20 rfl hl (by decide) rfl (fun ls hl => ?_)
      refine lv_iload_n hx hb dX10_cycle_21 rfl (lv_at hl 2 rfl) ?_
      refine lv_iconst (v := 1) hx hb dX10_cycle_22 (by decide) ?_
      refine lv_iadd hx hb dX10_cycle_23 ?_
      obtain ⟨v3_4, e_v3_4, hf⟩ := gm_le hf
      refine gm_topI e_v3_4 ?_
      refine lv_istore_n (i := 3) (lv' := [(3, .int v3_4), (2, .int r_3), (0, rv Z 1), (1, .int a1)]) hx hb dX10_cycle_24 rfl hl (by decide) rfl (fun ls hl => ?_)
      obtain ⟨o1, hlp, hf⟩ := gm_bnd hf
      have L25_1 := gm_loop (b_X10_cycle_25 a1 r_3) (fun x : Int32 => ∀ (H : Heap) (locs : List Loc) (ls : Array Slot), lv_has ls 4 [(1, .int a1), (2, .int r_3), (3, .int x)] → wd GC Z u A s.heap H locs → W p l e R s m args below meth c H locs 0 0 Q (F0 m 25 ls [])) (fun z : (Int32 ⊕ Unit) => match z with | .inl q0 => ∀ (H : Heap) (locs : List Loc) (ls : Array Slot), lv_has ls 4 [(3, .int q0)] → wd GC Z u A s.heap H locs → W p l e R s m args below meth c H locs 0 0 Q (F0 m 49 ls []) | .inr p0 => ∀ (H : Heap) (locs : List Loc) (ls : Array Slot), lv_has ls 4 [] → wd GC Z u A s.heap H locs → W p l e R s m args below meth c H locs 0 0 Q (F0 m 57 ls [])) (by
        intro x o1 hf Kc Kx
        obtain ⟨v3_5, rfl⟩ : ∃ y, y = x := ⟨_, rfl⟩
        intro H locs ls hl hw
        unfold b_X10_cycle_25 at hf
        try dsimp only at hf
        refine lv_iload_n hx hb dX10_cycle_25 rfl (lv_at hl 2 rfl) ?_
        refine lv_iload_n hx hb dX10_cycle_26 rfl (lv_at hl 0 rfl) ?_
        refine lv_sipush (v := 400) hx hb dX10_cycle_27 (by decide) ?_
        refine lv_iadd hx hb dX10_cycle_30 ?_
        refine lv_icmp_gt (tgt := 57) hx hb dX10_cycle_31 (by decide) (fun hc => ?_) (fun hc => ?_)
        · replace hf := (if_pos hc).symm.trans hf
          exact Kx _ (gm_si hf) _ _ _ (lv_sub hl [] rfl) hw
        · replace hf := (if_neg hc).symm.trans hf
          refine lv_iload_n hx hb dX10_cycle_34 rfl (lv_at hl 2 rfl) ?_
          obtain ⟨r_6, e_r_6, hf⟩ := gm_le hf
          refine gm_callS (G := GC) (u := u) (u' := u) (As := [.int v3_5]) (rest := []) (res := (some (.int (f_X0_isLeap v3_5)))) C hw hl (ok_X0_isLeap l Z v3_5 u) cw_X10_215 st_X0_isLeap rfl rfl ⟨Nat.le_trans (Nat.le_of_ble_eq_true rfl) hRf, Nat.le_trans (Nat.le_of_ble_eq_true rfl) hRl⟩ rfl rfl (Nat.le_of_ble_eq_true rfl) dX10_cycle_35 (fun H locs hw => ?_)
          refine gm_topI e_r_6 ?_
          refine lv_if_eq (tgt := 51) hx hb dX10_cycle_38 (by decide) (fun hc => ?_) (fun hc => ?_)
          · replace hf := (if_pos hc).symm.trans hf
            refine lv_iinc (v := v3_5 + (1 : Int32)) (lv' := [(3, .int (v3_5 + (1 : Int32))), (1, .int a1), (2, .int r_3)]) hx hb dX10_cycle_51 hl (k := 2) rfl rfl (by decide) rfl (fun ls hl => ?_)
            refine lv_goto (tgt := 25) hx hb dX10_cycle_54 (by decide) ?_
            exact Kc _ (gm_si hf) _ _ _ (lv_sub hl [1, 2, 0] rfl) hw
          · replace hf := (if_neg hc).symm.trans hf
            refine lv_iload_n hx hb dX10_cycle_41 rfl (lv_at hl 2 rfl) ?_
            obtain ⟨r_7, e_r_7, hf⟩ := gm_le hf
            refine gm_callS (G := GC) (u := u) (u' := u) (As := [.int v3_5]) (rest := []) (res := (some (.int (f_X0_weekdayOf v3_5)))) C hw hl (ok_X0_weekdayOf l Z v3_5 u) cw_X10_224 st_X0_weekdayOf rfl rfl ⟨Nat.le_trans (Nat.le_of_ble_eq_true rfl) hRf, Nat.le_trans (Nat.le_of_ble_eq_true rfl) hRl⟩ rfl rfl (Nat.le_of_ble_eq_true rfl) dX10_cycle_42 (fun H locs hw => ?_)
            refine gm_topI e_r_7 ?_
            refine lv_iload_n hx hb dX10_cycle_45 rfl (lv_at hl 1 rfl) ?_
            refine lv_icmp_ne (tgt := 51) hx hb dX10_cycle_46 (by decide) (fun hc => ?_) (fun hc => ?_)
            · replace hf := (if_neg hc).symm.trans hf
              refine lv_iinc (v := v3_5 + (1 : Int32)) (lv' := [(3, .int (v3_5 + (1 : Int32))), (1, .int a1), (2, .int r_3)]) hx hb dX10_cycle_51 hl (k := 2) rfl rfl (by decide) rfl (fun ls hl => ?_)
              refine lv_goto (tgt := 25) hx hb dX10_cycle_54 (by decide) ?_
              exact Kc _ (gm_si hf) _ _ _ (lv_sub hl [1, 2, 0] rfl) hw
            · replace hf := (if_pos hc).symm.trans hf
              exact Kx _ (gm_si hf) _ _ _ (lv_sub hl [2] rfl) hw)
      refine L25_1 _ _ _ hlp ?_ _ _ _ (lv_sub hl [3, 1, 0] rfl) hw
      cases o1 with
      | inl q0_z_9 =>
        obtain ⟨w3_8, rfl⟩ : ∃ y, y = q0_z_9 := ⟨_, rfl⟩
        intro H locs ls hl hw
        try dsimp only at hf
        refine lv_iload_n hx hb dX10_cycle_49 rfl (lv_at hl 0 rfl) ?_
        exact gm_iret C E hw rfl ((congrArg (fun z => some (Value.int z)) (Option.some.inj hf)).symm) rfl dX10_cycle_50
      | inr p0_z_9 =>
        intro H locs ls hl hw
        try dsimp only at hf
        refine lv_iconst (v := -1) hx hb dX10_cycle_57 (by decide) ?_
        exact gm_iret C E hw rfl ((congrArg (fun z => some (Value.int z)) (Option.some.inj hf)).symm) rfl dX10_cycle_58
    · replace hf := (if_pos hc).symm.trans hf
      refine lv_iconst (v := -1) hx hb dX10_cycle_14 (by decide) ?_
      exact gm_iret C E hw rfl ((congrArg (fun z => some (Value.int z)) (Option.some.inj hf)).symm) rfl dX10_cycle_15
/-! LeapCapital.lastday -/
def b_X10_lastday_46 (a1 : Int32) (r_6 : Int32) (u : gm_M) : Int32 → Option (Int32 ⊕ (Int32 ⊕ Unit)) := fun x => match x with | v3_9 => if v3_9 < r_6 then some (.inr (.inr ())) else gm_let (f_X0_isLeap v3_9) fun r_10 => if r_10 = 0 then some (.inl (v3_9 + (-1 : Int32))) else some (.inr (.inl v3_9))
def f_X10_lastday (a1 : Int32) (u : gm_M) : Option Int32 := if isRealm (gR u 1 2) = true then gm_let (f_X5_isPerson (gR u 1 2) a1 u) fun r_3 => if r_3 = 0 then some (-1 : Int32) else (f_X5_kindOf (gR u 1 2) a1 u).bind fun r_4 => if r_4 = (2 : Int32) then some (-1 : Int32) else (f_X5_bornOf (gR u 1 2) a1 u).bind fun r_6 => gm_let ((r_6 + (gI u (gR u 1 2) 7)) - (1 : Int32)) fun v3_8 => ((gm_lp (b_X10_lastday_46 a1 r_6 u) gm_FU v3_8).bind fun o => match o with | .inl w3_11 => (some w3_11) | .inr (_) => (some (-1 : Int32))) else none
set_option maxRecDepth 100000 in
set_option maxHeartbeats 4000000 in
theorem ok_X10_lastday (l : Launch) (Z : gm_Z) (a1 : Int32) (u : gm_M)  (r : Int32) (hf : f_X10_lastday a1 u = some r) : gm_Met l GC Z yX10_lastday cX10_lastday 4 (some .int) ({ frames := 1, cells := 0, slots := 0, locals := 21 }) [rv Z 1, .int a1] u (some (.int r)) u := by
  unfold f_X10_lastday at hf
  refine gm_ofW (by decide +kernel) (Nat.le_of_ble_eq_true rfl) ?_
  intro p e s m args below meth c A ls Q R hRf hRl C E hl hw
  obtain ⟨hx, hb, -⟩ := id C
  have hl : lv_has ls 4 [(0, rv Z 1), (1, .int a1)] := hl
  refine gm_aload_n (G := GC) (r := 1) C rfl dX10_lastday_0 rfl (lv_at hl 0 rfl) ?_
  refine gm_getR (G := GC) (u := u) (r := 1) (ci := 9) (k := 2) C hw rfl fl_X10_19 dX10_lastday_1 rfl ?_
  obtain ⟨g_1, hf⟩ := gm_grd hf
  obtain ⟨k_2_0, k_2_1, k_2_2, k_2_3, k_2_4, k_2_5, k_2_6, k_2_7, k_2_8, k_2_9, k_2_10, k_2_11⟩ := fc_Realm g_1
  refine lv_iload_n hx hb dX10_lastday_4 rfl (lv_at hl 1 rfl) ?_
  obtain ⟨r_3, e_r_3, hf⟩ := gm_le hf
  refine gm_callV (G := GC) (u := u) (u' := u) (r := (gR u 1 2)) (ci := 4) (As := [.int a1]) (rest := []) (res := (some (.int (f_X5_isPerson (gR u 1 2) a1 u)))) C hw hl (ok_X5_isPerson l Z (gR u 1 2) a1 u g_1) cw_X10_122 im_X5_isPerson rfl se_X5_isPerson k_2_0 rfl rfl ⟨Nat.le_trans (Nat.le_of_ble_eq_true rfl) hRf, Nat.le_trans (Nat.le_of_ble_eq_true rfl) hRl⟩ rfl rfl (Nat.le_of_ble_eq_true rfl) dX10_lastday_5 (fun H locs hw => ?_)
  refine gm_topI e_r_3 ?_
  refine lv_if_eq (tgt := 23) hx hb dX10_lastday_8 (by decide) (fun hc => ?_) (fun hc => ?_)
  · replace hf := (if_pos hc).symm.trans hf
    refine lv_iconst (v := -1) hx hb dX10_lastday_23 (by decide) ?_
    exact gm_iret C E hw rfl ((congrArg (fun z => some (Value.int z)) (Option.some.inj hf)).symm) rfl dX10_lastday_24
  · replace hf := (if_neg hc).symm.trans hf
    refine gm_aload_n (G := GC) (r := 1) C rfl dX10_lastday_11 rfl (lv_at hl 0 rfl) ?_
    refine gm_getR (G := GC) (u := u) (r := 1) (ci := 9) (k := 2) C hw rfl fl_X10_19 dX10_lastday_12 rfl ?_
    refine lv_iload_n hx hb dX10_lastday_15 rfl (lv_at hl 1 rfl) ?_
    obtain ⟨r_4, hc_5, hf⟩ := gm_bnd hf
    refine gm_callV (G := GC) (u := u) (u' := u) (r := (gR u 1 2)) (ci := 4) (As := [.int a1]) (rest := []) (res := (some (.int r_4))) C hw hl (ok_X5_kindOf l Z (gR u 1 2) a1 u g_1 r_4 hc_5) cw_X10_126 im_X5_kindOf rfl se_X5_kindOf k_2_0 rfl rfl ⟨Nat.le_trans (Nat.le_of_ble_eq_true rfl) hRf, Nat.le_trans (Nat.le_of_ble_eq_true rfl) hRl⟩ rfl rfl (Nat.le_of_ble_eq_true rfl) dX10_lastday_16 (fun H locs hw => ?_)
    refine lv_iconst (v := 2) hx hb dX10_lastday_19 (by decide) ?_
    refine lv_icmp_ne (tgt := 25) hx hb dX10_lastday_20 (by decide) (fun hc => ?_) (fun hc => ?_)
    · replace hf := (if_neg hc).symm.trans hf
      refine gm_aload_n (G := GC) (r := 1) C rfl dX10_lastday_25 rfl (lv_at hl 0 rfl) ?_
      refine gm_getR (G := GC) (u := u) (r := 1) (ci := 9) (k := 2) C hw rfl fl_X10_19 dX10_lastday_26 rfl ?_
      refine lv_iload_n hx hb dX10_lastday_29 rfl (lv_at hl 1 rfl) ?_
      obtain ⟨r_6, hc_7, hf⟩ := gm_bnd hf
      refine gm_callV (G := GC) (u := u) (u' := u) (r := (gR u 1 2)) (ci := 4) (As := [.int a1]) (rest := []) (res := (some (.int r_6))) C hw hl (ok_X5_bornOf l Z (gR u 1 2) a1 u g_1 r_6 hc_7) cw_X10_130 im_X5_bornOf rfl se_X5_bornOf k_2_0 rfl rfl ⟨Nat.le_trans (Nat.le_of_ble_eq_true rfl) hRf, Nat.le_trans (Nat.le_of_ble_eq_true rfl) hRl⟩ rfl rfl (Nat.le_of_ble_eq_true rfl) dX10_lastday_30 (fun H locs hw => ?_)
      refine lv_istore_n (i := 2) (lv' := [(2, .int r_6), (0, rv Z 1), (1, .int a1)]) hx hb dX10_lastday_33 rfl hl (by decide) rfl (fun ls hl => ?_)
      refine lv_iload_n hx hb dX10_lastday_34 rfl (lv_at hl 0 rfl) ?_
      refine gm_aload_n (G := GC) (r := 1) C rfl dX10_lastday_35 rfl (lv_at hl 1 rfl) ?_
      refine gm_getR (G := GC) (u := u) (r := 1) (ci := 9) (k := 2) C hw rfl fl_X10_19 dX10_lastday_36 rfl ?_
      refine gm_getI (G := GC) (u := u) (r := (gR u 1 2)) (ci := 4) (k := 7) C hw k_2_0 fl_X10_233 dX10_lastday_39 rfl ?_
      refine lv_iadd hx hb dX10_lastday_42 ?_
      refine lv_iconst (v := 1) hx hb dX10_lastday_43 (by decide) ?_
      refine lv_isub hx hb dX10_lastday_44 ?_
      obtain ⟨v3_8, e_v3_8, hf⟩ := gm_le hf
      refine gm_topI e_v3_8 ?_
      refine lv_istore_n (i := 3) (lv' := [(3, .int v3_8), (2, .int r_6), (0, rv Z 1), (1, .int a1)]) hx hb dX10_lastday_45 rfl hl (by decide) rfl (fun ls hl => ?_)
      obtain ⟨o1, hlp, hf⟩ := gm_bnd hf
      have L46_1 := gm_loop (b_X10_lastday_46 a1 r_6 u) (fun x : Int32 => ∀ (H : Heap) (locs : List Loc) (ls : Array Slot), lv_has ls 4 [(2, .int r_6), (3, .int x)] → wd GC Z u A s.heap H locs → W p l e R s m args below meth c H locs 0 0 Q (F0 m 46 ls [])) (fun z : (Int32 ⊕ Unit) => match z with | .inl q0 => ∀ (H : Heap) (locs : List Loc) (ls : Array Slot), lv_has ls 4 [(3, .int q0)] → wd GC Z u A s.heap H locs → W p l e R s m args below meth c H locs 0 0 Q (F0 m 58 ls []) | .inr p0 => ∀ (H : Heap) (locs : List Loc) (ls : Array Slot), lv_has ls 4 [] → wd GC Z u A s.heap H locs → W p l e R s m args below meth c H locs 0 0 Q (F0 m 66 ls [])) (by
        intro x o1 hf Kc Kx
        obtain ⟨v3_9, rfl⟩ : ∃ y, y = x := ⟨_, rfl⟩
        intro H locs ls hl hw
        unfold b_X10_lastday_46 at hf
        try dsimp only at hf
        refine lv_iload_n hx hb dX10_lastday_46 rfl (lv_at hl 1 rfl) ?_
        refine lv_iload_n hx hb dX10_lastday_47 rfl (lv_at hl 0 rfl) ?_
        refine lv_icmp_lt (tgt := 66) hx hb dX10_lastday_48 (by decide) (fun hc => ?_) (fun hc => ?_)
        · replace hf := (if_pos hc).symm.trans hf
          exact Kx _ (gm_si hf) _ _ _ (lv_sub hl [] rfl) hw
        · replace hf := (if_neg hc).symm.trans hf
          refine lv_iload_n hx hb dX10_lastday_51 rfl (lv_at hl 1 rfl) ?_
          obtain ⟨r_10, e_r_10, hf⟩ := gm_le hf
          refine gm_callS (G := GC) (u := u) (u' := u) (As := [.int v3_9]) (rest := []) (res := (some (.int (f_X0_isLeap v3_9)))) C hw hl (ok_X0_isLeap l Z v3_9 u) cw_X10_215 st_X0_isLeap rfl rfl ⟨Nat.le_trans (Nat.le_of_ble_eq_true rfl) hRf, Nat.le_trans (Nat.le_of_ble_eq_true rfl) hRl⟩ rfl rfl (Nat.le_of_ble_eq_true rfl) dX10_lastday_52 (fun H locs hw => ?_)
          refine gm_topI e_r_10 ?_
          refine lv_if_eq (tgt := 60) hx hb dX10_lastday_55 (by decide) (fun hc => ?_) (fun hc => ?_)
          · replace hf := (if_pos hc).symm.trans hf
            refine lv_iinc (v := v3_9 + (-1 : Int32)) (lv' := [(3, .int (v3_9 + (-1 : Int32))), (2, .int r_6)]) hx hb dX10_lastday_60 hl (k := 1) rfl rfl (by decide) rfl (fun ls hl => ?_)
            refine lv_goto (tgt := 46) hx hb dX10_lastday_63 (by decide) ?_
            exact Kc _ (gm_si hf) _ _ _ (lv_sub hl [1, 0] rfl) hw
          · replace hf := (if_neg hc).symm.trans hf
            exact Kx _ (gm_si hf) _ _ _ (lv_sub hl [1] rfl) hw)
      refine L46_1 _ _ _ hlp ?_ _ _ _ (lv_sub hl [1, 0] rfl) hw
      cases o1 with
      | inl q0_z_12 =>
        obtain ⟨w3_11, rfl⟩ : ∃ y, y = q0_z_12 := ⟨_, rfl⟩
        intro H locs ls hl hw
        try dsimp only at hf
        refine lv_iload_n hx hb dX10_lastday_58 rfl (lv_at hl 0 rfl) ?_
        exact gm_iret C E hw rfl ((congrArg (fun z => some (Value.int z)) (Option.some.inj hf)).symm) rfl dX10_lastday_59
      | inr p0_z_12 =>
        intro H locs ls hl hw
        try dsimp only at hf
        refine lv_iconst (v := -1) hx hb dX10_lastday_66 (by decide) ?_
        exact gm_iret C E hw rfl ((congrArg (fun z => some (Value.int z)) (Option.some.inj hf)).symm) rfl dX10_lastday_67
    · replace hf := (if_pos hc).symm.trans hf
      refine lv_iconst (v := -1) hx hb dX10_lastday_23 (by decide) ?_
      exact gm_iret C E hw rfl ((congrArg (fun z => some (Value.int z)) (Option.some.inj hf)).symm) rfl dX10_lastday_24
/-! LeapCapital.old -/
def f_X10_old (a1 : Int32) (u : gm_M) : Option Int32 := if isRealm (gR u 1 2) = true then gm_let (f_X5_isPerson (gR u 1 2) a1 u) fun r_3 => if r_3 = 0 then some (-1 : Int32) else gm_let (f_X0_leapsUpTo (gI u 27 0)) fun r_4 => (f_X5_bornOf (gR u 1 2) a1 u).bind fun r_5 => gm_let (f_X0_leapsUpTo r_5) fun r_7 => gm_let (r_4 - r_7) fun v2_8 => gm_let (if (0 : Int32) < v2_8 then v2_8 else (0 : Int32)) fun v_9 => some v_9 else none
set_option maxRecDepth 100000 in
set_option maxHeartbeats 4000000 in
theorem ok_X10_old (l : Launch) (Z : gm_Z) (a1 : Int32) (u : gm_M)  (r : Int32) (hf : f_X10_old a1 u = some r) : gm_Met l GC Z yX10_old cX10_old 3 (some .int) ({ frames := 1, cells := 0, slots := 0, locals := 32 }) [rv Z 1, .int a1] u (some (.int r)) u := by
  unfold f_X10_old at hf
  refine gm_ofW (by decide +kernel) (Nat.le_of_ble_eq_true rfl) ?_
  intro p e s m args below meth c A ls Q R hRf hRl C E hl hw
  obtain ⟨hx, hb, -⟩ := id C
  have hl : lv_has ls 3 [(0, rv Z 1), (1, .int a1)] := hl
  refine gm_aload_n (G := GC) (r := 1) C rfl dX10_old_0 rfl (lv_at hl 0 rfl) ?_
  refine gm_getR (G := GC) (u := u) (r := 1) (ci := 9) (k := 2) C hw rfl fl_X10_19 dX10_old_1 rfl ?_
  obtain ⟨g_1, hf⟩ := gm_grd hf
  obtain ⟨k_2_0, k_2_1, k_2_2, k_2_3, k_2_4, k_2_5, k_2_6, k_2_7, k_2_8, k_2_9, k_2_10, k_2_11⟩ := fc_Realm g_1
  refine lv_iload_n hx hb dX10_old_4 rfl (lv_at hl 1 rfl) ?_
  obtain ⟨r_3, e_r_3, hf⟩ := gm_le hf
  refine gm_callV (G := GC) (u := u) (u' := u) (r := (gR u 1 2)) (ci := 4) (As := [.int a1]) (rest := []) (res := (some (.int (f_X5_isPerson (gR u 1 2) a1 u)))) C hw hl (ok_X5_isPerson l Z (gR u 1 2) a1 u g_1) cw_X10_122 im_X5_isPerson rfl se_X5_isPerson k_2_0 rfl rfl ⟨Nat.le_trans (Nat.le_of_ble_eq_true rfl) hRf, Nat.le_trans (Nat.le_of_ble_eq_true rfl) hRl⟩ rfl rfl (Nat.le_of_ble_eq_true rfl) dX10_old_5 (fun H locs hw => ?_)
  refine gm_topI e_r_3 ?_
  refine lv_if_ne (tgt := 13) hx hb dX10_old_8 (by decide) (fun hc => ?_) (fun hc => ?_)
  · replace hf := (if_neg hc).symm.trans hf
    refine gm_aload_n (G := GC) (r := 1) C rfl dX10_old_13 rfl (lv_at hl 0 rfl) ?_
    refine gm_getS (G := GC) (u := u) (r := 1) (ci := 9) (k := 6) C hw rfl fl_X10_39 dX10_old_14 rfl (q := 27) rfl ?_
    refine gm_getI (G := GC) (u := u) (r := 27) (ci := 0) (k := 0) C hw rfl fl_X10_142 dX10_old_17 rfl ?_
    obtain ⟨r_4, e_r_4, hf⟩ := gm_le hf
    refine gm_callS (G := GC) (u := u) (u' := u) (As := [.int (gI u 27 0)]) (rest := []) (res := (some (.int (f_X0_leapsUpTo (gI u 27 0))))) C hw hl (ok_X0_leapsUpTo l Z (gI u 27 0) u) cw_X10_218 st_X0_leapsUpTo rfl rfl ⟨Nat.le_trans (Nat.le_of_ble_eq_true rfl) hRf, Nat.le_trans (Nat.le_of_ble_eq_true rfl) hRl⟩ rfl rfl (Nat.le_of_ble_eq_true rfl) dX10_old_20 (fun H locs hw => ?_)
    refine gm_topI e_r_4 ?_
    refine gm_aload_n (G := GC) (r := 1) C rfl dX10_old_23 rfl (lv_at hl 0 rfl) ?_
    refine gm_getR (G := GC) (u := u) (r := 1) (ci := 9) (k := 2) C hw rfl fl_X10_19 dX10_old_24 rfl ?_
    refine lv_iload_n hx hb dX10_old_27 rfl (lv_at hl 1 rfl) ?_
    obtain ⟨r_5, hc_6, hf⟩ := gm_bnd hf
    refine gm_callV (G := GC) (u := u) (u' := u) (r := (gR u 1 2)) (ci := 4) (As := [.int a1]) (rest := [.int r_4]) (res := (some (.int r_5))) C hw hl (ok_X5_bornOf l Z (gR u 1 2) a1 u g_1 r_5 hc_6) cw_X10_130 im_X5_bornOf rfl se_X5_bornOf k_2_0 rfl rfl ⟨Nat.le_trans (Nat.le_of_ble_eq_true rfl) hRf, Nat.le_trans (Nat.le_of_ble_eq_true rfl) hRl⟩ rfl rfl (Nat.le_of_ble_eq_true rfl) dX10_old_28 (fun H locs hw => ?_)
    obtain ⟨r_7, e_r_7, hf⟩ := gm_le hf
    refine gm_callS (G := GC) (u := u) (u' := u) (As := [.int r_5]) (rest := [.int r_4]) (res := (some (.int (f_X0_leapsUpTo r_5)))) C hw hl (ok_X0_leapsUpTo l Z r_5 u) cw_X10_218 st_X0_leapsUpTo rfl rfl ⟨Nat.le_trans (Nat.le_of_ble_eq_true rfl) hRf, Nat.le_trans (Nat.le_of_ble_eq_true rfl) hRl⟩ rfl rfl (Nat.le_of_ble_eq_true rfl) dX10_old_31 (fun H locs hw => ?_)
    refine gm_topI e_r_7 ?_
    refine lv_isub hx hb dX10_old_34 ?_
    obtain ⟨v2_8, e_v2_8, hf⟩ := gm_le hf
    refine gm_topI e_v2_8 ?_
    refine lv_istore_n (i := 2) (lv' := [(2, .int v2_8), (0, rv Z 1), (1, .int a1)]) hx hb dX10_old_35 rfl hl (by decide) rfl (fun ls hl => ?_)
    refine lv_iconst (v := 0) hx hb dX10_old_36 (by decide) ?_
    refine lv_iload_n hx hb dX10_old_37 rfl (lv_at hl 0 rfl) ?_
    refine gm_max C hl mw_X10_227 (Nat.le_trans (Nat.le_of_ble_eq_true rfl) hRf) (Nat.le_trans (Nat.le_of_ble_eq_true rfl) hRl) (Nat.le_of_ble_eq_true rfl) dX10_old_38 ?_
    obtain ⟨v_9, e_v_9, hf⟩ := gm_le hf
    refine gm_topI e_v_9 ?_
    exact gm_iret C E hw rfl ((congrArg (fun z => some (Value.int z)) (Option.some.inj hf)).symm) rfl dX10_old_41
  · replace hf := (if_pos hc).symm.trans hf
    refine lv_iconst (v := -1) hx hb dX10_old_11 (by decide) ?_
    exact gm_iret C E hw rfl ((congrArg (fun z => some (Value.int z)) (Option.some.inj hf)).symm) rfl dX10_old_12
