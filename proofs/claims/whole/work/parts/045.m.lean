/-! LeapCapitalModel.lamp -/
def f_X11_lamp (a1 : Int32) (u : gm_M) : Option (Int32 × gm_M) := gm_let (sI u 1 0 (0 : Int32)) fun u_1 => gm_let (f_X11_within a1 (1 : Int32) (20 : Int32)) fun r_2 => if r_2 = 0 then some ((-1 : Int32), u_1) else (f_X11_keeps u_1).bind fun u_3 => gm_let (if ((gI u_3 29 1) + a1) < (60 : Int32) then ((gI u_3 29 1) + a1) else (60 : Int32)) fun v_5 => gm_let (sI u_3 29 1 v_5) fun u_6 => some (gI u_6 29 1, u_6)
set_option maxRecDepth 100000 in
set_option maxHeartbeats 4000000 in
theorem ok_X11_lamp (l : Launch) (Z : gm_Z) (a1 : Int32) (u : gm_M)  (r : Int32) (u' : gm_M) (hf : f_X11_lamp a1 u = some (r, u')) : gm_Met l GM Z yX11_lamp cX11_lamp 2 (some .int) ({ frames := 2, cells := 0, slots := 0, locals := 45 }) [rv Z 1, .int a1] u (some (.int r)) u' := by
  unfold f_X11_lamp at hf
  refine gm_ofW (by decide +kernel) (Nat.le_of_ble_eq_true rfl) ?_
  intro p e s m args below meth c A ls Q R hRf hRl C E hl hw
  obtain ⟨hx, hb, -⟩ := id C
  have hl : lv_has ls 2 [(0, rv Z 1), (1, .int a1)] := hl
  refine gm_aload_n (G := GM) (r := 1) C rfl dX11_lamp_0 rfl (lv_at hl 0 rfl) ?_
  refine lv_iconst (v := 0) hx hb dX11_lamp_1 (by decide) ?_
  refine gm_putI (G := GM) (u := u) (r := 1) (ci := 10) (k := 0) (v := (0 : Int32)) C hw rfl fl_X11_137 fp_10_0 dX11_lamp_2 rfl (fun H locs hw => ?_)
  obtain ⟨u_1, e_u_1, hf⟩ := gm_le hf
  rw [← e_u_1] at hw
  refine lv_iload_n hx hb dX11_lamp_5 rfl (lv_at hl 1 rfl) ?_
  refine lv_iconst (v := 1) hx hb dX11_lamp_6 (by decide) ?_
  refine lv_bipush (v := 20) hx hb dX11_lamp_7 (by decide) ?_
  obtain ⟨r_2, e_r_2, hf⟩ := gm_le hf
  refine gm_callS (G := GM) (u := u_1) (u' := u_1) (As := [.int a1, .int (1 : Int32), .int (20 : Int32)]) (rest := []) (res := (some (.int (f_X11_within a1 (1 : Int32) (20 : Int32))))) C hw hl (ok_X11_within l Z a1 (1 : Int32) (20 : Int32) u_1) cw_X11_254 st_X11_within rfl rfl ⟨Nat.le_trans (Nat.le_of_ble_eq_true rfl) hRf, Nat.le_trans (Nat.le_of_ble_eq_true rfl) hRl⟩ rfl rfl (Nat.le_of_ble_eq_true rfl) dX11_lamp_9 (fun H locs hw => ?_)
  refine gm_topI e_r_2 ?_
  refine lv_if_ne (tgt := 17) hx hb dX11_lamp_12 (by decide) (fun hc => ?_) (fun hc => ?_)
  · replace hf := (if_neg hc).symm.trans hf
    refine gm_aload_n (G := GM) (r := 1) C rfl dX11_lamp_17 rfl (lv_at hl 0 rfl) ?_
    obtain ⟨u_3, hc_4, hf⟩ := gm_bnd hf
    refine gm_callV (G := GM) (u := u_1) (u' := u_3) (r := 1) (ci := 10) (As := []) (rest := []) (res := none) C hw hl (ok_X11_keeps l Z u_1 u_3 hc_4) cw_X11_383 im_X11_keeps rfl se_X11_keeps rfl rfl rfl ⟨Nat.le_trans (Nat.le_of_ble_eq_true rfl) hRf, Nat.le_trans (Nat.le_of_ble_eq_true rfl) hRl⟩ rfl rfl (Nat.le_of_ble_eq_true rfl) dX11_lamp_18 (fun H locs hw => ?_)
    refine gm_aload_n (G := GM) (r := 1) C rfl dX11_lamp_21 rfl (lv_at hl 0 rfl) ?_
    refine gm_getS (G := GM) (u := u_3) (r := 1) (ci := 10) (k := 39) C hw rfl fl_X11_93 dX11_lamp_22 rfl (q := 29) rfl ?_
    refine lv_iconst (v := 1) hx hb dX11_lamp_25 (by decide) ?_
    refine lv_bipush (v := 60) hx hb dX11_lamp_26 (by decide) ?_
    refine gm_aload_n (G := GM) (r := 1) C rfl dX11_lamp_28 rfl (lv_at hl 0 rfl) ?_
    refine gm_getS (G := GM) (u := u_3) (r := 1) (ci := 10) (k := 39) C hw rfl fl_X11_93 dX11_lamp_29 rfl (q := 29) rfl ?_
    refine lv_iconst (v := 1) hx hb dX11_lamp_32 (by decide) ?_
    refine gm_iald (G := GM) (u := u_3) (r := 29) (n := 22) (i := (1 : Int32)) C hw rfl (by decide) (j := 1) (by decide) dX11_lamp_33 ?_
    refine lv_iload_n hx hb dX11_lamp_34 rfl (lv_at hl 1 rfl) ?_
    refine lv_iadd hx hb dX11_lamp_35 ?_
    refine gm_min C hl mw_X11_389 (Nat.le_trans (Nat.le_of_ble_eq_true rfl) hRf) (Nat.le_trans (Nat.le_of_ble_eq_true rfl) hRl) (Nat.le_of_ble_eq_true rfl) dX11_lamp_36 ?_
    obtain ⟨v_5, e_v_5, hf⟩ := gm_le hf
    refine gm_topI e_v_5 ?_
    refine gm_iast (G := GM) (u := u_3) (r := 29) (n := 22) (i := (1 : Int32)) (x := v_5) C hw rfl (by decide) (j := 1) (by decide) dX11_lamp_39 (fun H locs hw => ?_)
    obtain ⟨u_6, e_u_6, hf⟩ := gm_le hf
    rw [← e_u_6] at hw
    refine gm_aload_n (G := GM) (r := 1) C rfl dX11_lamp_40 rfl (lv_at hl 0 rfl) ?_
    refine gm_getS (G := GM) (u := u_6) (r := 1) (ci := 10) (k := 39) C hw rfl fl_X11_93 dX11_lamp_41 rfl (q := 29) rfl ?_
    refine lv_iconst (v := 1) hx hb dX11_lamp_44 (by decide) ?_
    refine gm_iald (G := GM) (u := u_6) (r := 29) (n := 22) (i := (1 : Int32)) C hw rfl (by decide) (j := 1) (by decide) dX11_lamp_45 ?_
    exact gm_iret C E hw rfl ((congrArg (fun z => some (Value.int z)) (gm_sp hf).1).symm) (gm_sp hf).2.symm dX11_lamp_46
  · replace hf := (if_pos hc).symm.trans hf
    refine lv_iconst (v := -1) hx hb dX11_lamp_15 (by decide) ?_
    exact gm_iret C E hw rfl ((congrArg (fun z => some (Value.int z)) (gm_sp hf).1).symm) (gm_sp hf).2.symm dX11_lamp_16
/-! LeapCapitalModel.waits -/
def f_X11_waits  (u : gm_M) : Option (Int32 × gm_M) := gm_let (sI u 1 0 (0 : Int32)) fun u_1 => (f_X11_keeps u_1).bind fun u_2 => gm_let (gI u_2 29 3) fun v1_4 => (f_X11_passes u_2).bind fun o => match o with | (r_5, u_6) => some ((gI u_6 29 3) &&& (v1_4 ^^^ (-1 : Int32)), u_6)
set_option maxRecDepth 100000 in
set_option maxHeartbeats 4000000 in
theorem ok_X11_waits (l : Launch) (Z : gm_Z)  (u : gm_M)  (r : Int32) (u' : gm_M) (hf : f_X11_waits u = some (r, u')) : gm_Met l GM Z yX11_waits cX11_waits 2 (some .int) ({ frames := 7, cells := 0, slots := 0, locals := 160 }) [rv Z 1] u (some (.int r)) u' := by
  unfold f_X11_waits at hf
  refine gm_ofW (by decide +kernel) (Nat.le_of_ble_eq_true rfl) ?_
  intro p e s m args below meth c A ls Q R hRf hRl C E hl hw
  obtain ⟨hx, hb, -⟩ := id C
  have hl : lv_has ls 2 [(0, rv Z 1)] := hl
  refine gm_aload_n (G := GM) (r := 1) C rfl dX11_waits_0 rfl (lv_at hl 0 rfl) ?_
  refine lv_iconst (v := 0) hx hb dX11_waits_1 (by decide) ?_
  refine gm_putI (G := GM) (u := u) (r := 1) (ci := 10) (k := 0) (v := (0 : Int32)) C hw rfl fl_X11_137 fp_10_0 dX11_waits_2 rfl (fun H locs hw => ?_)
  obtain ⟨u_1, e_u_1, hf⟩ := gm_le hf
  rw [← e_u_1] at hw
  refine gm_aload_n (G := GM) (r := 1) C rfl dX11_waits_5 rfl (lv_at hl 0 rfl) ?_
  obtain ⟨u_2, hc_3, hf⟩ := gm_bnd hf
  refine gm_callV (G := GM) (u := u_1) (u' := u_2) (r := 1) (ci := 10) (As := []) (rest := []) (res := none) C hw hl (ok_X11_keeps l Z u_1 u_2 hc_3) cw_X11_383 im_X11_keeps rfl se_X11_keeps rfl rfl rfl ⟨Nat.le_trans (Nat.le_of_ble_eq_true rfl) hRf, Nat.le_trans (Nat.le_of_ble_eq_true rfl) hRl⟩ rfl rfl (Nat.le_of_ble_eq_true rfl) dX11_waits_6 (fun H locs hw => ?_)
  refine gm_aload_n (G := GM) (r := 1) C rfl dX11_waits_9 rfl (lv_at hl 0 rfl) ?_
  refine gm_getS (G := GM) (u := u_2) (r := 1) (ci := 10) (k := 39) C hw rfl fl_X11_93 dX11_waits_10 rfl (q := 29) rfl ?_
  refine lv_iconst (v := 3) hx hb dX11_waits_13 (by decide) ?_
  refine gm_iald (G := GM) (u := u_2) (r := 29) (n := 22) (i := (3 : Int32)) C hw rfl (by decide) (j := 3) (by decide) dX11_waits_14 ?_
  obtain ⟨v1_4, e_v1_4, hf⟩ := gm_le hf
  refine gm_topI e_v1_4 ?_
  refine lv_istore_n (i := 1) (lv' := [(1, .int v1_4), (0, rv Z 1)]) hx hb dX11_waits_15 rfl hl (by decide) rfl (fun ls hl => ?_)
  refine gm_aload_n (G := GM) (r := 1) C rfl dX11_waits_16 rfl (lv_at hl 1 rfl) ?_
  obtain ⟨⟨r_5, u_6⟩, hc_7, hf⟩ := gm_bnd hf
  try dsimp only at hf
  refine gm_callV (G := GM) (u := u_2) (u' := u_6) (r := 1) (ci := 10) (As := []) (rest := []) (res := (some (.int r_5))) C hw hl (ok_X11_passes l Z u_2 r_5 u_6 hc_7) cw_X11_370 im_X11_passes rfl se_X11_passes rfl rfl rfl ⟨Nat.le_trans (Nat.le_of_ble_eq_true rfl) hRf, Nat.le_trans (Nat.le_of_ble_eq_true rfl) hRl⟩ rfl rfl (Nat.le_of_ble_eq_true rfl) dX11_waits_17 (fun H locs hw => ?_)
  refine lv_pop hx hb dX11_waits_20 rfl ?_
  refine gm_aload_n (G := GM) (r := 1) C rfl dX11_waits_21 rfl (lv_at hl 1 rfl) ?_
  refine gm_getS (G := GM) (u := u_6) (r := 1) (ci := 10) (k := 39) C hw rfl fl_X11_93 dX11_waits_22 rfl (q := 29) rfl ?_
  refine lv_iconst (v := 3) hx hb dX11_waits_25 (by decide) ?_
  refine gm_iald (G := GM) (u := u_6) (r := 29) (n := 22) (i := (3 : Int32)) C hw rfl (by decide) (j := 3) (by decide) dX11_waits_26 ?_
  refine lv_iload_n hx hb dX11_waits_27 rfl (lv_at hl 0 rfl) ?_
  refine lv_iconst (v := -1) hx hb dX11_waits_28 (by decide) ?_
  refine lv_ixor hx hb dX11_waits_29 ?_
  refine lv_iand hx hb dX11_waits_30 ?_
  exact gm_iret C E hw rfl ((congrArg (fun z => some (Value.int z)) (gm_sp hf).1).symm) (gm_sp hf).2.symm dX11_waits_31
/-! LeapCapitalModel.ride -/
def f_X11_ride  (u : gm_M) : Option (Int32 × gm_M) := gm_let (sI u 1 0 (0 : Int32)) fun u_1 => (f_X11_keeps u_1).bind fun u_2 => gm_let (gI u_2 29 3) fun v1_4 => (f_X11_rides u_2).bind fun u_5 => some ((gI u_5 29 3) &&& (v1_4 ^^^ (-1 : Int32)), u_5)
set_option maxRecDepth 100000 in
set_option maxHeartbeats 4000000 in
theorem ok_X11_ride (l : Launch) (Z : gm_Z)  (u : gm_M)  (r : Int32) (u' : gm_M) (hf : f_X11_ride u = some (r, u')) : gm_Met l GM Z yX11_ride cX11_ride 2 (some .int) ({ frames := 8, cells := 0, slots := 0, locals := 181 }) [rv Z 1] u (some (.int r)) u' := by
  unfold f_X11_ride at hf
  refine gm_ofW (by decide +kernel) (Nat.le_of_ble_eq_true rfl) ?_
  intro p e s m args below meth c A ls Q R hRf hRl C E hl hw
  obtain ⟨hx, hb, -⟩ := id C
  have hl : lv_has ls 2 [(0, rv Z 1)] := hl
  refine gm_aload_n (G := GM) (r := 1) C rfl dX11_ride_0 rfl (lv_at hl 0 rfl) ?_
  refine lv_iconst (v := 0) hx hb dX11_ride_1 (by decide) ?_
  refine gm_putI (G := GM) (u := u) (r := 1) (ci := 10) (k := 0) (v := (0 : Int32)) C hw rfl fl_X11_137 fp_10_0 dX11_ride_2 rfl (fun H locs hw => ?_)
  obtain ⟨u_1, e_u_1, hf⟩ := gm_le hf
  rw [← e_u_1] at hw
  refine gm_aload_n (G := GM) (r := 1) C rfl dX11_ride_5 rfl (lv_at hl 0 rfl) ?_
  obtain ⟨u_2, hc_3, hf⟩ := gm_bnd hf
  refine gm_callV (G := GM) (u := u_1) (u' := u_2) (r := 1) (ci := 10) (As := []) (rest := []) (res := none) C hw hl (ok_X11_keeps l Z u_1 u_2 hc_3) cw_X11_383 im_X11_keeps rfl se_X11_keeps rfl rfl rfl ⟨Nat.le_trans (Nat.le_of_ble_eq_true rfl) hRf, Nat.le_trans (Nat.le_of_ble_eq_true rfl) hRl⟩ rfl rfl (Nat.le_of_ble_eq_true rfl) dX11_ride_6 (fun H locs hw => ?_)
  refine gm_aload_n (G := GM) (r := 1) C rfl dX11_ride_9 rfl (lv_at hl 0 rfl) ?_
  refine gm_getS (G := GM) (u := u_2) (r := 1) (ci := 10) (k := 39) C hw rfl fl_X11_93 dX11_ride_10 rfl (q := 29) rfl ?_
  refine lv_iconst (v := 3) hx hb dX11_ride_13 (by decide) ?_
  refine gm_iald (G := GM) (u := u_2) (r := 29) (n := 22) (i := (3 : Int32)) C hw rfl (by decide) (j := 3) (by decide) dX11_ride_14 ?_
  obtain ⟨v1_4, e_v1_4, hf⟩ := gm_le hf
  refine gm_topI e_v1_4 ?_
  refine lv_istore_n (i := 1) (lv' := [(1, .int v1_4), (0, rv Z 1)]) hx hb dX11_ride_15 rfl hl (by decide) rfl (fun ls hl => ?_)
  refine gm_aload_n (G := GM) (r := 1) C rfl dX11_ride_16 rfl (lv_at hl 1 rfl) ?_
  obtain ⟨u_5, hc_6, hf⟩ := gm_bnd hf
  refine gm_callV (G := GM) (u := u_2) (u' := u_5) (r := 1) (ci := 10) (As := []) (rest := []) (res := none) C hw hl (ok_X11_rides l Z u_2 u_5 hc_6) cw_X11_392 im_X11_rides rfl se_X11_rides rfl rfl rfl ⟨Nat.le_trans (Nat.le_of_ble_eq_true rfl) hRf, Nat.le_trans (Nat.le_of_ble_eq_true rfl) hRl⟩ rfl rfl (Nat.le_of_ble_eq_true rfl) dX11_ride_17 (fun H locs hw => ?_)
  refine gm_aload_n (G := GM) (r := 1) C rfl dX11_ride_20 rfl (lv_at hl 1 rfl) ?_
  refine gm_getS (G := GM) (u := u_5) (r := 1) (ci := 10) (k := 39) C hw rfl fl_X11_93 dX11_ride_21 rfl (q := 29) rfl ?_
  refine lv_iconst (v := 3) hx hb dX11_ride_24 (by decide) ?_
  refine gm_iald (G := GM) (u := u_5) (r := 29) (n := 22) (i := (3 : Int32)) C hw rfl (by decide) (j := 3) (by decide) dX11_ride_25 ?_
  refine lv_iload_n hx hb dX11_ride_26 rfl (lv_at hl 0 rfl) ?_
  refine lv_iconst (v := -1) hx hb dX11_ride_27 (by decide) ?_
  refine lv_ixor hx hb dX11_ride_28 ?_
  refine lv_iand hx hb dX11_ride_29 ?_
  exact gm_iret C E hw rfl ((congrArg (fun z => some (Value.int z)) (gm_sp hf).1).symm) (gm_sp hf).2.symm dX11_ride_30
/-! LeapCapitalModel.undo -/
def f_X11_undo  (u : gm_M) : Option (Int32 × gm_M) := gm_let (sI u 1 0 (0 : Int32)) fun u_1 => if (gI u_1 1 45) = 0 then some ((0 : Int32), u_1) else gm_let (sI u_1 1 45 ((gI u_1 1 45) - (1 : Int32))) fun u_2 => (f_X11_copies 33 352 ((22 : Int32) * (gI u_2 1 45)) 29 22 (0 : Int32) u_2).bind fun u_3 => some ((1 : Int32), u_3)
set_option maxRecDepth 100000 in
set_option maxHeartbeats 4000000 in
theorem ok_X11_undo (l : Launch) (Z : gm_Z)  (u : gm_M)  (r : Int32) (u' : gm_M) (hf : f_X11_undo u = some (r, u')) : gm_Met l GM Z yX11_undo cX11_undo 1 (some .boolean) ({ frames := 1, cells := 0, slots := 0, locals := 24 }) [rv Z 1] u (some (.int r)) u' := by
  unfold f_X11_undo at hf
  refine gm_ofW (by decide +kernel) (Nat.le_of_ble_eq_true rfl) ?_
  intro p e s m args below meth c A ls Q R hRf hRl C E hl hw
  obtain ⟨hx, hb, -⟩ := id C
  have hl : lv_has ls 1 [(0, rv Z 1)] := hl
  refine gm_aload_n (G := GM) (r := 1) C rfl dX11_undo_0 rfl (lv_at hl 0 rfl) ?_
  refine lv_iconst (v := 0) hx hb dX11_undo_1 (by decide) ?_
  refine gm_putI (G := GM) (u := u) (r := 1) (ci := 10) (k := 0) (v := (0 : Int32)) C hw rfl fl_X11_137 fp_10_0 dX11_undo_2 rfl (fun H locs hw => ?_)
  obtain ⟨u_1, e_u_1, hf⟩ := gm_le hf
  rw [← e_u_1] at hw
  refine gm_aload_n (G := GM) (r := 1) C rfl dX11_undo_5 rfl (lv_at hl 0 rfl) ?_
  refine gm_getI (G := GM) (u := u_1) (r := 1) (ci := 10) (k := 45) C hw rfl fl_X11_307 dX11_undo_6 rfl ?_
  refine lv_if_ne (tgt := 14) hx hb dX11_undo_9 (by decide) (fun hc => ?_) (fun hc => ?_)
  · replace hf := (if_neg hc).symm.trans hf
    refine gm_aload_n (G := GM) (r := 1) C rfl dX11_undo_14 rfl (lv_at hl 0 rfl) ?_
    refine lv_dup hx hb dX11_undo_15 (gm_cat _ _) ?_
    refine gm_getI (G := GM) (u := u_1) (r := 1) (ci := 10) (k := 45) C hw rfl fl_X11_307 dX11_undo_16 rfl ?_
    refine lv_iconst (v := 1) hx hb dX11_undo_19 (by decide) ?_
    refine lv_isub hx hb dX11_undo_20 ?_
    refine gm_putI (G := GM) (u := u_1) (r := 1) (ci := 10) (k := 45) (v := (gI u_1 1 45) - (1 : Int32)) C hw rfl fl_X11_307 fp_10_45 dX11_undo_21 rfl (fun H locs hw => ?_)
    obtain ⟨u_2, e_u_2, hf⟩ := gm_le hf
    rw [← e_u_2] at hw
    refine gm_aload_n (G := GM) (r := 1) C rfl dX11_undo_24 rfl (lv_at hl 0 rfl) ?_
    refine gm_getS (G := GM) (u := u_2) (r := 1) (ci := 10) (k := 43) C hw rfl fl_X11_105 dX11_undo_25 rfl (q := 33) rfl ?_
    refine lv_bipush (v := 22) hx hb dX11_undo_28 (by decide) ?_
    refine gm_aload_n (G := GM) (r := 1) C rfl dX11_undo_30 rfl (lv_at hl 0 rfl) ?_
    refine gm_getI (G := GM) (u := u_2) (r := 1) (ci := 10) (k := 45) C hw rfl fl_X11_307 dX11_undo_31 rfl ?_
    refine lv_imul hx hb dX11_undo_34 ?_
    refine gm_aload_n (G := GM) (r := 1) C rfl dX11_undo_35 rfl (lv_at hl 0 rfl) ?_
    refine gm_getS (G := GM) (u := u_2) (r := 1) (ci := 10) (k := 39) C hw rfl fl_X11_93 dX11_undo_36 rfl (q := 29) rfl ?_
    refine lv_iconst (v := 0) hx hb dX11_undo_39 (by decide) ?_
    obtain ⟨u_3, hc_4, hf⟩ := gm_bnd hf
    refine gm_callS (G := GM) (u := u_2) (u' := u_3) (As := [rv Z 33, .int ((22 : Int32) * (gI u_2 1 45)), rv Z 29, .int (0 : Int32)]) (rest := []) (res := none) C hw hl (ok_X11_copies l Z 33 352 ((22 : Int32) * (gI u_2 1 45)) 29 22 (0 : Int32) u_2 rfl rfl u_3 hc_4) cw_X11_376 st_X11_copies rfl rfl ⟨Nat.le_trans (Nat.le_of_ble_eq_true rfl) hRf, Nat.le_trans (Nat.le_of_ble_eq_true rfl) hRl⟩ rfl rfl (Nat.le_of_ble_eq_true rfl) dX11_undo_40 (fun H locs hw => ?_)
    refine lv_iconst (v := 1) hx hb dX11_undo_43 (by decide) ?_
    exact gm_zret C E hw rfl rfl ((congrArg (fun z => some (Value.int z)) (gm_sp hf).1).symm) (gm_sp hf).2.symm dX11_undo_44
  · replace hf := (if_pos hc).symm.trans hf
    refine lv_iconst (v := 0) hx hb dX11_undo_12 (by decide) ?_
    exact gm_zret C E hw rfl rfl ((congrArg (fun z => some (Value.int z)) (gm_sp hf).1).symm) (gm_sp hf).2.symm dX11_undo_13
/-! LeapCapitalModel.goes -/
def f_X11_goes (a1 : Int32) (u : gm_M) : Option (Int32 × gm_M) := if ib a1 240 = true then gm_let (gI u 25 (ix a1)) fun v2_2 => gm_let (gI u 24 (ix a1)) fun v3_3 => if v3_3 = 0 then (f_X11_canCome v2_2 u).bind fun r_16 => if r_16 = 0 then some ((0 : Int32), u) else (f_X11_comes v2_2 u).bind fun u_18 => some ((1 : Int32), u_18) else if v3_3 = (1 : Int32) then (f_X11_placeOf v2_2 u).bind fun r_12 => if 0 ≤ r_12 then (f_X11_leaves v2_2 u).bind fun u_14 => some ((1 : Int32), u_14) else some ((0 : Int32), u) else if v3_3 = (2 : Int32) then gm_let (if ((gI u 29 1) + v2_2) < (60 : Int32) then ((gI u 29 1) + v2_2) else (60 : Int32)) fun v_10 => gm_let (sI u 29 1 v_10) fun u_11 => some ((1 : Int32), u_11) else if v3_3 = (3 : Int32) then (f_X11_passes u).bind fun o => match o with | (r_6, u_7) => some ((1 : Int32), u_7) else (f_X11_rides u).bind fun u_4 => some ((1 : Int32), u_4) else none
set_option maxRecDepth 100000 in
set_option maxHeartbeats 4000000 in
theorem ok_X11_goes (l : Launch) (Z : gm_Z) (a1 : Int32) (u : gm_M)  (r : Int32) (u' : gm_M) (hf : f_X11_goes a1 u = some (r, u')) : gm_Met l GM Z yX11_goes cX11_goes 4 (some .boolean) ({ frames := 8, cells := 0, slots := 0, locals := 181 }) [rv Z 1, .int a1] u (some (.int r)) u' := by
  unfold f_X11_goes at hf
  refine gm_ofW (by decide +kernel) (Nat.le_of_ble_eq_true rfl) ?_
  intro p e s m args below meth c A ls Q R hRf hRl C E hl hw
  obtain ⟨hx, hb, -⟩ := id C
  have hl : lv_has ls 4 [(0, rv Z 1), (1, .int a1)] := hl
  refine gm_aload_n (G := GM) (r := 1) C rfl dX11_goes_0 rfl (lv_at hl 0 rfl) ?_
  refine gm_getS (G := GM) (u := u) (r := 1) (ci := 10) (k := 35) C hw rfl fl_X11_81 dX11_goes_1 rfl (q := 25) rfl ?_
  refine lv_iload_n hx hb dX11_goes_4 rfl (lv_at hl 1 rfl) ?_
  obtain ⟨g_1, hf⟩ := gm_grd hf
  refine gm_iald (G := GM) (u := u) (r := 25) (n := 240) (i := a1) C hw rfl g_1 rfl dX11_goes_5 ?_
  obtain ⟨v2_2, e_v2_2, hf⟩ := gm_le hf
  refine gm_topI e_v2_2 ?_
  refine lv_istore_n (i := 2) (lv' := [(2, .int v2_2), (0, rv Z 1), (1, .int a1)]) hx hb dX11_goes_6 rfl hl (by decide) rfl (fun ls hl => ?_)
  refine gm_aload_n (G := GM) (r := 1) C rfl dX11_goes_7 rfl (lv_at hl 1 rfl) ?_
  refine gm_getS (G := GM) (u := u) (r := 1) (ci := 10) (k := 34) C hw rfl fl_X11_78 dX11_goes_8 rfl (q := 24) rfl ?_
  refine lv_iload_n hx hb dX11_goes_11 rfl (lv_at hl 2 rfl) ?_
  refine gm_iald (G := GM) (u := u) (r := 24) (n := 240) (i := a1) C hw rfl g_1 rfl dX11_goes_12 ?_
  obtain ⟨v3_3, e_v3_3, hf⟩ := gm_le hf
  refine gm_topI e_v3_3 ?_
  refine lv_istore_n (i := 3) (lv' := [(3, .int v3_3), (2, .int v2_2), (0, rv Z 1), (1, .int a1)]) hx hb dX11_goes_13 rfl hl (by decide) rfl (fun ls hl => ?_)
  refine lv_iload_n hx hb dX11_goes_14 rfl (lv_at hl 0 rfl) ?_
  refine lv_if_ne (tgt := 36) hx hb dX11_goes_15 (by decide) (fun hc => ?_) (fun hc => ?_)
  · replace hf := (if_neg hc).symm.trans hf
    refine lv_iload_n hx hb dX11_goes_36 rfl (lv_at hl 0 rfl) ?_
    refine lv_iconst (v := 1) hx hb dX11_goes_37 (by decide) ?_
    refine lv_icmp_ne (tgt := 59) hx hb dX11_goes_38 (by decide) (fun hc => ?_) (fun hc => ?_)
    · replace hf := (if_neg hc).symm.trans hf
      refine lv_iload_n hx hb dX11_goes_59 rfl (lv_at hl 0 rfl) ?_
      refine lv_iconst (v := 2) hx hb dX11_goes_60 (by decide) ?_
      refine lv_icmp_ne (tgt := 86) hx hb dX11_goes_61 (by decide) (fun hc => ?_) (fun hc => ?_)
      · replace hf := (if_neg hc).symm.trans hf
        refine lv_iload_n hx hb dX11_goes_86 rfl (lv_at hl 0 rfl) ?_
        refine lv_iconst (v := 3) hx hb dX11_goes_87 (by decide) ?_
        refine lv_icmp_ne (tgt := 99) hx hb dX11_goes_88 (by decide) (fun hc => ?_) (fun hc => ?_)
        · replace hf := (if_neg hc).symm.trans hf
          refine gm_aload_n (G := GM) (r := 1) C rfl dX11_goes_99 rfl (lv_at hl 2 rfl) ?_
          obtain ⟨u_4, hc_5, hf⟩ := gm_bnd hf
          refine gm_callV (G := GM) (u := u) (u' := u_4) (r := 1) (ci := 10) (As := []) (rest := []) (res := none) C hw hl (ok_X11_rides l Z u u_4 hc_5) cw_X11_392 im_X11_rides rfl se_X11_rides rfl rfl rfl ⟨Nat.le_trans (Nat.le_of_ble_eq_true rfl) hRf, Nat.le_trans (Nat.le_of_ble_eq_true rfl) hRl⟩ rfl rfl (Nat.le_of_ble_eq_true rfl) dX11_goes_100 (fun H locs hw => ?_)
          refine lv_iconst (v := 1) hx hb dX11_goes_103 (by decide) ?_
          exact gm_zret C E hw rfl rfl ((congrArg (fun z => some (Value.int z)) (gm_sp hf).1).symm) (gm_sp hf).2.symm dX11_goes_104
        · replace hf := (if_pos hc).symm.trans hf
          refine gm_aload_n (G := GM) (r := 1) C rfl dX11_goes_91 rfl (lv_at hl 2 rfl) ?_
          obtain ⟨⟨r_6, u_7⟩, hc_8, hf⟩ := gm_bnd hf
          try dsimp only at hf
          refine gm_callV (G := GM) (u := u) (u' := u_7) (r := 1) (ci := 10) (As := []) (rest := []) (res := (some (.int r_6))) C hw hl (ok_X11_passes l Z u r_6 u_7 hc_8) cw_X11_370 im_X11_passes rfl se_X11_passes rfl rfl rfl ⟨Nat.le_trans (Nat.le_of_ble_eq_true rfl) hRf, Nat.le_trans (Nat.le_of_ble_eq_true rfl) hRl⟩ rfl rfl (Nat.le_of_ble_eq_true rfl) dX11_goes_92 (fun H locs hw => ?_)
          refine lv_pop hx hb dX11_goes_95 rfl ?_
          refine lv_goto (tgt := 103) hx hb dX11_goes_96 (by decide) ?_
          refine lv_iconst (v := 1) hx hb dX11_goes_103 (by decide) ?_
          exact gm_zret C E hw rfl rfl ((congrArg (fun z => some (Value.int z)) (gm_sp hf).1).symm) (gm_sp hf).2.symm dX11_goes_104
      · replace hf := (if_pos hc).symm.trans hf
        refine gm_aload_n (G := GM) (r := 1) C rfl dX11_goes_64 rfl (lv_at hl 2 rfl) ?_
        refine gm_getS (G := GM) (u := u) (r := 1) (ci := 10) (k := 39) C hw rfl fl_X11_93 dX11_goes_65 rfl (q := 29) rfl ?_
        refine lv_iconst (v := 1) hx hb dX11_goes_68 (by decide) ?_
        refine lv_bipush (v := 60) hx hb dX11_goes_69 (by decide) ?_
        refine gm_aload_n (G := GM) (r := 1) C rfl dX11_goes_71 rfl (lv_at hl 2 rfl) ?_
        refine gm_getS (G := GM) (u := u) (r := 1) (ci := 10) (k := 39) C hw rfl fl_X11_93 dX11_goes_72 rfl (q := 29) rfl ?_
        refine lv_iconst (v := 1) hx hb dX11_goes_75 (by decide) ?_
        refine gm_iald (G := GM) (u := u) (r := 29) (n := 22) (i := (1 : Int32)) C hw rfl (by decide) (j := 1) (by decide) dX11_goes_76 ?_
        refine lv_iload_n hx hb dX11_goes_77 rfl (lv_at hl 1 rfl) ?_
        refine lv_iadd hx hb dX11_goes_78 ?_
        refine gm_min C hl mw_X11_389 (Nat.le_trans (Nat.le_of_ble_eq_true rfl) hRf) (Nat.le_trans (Nat.le_of_ble_eq_true rfl) hRl) (Nat.le_of_ble_eq_true rfl) dX11_goes_79 ?_
        obtain ⟨v_10, e_v_10, hf⟩ := gm_le hf
        refine gm_topI e_v_10 ?_
        refine gm_iast (G := GM) (u := u) (r := 29) (n := 22) (i := (1 : Int32)) (x := v_10) C hw rfl (by decide) (j := 1) (by decide) dX11_goes_82 (fun H locs hw => ?_)
        obtain ⟨u_11, e_u_11, hf⟩ := gm_le hf
        rw [← e_u_11] at hw
        refine lv_goto (tgt := 103) hx hb dX11_goes_83 (by decide) ?_
        refine lv_iconst (v := 1) hx hb dX11_goes_103 (by decide) ?_
        exact gm_zret C E hw rfl rfl ((congrArg (fun z => some (Value.int z)) (gm_sp hf).1).symm) (gm_sp hf).2.symm dX11_goes_104
    · replace hf := (if_pos hc).symm.trans hf
      refine gm_aload_n (G := GM) (r := 1) C rfl dX11_goes_41 rfl (lv_at hl 2 rfl) ?_
      refine lv_iload_n hx hb dX11_goes_42 rfl (lv_at hl 1 rfl) ?_
      obtain ⟨r_12, hc_13, hf⟩ := gm_bnd hf
      refine gm_callV (G := GM) (u := u) (u' := u) (r := 1) (ci := 10) (As := [.int v2_2]) (rest := []) (res := (some (.int r_12))) C hw hl (ok_X11_placeOf l Z v2_2 u r_12 hc_13) cw_X11_324 im_X11_placeOf rfl se_X11_placeOf rfl rfl rfl ⟨Nat.le_trans (Nat.le_of_ble_eq_true rfl) hRf, Nat.le_trans (Nat.le_of_ble_eq_true rfl) hRl⟩ rfl rfl (Nat.le_of_ble_eq_true rfl) dX11_goes_43 (fun H locs hw => ?_)
      refine lv_if_ge (tgt := 51) hx hb dX11_goes_46 (by decide) (fun hc => ?_) (fun hc => ?_)
      · replace hf := (if_pos hc).symm.trans hf
        refine gm_aload_n (G := GM) (r := 1) C rfl dX11_goes_51 rfl (lv_at hl 2 rfl) ?_
        refine lv_iload_n hx hb dX11_goes_52 rfl (lv_at hl 1 rfl) ?_
        obtain ⟨u_14, hc_15, hf⟩ := gm_bnd hf
        refine gm_callV (G := GM) (u := u) (u' := u_14) (r := 1) (ci := 10) (As := [.int v2_2]) (rest := []) (res := none) C hw hl (ok_X11_leaves l Z v2_2 u u_14 hc_15) cw_X11_361 im_X11_leaves rfl se_X11_leaves rfl rfl rfl ⟨Nat.le_trans (Nat.le_of_ble_eq_true rfl) hRf, Nat.le_trans (Nat.le_of_ble_eq_true rfl) hRl⟩ rfl rfl (Nat.le_of_ble_eq_true rfl) dX11_goes_53 (fun H locs hw => ?_)
        refine lv_goto (tgt := 103) hx hb dX11_goes_56 (by decide) ?_
        refine lv_iconst (v := 1) hx hb dX11_goes_103 (by decide) ?_
        exact gm_zret C E hw rfl rfl ((congrArg (fun z => some (Value.int z)) (gm_sp hf).1).symm) (gm_sp hf).2.symm dX11_goes_104
      · replace hf := (if_neg hc).symm.trans hf
        refine lv_iconst (v := 0) hx hb dX11_goes_49 (by decide) ?_
        exact gm_zret C E hw rfl rfl ((congrArg (fun z => some (Value.int z)) (gm_sp hf).1).symm) (gm_sp hf).2.symm dX11_goes_50
  · replace hf := (if_pos hc).symm.trans hf
    refine gm_aload_n (G := GM) (r := 1) C rfl dX11_goes_18 rfl (lv_at hl 2 rfl) ?_
    refine lv_iload_n hx hb dX11_goes_19 rfl (lv_at hl 1 rfl) ?_
    obtain ⟨r_16, hc_17, hf⟩ := gm_bnd hf
    refine gm_callV (G := GM) (u := u) (u' := u) (r := 1) (ci := 10) (As := [.int v2_2]) (rest := []) (res := (some (.int r_16))) C hw hl (ok_X11_canCome l Z v2_2 u r_16 hc_17) cw_X11_380 im_X11_canCome rfl se_X11_canCome rfl rfl rfl ⟨Nat.le_trans (Nat.le_of_ble_eq_true rfl) hRf, Nat.le_trans (Nat.le_of_ble_eq_true rfl) hRl⟩ rfl rfl (Nat.le_of_ble_eq_true rfl) dX11_goes_20 (fun H locs hw => ?_)
    refine lv_if_ne (tgt := 28) hx hb dX11_goes_23 (by decide) (fun hc => ?_) (fun hc => ?_)
    · replace hf := (if_neg hc).symm.trans hf
      refine gm_aload_n (G := GM) (r := 1) C rfl dX11_goes_28 rfl (lv_at hl 2 rfl) ?_
      refine lv_iload_n hx hb dX11_goes_29 rfl (lv_at hl 1 rfl) ?_
      obtain ⟨u_18, hc_19, hf⟩ := gm_bnd hf
      refine gm_callV (G := GM) (u := u) (u' := u_18) (r := 1) (ci := 10) (As := [.int v2_2]) (rest := []) (res := none) C hw hl (ok_X11_comes l Z v2_2 u u_18 hc_19) cw_X11_386 im_X11_comes rfl se_X11_comes rfl rfl rfl ⟨Nat.le_trans (Nat.le_of_ble_eq_true rfl) hRf, Nat.le_trans (Nat.le_of_ble_eq_true rfl) hRl⟩ rfl rfl (Nat.le_of_ble_eq_true rfl) dX11_goes_30 (fun H locs hw => ?_)
      refine lv_goto (tgt := 103) hx hb dX11_goes_33 (by decide) ?_
      refine lv_iconst (v := 1) hx hb dX11_goes_103 (by decide) ?_
      exact gm_zret C E hw rfl rfl ((congrArg (fun z => some (Value.int z)) (gm_sp hf).1).symm) (gm_sp hf).2.symm dX11_goes_104
    · replace hf := (if_pos hc).symm.trans hf
      refine lv_iconst (v := 0) hx hb dX11_goes_26 (by decide) ?_
      exact gm_zret C E hw rfl rfl ((congrArg (fun z => some (Value.int z)) (gm_sp hf).1).symm) (gm_sp hf).2.symm dX11_goes_27
/-! LeapCapitalModel.judged -/
def j_X11_judged_86 (a1 : Int32) (v2_13 : Int32) (v3_14 : Int32) (v4_15 : Int32) (v5_16 : Int32) (u_12 : gm_M) : Option ((Int32 × Int32 × Int32 × gm_M) ⊕ ((Int32 × Int32 × gm_M))) := if (gI u_12 29 3) = v5_16 then some (.inl (v2_13, v3_14, v4_15 + (1 : Int32), u_12)) else if 0 ≤ v3_14 then some (.inl (v2_13, v3_14, v4_15 + (1 : Int32), u_12)) else some (.inl (v2_13, v4_15, v4_15 + (1 : Int32), u_12))
def b_X11_judged_51 (a1 : Int32) : (Int32 × Int32 × Int32 × gm_M) → Option ((Int32 × Int32 × Int32 × gm_M) ⊕ ((Int32 × Int32 × gm_M))) := fun x => match x with | (v2_9, v3_10, v4_11, u_8) => if (gI u_8 23 0) ≤ v4_11 then some (.inr (v2_9, v3_10, u_8)) else gm_let (gI u_8 29 3) fun v5_17 => (f_X11_goes v4_11 u_8).bind fun o => match o with | (r_18, u_19) => if r_18 = 0 then if 0 ≤ v2_9 then j_X11_judged_86 a1 v2_9 v3_10 v4_11 v5_17 u_19 else j_X11_judged_86 a1 v4_11 v3_10 v4_11 v5_17 u_19 else j_X11_judged_86 a1 v2_9 v3_10 v4_11 v5_17 u_19
def f_X11_judged (a1 : Int32) (u : gm_M) : Option (Int32 × gm_M) := gm_let (sI u 1 0 (0 : Int32)) fun u_1 => gm_let (f_X11_within a1 (0 : Int32) (2 : Int32)) fun r_2 => if r_2 = 0 then some ((-2 : Int32), u_1) else (f_X11_copies 29 22 (0 : Int32) 30 22 (0 : Int32) u_1).bind fun u_3 => (f_X11_fresh0 u_3).bind fun u_5 => gm_let (sI u_5 1 49 (gI u_5 3 2)) fun u_7 => ((gm_lp (b_X11_judged_51 a1) gm_FU ((-1 : Int32), (-1 : Int32), (0 : Int32), u_7)).bind fun o => match o with | (w2_22, w3_23, u_24) => (f_X11_bits (gI u_24 29 3)).bind fun r_25 => (f_X11_copies 30 22 (0 : Int32) 29 22 (0 : Int32) u_24).bind fun u_27 => if a1 = 0 then some (w2_22, u_27) else if a1 = (1 : Int32) then some (w3_23, u_27) else some (r_25, u_27))
set_option maxRecDepth 100000 in
set_option maxHeartbeats 4000000 in
theorem ok_X11_judged (l : Launch) (Z : gm_Z) (a1 : Int32) (u : gm_M)  (r : Int32) (u' : gm_M) (hf : f_X11_judged a1 u = some (r, u')) : gm_Met l GM Z yX11_judged cX11_judged 6 (some .int) ({ frames := 9, cells := 0, slots := 0, locals := 204 }) [rv Z 1, .int a1] u (some (.int r)) u' := by
  unfold f_X11_judged at hf
  refine gm_ofW (by decide +kernel) (Nat.le_of_ble_eq_true rfl) ?_
  intro p e s m args below meth c A ls Q R hRf hRl C E hl hw
  obtain ⟨hx, hb, -⟩ := id C
  have hl : lv_has ls 6 [(0, rv Z 1), (1, .int a1)] := hl
  refine gm_aload_n (G := GM) (r := 1) C rfl dX11_judged_0 rfl (lv_at hl 0 rfl) ?_
  refine lv_iconst (v := 0) hx hb dX11_judged_1 (by decide) ?_
  refine gm_putI (G := GM) (u := u) (r := 1) (ci := 10) (k := 0) (v := (0 : Int32)) C hw rfl fl_X11_137 fp_10_0 dX11_judged_2 rfl (fun H locs hw => ?_)
  obtain ⟨u_1, e_u_1, hf⟩ := gm_le hf
  rw [← e_u_1] at hw
  refine lv_iload_n hx hb dX11_judged_5 rfl (lv_at hl 1 rfl) ?_
  refine lv_iconst (v := 0) hx hb dX11_judged_6 (by decide) ?_
  refine lv_iconst (v := 2) hx hb dX11_judged_7 (by decide) ?_
  obtain ⟨r_2, e_r_2, hf⟩ := gm_le hf
  refine gm_callS (G := GM) (u := u_1) (u' := u_1) (As := [.int a1, .int (0 : Int32), .int (2 : Int32)]) (rest := []) (res := (some (.int (f_X11_within a1 (0 : Int32) (2 : Int32))))) C hw hl (ok_X11_within l Z a1 (0 : Int32) (2 : Int32) u_1) cw_X11_254 st_X11_within rfl rfl ⟨Nat.le_trans (Nat.le_of_ble_eq_true rfl) hRf, Nat.le_trans (Nat.le_of_ble_eq_true rfl) hRl⟩ rfl rfl (Nat.le_of_ble_eq_true rfl) dX11_judged_8 (fun H locs hw => ?_)
  refine gm_topI e_r_2 ?_
  refine lv_if_ne (tgt := 17) hx hb dX11_judged_11 (by decide) (fun hc => ?_) (fun hc => ?_)
  · replace hf := (if_neg hc).symm.trans hf
    refine gm_aload_n (G := GM) (r := 1) C rfl dX11_judged_17 rfl (lv_at hl 0 rfl) ?_
    refine gm_getS (G := GM) (u := u_1) (r := 1) (ci := 10) (k := 39) C hw rfl fl_X11_93 dX11_judged_18 rfl (q := 29) rfl ?_
    refine lv_iconst (v := 0) hx hb dX11_judged_21 (by decide) ?_
    refine gm_aload_n (G := GM) (r := 1) C rfl dX11_judged_22 rfl (lv_at hl 0 rfl) ?_
    refine gm_getS (G := GM) (u := u_1) (r := 1) (ci := 10) (k := 40) C hw rfl fl_X11_96 dX11_judged_23 rfl (q := 30) rfl ?_
    refine lv_iconst (v := 0) hx hb dX11_judged_26 (by decide) ?_
    obtain ⟨u_3, hc_4, hf⟩ := gm_bnd hf
    refine gm_callS (G := GM) (u := u_1) (u' := u_3) (As := [rv Z 29, .int (0 : Int32), rv Z 30, .int (0 : Int32)]) (rest := []) (res := none) C hw hl (ok_X11_copies l Z 29 22 (0 : Int32) 30 22 (0 : Int32) u_1 rfl rfl u_3 hc_4) cw_X11_376 st_X11_copies rfl rfl ⟨Nat.le_trans (Nat.le_of_ble_eq_true rfl) hRf, Nat.le_trans (Nat.le_of_ble_eq_true rfl) hRl⟩ rfl rfl (Nat.le_of_ble_eq_true rfl) dX11_judged_27 (fun H locs hw => ?_)
    refine gm_aload_n (G := GM) (r := 1) C rfl dX11_judged_30 rfl (lv_at hl 0 rfl) ?_
    obtain ⟨u_5, hc_6, hf⟩ := gm_bnd hf
    refine gm_callV (G := GM) (u := u_3) (u' := u_5) (r := 1) (ci := 10) (As := []) (rest := []) (res := none) C hw hl (ok_X11_fresh0 l Z u_3 u_5 hc_6) cw_X11_134 im_X11_fresh0 rfl se_X11_fresh0 rfl rfl rfl ⟨Nat.le_trans (Nat.le_of_ble_eq_true rfl) hRf, Nat.le_trans (Nat.le_of_ble_eq_true rfl) hRl⟩ rfl rfl (Nat.le_of_ble_eq_true rfl) dX11_judged_31 (fun H locs hw => ?_)
    refine gm_aload_n (G := GM) (r := 1) C rfl dX11_judged_34 rfl (lv_at hl 0 rfl) ?_
    refine gm_aload_n (G := GM) (r := 1) C rfl dX11_judged_35 rfl (lv_at hl 0 rfl) ?_
    refine gm_getS (G := GM) (u := u_5) (r := 1) (ci := 10) (k := 10) C hw rfl fl_X11_13 dX11_judged_36 rfl (q := 3) rfl ?_
    refine lv_iconst (v := 2) hx hb dX11_judged_39 (by decide) ?_
    refine gm_iald (G := GM) (u := u_5) (r := 3) (n := 8) (i := (2 : Int32)) C hw rfl (by decide) (j := 2) (by decide) dX11_judged_40 ?_
    refine gm_putI (G := GM) (u := u_5) (r := 1) (ci := 10) (k := 49) (v := gI u_5 3 2) C hw rfl fl_X11_117 fp_10_49 dX11_judged_41 rfl (fun H locs hw => ?_)
    obtain ⟨u_7, e_u_7, hf⟩ := gm_le hf
    rw [← e_u_7] at hw
    refine lv_iconst (v := -1) hx hb dX11_judged_44 (by decide) ?_
    refine lv_istore_n (i := 2) (lv' := [(2, .int (-1 : Int32)), (0, rv Z 1), (1, .int a1)]) hx hb dX11_judged_45 rfl hl (by decide) rfl (fun ls hl => ?_)
    refine lv_iconst (v := -1) hx hb dX11_judged_46 (by decide) ?_
    refine lv_istore_n (i := 3) (lv' := [(3, .int (-1 : Int32)), (2, .int (-1 : Int32)), (0, rv Z 1), (1, .int a1)]) hx hb dX11_judged_47 rfl hl (by decide) rfl (fun ls hl => ?_)
    refine lv_iconst (v := 0) hx hb dX11_judged_48 (by decide) ?_
    refine lv_istore (i := 4) (lv' := [(4, .int (0 : Int32)), (3, .int (-1 : Int32)), (2, .int (-1 : Int32)), (0, rv Z 1), (1, .int a1)]) hx hb dX11_judged_49 hl (by decide) rfl (fun ls hl => ?_)
    obtain ⟨o1, hlp, hf⟩ := gm_bnd hf
    have L51_1 := gm_loop (b_X11_judged_51 a1) (fun x : (Int32 × Int32 × Int32 × gm_M) => ∀ (H : Heap) (locs : List Loc) (ls : Array Slot), lv_has ls 6 [(0, rv Z 1), (1, .int a1), (2, .int x.1), (3, .int x.2.1), (4, .int x.2.2.1)] → wd GM Z x.2.2.2 A s.heap H locs → W p l e R s m args below meth c H locs 0 0 Q (F0 m 51 ls [])) (fun z : ((Int32 × Int32 × gm_M)) => ∀ (H : Heap) (locs : List Loc) (ls : Array Slot), lv_has ls 6 [(0, rv Z 1), (1, .int a1), (2, .int z.1), (3, .int z.2.1)] → wd GM Z z.2.2 A s.heap H locs → W p l e R s m args below meth c H locs 0 0 Q (F0 m 110 ls [])) (by
      intro x o1 hf Kc Kx
      obtain ⟨v2_9, v3_10, v4_11, u_8⟩ := x
      intro H locs ls hl hw
      unfold b_X11_judged_51 at hf
      try dsimp only at hf
      have J86 : ∀ (v2_13 : Int32) (v3_14 : Int32) (v4_15 : Int32) (v5_16 : Int32) (u_12 : gm_M) (H : Heap) (locs : List Loc) (ls : Array Slot), j_X11_judged_86 a1 v2_13 v3_14 v4_15 v5_16 u_12 = some o1 → lv_has ls 6 [(0, rv Z 1), (1, .int a1), (2, .int v2_13), (3, .int v3_14), (4, .int v4_15), (5, .int v5_16)] → wd GM Z u_12 A s.heap H locs → W p l e R s m args below meth c H locs 0 0 Q (F0 m 86 ls []) := by
        intro v2_13 v3_14 v4_15 v5_16 u_12 H locs ls hf  hl hw
        unfold j_X11_judged_86 at hf
        refine gm_aload_n (G := GM) (r := 1) C rfl dX11_judged_86 rfl (lv_at hl 0 rfl) ?_
        refine gm_getS (G := GM) (u := u_12) (r := 1) (ci := 10) (k := 39) C hw rfl fl_X11_93 dX11_judged_87 rfl (q := 29) rfl ?_
        refine lv_iconst (v := 3) hx hb dX11_judged_90 (by decide) ?_
        refine gm_iald (G := GM) (u := u_12) (r := 29) (n := 22) (i := (3 : Int32)) C hw rfl (by decide) (j := 3) (by decide) dX11_judged_91 ?_
        refine lv_iload hx hb dX11_judged_92 (lv_at hl 5 rfl) ?_
        refine lv_icmp_eq (tgt := 104) hx hb dX11_judged_94 (by decide) (fun hc => ?_) (fun hc => ?_)
        · replace hf := (if_pos hc).symm.trans hf
          refine lv_iinc (v := v4_15 + (1 : Int32)) (lv' := [(4, .int (v4_15 + (1 : Int32))), (0, rv Z 1), (1, .int a1), (2, .int v2_13), (3, .int v3_14), (5, .int v5_16)]) hx hb dX11_judged_104 hl (k := 4) rfl rfl (by decide) rfl (fun ls hl => ?_)
          refine lv_goto (tgt := 51) hx hb dX11_judged_107 (by decide) ?_
          exact Kc _ (gm_si hf) _ _ _ (lv_sub hl [1, 2, 3, 4, 0] rfl) hw
        · replace hf := (if_neg hc).symm.trans hf
          refine lv_iload_n hx hb dX11_judged_97 rfl (lv_at hl 3 rfl) ?_
          refine lv_if_ge (tgt := 104) hx hb dX11_judged_98 (by decide) (fun hc => ?_) (fun hc => ?_)
          · replace hf := (if_pos hc).symm.trans hf
            refine lv_iinc (v := v4_15 + (1 : Int32)) (lv' := [(4, .int (v4_15 + (1 : Int32))), (0, rv Z 1), (1, .int a1), (2, .int v2_13), (3, .int v3_14), (5, .int v5_16)]) hx hb dX11_judged_104 hl (k := 4) rfl rfl (by decide) rfl (fun ls hl => ?_)
            refine lv_goto (tgt := 51) hx hb dX11_judged_107 (by decide) ?_
            exact Kc _ (gm_si hf) _ _ _ (lv_sub hl [1, 2, 3, 4, 0] rfl) hw
          · replace hf := (if_neg hc).symm.trans hf
            refine lv_iload hx hb dX11_judged_101 (lv_at hl 4 rfl) ?_
            refine lv_istore_n (i := 3) (lv' := [(3, .int v4_15), (0, rv Z 1), (1, .int a1), (2, .int v2_13), (4, .int v4_15), (5, .int v5_16)]) hx hb dX11_judged_103 rfl hl (by decide) rfl (fun ls hl => ?_)
            refine lv_iinc (v := v4_15 + (1 : Int32)) (lv' := [(4, .int (v4_15 + (1 : Int32))), (3, .int v4_15), (0, rv Z 1), (1, .int a1), (2, .int v2_13), (5, .int v5_16)]) hx hb dX11_judged_104 hl (k := 4) rfl rfl (by decide) rfl (fun ls hl => ?_)
            refine lv_goto (tgt := 51) hx hb dX11_judged_107 (by decide) ?_
            exact Kc _ (gm_si hf) _ _ _ (lv_sub hl [2, 3, 4, 1, 0] rfl) hw
      refine lv_iload hx hb dX11_judged_51 (lv_at hl 4 rfl) ?_
      refine gm_aload_n (G := GM) (r := 1) C rfl dX11_judged_53 rfl (lv_at hl 0 rfl) ?_
      refine gm_getS (G := GM) (u := u_8) (r := 1) (ci := 10) (k := 33) C hw rfl fl_X11_75 dX11_judged_54 rfl (q := 23) rfl ?_
      refine lv_iconst (v := 0) hx hb dX11_judged_57 (by decide) ?_
      refine gm_iald (G := GM) (u := u_8) (r := 23) (n := 6) (i := (0 : Int32)) C hw rfl (by decide) (j := 0) (by decide) dX11_judged_58 ?_
      refine lv_icmp_ge (tgt := 110) hx hb dX11_judged_59 (by decide) (fun hc => ?_) (fun hc => ?_)
      · replace hf := (if_pos hc).symm.trans hf
        exact Kx _ (gm_si hf) _ _ _ (lv_sub hl [0, 1, 2, 3] rfl) hw
      · replace hf := (if_neg hc).symm.trans hf
        refine gm_aload_n (G := GM) (r := 1) C rfl dX11_judged_62 rfl (lv_at hl 0 rfl) ?_
        refine gm_getS (G := GM) (u := u_8) (r := 1) (ci := 10) (k := 39) C hw rfl fl_X11_93 dX11_judged_63 rfl (q := 29) rfl ?_
        refine lv_iconst (v := 3) hx hb dX11_judged_66 (by decide) ?_
        refine gm_iald (G := GM) (u := u_8) (r := 29) (n := 22) (i := (3 : Int32)) C hw rfl (by decide) (j := 3) (by decide) dX11_judged_67 ?_
        obtain ⟨v5_17, e_v5_17, hf⟩ := gm_le hf
        refine gm_topI e_v5_17 ?_
        refine lv_istore (i := 5) (lv' := [(5, .int v5_17), (0, rv Z 1), (1, .int a1), (2, .int v2_9), (3, .int v3_10), (4, .int v4_11)]) hx hb dX11_judged_68 hl (by decide) rfl (fun ls hl => ?_)
        refine gm_aload_n (G := GM) (r := 1) C rfl dX11_judged_70 rfl (lv_at hl 1 rfl) ?_
        refine lv_iload hx hb dX11_judged_71 (lv_at hl 5 rfl) ?_
        obtain ⟨⟨r_18, u_19⟩, hc_20, hf⟩ := gm_bnd hf
        try dsimp only at hf
        refine gm_callV (G := GM) (u := u_8) (u' := u_19) (r := 1) (ci := 10) (As := [.int v4_11]) (rest := []) (res := (some (.int r_18))) C hw hl (ok_X11_goes l Z v4_11 u_8 r_18 u_19 hc_20) cw_X11_395 im_X11_goes rfl se_X11_goes rfl rfl rfl ⟨Nat.le_trans (Nat.le_of_ble_eq_true rfl) hRf, Nat.le_trans (Nat.le_of_ble_eq_true rfl) hRl⟩ rfl rfl (Nat.le_of_ble_eq_true rfl) dX11_judged_73 (fun H locs hw => ?_)
        refine lv_if_ne (tgt := 86) hx hb dX11_judged_76 (by decide) (fun hc => ?_) (fun hc => ?_)
        · replace hf := (if_neg hc).symm.trans hf
          exact J86 v2_9 v3_10 v4_11 v5_17 u_19 _ _ _ hf  (lv_sub hl [1, 2, 3, 4, 5, 0] rfl) hw
        · replace hf := (if_pos hc).symm.trans hf
          refine lv_iload_n hx hb dX11_judged_79 rfl (lv_at hl 3 rfl) ?_
          refine lv_if_ge (tgt := 86) hx hb dX11_judged_80 (by decide) (fun hc => ?_) (fun hc => ?_)
          · replace hf := (if_pos hc).symm.trans hf
            exact J86 v2_9 v3_10 v4_11 v5_17 u_19 _ _ _ hf  (lv_sub hl [1, 2, 3, 4, 5, 0] rfl) hw
          · replace hf := (if_neg hc).symm.trans hf
            refine lv_iload hx hb dX11_judged_83 (lv_at hl 5 rfl) ?_
            refine lv_istore_n (i := 2) (lv' := [(2, .int v4_11), (5, .int v5_17), (0, rv Z 1), (1, .int a1), (3, .int v3_10), (4, .int v4_11)]) hx hb dX11_judged_85 rfl hl (by decide) rfl (fun ls hl => ?_)
            exact J86 v4_11 v3_10 v4_11 v5_17 u_19 _ _ _ hf  (lv_sub hl [2, 3, 0, 4, 5, 1] rfl) hw)
    refine L51_1 _ _ _ hlp ?_ _ _ _ (lv_sub hl [3, 4, 2, 1, 0] rfl) hw
    obtain ⟨w2_22, w3_23, u_24⟩ := o1
    intro H locs ls hl hw
    try dsimp only at hf
    refine gm_aload_n (G := GM) (r := 1) C rfl dX11_judged_110 rfl (lv_at hl 0 rfl) ?_
    refine gm_getS (G := GM) (u := u_24) (r := 1) (ci := 10) (k := 39) C hw rfl fl_X11_93 dX11_judged_111 rfl (q := 29) rfl ?_
    refine lv_iconst (v := 3) hx hb dX11_judged_114 (by decide) ?_
    refine gm_iald (G := GM) (u := u_24) (r := 29) (n := 22) (i := (3 : Int32)) C hw rfl (by decide) (j := 3) (by decide) dX11_judged_115 ?_
    obtain ⟨r_25, hc_26, hf⟩ := gm_bnd hf
    refine gm_callS (G := GM) (u := u_24) (u' := u_24) (As := [.int (gI u_24 29 3)]) (rest := []) (res := (some (.int r_25))) C hw hl (ok_X11_bits l Z (gI u_24 29 3) u_24 r_25 hc_26) cw_X11_398 st_X11_bits rfl rfl ⟨Nat.le_trans (Nat.le_of_ble_eq_true rfl) hRf, Nat.le_trans (Nat.le_of_ble_eq_true rfl) hRl⟩ rfl rfl (Nat.le_of_ble_eq_true rfl) dX11_judged_116 (fun H locs hw => ?_)
    refine lv_istore (i := 4) (lv' := [(4, .int r_25), (0, rv Z 1), (1, .int a1), (2, .int w2_22), (3, .int w3_23)]) hx hb dX11_judged_119 hl (by decide) rfl (fun ls hl => ?_)
    refine gm_aload_n (G := GM) (r := 1) C rfl dX11_judged_121 rfl (lv_at hl 1 rfl) ?_
    refine gm_getS (G := GM) (u := u_24) (r := 1) (ci := 10) (k := 40) C hw rfl fl_X11_96 dX11_judged_122 rfl (q := 30) rfl ?_
    refine lv_iconst (v := 0) hx hb dX11_judged_125 (by decide) ?_
    refine gm_aload_n (G := GM) (r := 1) C rfl dX11_judged_126 rfl (lv_at hl 1 rfl) ?_
    refine gm_getS (G := GM) (u := u_24) (r := 1) (ci := 10) (k := 39) C hw rfl fl_X11_93 dX11_judged_127 rfl (q := 29) rfl ?_
    refine lv_iconst (v := 0) hx hb dX11_judged_130 (by decide) ?_
    obtain ⟨u_27, hc_28, hf⟩ := gm_bnd hf
    refine gm_callS (G := GM) (u := u_24) (u' := u_27) (As := [rv Z 30, .int (0 : Int32), rv Z 29, .int (0 : Int32)]) (rest := []) (res := none) C hw hl (ok_X11_copies l Z 30 22 (0 : Int32) 29 22 (0 : Int32) u_24 rfl rfl u_27 hc_28) cw_X11_376 st_X11_copies rfl rfl ⟨Nat.le_trans (Nat.le_of_ble_eq_true rfl) hRf, Nat.le_trans (Nat.le_of_ble_eq_true rfl) hRl⟩ rfl rfl (Nat.le_of_ble_eq_true rfl) dX11_judged_131 (fun H locs hw => ?_)
    refine lv_iload_n hx hb dX11_judged_134 rfl (lv_at hl 2 rfl) ?_
    refine lv_if_ne (tgt := 142) hx hb dX11_judged_135 (by decide) (fun hc => ?_) (fun hc => ?_)
    · replace hf := (if_neg hc).symm.trans hf
      refine lv_iload_n hx hb dX11_judged_142 rfl (lv_at hl 2 rfl) ?_
      refine lv_iconst (v := 1) hx hb dX11_judged_143 (by decide) ?_
      refine lv_icmp_ne (tgt := 151) hx hb dX11_judged_144 (by decide) (fun hc => ?_) (fun hc => ?_)
      · replace hf := (if_neg hc).symm.trans hf
        refine lv_iload hx hb dX11_judged_151 (lv_at hl 0 rfl) ?_
        exact gm_iret C E hw rfl ((congrArg (fun z => some (Value.int z)) (gm_sp hf).1).symm) (gm_sp hf).2.symm dX11_judged_153
      · replace hf := (if_pos hc).symm.trans hf
        refine lv_iload_n hx hb dX11_judged_147 rfl (lv_at hl 4 rfl) ?_
        refine lv_goto (tgt := 153) hx hb dX11_judged_148 (by decide) ?_
        exact gm_iret C E hw rfl ((congrArg (fun z => some (Value.int z)) (gm_sp hf).1).symm) (gm_sp hf).2.symm dX11_judged_153
    · replace hf := (if_pos hc).symm.trans hf
      refine lv_iload_n hx hb dX11_judged_138 rfl (lv_at hl 3 rfl) ?_
      refine lv_goto (tgt := 153) hx hb dX11_judged_139 (by decide) ?_
      exact gm_iret C E hw rfl ((congrArg (fun z => some (Value.int z)) (gm_sp hf).1).symm) (gm_sp hf).2.symm dX11_judged_153
  · replace hf := (if_pos hc).symm.trans hf
    refine lv_bipush (v := -2) hx hb dX11_judged_14 (by decide) ?_
    exact gm_iret C E hw rfl ((congrArg (fun z => some (Value.int z)) (gm_sp hf).1).symm) (gm_sp hf).2.symm dX11_judged_16
/-! LeapCapitalModel.leap -/
def f_X11_leap (a1 : Int32) (u : gm_M) : Option (Int32 × gm_M) := gm_let (sI u 1 0 (0 : Int32)) fun u_1 => gm_let (f_X11_within a1 (1 : Int32) (4000 : Int32)) fun r_2 => if r_2 = 0 then some ((-1 : Int32), u_1) else gm_let (f_X11_isLeap a1) fun r_3 => if r_3 = 0 then some ((0 : Int32), u_1) else some ((1 : Int32), u_1)
set_option maxRecDepth 100000 in
set_option maxHeartbeats 4000000 in
theorem ok_X11_leap (l : Launch) (Z : gm_Z) (a1 : Int32) (u : gm_M)  (r : Int32) (u' : gm_M) (hf : f_X11_leap a1 u = some (r, u')) : gm_Met l GM Z yX11_leap cX11_leap 2 (some .int) ({ frames := 1, cells := 0, slots := 0, locals := 22 }) [rv Z 1, .int a1] u (some (.int r)) u' := by
  unfold f_X11_leap at hf
  refine gm_ofW (by decide +kernel) (Nat.le_of_ble_eq_true rfl) ?_
  intro p e s m args below meth c A ls Q R hRf hRl C E hl hw
  obtain ⟨hx, hb, -⟩ := id C
  have hl : lv_has ls 2 [(0, rv Z 1), (1, .int a1)] := hl
  refine gm_aload_n (G := GM) (r := 1) C rfl dX11_leap_0 rfl (lv_at hl 0 rfl) ?_
  refine lv_iconst (v := 0) hx hb dX11_leap_1 (by decide) ?_
  refine gm_putI (G := GM) (u := u) (r := 1) (ci := 10) (k := 0) (v := (0 : Int32)) C hw rfl fl_X11_137 fp_10_0 dX11_leap_2 rfl (fun H locs hw => ?_)
  obtain ⟨u_1, e_u_1, hf⟩ := gm_le hf
  rw [← e_u_1] at hw
  refine lv_iload_n hx hb dX11_leap_5 rfl (lv_at hl 1 rfl) ?_
  refine lv_iconst (v := 1) hx hb dX11_leap_6 (by decide) ?_
  refine lv_sipush (v := 4000) hx hb dX11_leap_7 (by decide) ?_
  obtain ⟨r_2, e_r_2, hf⟩ := gm_le hf
  refine gm_callS (G := GM) (u := u_1) (u' := u_1) (As := [.int a1, .int (1 : Int32), .int (4000 : Int32)]) (rest := []) (res := (some (.int (f_X11_within a1 (1 : Int32) (4000 : Int32))))) C hw hl (ok_X11_within l Z a1 (1 : Int32) (4000 : Int32) u_1) cw_X11_254 st_X11_within rfl rfl ⟨Nat.le_trans (Nat.le_of_ble_eq_true rfl) hRf, Nat.le_trans (Nat.le_of_ble_eq_true rfl) hRl⟩ rfl rfl (Nat.le_of_ble_eq_true rfl) dX11_leap_10 (fun H locs hw => ?_)
  refine gm_topI e_r_2 ?_
  refine lv_if_ne (tgt := 20) hx hb dX11_leap_13 (by decide) (fun hc => ?_) (fun hc => ?_)
  · replace hf := (if_neg hc).symm.trans hf
    refine lv_iload_n hx hb dX11_leap_20 rfl (lv_at hl 1 rfl) ?_
    obtain ⟨r_3, e_r_3, hf⟩ := gm_le hf
    refine gm_callS (G := GM) (u := u_1) (u' := u_1) (As := [.int a1]) (rest := []) (res := (some (.int (f_X11_isLeap a1)))) C hw hl (ok_X11_isLeap l Z a1 u_1) cw_X11_321 st_X11_isLeap rfl rfl ⟨Nat.le_trans (Nat.le_of_ble_eq_true rfl) hRf, Nat.le_trans (Nat.le_of_ble_eq_true rfl) hRl⟩ rfl rfl (Nat.le_of_ble_eq_true rfl) dX11_leap_21 (fun H locs hw => ?_)
    refine gm_topI e_r_3 ?_
    refine lv_if_eq (tgt := 31) hx hb dX11_leap_24 (by decide) (fun hc => ?_) (fun hc => ?_)
    · replace hf := (if_pos hc).symm.trans hf
      refine lv_iconst (v := 0) hx hb dX11_leap_31 (by decide) ?_
      exact gm_iret C E hw rfl ((congrArg (fun z => some (Value.int z)) (gm_sp hf).1).symm) (gm_sp hf).2.symm dX11_leap_32
    · replace hf := (if_neg hc).symm.trans hf
      refine lv_iconst (v := 1) hx hb dX11_leap_27 (by decide) ?_
      refine lv_goto (tgt := 32) hx hb dX11_leap_28 (by decide) ?_
      exact gm_iret C E hw rfl ((congrArg (fun z => some (Value.int z)) (gm_sp hf).1).symm) (gm_sp hf).2.symm dX11_leap_32
  · replace hf := (if_pos hc).symm.trans hf
    refine lv_iconst (v := -1) hx hb dX11_leap_16 (by decide) ?_
    refine lv_goto (tgt := 32) hx hb dX11_leap_17 (by decide) ?_
    exact gm_iret C E hw rfl ((congrArg (fun z => some (Value.int z)) (gm_sp hf).1).symm) (gm_sp hf).2.symm dX11_leap_32
/-! LeapCapitalModel.between -/
def f_X11_between (a1 : Int32) (a2 : Int32) (u : gm_M) : Option (Int32 × gm_M) := gm_let (sI u 1 0 (0 : Int32)) fun u_1 => gm_let (f_X11_within a1 (1 : Int32) (4000 : Int32)) fun r_2 => if r_2 = 0 then some ((-1 : Int32), u_1) else gm_let (f_X11_within a2 a1 (4000 : Int32)) fun r_3 => if r_3 = 0 then some ((-1 : Int32), u_1) else gm_let (f_X11_leapsUpTo a2) fun r_4 => gm_let (f_X11_leapsUpTo a1) fun r_5 => some (r_4 - r_5, u_1)
set_option maxRecDepth 100000 in
set_option maxHeartbeats 4000000 in
theorem ok_X11_between (l : Launch) (Z : gm_Z) (a1 : Int32) (a2 : Int32) (u : gm_M)  (r : Int32) (u' : gm_M) (hf : f_X11_between a1 a2 u = some (r, u')) : gm_Met l GM Z yX11_between cX11_between 3 (some .int) ({ frames := 1, cells := 0, slots := 0, locals := 22 }) [rv Z 1, .int a1, .int a2] u (some (.int r)) u' := by
  unfold f_X11_between at hf
  refine gm_ofW (by decide +kernel) (Nat.le_of_ble_eq_true rfl) ?_
  intro p e s m args below meth c A ls Q R hRf hRl C E hl hw
  obtain ⟨hx, hb, -⟩ := id C
  have hl : lv_has ls 3 [(0, rv Z 1), (1, .int a1), (2, .int a2)] := hl
  refine gm_aload_n (G := GM) (r := 1) C rfl dX11_between_0 rfl (lv_at hl 0 rfl) ?_
  refine lv_iconst (v := 0) hx hb dX11_between_1 (by decide) ?_
  refine gm_putI (G := GM) (u := u) (r := 1) (ci := 10) (k := 0) (v := (0 : Int32)) C hw rfl fl_X11_137 fp_10_0 dX11_between_2 rfl (fun H locs hw => ?_)
  obtain ⟨u_1, e_u_1, hf⟩ := gm_le hf
  rw [← e_u_1] at hw
  refine lv_iload_n hx hb dX11_between_5 rfl (lv_at hl 1 rfl) ?_
  refine lv_iconst (v := 1) hx hb dX11_between_6 (by decide) ?_
  refine lv_sipush (v := 4000) hx hb dX11_between_7 (by decide) ?_
  obtain ⟨r_2, e_r_2, hf⟩ := gm_le hf
  refine gm_callS (G := GM) (u := u_1) (u' := u_1) (As := [.int a1, .int (1 : Int32), .int (4000 : Int32)]) (rest := []) (res := (some (.int (f_X11_within a1 (1 : Int32) (4000 : Int32))))) C hw hl (ok_X11_within l Z a1 (1 : Int32) (4000 : Int32) u_1) cw_X11_254 st_X11_within rfl rfl ⟨Nat.le_trans (Nat.le_of_ble_eq_true rfl) hRf, Nat.le_trans (Nat.le_of_ble_eq_true rfl) hRl⟩ rfl rfl (Nat.le_of_ble_eq_true rfl) dX11_between_10 (fun H locs hw => ?_)
  refine gm_topI e_r_2 ?_
  refine lv_if_eq (tgt := 39) hx hb dX11_between_13 (by decide) (fun hc => ?_) (fun hc => ?_)
  · replace hf := (if_pos hc).symm.trans hf
    refine lv_iconst (v := -1) hx hb dX11_between_39 (by decide) ?_
    exact gm_iret C E hw rfl ((congrArg (fun z => some (Value.int z)) (gm_sp hf).1).symm) (gm_sp hf).2.symm dX11_between_40
  · replace hf := (if_neg hc).symm.trans hf
    refine lv_iload_n hx hb dX11_between_16 rfl (lv_at hl 2 rfl) ?_
    refine lv_iload_n hx hb dX11_between_17 rfl (lv_at hl 1 rfl) ?_
    refine lv_sipush (v := 4000) hx hb dX11_between_18 (by decide) ?_
    obtain ⟨r_3, e_r_3, hf⟩ := gm_le hf
    refine gm_callS (G := GM) (u := u_1) (u' := u_1) (As := [.int a2, .int a1, .int (4000 : Int32)]) (rest := []) (res := (some (.int (f_X11_within a2 a1 (4000 : Int32))))) C hw hl (ok_X11_within l Z a2 a1 (4000 : Int32) u_1) cw_X11_254 st_X11_within rfl rfl ⟨Nat.le_trans (Nat.le_of_ble_eq_true rfl) hRf, Nat.le_trans (Nat.le_of_ble_eq_true rfl) hRl⟩ rfl rfl (Nat.le_of_ble_eq_true rfl) dX11_between_21 (fun H locs hw => ?_)
    refine gm_topI e_r_3 ?_
    refine lv_if_eq (tgt := 39) hx hb dX11_between_24 (by decide) (fun hc => ?_) (fun hc => ?_)
    · replace hf := (if_pos hc).symm.trans hf
      refine lv_iconst (v := -1) hx hb dX11_between_39 (by decide) ?_
      exact gm_iret C E hw rfl ((congrArg (fun z => some (Value.int z)) (gm_sp hf).1).symm) (gm_sp hf).2.symm dX11_between_40
    · replace hf := (if_neg hc).symm.trans hf
      refine lv_iload_n hx hb dX11_between_27 rfl (lv_at hl 2 rfl) ?_
      obtain ⟨r_4, e_r_4, hf⟩ := gm_le hf
      refine gm_callS (G := GM) (u := u_1) (u' := u_1) (As := [.int a2]) (rest := []) (res := (some (.int (f_X11_leapsUpTo a2)))) C hw hl (ok_X11_leapsUpTo l Z a2 u_1) cw_X11_401 st_X11_leapsUpTo rfl rfl ⟨Nat.le_trans (Nat.le_of_ble_eq_true rfl) hRf, Nat.le_trans (Nat.le_of_ble_eq_true rfl) hRl⟩ rfl rfl (Nat.le_of_ble_eq_true rfl) dX11_between_28 (fun H locs hw => ?_)
      refine gm_topI e_r_4 ?_
      refine lv_iload_n hx hb dX11_between_31 rfl (lv_at hl 1 rfl) ?_
      obtain ⟨r_5, e_r_5, hf⟩ := gm_le hf
      refine gm_callS (G := GM) (u := u_1) (u' := u_1) (As := [.int a1]) (rest := [.int r_4]) (res := (some (.int (f_X11_leapsUpTo a1)))) C hw hl (ok_X11_leapsUpTo l Z a1 u_1) cw_X11_401 st_X11_leapsUpTo rfl rfl ⟨Nat.le_trans (Nat.le_of_ble_eq_true rfl) hRf, Nat.le_trans (Nat.le_of_ble_eq_true rfl) hRl⟩ rfl rfl (Nat.le_of_ble_eq_true rfl) dX11_between_32 (fun H locs hw => ?_)
      refine gm_topI e_r_5 ?_
      refine lv_isub hx hb dX11_between_35 ?_
      refine lv_goto (tgt := 40) hx hb dX11_between_36 (by decide) ?_
      exact gm_iret C E hw rfl ((congrArg (fun z => some (Value.int z)) (gm_sp hf).1).symm) (gm_sp hf).2.symm dX11_between_40
/-! LeapCapitalModel.nextLeap -/
def b_X11_nextLeap_4 (a0 : Int32) : Int32 → Option (Int32 ⊕ Int32) := fun x => match x with | v1_2 => gm_let (f_X11_isLeap v1_2) fun r_3 => if r_3 = 0 then some (.inl (v1_2 + (1 : Int32))) else some (.inr v1_2)
def f_X11_nextLeap (a0 : Int32) : Option Int32 := gm_let (a0 + (1 : Int32)) fun v1_1 => ((gm_lp (b_X11_nextLeap_4 a0) gm_FU v1_1).bind fun o => match o with | w1_4 => some w1_4)
set_option maxRecDepth 100000 in
set_option maxHeartbeats 4000000 in
theorem ok_X11_nextLeap (l : Launch) (Z : gm_Z) (a0 : Int32) (u : gm_M)  (r : Int32) (hf : f_X11_nextLeap a0 = some r) : gm_Met l GM Z yX11_nextLeap cX11_nextLeap 2 (some .int) ({ frames := 1, cells := 0, slots := 0, locals := 20 }) [.int a0] u (some (.int r)) u := by
  unfold f_X11_nextLeap at hf
  refine gm_ofW (by decide +kernel) (Nat.le_of_ble_eq_true rfl) ?_
  intro p e s m args below meth c A ls Q R hRf hRl C E hl hw
  obtain ⟨hx, hb, -⟩ := id C
  have hl : lv_has ls 2 [(0, .int a0)] := hl
  refine lv_iload_n hx hb dX11_nextLeap_0 rfl (lv_at hl 0 rfl) ?_
  refine lv_iconst (v := 1) hx hb dX11_nextLeap_1 (by decide) ?_
  refine lv_iadd hx hb dX11_nextLeap_2 ?_
  obtain ⟨v1_1, e_v1_1, hf⟩ := gm_le hf
  refine gm_topI e_v1_1 ?_
  refine lv_istore_n (i := 1) (lv' := [(1, .int v1_1), (0, .int a0)]) hx hb dX11_nextLeap_3 rfl hl (by decide) rfl (fun ls hl => ?_)
  obtain ⟨o1, hlp, hf⟩ := gm_bnd hf
  have L4_1 := gm_loop (b_X11_nextLeap_4 a0) (fun x : Int32 => ∀ (H : Heap) (locs : List Loc) (ls : Array Slot), lv_has ls 2 [(1, .int x)] → wd GM Z u A s.heap H locs → W p l e R s m args below meth c H locs 0 0 Q (F0 m 4 ls [])) (fun z : Int32 => ∀ (H : Heap) (locs : List Loc) (ls : Array Slot), lv_has ls 2 [(1, .int z)] → wd GM Z u A s.heap H locs → W p l e R s m args below meth c H locs 0 0 Q (F0 m 17 ls [])) (by
    intro x o1 hf Kc Kx
    obtain ⟨v1_2, rfl⟩ : ∃ y, y = x := ⟨_, rfl⟩
    intro H locs ls hl hw
    unfold b_X11_nextLeap_4 at hf
    try dsimp only at hf
    refine lv_iload_n hx hb dX11_nextLeap_4 rfl (lv_at hl 0 rfl) ?_
    obtain ⟨r_3, e_r_3, hf⟩ := gm_le hf
    refine gm_callS (G := GM) (u := u) (u' := u) (As := [.int v1_2]) (rest := []) (res := (some (.int (f_X11_isLeap v1_2)))) C hw hl (ok_X11_isLeap l Z v1_2 u) cw_X11_321 st_X11_isLeap rfl rfl ⟨Nat.le_trans (Nat.le_of_ble_eq_true rfl) hRf, Nat.le_trans (Nat.le_of_ble_eq_true rfl) hRl⟩ rfl rfl (Nat.le_of_ble_eq_true rfl) dX11_nextLeap_5 (fun H locs hw => ?_)
    refine gm_topI e_r_3 ?_
    refine lv_if_ne (tgt := 17) hx hb dX11_nextLeap_8 (by decide) (fun hc => ?_) (fun hc => ?_)
    · replace hf := (if_neg hc).symm.trans hf
      exact Kx _ (gm_si hf) _ _ _ (lv_sub hl [0] rfl) hw
    · replace hf := (if_pos hc).symm.trans hf
      refine lv_iinc (v := v1_2 + (1 : Int32)) (lv' := [(1, .int (v1_2 + (1 : Int32)))]) hx hb dX11_nextLeap_11 hl (k := 0) rfl rfl (by decide) rfl (fun ls hl => ?_)
      refine lv_goto (tgt := 4) hx hb dX11_nextLeap_14 (by decide) ?_
      exact Kc _ (gm_si hf) _ _ _ (lv_sub hl [0] rfl) hw)
  refine L4_1 _ _ _ hlp ?_ _ _ _ (lv_sub hl [0] rfl) hw
  obtain ⟨w1_4, rfl⟩ : ∃ y, y = o1 := ⟨_, rfl⟩
  intro H locs ls hl hw
  try dsimp only at hf
  refine lv_iload_n hx hb dX11_nextLeap_17 rfl (lv_at hl 0 rfl) ?_
  exact gm_iret C E hw rfl ((congrArg (fun z => some (Value.int z)) (Option.some.inj hf)).symm) rfl dX11_nextLeap_18
/-! LeapCapitalModel.next -/
def f_X11_next (a1 : Int32) (u : gm_M) : Option (Int32 × gm_M) := gm_let (sI u 1 0 (0 : Int32)) fun u_1 => gm_let (f_X11_within a1 (1 : Int32) (4000 : Int32)) fun r_2 => if r_2 = 0 then some ((-1 : Int32), u_1) else (f_X11_nextLeap a1).bind fun r_3 => some (r_3, u_1)
set_option maxRecDepth 100000 in
set_option maxHeartbeats 4000000 in
theorem ok_X11_next (l : Launch) (Z : gm_Z) (a1 : Int32) (u : gm_M)  (r : Int32) (u' : gm_M) (hf : f_X11_next a1 u = some (r, u')) : gm_Met l GM Z yX11_next cX11_next 2 (some .int) ({ frames := 2, cells := 0, slots := 0, locals := 41 }) [rv Z 1, .int a1] u (some (.int r)) u' := by
  unfold f_X11_next at hf
  refine gm_ofW (by decide +kernel) (Nat.le_of_ble_eq_true rfl) ?_
  intro p e s m args below meth c A ls Q R hRf hRl C E hl hw
  obtain ⟨hx, hb, -⟩ := id C
  have hl : lv_has ls 2 [(0, rv Z 1), (1, .int a1)] := hl
  refine gm_aload_n (G := GM) (r := 1) C rfl dX11_next_0 rfl (lv_at hl 0 rfl) ?_
  refine lv_iconst (v := 0) hx hb dX11_next_1 (by decide) ?_
  refine gm_putI (G := GM) (u := u) (r := 1) (ci := 10) (k := 0) (v := (0 : Int32)) C hw rfl fl_X11_137 fp_10_0 dX11_next_2 rfl (fun H locs hw => ?_)
  obtain ⟨u_1, e_u_1, hf⟩ := gm_le hf
  rw [← e_u_1] at hw
  refine lv_iload_n hx hb dX11_next_5 rfl (lv_at hl 1 rfl) ?_
  refine lv_iconst (v := 1) hx hb dX11_next_6 (by decide) ?_
  refine lv_sipush (v := 4000) hx hb dX11_next_7 (by decide) ?_
  obtain ⟨r_2, e_r_2, hf⟩ := gm_le hf
  refine gm_callS (G := GM) (u := u_1) (u' := u_1) (As := [.int a1, .int (1 : Int32), .int (4000 : Int32)]) (rest := []) (res := (some (.int (f_X11_within a1 (1 : Int32) (4000 : Int32))))) C hw hl (ok_X11_within l Z a1 (1 : Int32) (4000 : Int32) u_1) cw_X11_254 st_X11_within rfl rfl ⟨Nat.le_trans (Nat.le_of_ble_eq_true rfl) hRf, Nat.le_trans (Nat.le_of_ble_eq_true rfl) hRl⟩ rfl rfl (Nat.le_of_ble_eq_true rfl) dX11_next_10 (fun H locs hw => ?_)
  refine gm_topI e_r_2 ?_
  refine lv_if_eq (tgt := 23) hx hb dX11_next_13 (by decide) (fun hc => ?_) (fun hc => ?_)
  · replace hf := (if_pos hc).symm.trans hf
    refine lv_iconst (v := -1) hx hb dX11_next_23 (by decide) ?_
    exact gm_iret C E hw rfl ((congrArg (fun z => some (Value.int z)) (gm_sp hf).1).symm) (gm_sp hf).2.symm dX11_next_24
  · replace hf := (if_neg hc).symm.trans hf
    refine lv_iload_n hx hb dX11_next_16 rfl (lv_at hl 1 rfl) ?_
    obtain ⟨r_3, hc_4, hf⟩ := gm_bnd hf
    refine gm_callS (G := GM) (u := u_1) (u' := u_1) (As := [.int a1]) (rest := []) (res := (some (.int r_3))) C hw hl (ok_X11_nextLeap l Z a1 u_1 r_3 hc_4) cw_X11_404 st_X11_nextLeap rfl rfl ⟨Nat.le_trans (Nat.le_of_ble_eq_true rfl) hRf, Nat.le_trans (Nat.le_of_ble_eq_true rfl) hRl⟩ rfl rfl (Nat.le_of_ble_eq_true rfl) dX11_next_17 (fun H locs hw => ?_)
    refine lv_goto (tgt := 24) hx hb dX11_next_20 (by decide) ?_
    exact gm_iret C E hw rfl ((congrArg (fun z => some (Value.int z)) (gm_sp hf).1).symm) (gm_sp hf).2.symm dX11_next_24
/-! LeapCapitalModel.weekdayOf -/
def f_X11_weekdayOf (a0 : Int32) : Int32 := gm_let (f_X11_leapsUpTo (a0 - (1 : Int32))) fun r_1 => iRem ((((365 : Int32) * (a0 - (1 : Int32))) + r_1) + (60 : Int32)) (7 : Int32)
set_option maxRecDepth 100000 in
set_option maxHeartbeats 4000000 in
theorem ok_X11_weekdayOf (l : Launch) (Z : gm_Z) (a0 : Int32) (u : gm_M)  : gm_Met l GM Z yX11_weekdayOf cX11_weekdayOf 1 (some .int) ({ frames := 1, cells := 0, slots := 0, locals := 20 }) [.int a0] u (some (.int (f_X11_weekdayOf a0))) u := by
  obtain ⟨r, hf⟩ : ∃ r, f_X11_weekdayOf a0 = r := ⟨_, rfl⟩
  rw [hf]
  unfold f_X11_weekdayOf at hf
  refine gm_ofW (by decide +kernel) (Nat.le_of_ble_eq_true rfl) ?_
  intro p e s m args below meth c A ls Q R hRf hRl C E hl hw
  obtain ⟨hx, hb, -⟩ := id C
  have hl : lv_has ls 1 [(0, .int a0)] := hl
  refine lv_sipush (v := 365) hx hb dX11_weekdayOf_0 (by decide) ?_
  refine lv_iload_n hx hb dX11_weekdayOf_3 rfl (lv_at hl 0 rfl) ?_
  refine lv_iconst (v := 1) hx hb dX11_weekdayOf_4 (by decide) ?_
  refine lv_isub hx hb dX11_weekdayOf_5 ?_
  refine lv_imul hx hb dX11_weekdayOf_6 ?_
  refine lv_iload_n hx hb dX11_weekdayOf_7 rfl (lv_at hl 0 rfl) ?_
  refine lv_iconst (v := 1) hx hb dX11_weekdayOf_8 (by decide) ?_
  refine lv_isub hx hb dX11_weekdayOf_9 ?_
  obtain ⟨r_1, e_r_1, hf⟩ := gm_le hf
  refine gm_callS (G := GM) (u := u) (u' := u) (As := [.int (a0 - (1 : Int32))]) (rest := [.int ((365 : Int32) * (a0 - (1 : Int32)))]) (res := (some (.int (f_X11_leapsUpTo (a0 - (1 : Int32)))))) C hw hl (ok_X11_leapsUpTo l Z (a0 - (1 : Int32)) u) cw_X11_401 st_X11_leapsUpTo rfl rfl ⟨Nat.le_trans (Nat.le_of_ble_eq_true rfl) hRf, Nat.le_trans (Nat.le_of_ble_eq_true rfl) hRl⟩ rfl rfl (Nat.le_of_ble_eq_true rfl) dX11_weekdayOf_10 (fun H locs hw => ?_)
  refine gm_topI e_r_1 ?_
  refine lv_iadd hx hb dX11_weekdayOf_13 ?_
  refine lv_bipush (v := 60) hx hb dX11_weekdayOf_14 (by decide) ?_
  refine lv_iadd hx hb dX11_weekdayOf_16 ?_
  refine lv_bipush (v := 7) hx hb dX11_weekdayOf_17 (by decide) ?_
  refine lv_irem hx hb dX11_weekdayOf_19 (by decide) ?_
  exact gm_iret C E hw rfl ((congrArg (fun z => some (Value.int z)) hf).symm) rfl dX11_weekdayOf_20
/-! LeapCapitalModel.weekday -/
def f_X11_weekday (a1 : Int32) (u : gm_M) : Option (Int32 × gm_M) := gm_let (sI u 1 0 (0 : Int32)) fun u_1 => gm_let (f_X11_within a1 (1 : Int32) (4000 : Int32)) fun r_2 => if r_2 = 0 then some ((-1 : Int32), u_1) else gm_let (f_X11_isLeap a1) fun r_3 => if r_3 = 0 then some ((-1 : Int32), u_1) else gm_let (f_X11_weekdayOf a1) fun r_4 => some (r_4, u_1)
set_option maxRecDepth 100000 in
set_option maxHeartbeats 4000000 in
theorem ok_X11_weekday (l : Launch) (Z : gm_Z) (a1 : Int32) (u : gm_M)  (r : Int32) (u' : gm_M) (hf : f_X11_weekday a1 u = some (r, u')) : gm_Met l GM Z yX11_weekday cX11_weekday 2 (some .int) ({ frames := 2, cells := 0, slots := 0, locals := 40 }) [rv Z 1, .int a1] u (some (.int r)) u' := by
  unfold f_X11_weekday at hf
  refine gm_ofW (by decide +kernel) (Nat.le_of_ble_eq_true rfl) ?_
  intro p e s m args below meth c A ls Q R hRf hRl C E hl hw
  obtain ⟨hx, hb, -⟩ := id C
  have hl : lv_has ls 2 [(0, rv Z 1), (1, .int a1)] := hl
  refine gm_aload_n (G := GM) (r := 1) C rfl dX11_weekday_0 rfl (lv_at hl 0 rfl) ?_
  refine lv_iconst (v := 0) hx hb dX11_weekday_1 (by decide) ?_
  refine gm_putI (G := GM) (u := u) (r := 1) (ci := 10) (k := 0) (v := (0 : Int32)) C hw rfl fl_X11_137 fp_10_0 dX11_weekday_2 rfl (fun H locs hw => ?_)
  obtain ⟨u_1, e_u_1, hf⟩ := gm_le hf
  rw [← e_u_1] at hw
  refine lv_iload_n hx hb dX11_weekday_5 rfl (lv_at hl 1 rfl) ?_
  refine lv_iconst (v := 1) hx hb dX11_weekday_6 (by decide) ?_
  refine lv_sipush (v := 4000) hx hb dX11_weekday_7 (by decide) ?_
  obtain ⟨r_2, e_r_2, hf⟩ := gm_le hf
  refine gm_callS (G := GM) (u := u_1) (u' := u_1) (As := [.int a1, .int (1 : Int32), .int (4000 : Int32)]) (rest := []) (res := (some (.int (f_X11_within a1 (1 : Int32) (4000 : Int32))))) C hw hl (ok_X11_within l Z a1 (1 : Int32) (4000 : Int32) u_1) cw_X11_254 st_X11_within rfl rfl ⟨Nat.le_trans (Nat.le_of_ble_eq_true rfl) hRf, Nat.le_trans (Nat.le_of_ble_eq_true rfl) hRl⟩ rfl rfl (Nat.le_of_ble_eq_true rfl) dX11_weekday_10 (fun H locs hw => ?_)
  refine gm_topI e_r_2 ?_
  refine lv_if_eq (tgt := 30) hx hb dX11_weekday_13 (by decide) (fun hc => ?_) (fun hc => ?_)
  · replace hf := (if_pos hc).symm.trans hf
    refine lv_iconst (v := -1) hx hb dX11_weekday_30 (by decide) ?_
    exact gm_iret C E hw rfl ((congrArg (fun z => some (Value.int z)) (gm_sp hf).1).symm) (gm_sp hf).2.symm dX11_weekday_31
  · replace hf := (if_neg hc).symm.trans hf
    refine lv_iload_n hx hb dX11_weekday_16 rfl (lv_at hl 1 rfl) ?_
    obtain ⟨r_3, e_r_3, hf⟩ := gm_le hf
    refine gm_callS (G := GM) (u := u_1) (u' := u_1) (As := [.int a1]) (rest := []) (res := (some (.int (f_X11_isLeap a1)))) C hw hl (ok_X11_isLeap l Z a1 u_1) cw_X11_321 st_X11_isLeap rfl rfl ⟨Nat.le_trans (Nat.le_of_ble_eq_true rfl) hRf, Nat.le_trans (Nat.le_of_ble_eq_true rfl) hRl⟩ rfl rfl (Nat.le_of_ble_eq_true rfl) dX11_weekday_17 (fun H locs hw => ?_)
    refine gm_topI e_r_3 ?_
    refine lv_if_eq (tgt := 30) hx hb dX11_weekday_20 (by decide) (fun hc => ?_) (fun hc => ?_)
    · replace hf := (if_pos hc).symm.trans hf
      refine lv_iconst (v := -1) hx hb dX11_weekday_30 (by decide) ?_
      exact gm_iret C E hw rfl ((congrArg (fun z => some (Value.int z)) (gm_sp hf).1).symm) (gm_sp hf).2.symm dX11_weekday_31
    · replace hf := (if_neg hc).symm.trans hf
      refine lv_iload_n hx hb dX11_weekday_23 rfl (lv_at hl 1 rfl) ?_
      obtain ⟨r_4, e_r_4, hf⟩ := gm_le hf
      refine gm_callS (G := GM) (u := u_1) (u' := u_1) (As := [.int a1]) (rest := []) (res := (some (.int (f_X11_weekdayOf a1)))) C hw hl (ok_X11_weekdayOf l Z a1 u_1) cw_X11_407 st_X11_weekdayOf rfl rfl ⟨Nat.le_trans (Nat.le_of_ble_eq_true rfl) hRf, Nat.le_trans (Nat.le_of_ble_eq_true rfl) hRl⟩ rfl rfl (Nat.le_of_ble_eq_true rfl) dX11_weekday_24 (fun H locs hw => ?_)
      refine gm_topI e_r_4 ?_
      refine lv_goto (tgt := 31) hx hb dX11_weekday_27 (by decide) ?_
      exact gm_iret C E hw rfl ((congrArg (fun z => some (Value.int z)) (gm_sp hf).1).symm) (gm_sp hf).2.symm dX11_weekday_31
/-! LeapCapitalModel.cycle -/
def b_X11_cycle_30 (a1 : Int32) (u_1 : gm_M) : Int32 → Option (Int32 ⊕ Int32) := fun x => match x with | v2_6 => gm_let (f_X11_weekdayOf v2_6) fun r_7 => gm_let (f_X11_weekdayOf a1) fun r_8 => if r_7 = r_8 then some (.inr v2_6) else (f_X11_nextLeap v2_6).bind fun r_9 => some (.inl r_9)
def f_X11_cycle (a1 : Int32) (u : gm_M) : Option (Int32 × gm_M) := gm_let (sI u 1 0 (0 : Int32)) fun u_1 => gm_let (f_X11_within a1 (1 : Int32) (4000 : Int32)) fun r_2 => if r_2 = 0 then some ((-1 : Int32), u_1) else gm_let (f_X11_isLeap a1) fun r_3 => if r_3 = 0 then some ((-1 : Int32), u_1) else (f_X11_nextLeap a1).bind fun r_4 => ((gm_lp (b_X11_cycle_30 a1 u_1) gm_FU r_4).bind fun o => match o with | w2_11 => some (w2_11, u_1))
set_option maxRecDepth 100000 in
set_option maxHeartbeats 4000000 in
theorem ok_X11_cycle (l : Launch) (Z : gm_Z) (a1 : Int32) (u : gm_M)  (r : Int32) (u' : gm_M) (hf : f_X11_cycle a1 u = some (r, u')) : gm_Met l GM Z yX11_cycle cX11_cycle 3 (some .int) ({ frames := 2, cells := 0, slots := 0, locals := 41 }) [rv Z 1, .int a1] u (some (.int r)) u' := by
  unfold f_X11_cycle at hf
  refine gm_ofW (by decide +kernel) (Nat.le_of_ble_eq_true rfl) ?_
  intro p e s m args below meth c A ls Q R hRf hRl C E hl hw
  obtain ⟨hx, hb, -⟩ := id C
  have hl : lv_has ls 3 [(0, rv Z 1), (1, .int a1)] := hl
  refine gm_aload_n (G := GM) (r := 1) C rfl dX11_cycle_0 rfl (lv_at hl 0 rfl) ?_
  refine lv_iconst (v := 0) hx hb dX11_cycle_1 (by decide) ?_
  refine gm_putI (G := GM) (u := u) (r := 1) (ci := 10) (k := 0) (v := (0 : Int32)) C hw rfl fl_X11_137 fp_10_0 dX11_cycle_2 rfl (fun H locs hw => ?_)
  obtain ⟨u_1, e_u_1, hf⟩ := gm_le hf
  rw [← e_u_1] at hw
  refine lv_iload_n hx hb dX11_cycle_5 rfl (lv_at hl 1 rfl) ?_
  refine lv_iconst (v := 1) hx hb dX11_cycle_6 (by decide) ?_
  refine lv_sipush (v := 4000) hx hb dX11_cycle_7 (by decide) ?_
  obtain ⟨r_2, e_r_2, hf⟩ := gm_le hf
  refine gm_callS (G := GM) (u := u_1) (u' := u_1) (As := [.int a1, .int (1 : Int32), .int (4000 : Int32)]) (rest := []) (res := (some (.int (f_X11_within a1 (1 : Int32) (4000 : Int32))))) C hw hl (ok_X11_within l Z a1 (1 : Int32) (4000 : Int32) u_1) cw_X11_254 st_X11_within rfl rfl ⟨Nat.le_trans (Nat.le_of_ble_eq_true rfl) hRf, Nat.le_trans (Nat.le_of_ble_eq_true rfl) hRl⟩ rfl rfl (Nat.le_of_ble_eq_true rfl) dX11_cycle_10 (fun H locs hw => ?_)
  refine gm_topI e_r_2 ?_
  refine lv_if_eq (tgt := 23) hx hb dX11_cycle_13 (by decide) (fun hc => ?_) (fun hc => ?_)
  · replace hf := (if_pos hc).symm.trans hf
    refine lv_iconst (v := -1) hx hb dX11_cycle_23 (by decide) ?_
    exact gm_iret C E hw rfl ((congrArg (fun z => some (Value.int z)) (gm_sp hf).1).symm) (gm_sp hf).2.symm dX11_cycle_24
  · replace hf := (if_neg hc).symm.trans hf
    refine lv_iload_n hx hb dX11_cycle_16 rfl (lv_at hl 1 rfl) ?_
    obtain ⟨r_3, e_r_3, hf⟩ := gm_le hf
    refine gm_callS (G := GM) (u := u_1) (u' := u_1) (As := [.int a1]) (rest := []) (res := (some (.int (f_X11_isLeap a1)))) C hw hl (ok_X11_isLeap l Z a1 u_1) cw_X11_321 st_X11_isLeap rfl rfl ⟨Nat.le_trans (Nat.le_of_ble_eq_true rfl) hRf, Nat.le_trans (Nat.le_of_ble_eq_true rfl) hRl⟩ rfl rfl (Nat.le_of_ble_eq_true rfl) dX11_cycle_17 (fun H locs hw => ?_)
    refine gm_topI e_r_3 ?_
    refine lv_if_ne (tgt := 25) hx hb dX11_cycle_20 (by decide) (fun hc => ?_) (fun hc => ?_)
    · replace hf := (if_neg hc).symm.trans hf
      refine lv_iload_n hx hb dX11_cycle_25 rfl (lv_at hl 1 rfl) ?_
      obtain ⟨r_4, hc_5, hf⟩ := gm_bnd hf
      refine gm_callS (G := GM) (u := u_1) (u' := u_1) (As := [.int a1]) (rest := []) (res := (some (.int r_4))) C hw hl (ok_X11_nextLeap l Z a1 u_1 r_4 hc_5) cw_X11_404 st_X11_nextLeap rfl rfl ⟨Nat.le_trans (Nat.le_of_ble_eq_true rfl) hRf, Nat.le_trans (Nat.le_of_ble_eq_true rfl) hRl⟩ rfl rfl (Nat.le_of_ble_eq_true rfl) dX11_cycle_26 (fun H locs hw => ?_)
      refine lv_istore_n (i := 2) (lv' := [(2, .int r_4), (0, rv Z 1), (1, .int a1)]) hx hb dX11_cycle_29 rfl hl (by decide) rfl (fun ls hl => ?_)
      obtain ⟨o1, hlp, hf⟩ := gm_bnd hf
      have L30_1 := gm_loop (b_X11_cycle_30 a1 u_1) (fun x : Int32 => ∀ (H : Heap) (locs : List Loc) (ls : Array Slot), lv_has ls 3 [(1, .int a1), (2, .int x)] → wd GM Z u_1 A s.heap H locs → W p l e R s m args below meth c H locs 0 0 Q (F0 m 30 ls [])) (fun z : Int32 => ∀ (H : Heap) (locs : List Loc) (ls : Array Slot), lv_has ls 3 [(2, .int z)] → wd GM Z u_1 A s.heap H locs → W p l e R s m args below meth c H locs 0 0 Q (F0 m 49 ls [])) (by
        intro x o1 hf Kc Kx
        obtain ⟨v2_6, rfl⟩ : ∃ y, y = x := ⟨_, rfl⟩
        intro H locs ls hl hw
        unfold b_X11_cycle_30 at hf
        try dsimp only at hf
        refine lv_iload_n hx hb dX11_cycle_30 rfl (lv_at hl 1 rfl) ?_
        obtain ⟨r_7, e_r_7, hf⟩ := gm_le hf
        refine gm_callS (G := GM) (u := u_1) (u' := u_1) (As := [.int v2_6]) (rest := []) (res := (some (.int (f_X11_weekdayOf v2_6)))) C hw hl (ok_X11_weekdayOf l Z v2_6 u_1) cw_X11_407 st_X11_weekdayOf rfl rfl ⟨Nat.le_trans (Nat.le_of_ble_eq_true rfl) hRf, Nat.le_trans (Nat.le_of_ble_eq_true rfl) hRl⟩ rfl rfl (Nat.le_of_ble_eq_true rfl) dX11_cycle_31 (fun H locs hw => ?_)
        refine gm_topI e_r_7 ?_
        refine lv_iload_n hx hb dX11_cycle_34 rfl (lv_at hl 0 rfl) ?_
        obtain ⟨r_8, e_r_8, hf⟩ := gm_le hf
        refine gm_callS (G := GM) (u := u_1) (u' := u_1) (As := [.int a1]) (rest := [.int r_7]) (res := (some (.int (f_X11_weekdayOf a1)))) C hw hl (ok_X11_weekdayOf l Z a1 u_1) cw_X11_407 st_X11_weekdayOf rfl rfl ⟨Nat.le_trans (Nat.le_of_ble_eq_true rfl) hRf, Nat.le_trans (Nat.le_of_ble_eq_true rfl) hRl⟩ rfl rfl (Nat.le_of_ble_eq_true rfl) dX11_cycle_35 (fun H locs hw => ?_)
        refine gm_topI e_r_8 ?_
        refine lv_icmp_eq (tgt := 49) hx hb dX11_cycle_38 (by decide) (fun hc => ?_) (fun hc => ?_)
        · replace hf := (if_pos hc).symm.trans hf
          exact Kx _ (gm_si hf) _ _ _ (lv_sub hl [1] rfl) hw
        · replace hf := (if_neg hc).symm.trans hf
          refine lv_iload_n hx hb dX11_cycle_41 rfl (lv_at hl 1 rfl) ?_
          obtain ⟨r_9, hc_10, hf⟩ := gm_bnd hf
          refine gm_callS (G := GM) (u := u_1) (u' := u_1) (As := [.int v2_6]) (rest := []) (res := (some (.int r_9))) C hw hl (ok_X11_nextLeap l Z v2_6 u_1 r_9 hc_10) cw_X11_404 st_X11_nextLeap rfl rfl ⟨Nat.le_trans (Nat.le_of_ble_eq_true rfl) hRf, Nat.le_trans (Nat.le_of_ble_eq_true rfl) hRl⟩ rfl rfl (Nat.le_of_ble_eq_true rfl) dX11_cycle_42 (fun H locs hw => ?_)
          refine lv_istore_n (i := 2) (lv' := [(2, .int r_9), (1, .int a1)]) hx hb dX11_cycle_45 rfl hl (by decide) rfl (fun ls hl => ?_)
          refine lv_goto (tgt := 30) hx hb dX11_cycle_46 (by decide) ?_
          exact Kc _ (gm_si hf) _ _ _ (lv_sub hl [1, 0] rfl) hw)
      refine L30_1 _ _ _ hlp ?_ _ _ _ (lv_sub hl [2, 0] rfl) hw
      obtain ⟨w2_11, rfl⟩ : ∃ y, y = o1 := ⟨_, rfl⟩
      intro H locs ls hl hw
      try dsimp only at hf
      refine lv_iload_n hx hb dX11_cycle_49 rfl (lv_at hl 0 rfl) ?_
      exact gm_iret C E hw rfl ((congrArg (fun z => some (Value.int z)) (gm_sp hf).1).symm) (gm_sp hf).2.symm dX11_cycle_50
    · replace hf := (if_pos hc).symm.trans hf
      refine lv_iconst (v := -1) hx hb dX11_cycle_23 (by decide) ?_
      exact gm_iret C E hw rfl ((congrArg (fun z => some (Value.int z)) (gm_sp hf).1).symm) (gm_sp hf).2.symm dX11_cycle_24
/-! LeapCapitalModel.lastday -/
def j_X11_lastday_64 (a1 : Int32) (v2_2 : Int32) (u_1 : gm_M) : Option (Int32 × gm_M) := if ib a1 12 = true then if v2_2 < (gI u_1 6 (ix a1)) then some ((-1 : Int32), u_1) else some (v2_2, u_1) else none
def b_X11_lastday_41 (a1 : Int32) (u_4 : gm_M) : Int32 → Option (Int32 ⊕ Int32) := fun x => match x with | v2_8 => if ib a1 12 = true then if v2_8 < (gI u_4 6 (ix a1)) then some (.inr v2_8) else gm_let (f_X11_isLeap v2_8) fun r_10 => if r_10 = 0 then some (.inl (v2_8 + (-1 : Int32))) else some (.inr v2_8) else none
def f_X11_lastday (a1 : Int32) (u : gm_M) : Option (Int32 × gm_M) := gm_let (sI u 1 0 (0 : Int32)) fun u_4 => gm_let (f_X11_isPerson a1 u_4) fun r_5 => if r_5 = 0 then some ((-1 : Int32), u_4) else if ib a1 12 = true then if (gI u_4 5 (ix a1)) = (2 : Int32) then some ((-1 : Int32), u_4) else gm_let (((gI u_4 6 (ix a1)) + (gI u_4 3 3)) - (1 : Int32)) fun v2_7 => ((gm_lp (b_X11_lastday_41 a1 u_4) gm_FU v2_7).bind fun o => match o with | w2_11 => j_X11_lastday_64 a1 w2_11 u_4) else none
set_option maxRecDepth 100000 in
set_option maxHeartbeats 4000000 in
theorem ok_X11_lastday (l : Launch) (Z : gm_Z) (a1 : Int32) (u : gm_M)  (r : Int32) (u' : gm_M) (hf : f_X11_lastday a1 u = some (r, u')) : gm_Met l GM Z yX11_lastday cX11_lastday 3 (some .int) ({ frames := 1, cells := 0, slots := 0, locals := 21 }) [rv Z 1, .int a1] u (some (.int r)) u' := by
  unfold f_X11_lastday at hf
  refine gm_ofW (by decide +kernel) (Nat.le_of_ble_eq_true rfl) ?_
  intro p e s m args below meth c A ls Q R hRf hRl C E hl hw
  obtain ⟨hx, hb, -⟩ := id C
  have hl : lv_has ls 3 [(0, rv Z 1), (1, .int a1)] := hl
  have J64 : ∀ (v2_2 : Int32) (u_1 : gm_M) (H : Heap) (locs : List Loc) (ls : Array Slot), j_X11_lastday_64 a1 v2_2 u_1 = some (r, u') → lv_has ls 3 [(0, rv Z 1), (1, .int a1), (2, .int v2_2)] → wd GM Z u_1 A s.heap H locs → W p l e R s m args below meth c H locs 0 0 Q (F0 m 64 ls []) := by
    intro v2_2 u_1 H locs ls hf  hl hw
    unfold j_X11_lastday_64 at hf
    refine lv_iload_n hx hb dX11_lastday_64 rfl (lv_at hl 2 rfl) ?_
    refine gm_aload_n (G := GM) (r := 1) C rfl dX11_lastday_65 rfl (lv_at hl 0 rfl) ?_
    refine gm_getS (G := GM) (u := u_1) (r := 1) (ci := 10) (k := 13) C hw rfl fl_X11_23 dX11_lastday_66 rfl (q := 6) rfl ?_
    refine lv_iload_n hx hb dX11_lastday_69 rfl (lv_at hl 1 rfl) ?_
    obtain ⟨g_3, hf⟩ := gm_grd hf
    refine gm_iald (G := GM) (u := u_1) (r := 6) (n := 12) (i := a1) C hw rfl g_3 rfl dX11_lastday_70 ?_
    refine lv_icmp_lt (tgt := 78) hx hb dX11_lastday_71 (by decide) (fun hc => ?_) (fun hc => ?_)
    · replace hf := (if_pos hc).symm.trans hf
      refine lv_iconst (v := -1) hx hb dX11_lastday_78 (by decide) ?_
      exact gm_iret C E hw rfl ((congrArg (fun z => some (Value.int z)) (gm_sp hf).1).symm) (gm_sp hf).2.symm dX11_lastday_79
    · replace hf := (if_neg hc).symm.trans hf
      refine lv_iload_n hx hb dX11_lastday_74 rfl (lv_at hl 2 rfl) ?_
      refine lv_goto (tgt := 79) hx hb dX11_lastday_75 (by decide) ?_
      exact gm_iret C E hw rfl ((congrArg (fun z => some (Value.int z)) (gm_sp hf).1).symm) (gm_sp hf).2.symm dX11_lastday_79
  refine gm_aload_n (G := GM) (r := 1) C rfl dX11_lastday_0 rfl (lv_at hl 0 rfl) ?_
  refine lv_iconst (v := 0) hx hb dX11_lastday_1 (by decide) ?_
  refine gm_putI (G := GM) (u := u) (r := 1) (ci := 10) (k := 0) (v := (0 : Int32)) C hw rfl fl_X11_137 fp_10_0 dX11_lastday_2 rfl (fun H locs hw => ?_)
  obtain ⟨u_4, e_u_4, hf⟩ := gm_le hf
  rw [← e_u_4] at hw
  refine gm_aload_n (G := GM) (r := 1) C rfl dX11_lastday_5 rfl (lv_at hl 0 rfl) ?_
  refine lv_iload_n hx hb dX11_lastday_6 rfl (lv_at hl 1 rfl) ?_
  obtain ⟨r_5, e_r_5, hf⟩ := gm_le hf
  refine gm_callV (G := GM) (u := u_4) (u' := u_4) (r := 1) (ci := 10) (As := [.int a1]) (rest := []) (res := (some (.int (f_X11_isPerson a1 u_4)))) C hw hl (ok_X11_isPerson l Z a1 u_4) cw_X11_373 im_X11_isPerson rfl se_X11_isPerson rfl rfl rfl ⟨Nat.le_trans (Nat.le_of_ble_eq_true rfl) hRf, Nat.le_trans (Nat.le_of_ble_eq_true rfl) hRl⟩ rfl rfl (Nat.le_of_ble_eq_true rfl) dX11_lastday_7 (fun H locs hw => ?_)
  refine gm_topI e_r_5 ?_
  refine lv_if_eq (tgt := 23) hx hb dX11_lastday_10 (by decide) (fun hc => ?_) (fun hc => ?_)
  · replace hf := (if_pos hc).symm.trans hf
    refine lv_iconst (v := -1) hx hb dX11_lastday_23 (by decide) ?_
    exact gm_iret C E hw rfl ((congrArg (fun z => some (Value.int z)) (gm_sp hf).1).symm) (gm_sp hf).2.symm dX11_lastday_24
  · replace hf := (if_neg hc).symm.trans hf
    refine gm_aload_n (G := GM) (r := 1) C rfl dX11_lastday_13 rfl (lv_at hl 0 rfl) ?_
    refine gm_getS (G := GM) (u := u_4) (r := 1) (ci := 10) (k := 12) C hw rfl fl_X11_20 dX11_lastday_14 rfl (q := 5) rfl ?_
    refine lv_iload_n hx hb dX11_lastday_17 rfl (lv_at hl 1 rfl) ?_
    obtain ⟨g_6, hf⟩ := gm_grd hf
    refine gm_iald (G := GM) (u := u_4) (r := 5) (n := 12) (i := a1) C hw rfl g_6 rfl dX11_lastday_18 ?_
    refine lv_iconst (v := 2) hx hb dX11_lastday_19 (by decide) ?_
    refine lv_icmp_ne (tgt := 25) hx hb dX11_lastday_20 (by decide) (fun hc => ?_) (fun hc => ?_)
    · replace hf := (if_neg hc).symm.trans hf
      refine gm_aload_n (G := GM) (r := 1) C rfl dX11_lastday_25 rfl (lv_at hl 0 rfl) ?_
      refine gm_getS (G := GM) (u := u_4) (r := 1) (ci := 10) (k := 13) C hw rfl fl_X11_23 dX11_lastday_26 rfl (q := 6) rfl ?_
      refine lv_iload_n hx hb dX11_lastday_29 rfl (lv_at hl 1 rfl) ?_
      refine gm_iald (G := GM) (u := u_4) (r := 6) (n := 12) (i := a1) C hw rfl g_6 rfl dX11_lastday_30 ?_
      refine gm_aload_n (G := GM) (r := 1) C rfl dX11_lastday_31 rfl (lv_at hl 0 rfl) ?_
      refine gm_getS (G := GM) (u := u_4) (r := 1) (ci := 10) (k := 10) C hw rfl fl_X11_13 dX11_lastday_32 rfl (q := 3) rfl ?_
      refine lv_iconst (v := 3) hx hb dX11_lastday_35 (by decide) ?_
      refine gm_iald (G := GM) (u := u_4) (r := 3) (n := 8) (i := (3 : Int32)) C hw rfl (by decide) (j := 3) (by decide) dX11_lastday_36 ?_
      refine lv_iadd hx hb dX11_lastday_37 ?_
      refine lv_iconst (v := 1) hx hb dX11_lastday_38 (by decide) ?_
      refine lv_isub hx hb dX11_lastday_39 ?_
      obtain ⟨v2_7, e_v2_7, hf⟩ := gm_le hf
      refine gm_topI e_v2_7 ?_
      refine lv_istore_n (i := 2) (lv' := [(2, .int v2_7), (0, rv Z 1), (1, .int a1)]) hx hb dX11_lastday_40 rfl hl (by decide) rfl (fun ls hl => ?_)
      obtain ⟨o1, hlp, hf⟩ := gm_bnd hf
      have L41_1 := gm_loop (b_X11_lastday_41 a1 u_4) (fun x : Int32 => ∀ (H : Heap) (locs : List Loc) (ls : Array Slot), lv_has ls 3 [(0, rv Z 1), (1, .int a1), (2, .int x)] → wd GM Z u_4 A s.heap H locs → W p l e R s m args below meth c H locs 0 0 Q (F0 m 41 ls [])) (fun z : Int32 => ∀ (H : Heap) (locs : List Loc) (ls : Array Slot), lv_has ls 3 [(0, rv Z 1), (1, .int a1), (2, .int z)] → wd GM Z u_4 A s.heap H locs → W p l e R s m args below meth c H locs 0 0 Q (F0 m 64 ls [])) (by
        intro x o1 hf Kc Kx
        obtain ⟨v2_8, rfl⟩ : ∃ y, y = x := ⟨_, rfl⟩
        intro H locs ls hl hw
        unfold b_X11_lastday_41 at hf
        try dsimp only at hf
        refine lv_iload_n hx hb dX11_lastday_41 rfl (lv_at hl 2 rfl) ?_
        refine gm_aload_n (G := GM) (r := 1) C rfl dX11_lastday_42 rfl (lv_at hl 0 rfl) ?_
        refine gm_getS (G := GM) (u := u_4) (r := 1) (ci := 10) (k := 13) C hw rfl fl_X11_23 dX11_lastday_43 rfl (q := 6) rfl ?_
        refine lv_iload_n hx hb dX11_lastday_46 rfl (lv_at hl 1 rfl) ?_
        obtain ⟨g_9, hf⟩ := gm_grd hf
        refine gm_iald (G := GM) (u := u_4) (r := 6) (n := 12) (i := a1) C hw rfl g_9 rfl dX11_lastday_47 ?_
        refine lv_icmp_lt (tgt := 64) hx hb dX11_lastday_48 (by decide) (fun hc => ?_) (fun hc => ?_)
        · replace hf := (if_pos hc).symm.trans hf
          exact Kx _ (gm_si hf) _ _ _ (lv_sub hl [0, 1, 2] rfl) hw
        · replace hf := (if_neg hc).symm.trans hf
          refine lv_iload_n hx hb dX11_lastday_51 rfl (lv_at hl 2 rfl) ?_
          obtain ⟨r_10, e_r_10, hf⟩ := gm_le hf
          refine gm_callS (G := GM) (u := u_4) (u' := u_4) (As := [.int v2_8]) (rest := []) (res := (some (.int (f_X11_isLeap v2_8)))) C hw hl (ok_X11_isLeap l Z v2_8 u_4) cw_X11_321 st_X11_isLeap rfl rfl ⟨Nat.le_trans (Nat.le_of_ble_eq_true rfl) hRf, Nat.le_trans (Nat.le_of_ble_eq_true rfl) hRl⟩ rfl rfl (Nat.le_of_ble_eq_true rfl) dX11_lastday_52 (fun H locs hw => ?_)
          refine gm_topI e_r_10 ?_
          refine lv_if_ne (tgt := 64) hx hb dX11_lastday_55 (by decide) (fun hc => ?_) (fun hc => ?_)
          · replace hf := (if_neg hc).symm.trans hf
            exact Kx _ (gm_si hf) _ _ _ (lv_sub hl [0, 1, 2] rfl) hw
          · replace hf := (if_pos hc).symm.trans hf
            refine lv_iinc (v := v2_8 + (-1 : Int32)) (lv' := [(2, .int (v2_8 + (-1 : Int32))), (0, rv Z 1), (1, .int a1)]) hx hb dX11_lastday_58 hl (k := 2) rfl rfl (by decide) rfl (fun ls hl => ?_)
            refine lv_goto (tgt := 41) hx hb dX11_lastday_61 (by decide) ?_
            exact Kc _ (gm_si hf) _ _ _ (lv_sub hl [1, 2, 0] rfl) hw)
      refine L41_1 _ _ _ hlp ?_ _ _ _ (lv_sub hl [1, 2, 0] rfl) hw
      obtain ⟨w2_11, rfl⟩ : ∃ y, y = o1 := ⟨_, rfl⟩
      intro H locs ls hl hw
      try dsimp only at hf
      exact J64 w2_11 u_4 _ _ _ hf  (lv_sub hl [0, 1, 2] rfl) hw
    · replace hf := (if_pos hc).symm.trans hf
      refine lv_iconst (v := -1) hx hb dX11_lastday_23 (by decide) ?_
      exact gm_iret C E hw rfl ((congrArg (fun z => some (Value.int z)) (gm_sp hf).1).symm) (gm_sp hf).2.symm dX11_lastday_24
/-! LeapCapitalModel.gate -/
def b_X11_gate_48 (a1 : Int32) (a2 : Int32) (u_1 : gm_M) : (Int32 × Int32) → Option ((Int32 × Int32) ⊕ Int32) := fun x => match x with | (v3_4, v4_5) => (f_X11_nextLeap v4_5).bind fun r_6 => if a2 < r_6 then some (.inr v3_4) else (f_X11_nextLeap v4_5).bind fun r_8 => gm_let (if v3_4 < (r_8 - v4_5) then (r_8 - v4_5) else v3_4) fun v_10 => (f_X11_nextLeap v4_5).bind fun r_11 => some (.inl (v_10, r_11))
def j_X11_gate_46 (a1 : Int32) (a2 : Int32) (v3_2 : Int32) (t_3 : Int32) (u_1 : gm_M) : Option (Int32 × gm_M) := ((gm_lp (b_X11_gate_48 a1 a2 u_1) gm_FU (v3_2, t_3)).bind fun o => match o with | w3_13 => some (w3_13, u_1))
def f_X11_gate (a1 : Int32) (a2 : Int32) (u : gm_M) : Option (Int32 × gm_M) := gm_let (sI u 1 0 (0 : Int32)) fun u_14 => gm_let (f_X11_within a1 (1 : Int32) (4000 : Int32)) fun r_15 => if r_15 = 0 then some ((-1 : Int32), u_14) else gm_let (f_X11_within a2 a1 (4000 : Int32)) fun r_16 => if r_16 = 0 then some ((-1 : Int32), u_14) else gm_let (f_X11_isLeap a1) fun r_17 => if r_17 = 0 then (f_X11_nextLeap a1).bind fun r_18 => j_X11_gate_46 a1 a2 (0 : Int32) r_18 u_14 else j_X11_gate_46 a1 a2 (0 : Int32) a1 u_14
set_option maxRecDepth 100000 in
set_option maxHeartbeats 4000000 in
theorem ok_X11_gate (l : Launch) (Z : gm_Z) (a1 : Int32) (a2 : Int32) (u : gm_M)  (r : Int32) (u' : gm_M) (hf : f_X11_gate a1 a2 u = some (r, u')) : gm_Met l GM Z yX11_gate cX11_gate 5 (some .int) ({ frames := 2, cells := 0, slots := 0, locals := 41 }) [rv Z 1, .int a1, .int a2] u (some (.int r)) u' := by
  unfold f_X11_gate at hf
  refine gm_ofW (by decide +kernel) (Nat.le_of_ble_eq_true rfl) ?_
  intro p e s m args below meth c A ls Q R hRf hRl C E hl hw
  obtain ⟨hx, hb, -⟩ := id C
  have hl : lv_has ls 5 [(0, rv Z 1), (1, .int a1), (2, .int a2)] := hl
  have J46 : ∀ (v3_2 : Int32) (t_3 : Int32) (u_1 : gm_M) (H : Heap) (locs : List Loc) (ls : Array Slot), j_X11_gate_46 a1 a2 v3_2 t_3 u_1 = some (r, u') → lv_has ls 5 [(2, .int a2), (3, .int v3_2)] → wd GM Z u_1 A s.heap H locs → W p l e R s m args below meth c H locs 0 0 Q (F0 m 46 ls [.int t_3]) := by
    intro v3_2 t_3 u_1 H locs ls hf  hl hw
    unfold j_X11_gate_46 at hf
    refine lv_istore (i := 4) (lv' := [(4, .int t_3), (2, .int a2), (3, .int v3_2)]) hx hb dX11_gate_46 hl (by decide) rfl (fun ls hl => ?_)
    obtain ⟨o1, hlp, hf⟩ := gm_bnd hf
    have L48_1 := gm_loop (b_X11_gate_48 a1 a2 u_1) (fun x : (Int32 × Int32) => ∀ (H : Heap) (locs : List Loc) (ls : Array Slot), lv_has ls 5 [(2, .int a2), (3, .int x.1), (4, .int x.2)] → wd GM Z u_1 A s.heap H locs → W p l e R s m args below meth c H locs 0 0 Q (F0 m 48 ls [])) (fun z : Int32 => ∀ (H : Heap) (locs : List Loc) (ls : Array Slot), lv_has ls 5 [(3, .int z)] → wd GM Z u_1 A s.heap H locs → W p l e R s m args below meth c H locs 0 0 Q (F0 m 80 ls [])) (by
      intro x o1 hf Kc Kx
      obtain ⟨v3_4, v4_5⟩ := x
      intro H locs ls hl hw
      unfold b_X11_gate_48 at hf
      try dsimp only at hf
      refine lv_iload hx hb dX11_gate_48 (lv_at hl 2 rfl) ?_
      obtain ⟨r_6, hc_7, hf⟩ := gm_bnd hf
      refine gm_callS (G := GM) (u := u_1) (u' := u_1) (As := [.int v4_5]) (rest := []) (res := (some (.int r_6))) C hw hl (ok_X11_nextLeap l Z v4_5 u_1 r_6 hc_7) cw_X11_404 st_X11_nextLeap rfl rfl ⟨Nat.le_trans (Nat.le_of_ble_eq_true rfl) hRf, Nat.le_trans (Nat.le_of_ble_eq_true rfl) hRl⟩ rfl rfl (Nat.le_of_ble_eq_true rfl) dX11_gate_50 (fun H locs hw => ?_)
      refine lv_iload_n hx hb dX11_gate_53 rfl (lv_at hl 0 rfl) ?_
      refine lv_icmp_gt (tgt := 80) hx hb dX11_gate_54 (by decide) (fun hc => ?_) (fun hc => ?_)
      · replace hf := (if_pos hc).symm.trans hf
        exact Kx _ (gm_si hf) _ _ _ (lv_sub hl [1] rfl) hw
      · replace hf := (if_neg hc).symm.trans hf
        refine lv_iload_n hx hb dX11_gate_57 rfl (lv_at hl 1 rfl) ?_
        refine lv_iload hx hb dX11_gate_58 (lv_at hl 2 rfl) ?_
        obtain ⟨r_8, hc_9, hf⟩ := gm_bnd hf
        refine gm_callS (G := GM) (u := u_1) (u' := u_1) (As := [.int v4_5]) (rest := [.int v3_4]) (res := (some (.int r_8))) C hw hl (ok_X11_nextLeap l Z v4_5 u_1 r_8 hc_9) cw_X11_404 st_X11_nextLeap rfl rfl ⟨Nat.le_trans (Nat.le_of_ble_eq_true rfl) hRf, Nat.le_trans (Nat.le_of_ble_eq_true rfl) hRl⟩ rfl rfl (Nat.le_of_ble_eq_true rfl) dX11_gate_60 (fun H locs hw => ?_)
        refine lv_iload hx hb dX11_gate_63 (lv_at hl 2 rfl) ?_
        refine lv_isub hx hb dX11_gate_65 ?_
        refine gm_max C hl mw_X11_342 (Nat.le_trans (Nat.le_of_ble_eq_true rfl) hRf) (Nat.le_trans (Nat.le_of_ble_eq_true rfl) hRl) (Nat.le_of_ble_eq_true rfl) dX11_gate_66 ?_
        obtain ⟨v_10, e_v_10, hf⟩ := gm_le hf
        refine gm_topI e_v_10 ?_
        refine lv_istore_n (i := 3) (lv' := [(3, .int v_10), (2, .int a2), (4, .int v4_5)]) hx hb dX11_gate_69 rfl hl (by decide) rfl (fun ls hl => ?_)
        refine lv_iload hx hb dX11_gate_70 (lv_at hl 2 rfl) ?_
        obtain ⟨r_11, hc_12, hf⟩ := gm_bnd hf
        refine gm_callS (G := GM) (u := u_1) (u' := u_1) (As := [.int v4_5]) (rest := []) (res := (some (.int r_11))) C hw hl (ok_X11_nextLeap l Z v4_5 u_1 r_11 hc_12) cw_X11_404 st_X11_nextLeap rfl rfl ⟨Nat.le_trans (Nat.le_of_ble_eq_true rfl) hRf, Nat.le_trans (Nat.le_of_ble_eq_true rfl) hRl⟩ rfl rfl (Nat.le_of_ble_eq_true rfl) dX11_gate_72 (fun H locs hw => ?_)
        refine lv_istore (i := 4) (lv' := [(4, .int r_11), (3, .int v_10), (2, .int a2)]) hx hb dX11_gate_75 hl (by decide) rfl (fun ls hl => ?_)
        refine lv_goto (tgt := 48) hx hb dX11_gate_77 (by decide) ?_
        exact Kc _ (gm_si hf) _ _ _ (lv_sub hl [2, 1, 0] rfl) hw)
    refine L48_1 _ _ _ hlp ?_ _ _ _ (lv_sub hl [1, 2, 0] rfl) hw
    obtain ⟨w3_13, rfl⟩ : ∃ y, y = o1 := ⟨_, rfl⟩
    intro H locs ls hl hw
    try dsimp only at hf
    refine lv_iload_n hx hb dX11_gate_80 rfl (lv_at hl 0 rfl) ?_
    exact gm_iret C E hw rfl ((congrArg (fun z => some (Value.int z)) (gm_sp hf).1).symm) (gm_sp hf).2.symm dX11_gate_81
  refine gm_aload_n (G := GM) (r := 1) C rfl dX11_gate_0 rfl (lv_at hl 0 rfl) ?_
  refine lv_iconst (v := 0) hx hb dX11_gate_1 (by decide) ?_
  refine gm_putI (G := GM) (u := u) (r := 1) (ci := 10) (k := 0) (v := (0 : Int32)) C hw rfl fl_X11_137 fp_10_0 dX11_gate_2 rfl (fun H locs hw => ?_)
  obtain ⟨u_14, e_u_14, hf⟩ := gm_le hf
  rw [← e_u_14] at hw
  refine lv_iload_n hx hb dX11_gate_5 rfl (lv_at hl 1 rfl) ?_
  refine lv_iconst (v := 1) hx hb dX11_gate_6 (by decide) ?_
  refine lv_sipush (v := 4000) hx hb dX11_gate_7 (by decide) ?_
  obtain ⟨r_15, e_r_15, hf⟩ := gm_le hf
  refine gm_callS (G := GM) (u := u_14) (u' := u_14) (As := [.int a1, .int (1 : Int32), .int (4000 : Int32)]) (rest := []) (res := (some (.int (f_X11_within a1 (1 : Int32) (4000 : Int32))))) C hw hl (ok_X11_within l Z a1 (1 : Int32) (4000 : Int32) u_14) cw_X11_254 st_X11_within rfl rfl ⟨Nat.le_trans (Nat.le_of_ble_eq_true rfl) hRf, Nat.le_trans (Nat.le_of_ble_eq_true rfl) hRl⟩ rfl rfl (Nat.le_of_ble_eq_true rfl) dX11_gate_10 (fun H locs hw => ?_)
  refine gm_topI e_r_15 ?_
  refine lv_if_eq (tgt := 27) hx hb dX11_gate_13 (by decide) (fun hc => ?_) (fun hc => ?_)
  · replace hf := (if_pos hc).symm.trans hf
    refine lv_iconst (v := -1) hx hb dX11_gate_27 (by decide) ?_
    exact gm_iret C E hw rfl ((congrArg (fun z => some (Value.int z)) (gm_sp hf).1).symm) (gm_sp hf).2.symm dX11_gate_28
  · replace hf := (if_neg hc).symm.trans hf
    refine lv_iload_n hx hb dX11_gate_16 rfl (lv_at hl 2 rfl) ?_
    refine lv_iload_n hx hb dX11_gate_17 rfl (lv_at hl 1 rfl) ?_
    refine lv_sipush (v := 4000) hx hb dX11_gate_18 (by decide) ?_
    obtain ⟨r_16, e_r_16, hf⟩ := gm_le hf
    refine gm_callS (G := GM) (u := u_14) (u' := u_14) (As := [.int a2, .int a1, .int (4000 : Int32)]) (rest := []) (res := (some (.int (f_X11_within a2 a1 (4000 : Int32))))) C hw hl (ok_X11_within l Z a2 a1 (4000 : Int32) u_14) cw_X11_254 st_X11_within rfl rfl ⟨Nat.le_trans (Nat.le_of_ble_eq_true rfl) hRf, Nat.le_trans (Nat.le_of_ble_eq_true rfl) hRl⟩ rfl rfl (Nat.le_of_ble_eq_true rfl) dX11_gate_21 (fun H locs hw => ?_)
    refine gm_topI e_r_16 ?_
    refine lv_if_ne (tgt := 29) hx hb dX11_gate_24 (by decide) (fun hc => ?_) (fun hc => ?_)
    · replace hf := (if_neg hc).symm.trans hf
      refine lv_iconst (v := 0) hx hb dX11_gate_29 (by decide) ?_
      refine lv_istore_n (i := 3) (lv' := [(3, .int (0 : Int32)), (0, rv Z 1), (1, .int a1), (2, .int a2)]) hx hb dX11_gate_30 rfl hl (by decide) rfl (fun ls hl => ?_)
      refine lv_iload_n hx hb dX11_gate_31 rfl (lv_at hl 2 rfl) ?_
      obtain ⟨r_17, e_r_17, hf⟩ := gm_le hf
      refine gm_callS (G := GM) (u := u_14) (u' := u_14) (As := [.int a1]) (rest := []) (res := (some (.int (f_X11_isLeap a1)))) C hw hl (ok_X11_isLeap l Z a1 u_14) cw_X11_321 st_X11_isLeap rfl rfl ⟨Nat.le_trans (Nat.le_of_ble_eq_true rfl) hRf, Nat.le_trans (Nat.le_of_ble_eq_true rfl) hRl⟩ rfl rfl (Nat.le_of_ble_eq_true rfl) dX11_gate_32 (fun H locs hw => ?_)
      refine gm_topI e_r_17 ?_
      refine lv_if_eq (tgt := 42) hx hb dX11_gate_35 (by decide) (fun hc => ?_) (fun hc => ?_)
      · replace hf := (if_pos hc).symm.trans hf
        refine lv_iload_n hx hb dX11_gate_42 rfl (lv_at hl 2 rfl) ?_
        obtain ⟨r_18, hc_19, hf⟩ := gm_bnd hf
        refine gm_callS (G := GM) (u := u_14) (u' := u_14) (As := [.int a1]) (rest := []) (res := (some (.int r_18))) C hw hl (ok_X11_nextLeap l Z a1 u_14 r_18 hc_19) cw_X11_404 st_X11_nextLeap rfl rfl ⟨Nat.le_trans (Nat.le_of_ble_eq_true rfl) hRf, Nat.le_trans (Nat.le_of_ble_eq_true rfl) hRl⟩ rfl rfl (Nat.le_of_ble_eq_true rfl) dX11_gate_43 (fun H locs hw => ?_)
        exact J46 (0 : Int32) r_18 u_14 _ _ _ hf  (lv_sub hl [3, 0] rfl) hw
      · replace hf := (if_neg hc).symm.trans hf
        refine lv_iload_n hx hb dX11_gate_38 rfl (lv_at hl 2 rfl) ?_
        refine lv_goto (tgt := 46) hx hb dX11_gate_39 (by decide) ?_
        exact J46 (0 : Int32) a1 u_14 _ _ _ hf  (lv_sub hl [3, 0] rfl) hw
    · replace hf := (if_pos hc).symm.trans hf
      refine lv_iconst (v := -1) hx hb dX11_gate_27 (by decide) ?_
      exact gm_iret C E hw rfl ((congrArg (fun z => some (Value.int z)) (gm_sp hf).1).symm) (gm_sp hf).2.symm dX11_gate_28
/-! LeapCapitalModel.call -/
def f_X11_call (a1 : Int32) (u : gm_M) : Option (Int32 × gm_M) := gm_let (sI u 1 0 (0 : Int32)) fun u_1 => gm_let (f_X11_within a1 (0 : Int32) ((gI u_1 29 2) - (1 : Int32))) fun r_2 => if r_2 = 0 then some ((-1 : Int32), u_1) else (f_X11_calls u_1).bind fun u_3 => if ib a1 6 = true then some (gI u_3 35 (ix a1), u_3) else none
set_option maxRecDepth 100000 in
set_option maxHeartbeats 4000000 in
theorem ok_X11_call (l : Launch) (Z : gm_Z) (a1 : Int32) (u : gm_M)  (r : Int32) (u' : gm_M) (hf : f_X11_call a1 u = some (r, u')) : gm_Met l GM Z yX11_call cX11_call 2 (some .int) ({ frames := 5, cells := 0, slots := 0, locals := 113 }) [rv Z 1, .int a1] u (some (.int r)) u' := by
  unfold f_X11_call at hf
  refine gm_ofW (by decide +kernel) (Nat.le_of_ble_eq_true rfl) ?_
  intro p e s m args below meth c A ls Q R hRf hRl C E hl hw
  obtain ⟨hx, hb, -⟩ := id C
  have hl : lv_has ls 2 [(0, rv Z 1), (1, .int a1)] := hl
  refine gm_aload_n (G := GM) (r := 1) C rfl dX11_call_0 rfl (lv_at hl 0 rfl) ?_
  refine lv_iconst (v := 0) hx hb dX11_call_1 (by decide) ?_
  refine gm_putI (G := GM) (u := u) (r := 1) (ci := 10) (k := 0) (v := (0 : Int32)) C hw rfl fl_X11_137 fp_10_0 dX11_call_2 rfl (fun H locs hw => ?_)
  obtain ⟨u_1, e_u_1, hf⟩ := gm_le hf
  rw [← e_u_1] at hw
  refine lv_iload_n hx hb dX11_call_5 rfl (lv_at hl 1 rfl) ?_
  refine lv_iconst (v := 0) hx hb dX11_call_6 (by decide) ?_
  refine gm_aload_n (G := GM) (r := 1) C rfl dX11_call_7 rfl (lv_at hl 0 rfl) ?_
  refine gm_getS (G := GM) (u := u_1) (r := 1) (ci := 10) (k := 39) C hw rfl fl_X11_93 dX11_call_8 rfl (q := 29) rfl ?_
  refine lv_iconst (v := 2) hx hb dX11_call_11 (by decide) ?_
  refine gm_iald (G := GM) (u := u_1) (r := 29) (n := 22) (i := (2 : Int32)) C hw rfl (by decide) (j := 2) (by decide) dX11_call_12 ?_
  refine lv_iconst (v := 1) hx hb dX11_call_13 (by decide) ?_
  refine lv_isub hx hb dX11_call_14 ?_
  obtain ⟨r_2, e_r_2, hf⟩ := gm_le hf
  refine gm_callS (G := GM) (u := u_1) (u' := u_1) (As := [.int a1, .int (0 : Int32), .int ((gI u_1 29 2) - (1 : Int32))]) (rest := []) (res := (some (.int (f_X11_within a1 (0 : Int32) ((gI u_1 29 2) - (1 : Int32)))))) C hw hl (ok_X11_within l Z a1 (0 : Int32) ((gI u_1 29 2) - (1 : Int32)) u_1) cw_X11_254 st_X11_within rfl rfl ⟨Nat.le_trans (Nat.le_of_ble_eq_true rfl) hRf, Nat.le_trans (Nat.le_of_ble_eq_true rfl) hRl⟩ rfl rfl (Nat.le_of_ble_eq_true rfl) dX11_call_15 (fun H locs hw => ?_)
  refine gm_topI e_r_2 ?_
  refine lv_if_ne (tgt := 23) hx hb dX11_call_18 (by decide) (fun hc => ?_) (fun hc => ?_)
  · replace hf := (if_neg hc).symm.trans hf
    refine gm_aload_n (G := GM) (r := 1) C rfl dX11_call_23 rfl (lv_at hl 0 rfl) ?_
    obtain ⟨u_3, hc_4, hf⟩ := gm_bnd hf
    refine gm_callV (G := GM) (u := u_1) (u' := u_3) (r := 1) (ci := 10) (As := []) (rest := []) (res := none) C hw hl (ok_X11_calls l Z u_1 u_3 hc_4) cw_X11_348 im_X11_calls rfl se_X11_calls rfl rfl rfl ⟨Nat.le_trans (Nat.le_of_ble_eq_true rfl) hRf, Nat.le_trans (Nat.le_of_ble_eq_true rfl) hRl⟩ rfl rfl (Nat.le_of_ble_eq_true rfl) dX11_call_24 (fun H locs hw => ?_)
    refine gm_aload_n (G := GM) (r := 1) C rfl dX11_call_27 rfl (lv_at hl 0 rfl) ?_
    refine gm_getS (G := GM) (u := u_3) (r := 1) (ci := 10) (k := 47) C hw rfl fl_X11_111 dX11_call_28 rfl (q := 35) rfl ?_
    refine lv_iload_n hx hb dX11_call_31 rfl (lv_at hl 1 rfl) ?_
    obtain ⟨g_5, hf⟩ := gm_grd hf
    refine gm_iald (G := GM) (u := u_3) (r := 35) (n := 6) (i := a1) C hw rfl g_5 rfl dX11_call_32 ?_
    exact gm_iret C E hw rfl ((congrArg (fun z => some (Value.int z)) (gm_sp hf).1).symm) (gm_sp hf).2.symm dX11_call_33
  · replace hf := (if_pos hc).symm.trans hf
    refine lv_iconst (v := -1) hx hb dX11_call_21 (by decide) ?_
    exact gm_iret C E hw rfl ((congrArg (fun z => some (Value.int z)) (gm_sp hf).1).symm) (gm_sp hf).2.symm dX11_call_22
