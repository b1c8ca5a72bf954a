/-! LeapCapital$Hearing.beginYear -/
def f_X2_beginYear (a1 : Nat) (a2 : Nat) (a3 : Int32) (a4 : Int32) (a5 : Int32) (u : gm_M) : Option (Int32 × gm_M) := gm_let (sI u a2 0 a3) fun u_3 => (f_X5_deadBits a1 a3 u_3).bind fun r_4 => (f_X1_takeOut a2 r_4 u_3).bind fun u_6 => if a5 = 0 then some ((0 : Int32), u_6) else (f_X2_putInOrder a1 a2 u_6).bind fun u_8 => (f_X2_hearAll a1 (a4 + (gI u_8 a2 1)) u_8).bind fun u_10 => (f_X1_takeOut a2 (gI u_10 35 3) u_10).bind fun u_12 => gm_let (sI u_12 a2 2 ((gI u_12 a2 2) ||| (gI u_12 35 3))) fun u_14 => gm_let (sI u_14 a2 1 (0 : Int32)) fun u_15 => (f_X1_countDay a2 u_15).bind fun u_16 => some (gI u_16 35 3, u_16)
set_option maxRecDepth 100000 in
set_option maxHeartbeats 4000000 in
theorem ok_X2_beginYear (l : Launch) (Z : gm_Z) (a1 : Nat) (a2 : Nat) (a3 : Int32) (a4 : Int32) (a5 : Int32) (u : gm_M) (h1 : isRealm a1 = true) (h2 : isCourt a2 = true) (r : Int32) (u' : gm_M) (hf : f_X2_beginYear a1 a2 a3 a4 a5 u = some (r, u')) : gm_Met l GC Z yX2_beginYear cX2_beginYear 6 (some .int) ({ frames := 4, cells := 0, slots := 0, locals := 104 }) [rv Z 35, rv Z a1, rv Z a2, .int a3, .int a4, .int a5] u (some (.int r)) u' := by
  unfold f_X2_beginYear at hf
  refine gm_ofW (by decide +kernel) (by simp [lg_sl, gm_cat, gm_catI, gm_catJ]) ?_
  intro p e s m args below meth c A ls Q R hRf hRl C E hl hw
  obtain ⟨hx, hb, -⟩ := id C
  have hl : lv_has ls 6 [(0, rv Z 35), (1, rv Z a1), (2, rv Z a2), (3, .int a3), (4, .int a4), (5, .int a5)] := by simpa [lv_args, gm_cat, gm_catI, gm_catJ] using hl
  obtain ⟨k_1_0, k_1_1, k_1_2, k_1_3, k_1_4, k_1_5, k_1_6, k_1_7, k_1_8, k_1_9, k_1_10, k_1_11⟩ := fc_Realm h1
  obtain ⟨k_2_0, k_2_1, k_2_2, k_2_3, k_2_4, k_2_5, k_2_6⟩ := fc_Court h2
  refine gm_aload_n (G := GC) (r := a2) C k_2_0 dX2_beginYear_0 rfl (lv_at hl 2 rfl) ?_
  refine lv_iload_n hx hb dX2_beginYear_1 rfl (lv_at hl 3 rfl) ?_
  refine gm_putI (G := GC) (u := u) (r := a2) (ci := 0) (k := 0) (v := a3) C hw k_2_0 fl_X2_29 fp_0_0 dX2_beginYear_2 rfl (fun H locs hw => ?_)
  obtain ⟨u_3, e_u_3, hf⟩ := gm_le hf
  rw [← e_u_3] at hw
  refine gm_aload_n (G := GC) (r := a2) C k_2_0 dX2_beginYear_5 rfl (lv_at hl 2 rfl) ?_
  refine gm_aload_n (G := GC) (r := a1) C k_1_0 dX2_beginYear_6 rfl (lv_at hl 1 rfl) ?_
  refine lv_iload_n hx hb dX2_beginYear_7 rfl (lv_at hl 3 rfl) ?_
  obtain ⟨r_4, hc_5, hf⟩ := gm_bnd hf
  refine gm_callV (G := GC) (u := u_3) (u' := u_3) (r := a1) (ci := 4) (As := [.int a3]) (rest := [rv Z a2]) (res := (some (.int r_4))) C hw hl (ok_X5_deadBits l Z a1 a3 u_3 h1 r_4 hc_5) cw_X2_56 im_X5_deadBits rfl se_X5_deadBits k_1_0 rfl rfl ⟨Nat.le_trans (Nat.le_of_ble_eq_true rfl) hRf, Nat.le_trans (Nat.le_of_ble_eq_true rfl) hRl⟩ rfl rfl (by simp [gm_cat, gm_catI, gm_catJ]) dX2_beginYear_8 (fun H locs hw => ?_)
  obtain ⟨u_6, hc_7, hf⟩ := gm_bnd hf
  refine gm_callV (G := GC) (u := u_3) (u' := u_6) (r := a2) (ci := 0) (As := [.int r_4]) (rest := []) (res := none) C hw hl (ok_X1_takeOut l Z a2 r_4 u_3 h2 u_6 hc_7) cw_X2_59 im_X1_takeOut rfl se_X1_takeOut k_2_0 rfl rfl ⟨Nat.le_trans (Nat.le_of_ble_eq_true rfl) hRf, Nat.le_trans (Nat.le_of_ble_eq_true rfl) hRl⟩ rfl rfl (Nat.le_of_ble_eq_true rfl) dX2_beginYear_11 (fun H locs hw => ?_)
  refine lv_iload hx hb dX2_beginYear_14 (lv_at hl 5 rfl) ?_
  refine lv_if_ne (tgt := 21) hx hb dX2_beginYear_16 (by decide) (fun hc => ?_) (fun hc => ?_)
  · replace hf := (if_neg hc).symm.trans hf
    refine gm_aload_n (G := GC) (r := 35) C rfl dX2_beginYear_21 rfl (lv_at hl 0 rfl) ?_
    refine gm_aload_n (G := GC) (r := a1) C k_1_0 dX2_beginYear_22 rfl (lv_at hl 1 rfl) ?_
    refine gm_aload_n (G := GC) (r := a2) C k_2_0 dX2_beginYear_23 rfl (lv_at hl 2 rfl) ?_
    obtain ⟨u_8, hc_9, hf⟩ := gm_bnd hf
    refine gm_callV (G := GC) (u := u_6) (u' := u_8) (r := 35) (ci := 1) (As := [rv Z a1, rv Z a2]) (rest := []) (res := none) C hw hl (ok_X2_putInOrder l Z a1 a2 u_6 h1 h2 u_8 hc_9) cw_X2_63 im_X2_putInOrder rfl se_X2_putInOrder rfl rfl rfl ⟨Nat.le_trans (Nat.le_of_ble_eq_true rfl) hRf, Nat.le_trans (Nat.le_of_ble_eq_true rfl) hRl⟩ rfl rfl (Nat.le_of_ble_eq_true rfl) dX2_beginYear_24 (fun H locs hw => ?_)
    refine gm_aload_n (G := GC) (r := 35) C rfl dX2_beginYear_27 rfl (lv_at hl 0 rfl) ?_
    refine gm_aload_n (G := GC) (r := a1) C k_1_0 dX2_beginYear_28 rfl (lv_at hl 1 rfl) ?_
    refine lv_iload hx hb dX2_beginYear_29 (lv_at hl 4 rfl) ?_
    refine gm_aload_n (G := GC) (r := a2) C k_2_0 dX2_beginYear_31 rfl (lv_at hl 2 rfl) ?_
    refine gm_getI (G := GC) (u := u_8) (r := a2) (ci := 0) (k := 1) C hw k_2_0 fl_X2_67 dX2_beginYear_32 rfl ?_
    refine lv_iadd hx hb dX2_beginYear_35 ?_
    obtain ⟨u_10, hc_11, hf⟩ := gm_bnd hf
    refine gm_callV (G := GC) (u := u_8) (u' := u_10) (r := 35) (ci := 1) (As := [rv Z a1, .int (a4 + (gI u_8 a2 1))]) (rest := []) (res := none) C hw hl (ok_X2_hearAll l Z a1 (a4 + (gI u_8 a2 1)) u_8 h1 u_10 hc_11) cw_X2_70 im_X2_hearAll rfl se_X2_hearAll rfl rfl rfl ⟨Nat.le_trans (Nat.le_of_ble_eq_true rfl) hRf, Nat.le_trans (Nat.le_of_ble_eq_true rfl) hRl⟩ rfl rfl (Nat.le_of_ble_eq_true rfl) dX2_beginYear_36 (fun H locs hw => ?_)
    refine gm_aload_n (G := GC) (r := a2) C k_2_0 dX2_beginYear_39 rfl (lv_at hl 2 rfl) ?_
    refine gm_aload_n (G := GC) (r := 35) C rfl dX2_beginYear_40 rfl (lv_at hl 0 rfl) ?_
    refine gm_getI (G := GC) (u := u_10) (r := 35) (ci := 1) (k := 3) C hw rfl fl_X2_23 dX2_beginYear_41 rfl ?_
    obtain ⟨u_12, hc_13, hf⟩ := gm_bnd hf
    refine gm_callV (G := GC) (u := u_10) (u' := u_12) (r := a2) (ci := 0) (As := [.int (gI u_10 35 3)]) (rest := []) (res := none) C hw hl (ok_X1_takeOut l Z a2 (gI u_10 35 3) u_10 h2 u_12 hc_13) cw_X2_59 im_X1_takeOut rfl se_X1_takeOut k_2_0 rfl rfl ⟨Nat.le_trans (Nat.le_of_ble_eq_true rfl) hRf, Nat.le_trans (Nat.le_of_ble_eq_true rfl) hRl⟩ rfl rfl (Nat.le_of_ble_eq_true rfl) dX2_beginYear_44 (fun H locs hw => ?_)
    refine gm_aload_n (G := GC) (r := a2) C k_2_0 dX2_beginYear_47 rfl (lv_at hl 2 rfl) ?_
    refine lv_dup hx hb dX2_beginYear_48 (gm_cat _ _) ?_
    refine gm_getI (G := GC) (u := u_12) (r := a2) (ci := 0) (k := 2) C hw k_2_0 fl_X2_74 dX2_beginYear_49 rfl ?_
    refine gm_aload_n (G := GC) (r := 35) C rfl dX2_beginYear_52 rfl (lv_at hl 0 rfl) ?_
    refine gm_getI (G := GC) (u := u_12) (r := 35) (ci := 1) (k := 3) C hw rfl fl_X2_23 dX2_beginYear_53 rfl ?_
    refine lv_ior hx hb dX2_beginYear_56 ?_
    refine gm_putI (G := GC) (u := u_12) (r := a2) (ci := 0) (k := 2) (v := (gI u_12 a2 2) ||| (gI u_12 35 3)) C hw k_2_0 fl_X2_74 fp_0_2 dX2_beginYear_57 rfl (fun H locs hw => ?_)
    obtain ⟨u_14, e_u_14, hf⟩ := gm_le hf
    rw [← e_u_14] at hw
    refine gm_aload_n (G := GC) (r := a2) C k_2_0 dX2_beginYear_60 rfl (lv_at hl 2 rfl) ?_
    refine lv_iconst (v := 0) hx hb dX2_beginYear_61 (by decide) ?_
    refine gm_putI (G := GC) (u := u_14) (r := a2) (ci := 0) (k := 1) (v := (0 : Int32)) C hw k_2_0 fl_X2_67 fp_0_1 dX2_beginYear_62 rfl (fun H locs hw => ?_)
    obtain ⟨u_15, e_u_15, hf⟩ := gm_le hf
    rw [← e_u_15] at hw
    refine gm_aload_n (G := GC) (r := a2) C k_2_0 dX2_beginYear_65 rfl (lv_at hl 2 rfl) ?_
    obtain ⟨u_16, hc_17, hf⟩ := gm_bnd hf
    refine gm_callV (G := GC) (u := u_15) (u' := u_16) (r := a2) (ci := 0) (As := []) (rest := []) (res := none) C hw hl (ok_X1_countDay l Z a2 u_15 h2 u_16 hc_17) cw_X2_75 im_X1_countDay rfl se_X1_countDay k_2_0 rfl rfl ⟨Nat.le_trans (Nat.le_of_ble_eq_true rfl) hRf, Nat.le_trans (Nat.le_of_ble_eq_true rfl) hRl⟩ rfl rfl (Nat.le_of_ble_eq_true rfl) dX2_beginYear_66 (fun H locs hw => ?_)
    refine gm_aload_n (G := GC) (r := 35) C rfl dX2_beginYear_69 rfl (lv_at hl 0 rfl) ?_
    refine gm_getI (G := GC) (u := u_16) (r := 35) (ci := 1) (k := 3) C hw rfl fl_X2_23 dX2_beginYear_70 rfl ?_
    exact gm_iret C E hw rfl ((congrArg (fun z => some (Value.int z)) (gm_sp hf).1).symm) (gm_sp hf).2.symm dX2_beginYear_73
  · replace hf := (if_pos hc).symm.trans hf
    refine lv_iconst (v := 0) hx hb dX2_beginYear_19 (by decide) ?_
    exact gm_iret C E hw rfl ((congrArg (fun z => some (Value.int z)) (gm_sp hf).1).symm) (gm_sp hf).2.symm dX2_beginYear_20
/-! LeapCapital$Hearing.passYear -/
def j_X2_passYear_25 (a1 : Nat) (a2 : Nat) (a3 : Int32) (v4_4 : Int32) (t_5 : Int32) (u_3 : gm_M) : Option (Int32 × gm_M) := (f_X2_beginYear a1 a2 v4_4 (gI u_3 a1 6) t_5 u_3).bind fun o => match o with | (r_6, u_7) => some (r_6, u_7)
def f_X2_passYear (a1 : Nat) (a2 : Nat) (a3 : Int32) (u : gm_M) : Option (Int32 × gm_M) := gm_let ((gI u a2 0) + (1 : Int32)) fun v4_10 => if a3 = 0 then gm_let (f_X0_isLeap v4_10) fun r_11 => j_X2_passYear_25 a1 a2 a3 v4_10 r_11 u else gm_let (f_X0_isJulianLeap v4_10) fun r_12 => j_X2_passYear_25 a1 a2 a3 v4_10 r_12 u
set_option maxRecDepth 100000 in
set_option maxHeartbeats 4000000 in
theorem ok_X2_passYear (l : Launch) (Z : gm_Z) (a1 : Nat) (a2 : Nat) (a3 : Int32) (u : gm_M) (h1 : isRealm a1 = true) (h2 : isCourt a2 = true) (r : Int32) (u' : gm_M) (hf : f_X2_passYear a1 a2 a3 u = some (r, u')) : gm_Met l GC Z yX2_passYear cX2_passYear 6 (some .int) ({ frames := 5, cells := 0, slots := 0, locals := 129 }) [rv Z 35, rv Z a1, rv Z a2, .int a3] u (some (.int r)) u' := by
  unfold f_X2_passYear at hf
  refine gm_ofW (by decide +kernel) (by simp [lg_sl, gm_cat, gm_catI, gm_catJ]) ?_
  intro p e s m args below meth c A ls Q R hRf hRl C E hl hw
  obtain ⟨hx, hb, -⟩ := id C
  have hl : lv_has ls 6 [(0, rv Z 35), (1, rv Z a1), (2, rv Z a2), (3, .int a3)] := by simpa [lv_args, gm_cat, gm_catI, gm_catJ] using hl
  obtain ⟨k_1_0, k_1_1, k_1_2, k_1_3, k_1_4, k_1_5, k_1_6, k_1_7, k_1_8, k_1_9, k_1_10, k_1_11⟩ := fc_Realm h1
  obtain ⟨k_2_0, k_2_1, k_2_2, k_2_3, k_2_4, k_2_5, k_2_6⟩ := fc_Court h2
  have J25 : ∀ (v4_4 : Int32) (t_5 : Int32) (u_3 : gm_M) (H : Heap) (locs : List Loc) (ls : Array Slot), j_X2_passYear_25 a1 a2 a3 v4_4 t_5 u_3 = some (r, u') → lv_has ls 6 [(0, rv Z 35), (1, rv Z a1), (2, rv Z a2), (4, .int v4_4)] → wd GC Z u_3 A s.heap H locs → W p l e R s m args below meth c H locs 0 0 Q (F0 m 25 ls [.int t_5]) := by
    intro v4_4 t_5 u_3 H locs ls hf  hl hw
    unfold j_X2_passYear_25 at hf
    refine lv_istore (i := 5) (lv' := [(5, .int t_5), (0, rv Z 35), (1, rv Z a1), (2, rv Z a2), (4, .int v4_4)]) hx hb dX2_passYear_25 hl (by decide) rfl (fun ls hl => ?_)
    refine gm_aload_n (G := GC) (r := 35) C rfl dX2_passYear_27 rfl (lv_at hl 1 rfl) ?_
    refine gm_aload_n (G := GC) (r := a1) C k_1_0 dX2_passYear_28 rfl (lv_at hl 2 rfl) ?_
    refine gm_aload_n (G := GC) (r := a2) C k_2_0 dX2_passYear_29 rfl (lv_at hl 3 rfl) ?_
    refine lv_iload hx hb dX2_passYear_30 (lv_at hl 4 rfl) ?_
    refine gm_aload_n (G := GC) (r := a1) C k_1_0 dX2_passYear_32 rfl (lv_at hl 2 rfl) ?_
    refine gm_getI (G := GC) (u := u_3) (r := a1) (ci := 4) (k := 6) C hw k_1_0 fl_X2_43 dX2_passYear_33 rfl ?_
    refine lv_iload hx hb dX2_passYear_36 (lv_at hl 0 rfl) ?_
    obtain ⟨⟨r_6, u_7⟩, hc_8, hf⟩ := gm_bnd hf
    try dsimp only at hf
    refine gm_callV (G := GC) (u := u_3) (u' := u_7) (r := 35) (ci := 1) (As := [rv Z a1, rv Z a2, .int v4_4, .int (gI u_3 a1 6), .int t_5]) (rest := []) (res := (some (.int r_6))) C hw hl (ok_X2_beginYear l Z a1 a2 v4_4 (gI u_3 a1 6) t_5 u_3 h1 h2 r_6 u_7 hc_8) cw_X2_48 im_X2_beginYear rfl se_X2_beginYear rfl rfl rfl ⟨Nat.le_trans (Nat.le_of_ble_eq_true rfl) hRf, Nat.le_trans (Nat.le_of_ble_eq_true rfl) hRl⟩ rfl rfl (Nat.le_of_ble_eq_true rfl) dX2_passYear_38 (fun H locs hw => ?_)
    exact gm_iret C E hw rfl ((congrArg (fun z => some (Value.int z)) (gm_sp hf).1).symm) (gm_sp hf).2.symm dX2_passYear_41
  refine gm_aload_n (G := GC) (r := a2) C k_2_0 dX2_passYear_0 rfl (lv_at hl 2 rfl) ?_
  refine gm_getI (G := GC) (u := u) (r := a2) (ci := 0) (k := 0) C hw k_2_0 fl_X2_29 dX2_passYear_1 rfl ?_
  refine lv_iconst (v := 1) hx hb dX2_passYear_4 (by decide) ?_
  refine lv_iadd hx hb dX2_passYear_5 ?_
  obtain ⟨v4_10, e_v4_10, hf⟩ := gm_le hf
  refine gm_topI e_v4_10 ?_
  refine lv_istore (i := 4) (lv' := [(4, .int v4_10), (0, rv Z 35), (1, rv Z a1), (2, rv Z a2), (3, .int a3)]) hx hb dX2_passYear_6 hl (by decide) rfl (fun ls hl => ?_)
  refine lv_iload_n hx hb dX2_passYear_8 rfl (lv_at hl 4 rfl) ?_
  refine lv_if_eq (tgt := 20) hx hb dX2_passYear_9 (by decide) (fun hc => ?_) (fun hc => ?_)
  · replace hf := (if_pos hc).symm.trans hf
    refine lv_iload hx hb dX2_passYear_20 (lv_at hl 0 rfl) ?_
    obtain ⟨r_11, e_r_11, hf⟩ := gm_le hf
    refine gm_callS (G := GC) (u := u) (u' := u) (As := [.int v4_10]) (rest := []) (res := (some (.int (f_X0_isLeap v4_10)))) C hw hl (ok_X0_isLeap l Z v4_10 u) cw_X2_40 st_X0_isLeap rfl rfl ⟨Nat.le_trans (Nat.le_of_ble_eq_true rfl) hRf, Nat.le_trans (Nat.le_of_ble_eq_true rfl) hRl⟩ rfl rfl (Nat.le_of_ble_eq_true rfl) dX2_passYear_22 (fun H locs hw => ?_)
    refine gm_topI e_r_11 ?_
    exact J25 v4_10 r_11 u _ _ _ hf  (lv_sub hl [1, 2, 3, 0] rfl) hw
  · replace hf := (if_neg hc).symm.trans hf
    refine lv_iload hx hb dX2_passYear_12 (lv_at hl 0 rfl) ?_
    obtain ⟨r_12, e_r_12, hf⟩ := gm_le hf
    refine gm_callS (G := GC) (u := u) (u' := u) (As := [.int v4_10]) (rest := []) (res := (some (.int (f_X0_isJulianLeap v4_10)))) C hw hl (ok_X0_isJulianLeap l Z v4_10 u) cw_X2_34 st_X0_isJulianLeap rfl rfl ⟨Nat.le_trans (Nat.le_of_ble_eq_true rfl) hRf, Nat.le_trans (Nat.le_of_ble_eq_true rfl) hRl⟩ rfl rfl (Nat.le_of_ble_eq_true rfl) dX2_passYear_14 (fun H locs hw => ?_)
    refine gm_topI e_r_12 ?_
    refine lv_goto (tgt := 25) hx hb dX2_passYear_17 (by decide) ?_
    exact J25 v4_10 r_12 u _ _ _ hf  (lv_sub hl [1, 2, 3, 0] rfl) hw
/-! LeapCapital$Hearing.passToDay -/
def f_X2_passToDay (a1 : Nat) (a2 : Nat) (a3 : Int32) (u : gm_M) : Option (Int32 × gm_M) := (f_X0_leapBehind (gI u a2 0)).bind fun r_3 => (f_X2_beginYear a1 a2 r_3 a3 (1 : Int32) u).bind fun o => match o with | (r_5, u_6) => some (r_5, u_6)
set_option maxRecDepth 100000 in
set_option maxHeartbeats 4000000 in
theorem ok_X2_passToDay (l : Launch) (Z : gm_Z) (a1 : Nat) (a2 : Nat) (a3 : Int32) (u : gm_M) (h1 : isRealm a1 = true) (h2 : isCourt a2 = true) (r : Int32) (u' : gm_M) (hf : f_X2_passToDay a1 a2 a3 u = some (r, u')) : gm_Met l GC Z yX2_passToDay cX2_passToDay 4 (some .int) ({ frames := 5, cells := 0, slots := 0, locals := 129 }) [rv Z 35, rv Z a1, rv Z a2, .int a3] u (some (.int r)) u' := by
  unfold f_X2_passToDay at hf
  refine gm_ofW (by decide +kernel) (by simp [lg_sl, gm_cat, gm_catI, gm_catJ]) ?_
  intro p e s m args below meth c A ls Q R hRf hRl C E hl hw
  obtain ⟨hx, hb, -⟩ := id C
  have hl : lv_has ls 4 [(0, rv Z 35), (1, rv Z a1), (2, rv Z a2), (3, .int a3)] := by simpa [lv_args, gm_cat, gm_catI, gm_catJ] using hl
  obtain ⟨k_1_0, k_1_1, k_1_2, k_1_3, k_1_4, k_1_5, k_1_6, k_1_7, k_1_8, k_1_9, k_1_10, k_1_11⟩ := fc_Realm h1
  obtain ⟨k_2_0, k_2_1, k_2_2, k_2_3, k_2_4, k_2_5, k_2_6⟩ := fc_Court h2
  refine gm_aload_n (G := GC) (r := 35) C rfl dX2_passToDay_0 rfl (lv_at hl 0 rfl) ?_
  refine gm_aload_n (G := GC) (r := a1) C k_1_0 dX2_passToDay_1 rfl (lv_at hl 1 rfl) ?_
  refine gm_aload_n (G := GC) (r := a2) C k_2_0 dX2_passToDay_2 rfl (lv_at hl 2 rfl) ?_
  refine gm_aload_n (G := GC) (r := a2) C k_2_0 dX2_passToDay_3 rfl (lv_at hl 2 rfl) ?_
  refine gm_getI (G := GC) (u := u) (r := a2) (ci := 0) (k := 0) C hw k_2_0 fl_X2_29 dX2_passToDay_4 rfl ?_
  obtain ⟨r_3, hc_4, hf⟩ := gm_bnd hf
  refine gm_callS (G := GC) (u := u) (u' := u) (As := [.int (gI u a2 0)]) (rest := [rv Z a2, rv Z a1, rv Z 35]) (res := (some (.int r_3))) C hw hl (ok_X0_leapBehind l Z (gI u a2 0) u r_3 hc_4) cw_X2_52 st_X0_leapBehind rfl rfl ⟨Nat.le_trans (Nat.le_of_ble_eq_true rfl) hRf, Nat.le_trans (Nat.le_of_ble_eq_true rfl) hRl⟩ rfl rfl (by simp [gm_cat, gm_catI, gm_catJ]) dX2_passToDay_7 (fun H locs hw => ?_)
  refine lv_iload_n hx hb dX2_passToDay_10 rfl (lv_at hl 3 rfl) ?_
  refine lv_iconst (v := 1) hx hb dX2_passToDay_11 (by decide) ?_
  obtain ⟨⟨r_5, u_6⟩, hc_7, hf⟩ := gm_bnd hf
  try dsimp only at hf
  refine gm_callV (G := GC) (u := u) (u' := u_6) (r := 35) (ci := 1) (As := [rv Z a1, rv Z a2, .int r_3, .int a3, .int (1 : Int32)]) (rest := []) (res := (some (.int r_5))) C hw hl (ok_X2_beginYear l Z a1 a2 r_3 a3 (1 : Int32) u h1 h2 r_5 u_6 hc_7) cw_X2_48 im_X2_beginYear rfl se_X2_beginYear rfl rfl rfl ⟨Nat.le_trans (Nat.le_of_ble_eq_true rfl) hRf, Nat.le_trans (Nat.le_of_ble_eq_true rfl) hRl⟩ rfl rfl (Nat.le_of_ble_eq_true rfl) dX2_passToDay_12 (fun H locs hw => ?_)
  exact gm_iret C E hw rfl ((congrArg (fun z => some (Value.int z)) (gm_sp hf).1).symm) (gm_sp hf).2.symm dX2_passToDay_15
/-! LeapCapital$Hearing.calledAt -/
def f_X2_calledAt (a1 : Int32) (u : gm_M) : Option Int32 := if a1 < 0 then some (-1 : Int32) else if (gI u 35 2) ≤ a1 then some (-1 : Int32) else if (6 : Int32) ≤ a1 then some (-1 : Int32) else if ib a1 6 = true then some (gI u 36 (ix a1)) else none
set_option maxRecDepth 100000 in
set_option maxHeartbeats 4000000 in
theorem ok_X2_calledAt (l : Launch) (Z : gm_Z) (a1 : Int32) (u : gm_M)  (r : Int32) (hf : f_X2_calledAt a1 u = some r) : gm_Met l GC Z yX2_calledAt cX2_calledAt 2 (some .int) ({ frames := 0, cells := 0, slots := 0, locals := 0 }) [rv Z 35, .int a1] u (some (.int r)) u := by
  unfold f_X2_calledAt at hf
  refine gm_ofW (by decide +kernel) (Nat.le_of_ble_eq_true rfl) ?_
  intro p e s m args below meth c A ls Q R hRf hRl C E hl hw
  obtain ⟨hx, hb, -⟩ := id C
  have hl : lv_has ls 2 [(0, rv Z 35), (1, .int a1)] := hl
  refine lv_iload_n hx hb dX2_calledAt_0 rfl (lv_at hl 1 rfl) ?_
  refine lv_if_lt (tgt := 30) hx hb dX2_calledAt_1 (by decide) (fun hc => ?_) (fun hc => ?_)
  · replace hf := (if_pos hc).symm.trans hf
    refine lv_iconst (v := -1) hx hb dX2_calledAt_30 (by decide) ?_
    exact gm_iret C E hw rfl ((congrArg (fun z => some (Value.int z)) (Option.some.inj hf)).symm) rfl dX2_calledAt_31
  · replace hf := (if_neg hc).symm.trans hf
    refine lv_iload_n hx hb dX2_calledAt_4 rfl (lv_at hl 1 rfl) ?_
    refine gm_aload_n (G := GC) (r := 35) C rfl dX2_calledAt_5 rfl (lv_at hl 0 rfl) ?_
    refine gm_getI (G := GC) (u := u) (r := 35) (ci := 1) (k := 2) C hw rfl fl_X2_19 dX2_calledAt_6 rfl ?_
    refine lv_icmp_ge (tgt := 30) hx hb dX2_calledAt_9 (by decide) (fun hc => ?_) (fun hc => ?_)
    · replace hf := (if_pos hc).symm.trans hf
      refine lv_iconst (v := -1) hx hb dX2_calledAt_30 (by decide) ?_
      exact gm_iret C E hw rfl ((congrArg (fun z => some (Value.int z)) (Option.some.inj hf)).symm) rfl dX2_calledAt_31
    · replace hf := (if_neg hc).symm.trans hf
      refine lv_iload_n hx hb dX2_calledAt_12 rfl (lv_at hl 1 rfl) ?_
      refine gm_aload_n (G := GC) (r := 35) C rfl dX2_calledAt_13 rfl (lv_at hl 0 rfl) ?_
      refine gm_getS (G := GC) (u := u) (r := 35) (ci := 1) (k := 0) C hw rfl fl_X2_9 dX2_calledAt_14 rfl (q := 36) rfl ?_
      refine gm_alen (G := GC) (u := u) (r := 36) (t := 0) (n := 6) (v := 6) C hw rfl (by decide) (by decide) dX2_calledAt_17 ?_
      refine lv_icmp_ge (tgt := 30) hx hb dX2_calledAt_18 (by decide) (fun hc => ?_) (fun hc => ?_)
      · replace hf := (if_pos hc).symm.trans hf
        refine lv_iconst (v := -1) hx hb dX2_calledAt_30 (by decide) ?_
        exact gm_iret C E hw rfl ((congrArg (fun z => some (Value.int z)) (Option.some.inj hf)).symm) rfl dX2_calledAt_31
      · replace hf := (if_neg hc).symm.trans hf
        refine gm_aload_n (G := GC) (r := 35) C rfl dX2_calledAt_21 rfl (lv_at hl 0 rfl) ?_
        refine gm_getS (G := GC) (u := u) (r := 35) (ci := 1) (k := 0) C hw rfl fl_X2_9 dX2_calledAt_22 rfl (q := 36) rfl ?_
        refine lv_iload_n hx hb dX2_calledAt_25 rfl (lv_at hl 1 rfl) ?_
        obtain ⟨g_1, hf⟩ := gm_grd hf
        refine gm_iald (G := GC) (u := u) (r := 36) (n := 6) (i := a1) C hw rfl g_1 rfl dX2_calledAt_26 ?_
        refine lv_goto (tgt := 31) hx hb dX2_calledAt_27 (by decide) ?_
        exact gm_iret C E hw rfl ((congrArg (fun z => some (Value.int z)) (Option.some.inj hf)).symm) rfl dX2_calledAt_31
/-! LeapCapital$Law.clear -/
def f_X3_clear (a0 : Nat) (u : gm_M) : Option gm_M := gm_let (sI u a0 1 (0 : Int32)) fun u_2 => some u_2
set_option maxRecDepth 100000 in
set_option maxHeartbeats 4000000 in
theorem ok_X3_clear (l : Launch) (Z : gm_Z) (a0 : Nat) (u : gm_M) (h0 : isLaw a0 = true) (u' : gm_M) (hf : f_X3_clear a0 u = some (u')) : gm_Met l GC Z yX3_clear cX3_clear 1 none ({ frames := 0, cells := 0, slots := 0, locals := 0 }) [rv Z a0] u none u' := by
  unfold f_X3_clear at hf
  refine gm_ofW (by decide +kernel) (by simp [lg_sl, gm_cat, gm_catI, gm_catJ]) ?_
  intro p e s m args below meth c A ls Q R hRf hRl C E hl hw
  obtain ⟨hx, hb, -⟩ := id C
  have hl : lv_has ls 1 [(0, rv Z a0)] := by simpa [lv_args, gm_cat, gm_catI, gm_catJ] using hl
  obtain ⟨k_1_0, k_1_1, k_1_2, k_1_3, k_1_4⟩ := fc_Law h0
  refine gm_aload_n (G := GC) (r := a0) C k_1_0 dX3_clear_0 rfl (lv_at hl 0 rfl) ?_
  refine lv_iconst (v := 0) hx hb dX3_clear_1 (by decide) ?_
  refine gm_putI (G := GC) (u := u) (r := a0) (ci := 2) (k := 1) (v := (0 : Int32)) C hw k_1_0 fl_X3_15 fp_2_1 dX3_clear_2 rfl (fun H locs hw => ?_)
  obtain ⟨u_2, e_u_2, hf⟩ := gm_le hf
  rw [← e_u_2] at hw
  exact gm_vret C E hw rfl rfl (Option.some.inj hf).symm dX3_clear_5
/-! LeapCapital$Law.add -/
def f_X3_add (a0 : Nat) (a1 : Int32) (u : gm_M) : Option gm_M := if (gI u a0 1) < 0 then some u else if (1000 : Int32) ≤ (gI u a0 1) then some u else if ib (gI u a0 1) 1000 = true then gm_let (sI u (a0 + 1) (ix (gI u a0 1)) a1) fun u_3 => gm_let (sI u_3 a0 1 ((gI u_3 a0 1) + (1 : Int32))) fun u_4 => some u_4 else none
set_option maxRecDepth 100000 in
set_option maxHeartbeats 4000000 in
theorem ok_X3_add (l : Launch) (Z : gm_Z) (a0 : Nat) (a1 : Int32) (u : gm_M) (h0 : isLaw a0 = true) (u' : gm_M) (hf : f_X3_add a0 a1 u = some (u')) : gm_Met l GC Z yX3_add cX3_add 2 none ({ frames := 0, cells := 0, slots := 0, locals := 0 }) [rv Z a0, .int a1] u none u' := by
  unfold f_X3_add at hf
  refine gm_ofW (by decide +kernel) (by simp [lg_sl, gm_cat, gm_catI, gm_catJ]) ?_
  intro p e s m args below meth c A ls Q R hRf hRl C E hl hw
  obtain ⟨hx, hb, -⟩ := id C
  have hl : lv_has ls 2 [(0, rv Z a0), (1, .int a1)] := by simpa [lv_args, gm_cat, gm_catI, gm_catJ] using hl
  obtain ⟨k_1_0, k_1_1, k_1_2, k_1_3, k_1_4⟩ := fc_Law h0
  refine gm_aload_n (G := GC) (r := a0) C k_1_0 dX3_add_0 rfl (lv_at hl 0 rfl) ?_
  refine gm_getI (G := GC) (u := u) (r := a0) (ci := 2) (k := 1) C hw k_1_0 fl_X3_15 dX3_add_1 rfl ?_
  refine lv_if_lt (tgt := 39) hx hb dX3_add_4 (by decide) (fun hc => ?_) (fun hc => ?_)
  · replace hf := (if_pos hc).symm.trans hf
    exact gm_vret C E hw rfl rfl (Option.some.inj hf).symm dX3_add_39
  · replace hf := (if_neg hc).symm.trans hf
    refine gm_aload_n (G := GC) (r := a0) C k_1_0 dX3_add_7 rfl (lv_at hl 0 rfl) ?_
    refine gm_getI (G := GC) (u := u) (r := a0) (ci := 2) (k := 1) C hw k_1_0 fl_X3_15 dX3_add_8 rfl ?_
    refine gm_aload_n (G := GC) (r := a0) C k_1_0 dX3_add_11 rfl (lv_at hl 0 rfl) ?_
    refine gm_getS (G := GC) (u := u) (r := a0) (ci := 2) (k := 0) C hw k_1_0 fl_X3_9 dX3_add_12 rfl (q := a0 + 1) k_1_1 ?_
    refine gm_alen (G := GC) (u := u) (r := (a0 + 1)) (t := 0) (n := 1000) (v := 1000) C hw k_1_2 (by decide) (by decide) dX3_add_15 ?_
    refine lv_icmp_ge (tgt := 39) hx hb dX3_add_16 (by decide) (fun hc => ?_) (fun hc => ?_)
    · replace hf := (if_pos hc).symm.trans hf
      exact gm_vret C E hw rfl rfl (Option.some.inj hf).symm dX3_add_39
    · replace hf := (if_neg hc).symm.trans hf
      refine gm_aload_n (G := GC) (r := a0) C k_1_0 dX3_add_19 rfl (lv_at hl 0 rfl) ?_
      refine gm_getS (G := GC) (u := u) (r := a0) (ci := 2) (k := 0) C hw k_1_0 fl_X3_9 dX3_add_20 rfl (q := a0 + 1) k_1_1 ?_
      refine gm_aload_n (G := GC) (r := a0) C k_1_0 dX3_add_23 rfl (lv_at hl 0 rfl) ?_
      refine gm_getI (G := GC) (u := u) (r := a0) (ci := 2) (k := 1) C hw k_1_0 fl_X3_15 dX3_add_24 rfl ?_
      refine lv_iload_n hx hb dX3_add_27 rfl (lv_at hl 1 rfl) ?_
      obtain ⟨g_2, hf⟩ := gm_grd hf
      refine gm_iast (G := GC) (u := u) (r := (a0 + 1)) (n := 1000) (i := gI u a0 1) (x := a1) C hw k_1_2 g_2 rfl dX3_add_28 (fun H locs hw => ?_)
      obtain ⟨u_3, e_u_3, hf⟩ := gm_le hf
      rw [← e_u_3] at hw
      refine gm_aload_n (G := GC) (r := a0) C k_1_0 dX3_add_29 rfl (lv_at hl 0 rfl) ?_
      refine lv_dup hx hb dX3_add_30 (gm_cat _ _) ?_
      refine gm_getI (G := GC) (u := u_3) (r := a0) (ci := 2) (k := 1) C hw k_1_0 fl_X3_15 dX3_add_31 rfl ?_
      refine lv_iconst (v := 1) hx hb dX3_add_34 (by decide) ?_
      refine lv_iadd hx hb dX3_add_35 ?_
      refine gm_putI (G := GC) (u := u_3) (r := a0) (ci := 2) (k := 1) (v := (gI u_3 a0 1) + (1 : Int32)) C hw k_1_0 fl_X3_15 fp_2_1 dX3_add_36 rfl (fun H locs hw => ?_)
      obtain ⟨u_4, e_u_4, hf⟩ := gm_le hf
      rw [← e_u_4] at hw
      exact gm_vret C E hw rfl rfl (Option.some.inj hf).symm dX3_add_39
/-! LeapCapital$Reign.actOf -/
def f_X6_actOf (a0 : Nat) (a1 : Int32) (u : gm_M) : Option Int32 := if a1 < 0 then some (-1 : Int32) else if (40 : Int32) ≤ a1 then some (-1 : Int32) else if ib a1 40 = true then some (gI u (a0 + 1) (ix a1)) else none
set_option maxRecDepth 100000 in
set_option maxHeartbeats 4000000 in
theorem ok_X6_actOf (l : Launch) (Z : gm_Z) (a0 : Nat) (a1 : Int32) (u : gm_M) (h0 : isReign a0 = true) (r : Int32) (hf : f_X6_actOf a0 a1 u = some r) : gm_Met l GC Z yX6_actOf cX6_actOf 2 (some .int) ({ frames := 0, cells := 0, slots := 0, locals := 0 }) [rv Z a0, .int a1] u (some (.int r)) u := by
  unfold f_X6_actOf at hf
  refine gm_ofW (by decide +kernel) (by simp [lg_sl, gm_cat, gm_catI, gm_catJ]) ?_
  intro p e s m args below meth c A ls Q R hRf hRl C E hl hw
  obtain ⟨hx, hb, -⟩ := id C
  have hl : lv_has ls 2 [(0, rv Z a0), (1, .int a1)] := by simpa [lv_args, gm_cat, gm_catI, gm_catJ] using hl
  obtain ⟨k_1_0, k_1_1, k_1_2, k_1_3, k_1_4⟩ := fc_Reign h0
  refine lv_iload_n hx hb dX6_actOf_0 rfl (lv_at hl 1 rfl) ?_
  refine lv_if_lt (tgt := 22) hx hb dX6_actOf_1 (by decide) (fun hc => ?_) (fun hc => ?_)
  · replace hf := (if_pos hc).symm.trans hf
    refine lv_iconst (v := -1) hx hb dX6_actOf_22 (by decide) ?_
    exact gm_iret C E hw rfl ((congrArg (fun z => some (Value.int z)) (Option.some.inj hf)).symm) rfl dX6_actOf_23
  · replace hf := (if_neg hc).symm.trans hf
    refine lv_iload_n hx hb dX6_actOf_4 rfl (lv_at hl 1 rfl) ?_
    refine gm_aload_n (G := GC) (r := a0) C k_1_0 dX6_actOf_5 rfl (lv_at hl 0 rfl) ?_
    refine gm_getS (G := GC) (u := u) (r := a0) (ci := 5) (k := 0) C hw k_1_0 fl_X6_9 dX6_actOf_6 rfl (q := a0 + 1) k_1_1 ?_
    refine gm_alen (G := GC) (u := u) (r := (a0 + 1)) (t := 0) (n := 40) (v := 40) C hw k_1_2 (by decide) (by decide) dX6_actOf_9 ?_
    refine lv_icmp_ge (tgt := 22) hx hb dX6_actOf_10 (by decide) (fun hc => ?_) (fun hc => ?_)
    · replace hf := (if_pos hc).symm.trans hf
      refine lv_iconst (v := -1) hx hb dX6_actOf_22 (by decide) ?_
      exact gm_iret C E hw rfl ((congrArg (fun z => some (Value.int z)) (Option.some.inj hf)).symm) rfl dX6_actOf_23
    · replace hf := (if_neg hc).symm.trans hf
      refine gm_aload_n (G := GC) (r := a0) C k_1_0 dX6_actOf_13 rfl (lv_at hl 0 rfl) ?_
      refine gm_getS (G := GC) (u := u) (r := a0) (ci := 5) (k := 0) C hw k_1_0 fl_X6_9 dX6_actOf_14 rfl (q := a0 + 1) k_1_1 ?_
      refine lv_iload_n hx hb dX6_actOf_17 rfl (lv_at hl 1 rfl) ?_
      obtain ⟨g_2, hf⟩ := gm_grd hf
      refine gm_iald (G := GC) (u := u) (r := (a0 + 1)) (n := 40) (i := a1) C hw k_1_2 g_2 rfl dX6_actOf_18 ?_
      refine lv_goto (tgt := 23) hx hb dX6_actOf_19 (by decide) ?_
      exact gm_iret C E hw rfl ((congrArg (fun z => some (Value.int z)) (Option.some.inj hf)).symm) rfl dX6_actOf_23
/-! LeapCapital$Reign.partOf -/
def f_X6_partOf (a0 : Nat) (a1 : Int32) (u : gm_M) : Option Int32 := if a1 < 0 then some (-1 : Int32) else if (40 : Int32) ≤ a1 then some (-1 : Int32) else if ib a1 40 = true then some (gI u (a0 + 2) (ix a1)) else none
set_option maxRecDepth 100000 in
set_option maxHeartbeats 4000000 in
theorem ok_X6_partOf (l : Launch) (Z : gm_Z) (a0 : Nat) (a1 : Int32) (u : gm_M) (h0 : isReign a0 = true) (r : Int32) (hf : f_X6_partOf a0 a1 u = some r) : gm_Met l GC Z yX6_partOf cX6_partOf 2 (some .int) ({ frames := 0, cells := 0, slots := 0, locals := 0 }) [rv Z a0, .int a1] u (some (.int r)) u := by
  unfold f_X6_partOf at hf
  refine gm_ofW (by decide +kernel) (by simp [lg_sl, gm_cat, gm_catI, gm_catJ]) ?_
  intro p e s m args below meth c A ls Q R hRf hRl C E hl hw
  obtain ⟨hx, hb, -⟩ := id C
  have hl : lv_has ls 2 [(0, rv Z a0), (1, .int a1)] := by simpa [lv_args, gm_cat, gm_catI, gm_catJ] using hl
  obtain ⟨k_1_0, k_1_1, k_1_2, k_1_3, k_1_4⟩ := fc_Reign h0
  refine lv_iload_n hx hb dX6_partOf_0 rfl (lv_at hl 1 rfl) ?_
  refine lv_if_lt (tgt := 22) hx hb dX6_partOf_1 (by decide) (fun hc => ?_) (fun hc => ?_)
  · replace hf := (if_pos hc).symm.trans hf
    refine lv_iconst (v := -1) hx hb dX6_partOf_22 (by decide) ?_
    exact gm_iret C E hw rfl ((congrArg (fun z => some (Value.int z)) (Option.some.inj hf)).symm) rfl dX6_partOf_23
  · replace hf := (if_neg hc).symm.trans hf
    refine lv_iload_n hx hb dX6_partOf_4 rfl (lv_at hl 1 rfl) ?_
    refine gm_aload_n (G := GC) (r := a0) C k_1_0 dX6_partOf_5 rfl (lv_at hl 0 rfl) ?_
    refine gm_getS (G := GC) (u := u) (r := a0) (ci := 5) (k := 1) C hw k_1_0 fl_X6_15 dX6_partOf_6 rfl (q := a0 + 2) k_1_3 ?_
    refine gm_alen (G := GC) (u := u) (r := (a0 + 2)) (t := 0) (n := 40) (v := 40) C hw k_1_4 (by decide) (by decide) dX6_partOf_9 ?_
    refine lv_icmp_ge (tgt := 22) hx hb dX6_partOf_10 (by decide) (fun hc => ?_) (fun hc => ?_)
    · replace hf := (if_pos hc).symm.trans hf
      refine lv_iconst (v := -1) hx hb dX6_partOf_22 (by decide) ?_
      exact gm_iret C E hw rfl ((congrArg (fun z => some (Value.int z)) (Option.some.inj hf)).symm) rfl dX6_partOf_23
    · replace hf := (if_neg hc).symm.trans hf
      refine gm_aload_n (G := GC) (r := a0) C k_1_0 dX6_partOf_13 rfl (lv_at hl 0 rfl) ?_
      refine gm_getS (G := GC) (u := u) (r := a0) (ci := 5) (k := 1) C hw k_1_0 fl_X6_15 dX6_partOf_14 rfl (q := a0 + 2) k_1_3 ?_
      refine lv_iload_n hx hb dX6_partOf_17 rfl (lv_at hl 1 rfl) ?_
      obtain ⟨g_2, hf⟩ := gm_grd hf
      refine gm_iald (G := GC) (u := u) (r := (a0 + 2)) (n := 40) (i := a1) C hw k_1_4 g_2 rfl dX6_partOf_18 ?_
      refine lv_goto (tgt := 23) hx hb dX6_partOf_19 (by decide) ?_
      exact gm_iret C E hw rfl ((congrArg (fun z => some (Value.int z)) (Option.some.inj hf)).symm) rfl dX6_partOf_23
/-! LeapCapital$Reign.add -/
def f_X6_add (a0 : Nat) (a1 : Int32) (a2 : Int32) (u : gm_M) : Option gm_M := if (gI u a0 2) < 0 then some u else if (40 : Int32) ≤ (gI u a0 2) then some u else if ib (gI u a0 2) 40 = true then gm_let (sI u (a0 + 1) (ix (gI u a0 2)) a1) fun u_3 => if ib (gI u_3 a0 2) 40 = true then gm_let (sI u_3 (a0 + 2) (ix (gI u_3 a0 2)) a2) fun u_5 => gm_let (sI u_5 a0 2 ((gI u_5 a0 2) + (1 : Int32))) fun u_6 => some u_6 else none else none
set_option maxRecDepth 100000 in
set_option maxHeartbeats 4000000 in
theorem ok_X6_add (l : Launch) (Z : gm_Z) (a0 : Nat) (a1 : Int32) (a2 : Int32) (u : gm_M) (h0 : isReign a0 = true) (u' : gm_M) (hf : f_X6_add a0 a1 a2 u = some (u')) : gm_Met l GC Z yX6_add cX6_add 3 none ({ frames := 0, cells := 0, slots := 0, locals := 0 }) [rv Z a0, .int a1, .int a2] u none u' := by
  unfold f_X6_add at hf
  refine gm_ofW (by decide +kernel) (by simp [lg_sl, gm_cat, gm_catI, gm_catJ]) ?_
  intro p e s m args below meth c A ls Q R hRf hRl C E hl hw
  obtain ⟨hx, hb, -⟩ := id C
  have hl : lv_has ls 3 [(0, rv Z a0), (1, .int a1), (2, .int a2)] := by simpa [lv_args, gm_cat, gm_catI, gm_catJ] using hl
  obtain ⟨k_1_0, k_1_1, k_1_2, k_1_3, k_1_4⟩ := fc_Reign h0
  refine gm_aload_n (G := GC) (r := a0) C k_1_0 dX6_add_0 rfl (lv_at hl 0 rfl) ?_
  refine gm_getI (G := GC) (u := u) (r := a0) (ci := 5) (k := 2) C hw k_1_0 fl_X6_18 dX6_add_1 rfl ?_
  refine lv_if_lt (tgt := 46) hx hb dX6_add_4 (by decide) (fun hc => ?_) (fun hc => ?_)
  · replace hf := (if_pos hc).symm.trans hf
    exact gm_vret C E hw rfl rfl (Option.some.inj hf).symm dX6_add_46
  · replace hf := (if_neg hc).symm.trans hf
    refine gm_aload_n (G := GC) (r := a0) C k_1_0 dX6_add_7 rfl (lv_at hl 0 rfl) ?_
    refine gm_getI (G := GC) (u := u) (r := a0) (ci := 5) (k := 2) C hw k_1_0 fl_X6_18 dX6_add_8 rfl ?_
    refine lv_bipush (v := 40) hx hb dX6_add_11 (by decide) ?_
    refine lv_icmp_ge (tgt := 46) hx hb dX6_add_13 (by decide) (fun hc => ?_) (fun hc => ?_)
    · replace hf := (if_pos hc).symm.trans hf
      exact gm_vret C E hw rfl rfl (Option.some.inj hf).symm dX6_add_46
    · replace hf := (if_neg hc).symm.trans hf
      refine gm_aload_n (G := GC) (r := a0) C k_1_0 dX6_add_16 rfl (lv_at hl 0 rfl) ?_
      refine gm_getS (G := GC) (u := u) (r := a0) (ci := 5) (k := 0) C hw k_1_0 fl_X6_9 dX6_add_17 rfl (q := a0 + 1) k_1_1 ?_
      refine gm_aload_n (G := GC) (r := a0) C k_1_0 dX6_add_20 rfl (lv_at hl 0 rfl) ?_
      refine gm_getI (G := GC) (u := u) (r := a0) (ci := 5) (k := 2) C hw k_1_0 fl_X6_18 dX6_add_21 rfl ?_
      refine lv_iload_n hx hb dX6_add_24 rfl (lv_at hl 1 rfl) ?_
      obtain ⟨g_2, hf⟩ := gm_grd hf
      refine gm_iast (G := GC) (u := u) (r := (a0 + 1)) (n := 40) (i := gI u a0 2) (x := a1) C hw k_1_2 g_2 rfl dX6_add_25 (fun H locs hw => ?_)
      obtain ⟨u_3, e_u_3, hf⟩ := gm_le hf
      rw [← e_u_3] at hw
      refine gm_aload_n (G := GC) (r := a0) C k_1_0 dX6_add_26 rfl (lv_at hl 0 rfl) ?_
      refine gm_getS (G := GC) (u := u_3) (r := a0) (ci := 5) (k := 1) C hw k_1_0 fl_X6_15 dX6_add_27 rfl (q := a0 + 2) k_1_3 ?_
      refine gm_aload_n (G := GC) (r := a0) C k_1_0 dX6_add_30 rfl (lv_at hl 0 rfl) ?_
      refine gm_getI (G := GC) (u := u_3) (r := a0) (ci := 5) (k := 2) C hw k_1_0 fl_X6_18 dX6_add_31 rfl ?_
      refine lv_iload_n hx hb dX6_add_34 rfl (lv_at hl 2 rfl) ?_
      obtain ⟨g_4, hf⟩ := gm_grd hf
      refine gm_iast (G := GC) (u := u_3) (r := (a0 + 2)) (n := 40) (i := gI u_3 a0 2) (x := a2) C hw k_1_4 g_4 rfl dX6_add_35 (fun H locs hw => ?_)
      obtain ⟨u_5, e_u_5, hf⟩ := gm_le hf
      rw [← e_u_5] at hw
      refine gm_aload_n (G := GC) (r := a0) C k_1_0 dX6_add_36 rfl (lv_at hl 0 rfl) ?_
      refine lv_dup hx hb dX6_add_37 (gm_cat _ _) ?_
      refine gm_getI (G := GC) (u := u_5) (r := a0) (ci := 5) (k := 2) C hw k_1_0 fl_X6_18 dX6_add_38 rfl ?_
      refine lv_iconst (v := 1) hx hb dX6_add_41 (by decide) ?_
      refine lv_iadd hx hb dX6_add_42 ?_
      refine gm_putI (G := GC) (u := u_5) (r := a0) (ci := 5) (k := 2) (v := (gI u_5 a0 2) + (1 : Int32)) C hw k_1_0 fl_X6_18 fp_5_2 dX6_add_43 rfl (fun H locs hw => ?_)
      obtain ⟨u_6, e_u_6, hf⟩ := gm_le hf
      rw [← e_u_6] at hw
      exact gm_vret C E hw rfl rfl (Option.some.inj hf).symm dX6_add_46
/-! LeapCapital$Reign.copyFrom -/
def b_X6_copyFrom_7 (a0 : Nat) (a1 : Nat) : (Int32 × gm_M) → Option ((Int32 × gm_M) ⊕ gm_M) := fun x => match x with | (v2_5, u_4) => if (gI u_4 a1 2) ≤ v2_5 then some (.inr u_4) else (f_X6_actOf a1 v2_5 u_4).bind fun r_6 => (f_X6_partOf a1 v2_5 u_4).bind fun r_8 => (f_X6_add a0 r_6 r_8 u_4).bind fun u_10 => some (.inl (v2_5 + (1 : Int32), u_10))
def f_X6_copyFrom (a0 : Nat) (a1 : Nat) (u : gm_M) : Option gm_M := gm_let (sI u a0 2 (0 : Int32)) fun u_3 => ((gm_lp (b_X6_copyFrom_7 a0 a1) gm_FU ((0 : Int32), u_3)).bind fun o => match o with | u_12 => some u_12)
set_option maxRecDepth 100000 in
set_option maxHeartbeats 4000000 in
theorem ok_X6_copyFrom (l : Launch) (Z : gm_Z) (a0 : Nat) (a1 : Nat) (u : gm_M) (h0 : isReign a0 = true) (h1 : isReign a1 = true) (u' : gm_M) (hf : f_X6_copyFrom a0 a1 u = some (u')) : gm_Met l GC Z yX6_copyFrom cX6_copyFrom 3 none ({ frames := 1, cells := 0, slots := 0, locals := 22 }) [rv Z a0, rv Z a1] u none u' := by
  unfold f_X6_copyFrom at hf
  refine gm_ofW (by decide +kernel) (by simp [lg_sl, gm_cat, gm_catI, gm_catJ]) ?_
  intro p e s m args below meth c A ls Q R hRf hRl C E hl hw
  obtain ⟨hx, hb, -⟩ := id C
  have hl : lv_has ls 3 [(0, rv Z a0), (1, rv Z a1)] := by simpa [lv_args, gm_cat, gm_catI, gm_catJ] using hl
  obtain ⟨k_1_0, k_1_1, k_1_2, k_1_3, k_1_4⟩ := fc_Reign h0
  obtain ⟨k_2_0, k_2_1, k_2_2, k_2_3, k_2_4⟩ := fc_Reign h1
  refine gm_aload_n (G := GC) (r := a0) C k_1_0 dX6_copyFrom_0 rfl (lv_at hl 0 rfl) ?_
  refine lv_iconst (v := 0) hx hb dX6_copyFrom_1 (by decide) ?_
  refine gm_putI (G := GC) (u := u) (r := a0) (ci := 5) (k := 2) (v := (0 : Int32)) C hw k_1_0 fl_X6_18 fp_5_2 dX6_copyFrom_2 rfl (fun H locs hw => ?_)
  obtain ⟨u_3, e_u_3, hf⟩ := gm_le hf
  rw [← e_u_3] at hw
  refine lv_iconst (v := 0) hx hb dX6_copyFrom_5 (by decide) ?_
  refine lv_istore_n (i := 2) (lv' := [(2, .int (0 : Int32)), (0, rv Z a0), (1, rv Z a1)]) hx hb dX6_copyFrom_6 rfl hl (by decide) (by simp [gm_cat, gm_catI, gm_catJ]) (fun ls hl => ?_)
  obtain ⟨o1, hlp, hf⟩ := gm_bnd hf
  have L7_1 := gm_loop (b_X6_copyFrom_7 a0 a1) (fun x : (Int32 × gm_M) => ∀ (H : Heap) (locs : List Loc) (ls : Array Slot), lv_has ls 3 [(0, rv Z a0), (1, rv Z a1), (2, .int x.1)] → wd GC Z x.2 A s.heap H locs → W p l e R s m args below meth c H locs 0 0 Q (F0 m 7 ls [])) (fun z : gm_M => ∀ (H : Heap) (locs : List Loc) (ls : Array Slot), lv_has ls 3 [] → wd GC Z z A s.heap H locs → W p l e R s m args below meth c H locs 0 0 Q (F0 m 35 ls [])) (by
    intro x o1 hf Kc Kx
    obtain ⟨v2_5, u_4⟩ := x
    intro H locs ls hl hw
    unfold b_X6_copyFrom_7 at hf
    try dsimp only at hf
    refine lv_iload_n hx hb dX6_copyFrom_7 rfl (lv_at hl 2 rfl) ?_
    refine gm_aload_n (G := GC) (r := a1) C k_2_0 dX6_copyFrom_8 rfl (lv_at hl 1 rfl) ?_
    refine gm_getI (G := GC) (u := u_4) (r := a1) (ci := 5) (k := 2) C hw k_2_0 fl_X6_18 dX6_copyFrom_9 rfl ?_
    refine lv_icmp_ge (tgt := 35) hx hb dX6_copyFrom_12 (by decide) (fun hc => ?_) (fun hc => ?_)
    · replace hf := (if_pos hc).symm.trans hf
      exact Kx _ (gm_si hf) _ _ _ (lv_sub hl [] rfl) hw
    · replace hf := (if_neg hc).symm.trans hf
      refine gm_aload_n (G := GC) (r := a0) C k_1_0 dX6_copyFrom_15 rfl (lv_at hl 0 rfl) ?_
      refine gm_aload_n (G := GC) (r := a1) C k_2_0 dX6_copyFrom_16 rfl (lv_at hl 1 rfl) ?_
      refine lv_iload_n hx hb dX6_copyFrom_17 rfl (lv_at hl 2 rfl) ?_
      obtain ⟨r_6, hc_7, hf⟩ := gm_bnd hf
      refine gm_callV (G := GC) (u := u_4) (u' := u_4) (r := a1) (ci := 5) (As := [.int v2_5]) (rest := [rv Z a0]) (res := (some (.int r_6))) C hw hl (ok_X6_actOf l Z a1 v2_5 u_4 h1 r_6 hc_7) cw_X6_22 im_X6_actOf rfl se_X6_actOf k_2_0 rfl rfl ⟨Nat.le_trans (Nat.le_of_ble_eq_true rfl) hRf, Nat.le_trans (Nat.le_of_ble_eq_true rfl) hRl⟩ rfl rfl (by simp [gm_cat, gm_catI, gm_catJ]) dX6_copyFrom_18 (fun H locs hw => ?_)
      refine gm_aload_n (G := GC) (r := a1) C k_2_0 dX6_copyFrom_21 rfl (lv_at hl 1 rfl) ?_
      refine lv_iload_n hx hb dX6_copyFrom_22 rfl (lv_at hl 2 rfl) ?_
      obtain ⟨r_8, hc_9, hf⟩ := gm_bnd hf
      refine gm_callV (G := GC) (u := u_4) (u' := u_4) (r := a1) (ci := 5) (As := [.int v2_5]) (rest := [.int r_6, rv Z a0]) (res := (some (.int r_8))) C hw hl (ok_X6_partOf l Z a1 v2_5 u_4 h1 r_8 hc_9) cw_X6_26 im_X6_partOf rfl se_X6_partOf k_2_0 rfl rfl ⟨Nat.le_trans (Nat.le_of_ble_eq_true rfl) hRf, Nat.le_trans (Nat.le_of_ble_eq_true rfl) hRl⟩ rfl rfl (by simp [gm_cat, gm_catI, gm_catJ]) dX6_copyFrom_23 (fun H locs hw => ?_)
      obtain ⟨u_10, hc_11, hf⟩ := gm_bnd hf
      refine gm_callV (G := GC) (u := u_4) (u' := u_10) (r := a0) (ci := 5) (As := [.int r_6, .int r_8]) (rest := []) (res := none) C hw hl (ok_X6_add l Z a0 r_6 r_8 u_4 h0 u_10 hc_11) cw_X6_29 im_X6_add rfl se_X6_add k_1_0 rfl rfl ⟨Nat.le_trans (Nat.le_of_ble_eq_true rfl) hRf, Nat.le_trans (Nat.le_of_ble_eq_true rfl) hRl⟩ rfl rfl (Nat.le_of_ble_eq_true rfl) dX6_copyFrom_26 (fun H locs hw => ?_)
      refine lv_iinc (v := v2_5 + (1 : Int32)) (lv' := [(2, .int (v2_5 + (1 : Int32))), (0, rv Z a0), (1, rv Z a1)]) hx hb dX6_copyFrom_29 hl (k := 2) rfl rfl (by decide) (by simp [gm_cat, gm_catI, gm_catJ]) (fun ls hl => ?_)
      refine lv_goto (tgt := 7) hx hb dX6_copyFrom_32 (by decide) ?_
      exact Kc _ (gm_si hf) _ _ _ (lv_sub hl [1, 2, 0] rfl) hw)
  refine L7_1 _ _ _ hlp ?_ _ _ _ (lv_sub hl [1, 2, 0] rfl) hw
  obtain ⟨u_12, rfl⟩ : ∃ y, y = o1 := ⟨_, rfl⟩
  intro H locs ls hl hw
  try dsimp only at hf
  exact gm_vret C E hw rfl rfl (Option.some.inj hf).symm dX6_copyFrom_35
/-! LeapCapital$Sayings.copyFrom -/
def b_X7_copyFrom_10 (a0 : Nat) (a1 : Nat) : (Int32 × gm_M) → Option ((Int32 × gm_M) ⊕ gm_M) := fun x => match x with | (v2_5, u_4) => if (8 : Int32) ≤ v2_5 then some (.inr u_4) else if ib v2_5 8 = true then gm_let (sI u_4 (a0 + 1) (ix v2_5) (gI u_4 (a1 + 1) (ix v2_5))) fun u_7 => gm_let (sI u_7 (a0 + 2) (ix v2_5) ((gI u_7 (a1 + 2) (ix v2_5)) &&& 1)) fun u_8 => some (.inl (v2_5 + (1 : Int32), u_8)) else none
def f_X7_copyFrom (a0 : Nat) (a1 : Nat) (u : gm_M) : Option gm_M := gm_let (sI u a0 2 (gI u a1 2)) fun u_3 => ((gm_lp (b_X7_copyFrom_10 a0 a1) gm_FU ((0 : Int32), u_3)).bind fun o => match o with | u_9 => some u_9)
set_option maxRecDepth 100000 in
set_option maxHeartbeats 4000000 in
theorem ok_X7_copyFrom (l : Launch) (Z : gm_Z) (a0 : Nat) (a1 : Nat) (u : gm_M) (h0 : isSayings a0 = true) (h1 : isSayings a1 = true) (u' : gm_M) (hf : f_X7_copyFrom a0 a1 u = some (u')) : gm_Met l GC Z yX7_copyFrom cX7_copyFrom 3 none ({ frames := 0, cells := 0, slots := 0, locals := 0 }) [rv Z a0, rv Z a1] u none u' := by
  unfold f_X7_copyFrom at hf
  refine gm_ofW (by decide +kernel) (by simp [lg_sl, gm_cat, gm_catI, gm_catJ]) ?_
  intro p e s m args below meth c A ls Q R hRf hRl C E hl hw
  obtain ⟨hx, hb, -⟩ := id C
  have hl : lv_has ls 3 [(0, rv Z a0), (1, rv Z a1)] := by simpa [lv_args, gm_cat, gm_catI, gm_catJ] using hl
  obtain ⟨k_1_0, k_1_1, k_1_2, k_1_3, k_1_4, k_1_5, k_1_6⟩ := fc_Sayings h0
  obtain ⟨k_2_0, k_2_1, k_2_2, k_2_3, k_2_4, k_2_5, k_2_6⟩ := fc_Sayings h1
  refine gm_aload_n (G := GC) (r := a0) C k_1_0 dX7_copyFrom_0 rfl (lv_at hl 0 rfl) ?_
  refine gm_aload_n (G := GC) (r := a1) C k_2_0 dX7_copyFrom_1 rfl (lv_at hl 1 rfl) ?_
  refine gm_getI (G := GC) (u := u) (r := a1) (ci := 6) (k := 2) C hw k_2_0 fl_X7_19 dX7_copyFrom_2 rfl ?_
  refine gm_putI (G := GC) (u := u) (r := a0) (ci := 6) (k := 2) (v := gI u a1 2) C hw k_1_0 fl_X7_19 fp_6_2 dX7_copyFrom_5 rfl (fun H locs hw => ?_)
  obtain ⟨u_3, e_u_3, hf⟩ := gm_le hf
  rw [← e_u_3] at hw
  refine lv_iconst (v := 0) hx hb dX7_copyFrom_8 (by decide) ?_
  refine lv_istore_n (i := 2) (lv' := [(2, .int (0 : Int32)), (0, rv Z a0), (1, rv Z a1)]) hx hb dX7_copyFrom_9 rfl hl (by decide) (by simp [gm_cat, gm_catI, gm_catJ]) (fun ls hl => ?_)
  obtain ⟨o1, hlp, hf⟩ := gm_bnd hf
  have L10_1 := gm_loop (b_X7_copyFrom_10 a0 a1) (fun x : (Int32 × gm_M) => ∀ (H : Heap) (locs : List Loc) (ls : Array Slot), lv_has ls 3 [(0, rv Z a0), (1, rv Z a1), (2, .int x.1)] → wd GC Z x.2 A s.heap H locs → W p l e R s m args below meth c H locs 0 0 Q (F0 m 10 ls [])) (fun z : gm_M => ∀ (H : Heap) (locs : List Loc) (ls : Array Slot), lv_has ls 3 [] → wd GC Z z A s.heap H locs → W p l e R s m args below meth c H locs 0 0 Q (F0 m 46 ls [])) (by
    intro x o1 hf Kc Kx
    obtain ⟨v2_5, u_4⟩ := x
    intro H locs ls hl hw
    unfold b_X7_copyFrom_10 at hf
    try dsimp only at hf
    refine lv_iload_n hx hb dX7_copyFrom_10 rfl (lv_at hl 2 rfl) ?_
    refine lv_bipush (v := 8) hx hb dX7_copyFrom_11 (by decide) ?_
    refine lv_icmp_ge (tgt := 46) hx hb dX7_copyFrom_13 (by decide) (fun hc => ?_) (fun hc => ?_)
    · replace hf := (if_pos hc).symm.trans hf
      exact Kx _ (gm_si hf) _ _ _ (lv_sub hl [] rfl) hw
    · replace hf := (if_neg hc).symm.trans hf
      refine gm_aload_n (G := GC) (r := a0) C k_1_0 dX7_copyFrom_16 rfl (lv_at hl 0 rfl) ?_
      refine gm_getS (G := GC) (u := u_4) (r := a0) (ci := 6) (k := 0) C hw k_1_0 fl_X7_9 dX7_copyFrom_17 rfl (q := a0 + 1) k_1_1 ?_
      refine lv_iload_n hx hb dX7_copyFrom_20 rfl (lv_at hl 2 rfl) ?_
      refine gm_aload_n (G := GC) (r := a1) C k_2_0 dX7_copyFrom_21 rfl (lv_at hl 1 rfl) ?_
      refine gm_getS (G := GC) (u := u_4) (r := a1) (ci := 6) (k := 0) C hw k_2_0 fl_X7_9 dX7_copyFrom_22 rfl (q := a1 + 1) k_2_1 ?_
      refine lv_iload_n hx hb dX7_copyFrom_25 rfl (lv_at hl 2 rfl) ?_
      obtain ⟨g_6, hf⟩ := gm_grd hf
      refine gm_iald (G := GC) (u := u_4) (r := (a1 + 1)) (n := 8) (i := v2_5) C hw k_2_2 g_6 rfl dX7_copyFrom_26 ?_
      refine gm_iast (G := GC) (u := u_4) (r := (a0 + 1)) (n := 8) (i := v2_5) (x := gI u_4 (a1 + 1) (ix v2_5)) C hw k_1_2 g_6 rfl dX7_copyFrom_27 (fun H locs hw => ?_)
      obtain ⟨u_7, e_u_7, hf⟩ := gm_le hf
      rw [← e_u_7] at hw
      refine gm_aload_n (G := GC) (r := a0) C k_1_0 dX7_copyFrom_28 rfl (lv_at hl 0 rfl) ?_
      refine gm_getS (G := GC) (u := u_7) (r := a0) (ci := 6) (k := 1) C hw k_1_0 fl_X7_15 dX7_copyFrom_29 rfl (q := a0 + 2) k_1_3 ?_
      refine lv_iload_n hx hb dX7_copyFrom_32 rfl (lv_at hl 2 rfl) ?_
      refine gm_aload_n (G := GC) (r := a1) C k_2_0 dX7_copyFrom_33 rfl (lv_at hl 1 rfl) ?_
      refine gm_getS (G := GC) (u := u_7) (r := a1) (ci := 6) (k := 1) C hw k_2_0 fl_X7_15 dX7_copyFrom_34 rfl (q := a1 + 2) k_2_3 ?_
      refine lv_iload_n hx hb dX7_copyFrom_37 rfl (lv_at hl 2 rfl) ?_
      refine gm_zald (G := GC) (u := u_7) (r := (a1 + 2)) (n := 8) (i := v2_5) C hw k_2_4 g_6 rfl dX7_copyFrom_38 ?_
      refine gm_zast (G := GC) (u := u_7) (r := (a0 + 2)) (n := 8) (i := v2_5) (x := gI u_7 (a1 + 2) (ix v2_5)) C hw k_1_4 g_6 rfl dX7_copyFrom_39 (fun H locs hw => ?_)
      obtain ⟨u_8, e_u_8, hf⟩ := gm_le hf
      rw [← e_u_8] at hw
      refine lv_iinc (v := v2_5 + (1 : Int32)) (lv' := [(2, .int (v2_5 + (1 : Int32))), (0, rv Z a0), (1, rv Z a1)]) hx hb dX7_copyFrom_40 hl (k := 2) rfl rfl (by decide) (by simp [gm_cat, gm_catI, gm_catJ]) (fun ls hl => ?_)
      refine lv_goto (tgt := 10) hx hb dX7_copyFrom_43 (by decide) ?_
      exact Kc _ (gm_si hf) _ _ _ (lv_sub hl [1, 2, 0] rfl) hw)
  refine L10_1 _ _ _ hlp ?_ _ _ _ (lv_sub hl [1, 2, 0] rfl) hw
  obtain ⟨u_9, rfl⟩ : ∃ y, y = o1 := ⟨_, rfl⟩
  intro H locs ls hl hw
  try dsimp only at hf
  exact gm_vret C E hw rfl rfl (Option.some.inj hf).symm dX7_copyFrom_46
/-! LeapCapital$Mark.lay -/
def f_X4_lay (a0 : Nat) (a1 : Nat) (a2 : Nat) (a3 : Nat) (u : gm_M) : Option gm_M := (f_X1_copyFrom (a0 + 1) a1 u).bind fun u_6 => (f_X6_copyFrom (a0 + 5) a2 u_6).bind fun u_9 => (f_X7_copyFrom (a0 + 8) a3 u_9).bind fun u_12 => gm_let (sI u_12 a0 0 (1 : Int32)) fun u_14 => some u_14
set_option maxRecDepth 100000 in
set_option maxHeartbeats 4000000 in
theorem ok_X4_lay (l : Launch) (Z : gm_Z) (a0 : Nat) (a1 : Nat) (a2 : Nat) (a3 : Nat) (u : gm_M) (h0 : isMark a0 = true) (h1 : isCourt a1 = true) (h2 : isReign a2 = true) (h3 : isSayings a3 = true) (u' : gm_M) (hf : f_X4_lay a0 a1 a2 a3 u = some (u')) : gm_Met l GC Z yX4_lay cX4_lay 4 none ({ frames := 2, cells := 0, slots := 0, locals := 44 }) [rv Z a0, rv Z a1, rv Z a2, rv Z a3] u none u' := by
  unfold f_X4_lay at hf
  refine gm_ofW (by decide +kernel) (by simp [lg_sl, gm_cat, gm_catI, gm_catJ]) ?_
  intro p e s m args below meth c A ls Q R hRf hRl C E hl hw
  obtain ⟨hx, hb, -⟩ := id C
  have hl : lv_has ls 4 [(0, rv Z a0), (1, rv Z a1), (2, rv Z a2), (3, rv Z a3)] := by simpa [lv_args, gm_cat, gm_catI, gm_catJ] using hl
  obtain ⟨k_1_0, k_1_1, k_1_2, k_1_3, k_1_4, k_1_5, k_1_6, k_1_7, k_1_8, k_1_9⟩ := fc_Mark h0
  obtain ⟨k_2_0, k_2_1, k_2_2, k_2_3, k_2_4, k_2_5, k_2_6⟩ := fc_Court h1
  obtain ⟨k_3_0, k_3_1, k_3_2, k_3_3, k_3_4⟩ := fc_Reign h2
  obtain ⟨k_4_0, k_4_1, k_4_2, k_4_3, k_4_4, k_4_5, k_4_6⟩ := fc_Sayings h3
  refine gm_aload_n (G := GC) (r := a0) C k_1_0 dX4_lay_0 rfl (lv_at hl 0 rfl) ?_
  refine gm_getS (G := GC) (u := u) (r := a0) (ci := 3) (k := 1) C hw k_1_0 fl_X4_16 dX4_lay_1 rfl (q := a0 + 1) k_1_1 ?_
  obtain ⟨k_5_0, k_5_1, k_5_2, k_5_3, k_5_4, k_5_5, k_5_6⟩ := fc_Court k_1_3
  refine gm_aload_n (G := GC) (r := a1) C k_2_0 dX4_lay_4 rfl (lv_at hl 1 rfl) ?_
  obtain ⟨u_6, hc_7, hf⟩ := gm_bnd hf
  refine gm_callV (G := GC) (u := u) (u' := u_6) (r := (a0 + 1)) (ci := 0) (As := [rv Z a1]) (rest := []) (res := none) C hw hl (ok_X1_copyFrom l Z (a0 + 1) a1 u k_1_3 h1 u_6 hc_7) cw_X4_34 im_X1_copyFrom rfl se_X1_copyFrom k_5_0 rfl rfl ⟨Nat.le_trans (Nat.le_of_ble_eq_true rfl) hRf, Nat.le_trans (Nat.le_of_ble_eq_true rfl) hRl⟩ rfl rfl (Nat.le_of_ble_eq_true rfl) dX4_lay_5 (fun H locs hw => ?_)
  refine gm_aload_n (G := GC) (r := a0) C k_1_0 dX4_lay_8 rfl (lv_at hl 0 rfl) ?_
  refine gm_getS (G := GC) (u := u_6) (r := a0) (ci := 3) (k := 2) C hw k_1_0 fl_X4_23 dX4_lay_9 rfl (q := a0 + 5) k_1_4 ?_
  obtain ⟨k_8_0, k_8_1, k_8_2, k_8_3, k_8_4⟩ := fc_Reign k_1_6
  refine gm_aload_n (G := GC) (r := a2) C k_3_0 dX4_lay_12 rfl (lv_at hl 2 rfl) ?_
  obtain ⟨u_9, hc_10, hf⟩ := gm_bnd hf
  refine gm_callV (G := GC) (u := u_6) (u' := u_9) (r := (a0 + 5)) (ci := 5) (As := [rv Z a2]) (rest := []) (res := none) C hw hl (ok_X6_copyFrom l Z (a0 + 5) a2 u_6 k_1_6 h2 u_9 hc_10) cw_X4_38 im_X6_copyFrom rfl se_X6_copyFrom k_8_0 rfl rfl ⟨Nat.le_trans (Nat.le_of_ble_eq_true rfl) hRf, Nat.le_trans (Nat.le_of_ble_eq_true rfl) hRl⟩ rfl rfl (Nat.le_of_ble_eq_true rfl) dX4_lay_13 (fun H locs hw => ?_)
  refine gm_aload_n (G := GC) (r := a0) C k_1_0 dX4_lay_16 rfl (lv_at hl 0 rfl) ?_
  refine gm_getS (G := GC) (u := u_9) (r := a0) (ci := 3) (k := 3) C hw k_1_0 fl_X4_30 dX4_lay_17 rfl (q := a0 + 8) k_1_7 ?_
  obtain ⟨k_11_0, k_11_1, k_11_2, k_11_3, k_11_4, k_11_5, k_11_6⟩ := fc_Sayings k_1_9
  refine gm_aload_n (G := GC) (r := a3) C k_4_0 dX4_lay_20 rfl (lv_at hl 3 rfl) ?_
  obtain ⟨u_12, hc_13, hf⟩ := gm_bnd hf
  refine gm_callV (G := GC) (u := u_9) (u' := u_12) (r := (a0 + 8)) (ci := 6) (As := [rv Z a3]) (rest := []) (res := none) C hw hl (ok_X7_copyFrom l Z (a0 + 8) a3 u_9 k_1_9 h3 u_12 hc_13) cw_X4_41 im_X7_copyFrom rfl se_X7_copyFrom k_11_0 rfl rfl ⟨Nat.le_trans (Nat.le_of_ble_eq_true rfl) hRf, Nat.le_trans (Nat.le_of_ble_eq_true rfl) hRl⟩ rfl rfl (Nat.le_of_ble_eq_true rfl) dX4_lay_21 (fun H locs hw => ?_)
  refine gm_aload_n (G := GC) (r := a0) C k_1_0 dX4_lay_24 rfl (lv_at hl 0 rfl) ?_
  refine lv_iconst (v := 1) hx hb dX4_lay_25 (by decide) ?_
  refine gm_putZ (G := GC) (u := u_12) (r := a0) (ci := 3) (k := 0) (v := (1 : Int32)) C hw k_1_0 fl_X4_7 fp_3_0 dX4_lay_26 rfl (by decide) (fun H locs hw => ?_)
  obtain ⟨u_14, e_u_14, hf⟩ := gm_le hf
  rw [← e_u_14] at hw
  exact gm_vret C E hw rfl rfl (Option.some.inj hf).symm dX4_lay_29
/-! LeapCapital$Realm.clear -/
def f_X5_clear (a0 : Nat) (u : gm_M) : Option gm_M := gm_let (sI u a0 0 (0 : Int32)) fun u_2 => gm_let (sI u_2 a0 5 (1896 : Int32)) fun u_3 => gm_let (sI u_3 a0 6 (10 : Int32)) fun u_4 => gm_let (sI u_4 a0 7 (70 : Int32)) fun u_5 => (f_X3_clear (a0 + 5) u_5).bind fun u_7 => (f_X3_add (a0 + 5) (-1 : Int32) u_7).bind fun u_10 => some u_10
set_option maxRecDepth 100000 in
set_option maxHeartbeats 4000000 in
theorem ok_X5_clear (l : Launch) (Z : gm_Z) (a0 : Nat) (u : gm_M) (h0 : isRealm a0 = true) (u' : gm_M) (hf : f_X5_clear a0 u = some (u')) : gm_Met l GC Z yX5_clear cX5_clear 1 none ({ frames := 1, cells := 0, slots := 0, locals := 21 }) [rv Z a0] u none u' := by
  unfold f_X5_clear at hf
  refine gm_ofW (by decide +kernel) (by simp [lg_sl, gm_cat, gm_catI, gm_catJ]) ?_
  intro p e s m args below meth c A ls Q R hRf hRl C E hl hw
  obtain ⟨hx, hb, -⟩ := id C
  have hl : lv_has ls 1 [(0, rv Z a0)] := by simpa [lv_args, gm_cat, gm_catI, gm_catJ] using hl
  obtain ⟨k_1_0, k_1_1, k_1_2, k_1_3, k_1_4, k_1_5, k_1_6, k_1_7, k_1_8, k_1_9, k_1_10, k_1_11⟩ := fc_Realm h0
  refine gm_aload_n (G := GC) (r := a0) C k_1_0 dX5_clear_0 rfl (lv_at hl 0 rfl) ?_
  refine lv_iconst (v := 0) hx hb dX5_clear_1 (by decide) ?_
  refine gm_putI (G := GC) (u := u) (r := a0) (ci := 4) (k := 0) (v := (0 : Int32)) C hw k_1_0 fl_X5_9 fp_4_0 dX5_clear_2 rfl (fun H locs hw => ?_)
  obtain ⟨u_2, e_u_2, hf⟩ := gm_le hf
  rw [← e_u_2] at hw
  refine gm_aload_n (G := GC) (r := a0) C k_1_0 dX5_clear_5 rfl (lv_at hl 0 rfl) ?_
  refine lv_sipush (v := 1896) hx hb dX5_clear_6 (by decide) ?_
  refine gm_putI (G := GC) (u := u_2) (r := a0) (ci := 4) (k := 5) (v := (1896 : Int32)) C hw k_1_0 fl_X5_29 fp_4_5 dX5_clear_9 rfl (fun H locs hw => ?_)
  obtain ⟨u_3, e_u_3, hf⟩ := gm_le hf
  rw [← e_u_3] at hw
  refine gm_aload_n (G := GC) (r := a0) C k_1_0 dX5_clear_12 rfl (lv_at hl 0 rfl) ?_
  refine lv_bipush (v := 10) hx hb dX5_clear_13 (by decide) ?_
  refine gm_putI (G := GC) (u := u_3) (r := a0) (ci := 4) (k := 6) (v := (10 : Int32)) C hw k_1_0 fl_X5_32 fp_4_6 dX5_clear_15 rfl (fun H locs hw => ?_)
  obtain ⟨u_4, e_u_4, hf⟩ := gm_le hf
  rw [← e_u_4] at hw
  refine gm_aload_n (G := GC) (r := a0) C k_1_0 dX5_clear_18 rfl (lv_at hl 0 rfl) ?_
  refine lv_bipush (v := 70) hx hb dX5_clear_19 (by decide) ?_
  refine gm_putI (G := GC) (u := u_4) (r := a0) (ci := 4) (k := 7) (v := (70 : Int32)) C hw k_1_0 fl_X5_35 fp_4_7 dX5_clear_21 rfl (fun H locs hw => ?_)
  obtain ⟨u_5, e_u_5, hf⟩ := gm_le hf
  rw [← e_u_5] at hw
  refine gm_aload_n (G := GC) (r := a0) C k_1_0 dX5_clear_24 rfl (lv_at hl 0 rfl) ?_
  refine gm_getS (G := GC) (u := u_5) (r := a0) (ci := 4) (k := 8) C hw k_1_0 fl_X5_41 dX5_clear_25 rfl (q := a0 + 5) k_1_9 ?_
  obtain ⟨k_6_0, k_6_1, k_6_2, k_6_3, k_6_4⟩ := fc_Law k_1_11
  obtain ⟨u_7, hc_8, hf⟩ := gm_bnd hf
  refine gm_callV (G := GC) (u := u_5) (u' := u_7) (r := (a0 + 5)) (ci := 2) (As := []) (rest := []) (res := none) C hw hl (ok_X3_clear l Z (a0 + 5) u_5 k_1_11 u_7 hc_8) cw_X5_49 im_X3_clear rfl se_X3_clear k_6_0 rfl rfl ⟨Nat.le_trans (Nat.le_of_ble_eq_true rfl) hRf, Nat.le_trans (Nat.le_of_ble_eq_true rfl) hRl⟩ rfl rfl (Nat.le_of_ble_eq_true rfl) dX5_clear_28 (fun H locs hw => ?_)
  refine gm_aload_n (G := GC) (r := a0) C k_1_0 dX5_clear_31 rfl (lv_at hl 0 rfl) ?_
  refine gm_getS (G := GC) (u := u_7) (r := a0) (ci := 4) (k := 8) C hw k_1_0 fl_X5_41 dX5_clear_32 rfl (q := a0 + 5) k_1_9 ?_
  obtain ⟨k_9_0, k_9_1, k_9_2, k_9_3, k_9_4⟩ := fc_Law k_1_11
  refine lv_iconst (v := -1) hx hb dX5_clear_35 (by decide) ?_
  obtain ⟨u_10, hc_11, hf⟩ := gm_bnd hf
  refine gm_callV (G := GC) (u := u_7) (u' := u_10) (r := (a0 + 5)) (ci := 2) (As := [.int (-1 : Int32)]) (rest := []) (res := none) C hw hl (ok_X3_add l Z (a0 + 5) (-1 : Int32) u_7 k_1_11 u_10 hc_11) cw_X5_45 im_X3_add rfl se_X3_add k_9_0 rfl rfl ⟨Nat.le_trans (Nat.le_of_ble_eq_true rfl) hRf, Nat.le_trans (Nat.le_of_ble_eq_true rfl) hRl⟩ rfl rfl (Nat.le_of_ble_eq_true rfl) dX5_clear_36 (fun H locs hw => ?_)
  exact gm_vret C E hw rfl rfl (Option.some.inj hf).symm dX5_clear_39
/-! LeapCapital$Realm.addPerson -/
def f_X5_addPerson (a0 : Nat) (a1 : Int64) (a3 : Int32) (a4 : Int32) (a5 : Int32) (u : gm_M) : Option gm_M := if (gI u a0 0) < 0 then some u else if (6 : Int32) ≤ (gI u a0 0) then some u else if ib (gI u a0 0) 6 = true then gm_let (sJ u (a0 + 1) (ix (gI u a0 0)) a1) fun u_3 => if ib (gI u_3 a0 0) 6 = true then gm_let (sI u_3 (a0 + 2) (ix (gI u_3 a0 0)) a3) fun u_5 => if ib (gI u_5 a0 0) 6 = true then gm_let (sI u_5 (a0 + 3) (ix (gI u_5 a0 0)) a4) fun u_7 => if ib (gI u_7 a0 0) 6 = true then gm_let (sI u_7 (a0 + 4) (ix (gI u_7 a0 0)) a5) fun u_9 => gm_let (sI u_9 a0 0 ((gI u_9 a0 0) + (1 : Int32))) fun u_10 => some u_10 else none else none else none else none
set_option maxRecDepth 100000 in
set_option maxHeartbeats 4000000 in
theorem ok_X5_addPerson (l : Launch) (Z : gm_Z) (a0 : Nat) (a1 : Int64) (a3 : Int32) (a4 : Int32) (a5 : Int32) (u : gm_M) (h0 : isRealm a0 = true) (u' : gm_M) (hf : f_X5_addPerson a0 a1 a3 a4 a5 u = some (u')) : gm_Met l GC Z yX5_addPerson cX5_addPerson 6 none ({ frames := 0, cells := 0, slots := 0, locals := 0 }) [rv Z a0, .long a1, .int a3, .int a4, .int a5] u none u' := by
  unfold f_X5_addPerson at hf
  refine gm_ofW (by decide +kernel) (by simp [lg_sl, gm_cat, gm_catI, gm_catJ]) ?_
  intro p e s m args below meth c A ls Q R hRf hRl C E hl hw
  obtain ⟨hx, hb, -⟩ := id C
  have hl : lv_has ls 6 [(0, rv Z a0), (1, .long a1), (3, .int a3), (4, .int a4), (5, .int a5)] := by simpa [lv_args, gm_cat, gm_catI, gm_catJ] using hl
  obtain ⟨k_1_0, k_1_1, k_1_2, k_1_3, k_1_4, k_1_5, k_1_6, k_1_7, k_1_8, k_1_9, k_1_10, k_1_11⟩ := fc_Realm h0
  refine gm_aload_n (G := GC) (r := a0) C k_1_0 dX5_addPerson_0 rfl (lv_at hl 0 rfl) ?_
  refine gm_getI (G := GC) (u := u) (r := a0) (ci := 4) (k := 0) C hw k_1_0 fl_X5_9 dX5_addPerson_1 rfl ?_
  refine lv_if_lt (tgt := 68) hx hb dX5_addPerson_4 (by decide) (fun hc => ?_) (fun hc => ?_)
  · replace hf := (if_pos hc).symm.trans hf
    exact gm_vret C E hw rfl rfl (Option.some.inj hf).symm dX5_addPerson_68
  · replace hf := (if_neg hc).symm.trans hf
    refine gm_aload_n (G := GC) (r := a0) C k_1_0 dX5_addPerson_7 rfl (lv_at hl 0 rfl) ?_
    refine gm_getI (G := GC) (u := u) (r := a0) (ci := 4) (k := 0) C hw k_1_0 fl_X5_9 dX5_addPerson_8 rfl ?_
    refine lv_bipush (v := 6) hx hb dX5_addPerson_11 (by decide) ?_
    refine lv_icmp_ge (tgt := 68) hx hb dX5_addPerson_13 (by decide) (fun hc => ?_) (fun hc => ?_)
    · replace hf := (if_pos hc).symm.trans hf
      exact gm_vret C E hw rfl rfl (Option.some.inj hf).symm dX5_addPerson_68
    · replace hf := (if_neg hc).symm.trans hf
      refine gm_aload_n (G := GC) (r := a0) C k_1_0 dX5_addPerson_16 rfl (lv_at hl 0 rfl) ?_
      refine gm_getS (G := GC) (u := u) (r := a0) (ci := 4) (k := 1) C hw k_1_0 fl_X5_15 dX5_addPerson_17 rfl (q := a0 + 1) k_1_1 ?_
      refine gm_aload_n (G := GC) (r := a0) C k_1_0 dX5_addPerson_20 rfl (lv_at hl 0 rfl) ?_
      refine gm_getI (G := GC) (u := u) (r := a0) (ci := 4) (k := 0) C hw k_1_0 fl_X5_9 dX5_addPerson_21 rfl ?_
      refine lv_lload_n hx hb dX5_addPerson_24 rfl (lv_at hl 1 rfl) ?_
      obtain ⟨g_2, hf⟩ := gm_grd hf
      refine gm_last (G := GC) (u := u) (r := (a0 + 1)) (n := 6) (i := gI u a0 0) (x := a1) C hw k_1_2 g_2 rfl dX5_addPerson_25 (fun H locs hw => ?_)
      obtain ⟨u_3, e_u_3, hf⟩ := gm_le hf
      rw [← e_u_3] at hw
      refine gm_aload_n (G := GC) (r := a0) C k_1_0 dX5_addPerson_26 rfl (lv_at hl 0 rfl) ?_
      refine gm_getS (G := GC) (u := u_3) (r := a0) (ci := 4) (k := 2) C hw k_1_0 fl_X5_19 dX5_addPerson_27 rfl (q := a0 + 2) k_1_3 ?_
      refine gm_aload_n (G := GC) (r := a0) C k_1_0 dX5_addPerson_30 rfl (lv_at hl 0 rfl) ?_
      refine gm_getI (G := GC) (u := u_3) (r := a0) (ci := 4) (k := 0) C hw k_1_0 fl_X5_9 dX5_addPerson_31 rfl ?_
      refine lv_iload_n hx hb dX5_addPerson_34 rfl (lv_at hl 2 rfl) ?_
      obtain ⟨g_4, hf⟩ := gm_grd hf
      refine gm_iast (G := GC) (u := u_3) (r := (a0 + 2)) (n := 6) (i := gI u_3 a0 0) (x := a3) C hw k_1_4 g_4 rfl dX5_addPerson_35 (fun H locs hw => ?_)
      obtain ⟨u_5, e_u_5, hf⟩ := gm_le hf
      rw [← e_u_5] at hw
      refine gm_aload_n (G := GC) (r := a0) C k_1_0 dX5_addPerson_36 rfl (lv_at hl 0 rfl) ?_
      refine gm_getS (G := GC) (u := u_5) (r := a0) (ci := 4) (k := 3) C hw k_1_0 fl_X5_23 dX5_addPerson_37 rfl (q := a0 + 3) k_1_5 ?_
      refine gm_aload_n (G := GC) (r := a0) C k_1_0 dX5_addPerson_40 rfl (lv_at hl 0 rfl) ?_
      refine gm_getI (G := GC) (u := u_5) (r := a0) (ci := 4) (k := 0) C hw k_1_0 fl_X5_9 dX5_addPerson_41 rfl ?_
      refine lv_iload hx hb dX5_addPerson_44 (lv_at hl 3 rfl) ?_
      obtain ⟨g_6, hf⟩ := gm_grd hf
      refine gm_iast (G := GC) (u := u_5) (r := (a0 + 3)) (n := 6) (i := gI u_5 a0 0) (x := a4) C hw k_1_6 g_6 rfl dX5_addPerson_46 (fun H locs hw => ?_)
      obtain ⟨u_7, e_u_7, hf⟩ := gm_le hf
      rw [← e_u_7] at hw
      refine gm_aload_n (G := GC) (r := a0) C k_1_0 dX5_addPerson_47 rfl (lv_at hl 0 rfl) ?_
      refine gm_getS (G := GC) (u := u_7) (r := a0) (ci := 4) (k := 4) C hw k_1_0 fl_X5_26 dX5_addPerson_48 rfl (q := a0 + 4) k_1_7 ?_
      refine gm_aload_n (G := GC) (r := a0) C k_1_0 dX5_addPerson_51 rfl (lv_at hl 0 rfl) ?_
      refine gm_getI (G := GC) (u := u_7) (r := a0) (ci := 4) (k := 0) C hw k_1_0 fl_X5_9 dX5_addPerson_52 rfl ?_
      refine lv_iload hx hb dX5_addPerson_55 (lv_at hl 4 rfl) ?_
      obtain ⟨g_8, hf⟩ := gm_grd hf
      refine gm_iast (G := GC) (u := u_7) (r := (a0 + 4)) (n := 6) (i := gI u_7 a0 0) (x := a5) C hw k_1_8 g_8 rfl dX5_addPerson_57 (fun H locs hw => ?_)
      obtain ⟨u_9, e_u_9, hf⟩ := gm_le hf
      rw [← e_u_9] at hw
      refine gm_aload_n (G := GC) (r := a0) C k_1_0 dX5_addPerson_58 rfl (lv_at hl 0 rfl) ?_
      refine lv_dup hx hb dX5_addPerson_59 (gm_cat _ _) ?_
      refine gm_getI (G := GC) (u := u_9) (r := a0) (ci := 4) (k := 0) C hw k_1_0 fl_X5_9 dX5_addPerson_60 rfl ?_
      refine lv_iconst (v := 1) hx hb dX5_addPerson_63 (by decide) ?_
      refine lv_iadd hx hb dX5_addPerson_64 ?_
      refine gm_putI (G := GC) (u := u_9) (r := a0) (ci := 4) (k := 0) (v := (gI u_9 a0 0) + (1 : Int32)) C hw k_1_0 fl_X5_9 fp_4_0 dX5_addPerson_65 rfl (fun H locs hw => ?_)
      obtain ⟨u_10, e_u_10, hf⟩ := gm_le hf
      rw [← e_u_10] at hw
      exact gm_vret C E hw rfl rfl (Option.some.inj hf).symm dX5_addPerson_68
/-! LeapCapital$Realm.find -/
def b_X5_find_2 (a0 : Nat) (a1 : Int64) (u : gm_M) : Int32 → Option (Int32 ⊕ (Int32 ⊕ Unit)) := fun x => match x with | v3_2 => if (gI u a0 0) ≤ v3_2 then some (.inr (.inr ())) else if (6 : Int32) ≤ v3_2 then some (.inr (.inr ())) else if ib v3_2 6 = true then if (lg_cmp (gJ u (a0 + 1) (ix v3_2)) a1) = 0 then some (.inr (.inl v3_2)) else some (.inl (v3_2 + (1 : Int32))) else none
def f_X5_find (a0 : Nat) (a1 : Int64) (u : gm_M) : Option Int32 := ((gm_lp (b_X5_find_2 a0 a1 u) gm_FU (0 : Int32)).bind fun o => match o with | .inl w3_4 => (some w3_4) | .inr (_) => (some (-1 : Int32)))
set_option maxRecDepth 100000 in
set_option maxHeartbeats 4000000 in
theorem ok_X5_find (l : Launch) (Z : gm_Z) (a0 : Nat) (a1 : Int64) (u : gm_M) (h0 : isRealm a0 = true) (r : Int32) (hf : f_X5_find a0 a1 u = some r) : gm_Met l GC Z yX5_find cX5_find 4 (some .int) ({ frames := 0, cells := 0, slots := 0, locals := 0 }) [rv Z a0, .long a1] u (some (.int r)) u := by
  unfold f_X5_find at hf
  refine gm_ofW (by decide +kernel) (by simp [lg_sl, gm_cat, gm_catI, gm_catJ]) ?_
  intro p e s m args below meth c A ls Q R hRf hRl C E hl hw
  obtain ⟨hx, hb, -⟩ := id C
  have hl : lv_has ls 4 [(0, rv Z a0), (1, .long a1)] := by simpa [lv_args, gm_cat, gm_catI, gm_catJ] using hl
  obtain ⟨k_1_0, k_1_1, k_1_2, k_1_3, k_1_4, k_1_5, k_1_6, k_1_7, k_1_8, k_1_9, k_1_10, k_1_11⟩ := fc_Realm h0
  refine lv_iconst (v := 0) hx hb dX5_find_0 (by decide) ?_
  refine lv_istore_n (i := 3) (lv' := [(3, .int (0 : Int32)), (0, rv Z a0), (1, .long a1)]) hx hb dX5_find_1 rfl hl (by decide) rfl (fun ls hl => ?_)
  obtain ⟨o1, hlp, hf⟩ := gm_bnd hf
  have L2_1 := gm_loop (b_X5_find_2 a0 a1 u) (fun x : Int32 => ∀ (H : Heap) (locs : List Loc) (ls : Array Slot), lv_has ls 4 [(0, rv Z a0), (1, .long a1), (3, .int x)] → wd GC Z u A s.heap H locs → W p l e R s m args below meth c H locs 0 0 Q (F0 m 2 ls [])) (fun z : (Int32 ⊕ Unit) => match z with | .inl q0 => ∀ (H : Heap) (locs : List Loc) (ls : Array Slot), lv_has ls 4 [(3, .int q0)] → wd GC Z u A s.heap H locs → W p l e R s m args below meth c H locs 0 0 Q (F0 m 30 ls []) | .inr p0 => ∀ (H : Heap) (locs : List Loc) (ls : Array Slot), lv_has ls 4 [] → wd GC Z u A s.heap H locs → W p l e R s m args below meth c H locs 0 0 Q (F0 m 38 ls [])) (by
    intro x o1 hf Kc Kx
    obtain ⟨v3_2, rfl⟩ : ∃ y, y = x := ⟨_, rfl⟩
    intro H locs ls hl hw
    unfold b_X5_find_2 at hf
    try dsimp only at hf
    refine lv_iload_n hx hb dX5_find_2 rfl (lv_at hl 2 rfl) ?_
    refine gm_aload_n (G := GC) (r := a0) C k_1_0 dX5_find_3 rfl (lv_at hl 0 rfl) ?_
    refine gm_getI (G := GC) (u := u) (r := a0) (ci := 4) (k := 0) C hw k_1_0 fl_X5_9 dX5_find_4 rfl ?_
    refine lv_icmp_ge (tgt := 38) hx hb dX5_find_7 (by decide) (fun hc => ?_) (fun hc => ?_)
    · replace hf := (if_pos hc).symm.trans hf
      exact Kx _ (gm_si hf) _ _ _ (lv_sub hl [] rfl) hw
    · replace hf := (if_neg hc).symm.trans hf
      refine lv_iload_n hx hb dX5_find_10 rfl (lv_at hl 2 rfl) ?_
      refine gm_aload_n (G := GC) (r := a0) C k_1_0 dX5_find_11 rfl (lv_at hl 0 rfl) ?_
      refine gm_getS (G := GC) (u := u) (r := a0) (ci := 4) (k := 1) C hw k_1_0 fl_X5_15 dX5_find_12 rfl (q := a0 + 1) k_1_1 ?_
      refine gm_alen (G := GC) (u := u) (r := (a0 + 1)) (t := 1) (n := 6) (v := 6) C hw k_1_2 (by decide) (by decide) dX5_find_15 ?_
      refine lv_icmp_ge (tgt := 38) hx hb dX5_find_16 (by decide) (fun hc => ?_) (fun hc => ?_)
      · replace hf := (if_pos hc).symm.trans hf
        exact Kx _ (gm_si hf) _ _ _ (lv_sub hl [] rfl) hw
      · replace hf := (if_neg hc).symm.trans hf
        refine gm_aload_n (G := GC) (r := a0) C k_1_0 dX5_find_19 rfl (lv_at hl 0 rfl) ?_
        refine gm_getS (G := GC) (u := u) (r := a0) (ci := 4) (k := 1) C hw k_1_0 fl_X5_15 dX5_find_20 rfl (q := a0 + 1) k_1_1 ?_
        refine lv_iload_n hx hb dX5_find_23 rfl (lv_at hl 2 rfl) ?_
        obtain ⟨g_3, hf⟩ := gm_grd hf
        refine gm_lald (G := GC) (u := u) (r := (a0 + 1)) (n := 6) (i := v3_2) C hw k_1_2 g_3 rfl dX5_find_24 ?_
        refine lv_lload_n hx hb dX5_find_25 rfl (lv_at hl 1 rfl) ?_
        refine W.lcmp hx hb dX5_find_26 ?_
        refine lv_if_ne (tgt := 32) hx hb dX5_find_27 (by decide) (fun hc => ?_) (fun hc => ?_)
        · replace hf := (if_neg hc).symm.trans hf
          refine lv_iinc (v := v3_2 + (1 : Int32)) (lv' := [(3, .int (v3_2 + (1 : Int32))), (0, rv Z a0), (1, .long a1)]) hx hb dX5_find_32 hl (k := 2) rfl rfl (by decide) rfl (fun ls hl => ?_)
          refine lv_goto (tgt := 2) hx hb dX5_find_35 (by decide) ?_
          exact Kc _ (gm_si hf) _ _ _ (lv_sub hl [1, 2, 0] rfl) hw
        · replace hf := (if_pos hc).symm.trans hf
          exact Kx _ (gm_si hf) _ _ _ (lv_sub hl [2] rfl) hw)
  refine L2_1 _ _ _ hlp ?_ _ _ _ (lv_sub hl [1, 2, 0] rfl) hw
  cases o1 with
  | inl q0_z_5 =>
    obtain ⟨w3_4, rfl⟩ : ∃ y, y = q0_z_5 := ⟨_, rfl⟩
    intro H locs ls hl hw
    try dsimp only at hf
    refine lv_iload_n hx hb dX5_find_30 rfl (lv_at hl 0 rfl) ?_
    exact gm_iret C E hw rfl ((congrArg (fun z => some (Value.int z)) (Option.some.inj hf)).symm) rfl dX5_find_31
  | inr p0_z_5 =>
    intro H locs ls hl hw
    try dsimp only at hf
    refine lv_iconst (v := -1) hx hb dX5_find_38 (by decide) ?_
    exact gm_iret C E hw rfl ((congrArg (fun z => some (Value.int z)) (Option.some.inj hf)).symm) rfl dX5_find_39
/-! LeapCapital$Reign.clear -/
def f_X6_clear (a0 : Nat) (u : gm_M) : Option gm_M := gm_let (sI u a0 2 (0 : Int32)) fun u_2 => some u_2
set_option maxRecDepth 100000 in
set_option maxHeartbeats 4000000 in
theorem ok_X6_clear (l : Launch) (Z : gm_Z) (a0 : Nat) (u : gm_M) (h0 : isReign a0 = true) (u' : gm_M) (hf : f_X6_clear a0 u = some (u')) : gm_Met l GC Z yX6_clear cX6_clear 1 none ({ frames := 0, cells := 0, slots := 0, locals := 0 }) [rv Z a0] u none u' := by
  unfold f_X6_clear at hf
  refine gm_ofW (by decide +kernel) (by simp [lg_sl, gm_cat, gm_catI, gm_catJ]) ?_
  intro p e s m args below meth c A ls Q R hRf hRl C E hl hw
  obtain ⟨hx, hb, -⟩ := id C
  have hl : lv_has ls 1 [(0, rv Z a0)] := by simpa [lv_args, gm_cat, gm_catI, gm_catJ] using hl
  obtain ⟨k_1_0, k_1_1, k_1_2, k_1_3, k_1_4⟩ := fc_Reign h0
  refine gm_aload_n (G := GC) (r := a0) C k_1_0 dX6_clear_0 rfl (lv_at hl 0 rfl) ?_
  refine lv_iconst (v := 0) hx hb dX6_clear_1 (by decide) ?_
  refine gm_putI (G := GC) (u := u) (r := a0) (ci := 5) (k := 2) (v := (0 : Int32)) C hw k_1_0 fl_X6_18 fp_5_2 dX6_clear_2 rfl (fun H locs hw => ?_)
  obtain ⟨u_2, e_u_2, hf⟩ := gm_le hf
  rw [← e_u_2] at hw
  exact gm_vret C E hw rfl rfl (Option.some.inj hf).symm dX6_clear_5
/-! LeapCapital$Sayings.clear -/
def f_X7_clear (a0 : Nat) (u : gm_M) : Option gm_M := gm_let (sI u a0 2 (0 : Int32)) fun u_2 => some u_2
set_option maxRecDepth 100000 in
set_option maxHeartbeats 4000000 in
theorem ok_X7_clear (l : Launch) (Z : gm_Z) (a0 : Nat) (u : gm_M) (h0 : isSayings a0 = true) (u' : gm_M) (hf : f_X7_clear a0 u = some (u')) : gm_Met l GC Z yX7_clear cX7_clear 1 none ({ frames := 0, cells := 0, slots := 0, locals := 0 }) [rv Z a0] u none u' := by
  unfold f_X7_clear at hf
  refine gm_ofW (by decide +kernel) (by simp [lg_sl, gm_cat, gm_catI, gm_catJ]) ?_
  intro p e s m args below meth c A ls Q R hRf hRl C E hl hw
  obtain ⟨hx, hb, -⟩ := id C
  have hl : lv_has ls 1 [(0, rv Z a0)] := by simpa [lv_args, gm_cat, gm_catI, gm_catJ] using hl
  obtain ⟨k_1_0, k_1_1, k_1_2, k_1_3, k_1_4, k_1_5, k_1_6⟩ := fc_Sayings h0
  refine gm_aload_n (G := GC) (r := a0) C k_1_0 dX7_clear_0 rfl (lv_at hl 0 rfl) ?_
  refine lv_iconst (v := 0) hx hb dX7_clear_1 (by decide) ?_
  refine gm_putI (G := GC) (u := u) (r := a0) (ci := 6) (k := 2) (v := (0 : Int32)) C hw k_1_0 fl_X7_19 fp_6_2 dX7_clear_2 rfl (fun H locs hw => ?_)
  obtain ⟨u_2, e_u_2, hf⟩ := gm_le hf
  rw [← e_u_2] at hw
  exact gm_vret C E hw rfl rfl (Option.some.inj hf).symm dX7_clear_5
/-! LeapCapital$Sayings.add -/
def f_X7_add (a0 : Nat) (a1 : Int32) (a2 : Int32) (u : gm_M) : Option (Int32 × gm_M) := if a1 < 0 then some ((0 : Int32), u) else if (40 : Int32) < a1 then some ((0 : Int32), u) else if (gI u a0 2) < 0 then some ((0 : Int32), u) else if (gI u a0 2) < (8 : Int32) then if ib (gI u a0 2) 8 = true then gm_let (sI u (a0 + 1) (ix (gI u a0 2)) a1) fun u_3 => if ib (gI u_3 a0 2) 8 = true then gm_let (sI u_3 (a0 + 2) (ix (gI u_3 a0 2)) (a2 &&& 1)) fun u_5 => gm_let (sI u_5 a0 2 ((gI u_5 a0 2) + (1 : Int32))) fun u_6 => some ((1 : Int32), u_6) else none else none else some ((0 : Int32), u)
set_option maxRecDepth 100000 in
set_option maxHeartbeats 4000000 in
theorem ok_X7_add (l : Launch) (Z : gm_Z) (a0 : Nat) (a1 : Int32) (a2 : Int32) (u : gm_M) (h0 : isSayings a0 = true) (r : Int32) (u' : gm_M) (hf : f_X7_add a0 a1 a2 u = some (r, u')) : gm_Met l GC Z yX7_add cX7_add 3 (some .boolean) ({ frames := 0, cells := 0, slots := 0, locals := 0 }) [rv Z a0, .int a1, .int a2] u (some (.int r)) u' := by
  unfold f_X7_add at hf
  refine gm_ofW (by decide +kernel) (by simp [lg_sl, gm_cat, gm_catI, gm_catJ]) ?_
  intro p e s m args below meth c A ls Q R hRf hRl C E hl hw
  obtain ⟨hx, hb, -⟩ := id C
  have hl : lv_has ls 3 [(0, rv Z a0), (1, .int a1), (2, .int a2)] := by simpa [lv_args, gm_cat, gm_catI, gm_catJ] using hl
  obtain ⟨k_1_0, k_1_1, k_1_2, k_1_3, k_1_4, k_1_5, k_1_6⟩ := fc_Sayings h0
  refine lv_iload_n hx hb dX7_add_0 rfl (lv_at hl 1 rfl) ?_
  refine lv_if_lt (tgt := 26) hx hb dX7_add_1 (by decide) (fun hc => ?_) (fun hc => ?_)
  · replace hf := (if_pos hc).symm.trans hf
    refine lv_iconst (v := 0) hx hb dX7_add_26 (by decide) ?_
    exact gm_zret C E hw rfl rfl ((congrArg (fun z => some (Value.int z)) (gm_sp hf).1).symm) (gm_sp hf).2.symm dX7_add_27
  · replace hf := (if_neg hc).symm.trans hf
    refine lv_iload_n hx hb dX7_add_4 rfl (lv_at hl 1 rfl) ?_
    refine lv_bipush (v := 40) hx hb dX7_add_5 (by decide) ?_
    refine lv_icmp_gt (tgt := 26) hx hb dX7_add_7 (by decide) (fun hc => ?_) (fun hc => ?_)
    · replace hf := (if_pos hc).symm.trans hf
      refine lv_iconst (v := 0) hx hb dX7_add_26 (by decide) ?_
      exact gm_zret C E hw rfl rfl ((congrArg (fun z => some (Value.int z)) (gm_sp hf).1).symm) (gm_sp hf).2.symm dX7_add_27
    · replace hf := (if_neg hc).symm.trans hf
      refine gm_aload_n (G := GC) (r := a0) C k_1_0 dX7_add_10 rfl (lv_at hl 0 rfl) ?_
      refine gm_getI (G := GC) (u := u) (r := a0) (ci := 6) (k := 2) C hw k_1_0 fl_X7_19 dX7_add_11 rfl ?_
      refine lv_if_lt (tgt := 26) hx hb dX7_add_14 (by decide) (fun hc => ?_) (fun hc => ?_)
      · replace hf := (if_pos hc).symm.trans hf
        refine lv_iconst (v := 0) hx hb dX7_add_26 (by decide) ?_
        exact gm_zret C E hw rfl rfl ((congrArg (fun z => some (Value.int z)) (gm_sp hf).1).symm) (gm_sp hf).2.symm dX7_add_27
      · replace hf := (if_neg hc).symm.trans hf
        refine gm_aload_n (G := GC) (r := a0) C k_1_0 dX7_add_17 rfl (lv_at hl 0 rfl) ?_
        refine gm_getI (G := GC) (u := u) (r := a0) (ci := 6) (k := 2) C hw k_1_0 fl_X7_19 dX7_add_18 rfl ?_
        refine lv_bipush (v := 8) hx hb dX7_add_21 (by decide) ?_
        refine lv_icmp_lt (tgt := 28) hx hb dX7_add_23 (by decide) (fun hc => ?_) (fun hc => ?_)
        · replace hf := (if_pos hc).symm.trans hf
          refine gm_aload_n (G := GC) (r := a0) C k_1_0 dX7_add_28 rfl (lv_at hl 0 rfl) ?_
          refine gm_getS (G := GC) (u := u) (r := a0) (ci := 6) (k := 0) C hw k_1_0 fl_X7_9 dX7_add_29 rfl (q := a0 + 1) k_1_1 ?_
          refine gm_aload_n (G := GC) (r := a0) C k_1_0 dX7_add_32 rfl (lv_at hl 0 rfl) ?_
          refine gm_getI (G := GC) (u := u) (r := a0) (ci := 6) (k := 2) C hw k_1_0 fl_X7_19 dX7_add_33 rfl ?_
          refine lv_iload_n hx hb dX7_add_36 rfl (lv_at hl 1 rfl) ?_
          obtain ⟨g_2, hf⟩ := gm_grd hf
          refine gm_iast (G := GC) (u := u) (r := (a0 + 1)) (n := 8) (i := gI u a0 2) (x := a1) C hw k_1_2 g_2 rfl dX7_add_37 (fun H locs hw => ?_)
          obtain ⟨u_3, e_u_3, hf⟩ := gm_le hf
          rw [← e_u_3] at hw
          refine gm_aload_n (G := GC) (r := a0) C k_1_0 dX7_add_38 rfl (lv_at hl 0 rfl) ?_
          refine gm_getS (G := GC) (u := u_3) (r := a0) (ci := 6) (k := 1) C hw k_1_0 fl_X7_15 dX7_add_39 rfl (q := a0 + 2) k_1_3 ?_
          refine gm_aload_n (G := GC) (r := a0) C k_1_0 dX7_add_42 rfl (lv_at hl 0 rfl) ?_
          refine gm_getI (G := GC) (u := u_3) (r := a0) (ci := 6) (k := 2) C hw k_1_0 fl_X7_19 dX7_add_43 rfl ?_
          refine lv_iload_n hx hb dX7_add_46 rfl (lv_at hl 2 rfl) ?_
          obtain ⟨g_4, hf⟩ := gm_grd hf
          refine gm_zast (G := GC) (u := u_3) (r := (a0 + 2)) (n := 8) (i := gI u_3 a0 2) (x := a2) C hw k_1_4 g_4 rfl dX7_add_47 (fun H locs hw => ?_)
          obtain ⟨u_5, e_u_5, hf⟩ := gm_le hf
          rw [← e_u_5] at hw
          refine gm_aload_n (G := GC) (r := a0) C k_1_0 dX7_add_48 rfl (lv_at hl 0 rfl) ?_
          refine lv_dup hx hb dX7_add_49 (gm_cat _ _) ?_
          refine gm_getI (G := GC) (u := u_5) (r := a0) (ci := 6) (k := 2) C hw k_1_0 fl_X7_19 dX7_add_50 rfl ?_
          refine lv_iconst (v := 1) hx hb dX7_add_53 (by decide) ?_
          refine lv_iadd hx hb dX7_add_54 ?_
          refine gm_putI (G := GC) (u := u_5) (r := a0) (ci := 6) (k := 2) (v := (gI u_5 a0 2) + (1 : Int32)) C hw k_1_0 fl_X7_19 fp_6_2 dX7_add_55 rfl (fun H locs hw => ?_)
          obtain ⟨u_6, e_u_6, hf⟩ := gm_le hf
          rw [← e_u_6] at hw
          refine lv_iconst (v := 1) hx hb dX7_add_58 (by decide) ?_
          exact gm_zret C E hw rfl rfl ((congrArg (fun z => some (Value.int z)) (gm_sp hf).1).symm) (gm_sp hf).2.symm dX7_add_59
        · replace hf := (if_neg hc).symm.trans hf
          refine lv_iconst (v := 0) hx hb dX7_add_26 (by decide) ?_
          exact gm_zret C E hw rfl rfl ((congrArg (fun z => some (Value.int z)) (gm_sp hf).1).symm) (gm_sp hf).2.symm dX7_add_27
/-! LeapCapital$Sayings.allowYear -/
def b_X7_allowYear_2 (a0 : Nat) (a1 : Int32) (u : gm_M) : Int32 → Option (Int32 ⊕ (Unit ⊕ Unit)) := fun x => match x with | v2_2 => if (gI u a0 2) ≤ v2_2 then some (.inr (.inr ())) else if (8 : Int32) ≤ v2_2 then some (.inr (.inr ())) else if ib v2_2 8 = true then gm_let (f_X0_isLeap (a1 + (gI u (a0 + 1) (ix v2_2)))) fun r_4 => if r_4 = (gI u (a0 + 2) (ix v2_2)) then some (.inl (v2_2 + (1 : Int32))) else some (.inr (.inl ())) else none
def f_X7_allowYear (a0 : Nat) (a1 : Int32) (u : gm_M) : Option Int32 := ((gm_lp (b_X7_allowYear_2 a0 a1 u) gm_FU (0 : Int32)).bind fun o => match o with | .inl _ => (some (0 : Int32)) | .inr (_) => (some (1 : Int32)))
set_option maxRecDepth 100000 in
set_option maxHeartbeats 4000000 in
theorem ok_X7_allowYear (l : Launch) (Z : gm_Z) (a0 : Nat) (a1 : Int32) (u : gm_M) (h0 : isSayings a0 = true) (r : Int32) (hf : f_X7_allowYear a0 a1 u = some r) : gm_Met l GC Z yX7_allowYear cX7_allowYear 3 (some .boolean) ({ frames := 1, cells := 0, slots := 0, locals := 20 }) [rv Z a0, .int a1] u (some (.int r)) u := by
  unfold f_X7_allowYear at hf
  refine gm_ofW (by decide +kernel) (by simp [lg_sl, gm_cat, gm_catI, gm_catJ]) ?_
  intro p e s m args below meth c A ls Q R hRf hRl C E hl hw
  obtain ⟨hx, hb, -⟩ := id C
  have hl : lv_has ls 3 [(0, rv Z a0), (1, .int a1)] := by simpa [lv_args, gm_cat, gm_catI, gm_catJ] using hl
  obtain ⟨k_1_0, k_1_1, k_1_2, k_1_3, k_1_4, k_1_5, k_1_6⟩ := fc_Sayings h0
  refine lv_iconst (v := 0) hx hb dX7_allowYear_0 (by decide) ?_
  refine lv_istore_n (i := 2) (lv' := [(2, .int (0 : Int32)), (0, rv Z a0), (1, .int a1)]) hx hb dX7_allowYear_1 rfl hl (by decide) rfl (fun ls hl => ?_)
  obtain ⟨o1, hlp, hf⟩ := gm_bnd hf
  have L2_1 := gm_loop (b_X7_allowYear_2 a0 a1 u) (fun x : Int32 => ∀ (H : Heap) (locs : List Loc) (ls : Array Slot), lv_has ls 3 [(0, rv Z a0), (1, .int a1), (2, .int x)] → wd GC Z u A s.heap H locs → W p l e R s m args below meth c H locs 0 0 Q (F0 m 2 ls [])) (fun z : (Unit ⊕ Unit) => match z with | .inl q0 => ∀ (H : Heap) (locs : List Loc) (ls : Array Slot), lv_has ls 3 [] → wd GC Z u A s.heap H locs → W p l e R s m args below meth c H locs 0 0 Q (F0 m 36 ls []) | .inr p0 => ∀ (H : Heap) (locs : List Loc) (ls : Array Slot), lv_has ls 3 [] → wd GC Z u A s.heap H locs → W p l e R s m args below meth c H locs 0 0 Q (F0 m 44 ls [])) (by
    intro x o1 hf Kc Kx
    obtain ⟨v2_2, rfl⟩ : ∃ y, y = x := ⟨_, rfl⟩
    intro H locs ls hl hw
    unfold b_X7_allowYear_2 at hf
    try dsimp only at hf
    refine lv_iload_n hx hb dX7_allowYear_2 rfl (lv_at hl 2 rfl) ?_
    refine gm_aload_n (G := GC) (r := a0) C k_1_0 dX7_allowYear_3 rfl (lv_at hl 0 rfl) ?_
    refine gm_getI (G := GC) (u := u) (r := a0) (ci := 6) (k := 2) C hw k_1_0 fl_X7_19 dX7_allowYear_4 rfl ?_
    refine lv_icmp_ge (tgt := 44) hx hb dX7_allowYear_7 (by decide) (fun hc => ?_) (fun hc => ?_)
    · replace hf := (if_pos hc).symm.trans hf
      exact Kx _ (gm_si hf) _ _ _ (lv_sub hl [] rfl) hw
    · replace hf := (if_neg hc).symm.trans hf
      refine lv_iload_n hx hb dX7_allowYear_10 rfl (lv_at hl 2 rfl) ?_
      refine lv_bipush (v := 8) hx hb dX7_allowYear_11 (by decide) ?_
      refine lv_icmp_ge (tgt := 44) hx hb dX7_allowYear_13 (by decide) (fun hc => ?_) (fun hc => ?_)
      · replace hf := (if_pos hc).symm.trans hf
        exact Kx _ (gm_si hf) _ _ _ (lv_sub hl [] rfl) hw
      · replace hf := (if_neg hc).symm.trans hf
        refine lv_iload_n hx hb dX7_allowYear_16 rfl (lv_at hl 1 rfl) ?_
        refine gm_aload_n (G := GC) (r := a0) C k_1_0 dX7_allowYear_17 rfl (lv_at hl 0 rfl) ?_
        refine gm_getS (G := GC) (u := u) (r := a0) (ci := 6) (k := 0) C hw k_1_0 fl_X7_9 dX7_allowYear_18 rfl (q := a0 + 1) k_1_1 ?_
        refine lv_iload_n hx hb dX7_allowYear_21 rfl (lv_at hl 2 rfl) ?_
        obtain ⟨g_3, hf⟩ := gm_grd hf
        refine gm_iald (G := GC) (u := u) (r := (a0 + 1)) (n := 8) (i := v2_2) C hw k_1_2 g_3 rfl dX7_allowYear_22 ?_
        refine lv_iadd hx hb dX7_allowYear_23 ?_
        obtain ⟨r_4, e_r_4, hf⟩ := gm_le hf
        refine gm_callS (G := GC) (u := u) (u' := u) (As := [.int (a1 + (gI u (a0 + 1) (ix v2_2)))]) (rest := []) (res := (some (.int (f_X0_isLeap (a1 + (gI u (a0 + 1) (ix v2_2))))))) C hw hl (ok_X0_isLeap l Z (a1 + (gI u (a0 + 1) (ix v2_2))) u) cw_X7_26 st_X0_isLeap rfl rfl ⟨Nat.le_trans (Nat.le_of_ble_eq_true rfl) hRf, Nat.le_trans (Nat.le_of_ble_eq_true rfl) hRl⟩ rfl rfl (Nat.le_of_ble_eq_true rfl) dX7_allowYear_24 (fun H locs hw => ?_)
        refine gm_topI e_r_4 ?_
        refine gm_aload_n (G := GC) (r := a0) C k_1_0 dX7_allowYear_27 rfl (lv_at hl 0 rfl) ?_
        refine gm_getS (G := GC) (u := u) (r := a0) (ci := 6) (k := 1) C hw k_1_0 fl_X7_15 dX7_allowYear_28 rfl (q := a0 + 2) k_1_3 ?_
        refine lv_iload_n hx hb dX7_allowYear_31 rfl (lv_at hl 2 rfl) ?_
        refine gm_zald (G := GC) (u := u) (r := (a0 + 2)) (n := 8) (i := v2_2) C hw k_1_4 g_3 rfl dX7_allowYear_32 ?_
        refine lv_icmp_eq (tgt := 38) hx hb dX7_allowYear_33 (by decide) (fun hc => ?_) (fun hc => ?_)
        · replace hf := (if_pos hc).symm.trans hf
          refine lv_iinc (v := v2_2 + (1 : Int32)) (lv' := [(2, .int (v2_2 + (1 : Int32))), (0, rv Z a0), (1, .int a1)]) hx hb dX7_allowYear_38 hl (k := 2) rfl rfl (by decide) rfl (fun ls hl => ?_)
          refine lv_goto (tgt := 2) hx hb dX7_allowYear_41 (by decide) ?_
          exact Kc _ (gm_si hf) _ _ _ (lv_sub hl [1, 2, 0] rfl) hw
        · replace hf := (if_neg hc).symm.trans hf
          exact Kx _ (gm_si hf) _ _ _ (lv_sub hl [] rfl) hw)
  refine L2_1 _ _ _ hlp ?_ _ _ _ (lv_sub hl [1, 2, 0] rfl) hw
  cases o1 with
  | inl q0_z_5 =>
    intro H locs ls hl hw
    try dsimp only at hf
    refine lv_iconst (v := 0) hx hb dX7_allowYear_36 (by decide) ?_
    exact gm_zret C E hw rfl rfl ((congrArg (fun z => some (Value.int z)) (Option.some.inj hf)).symm) rfl dX7_allowYear_37
  | inr p0_z_5 =>
    intro H locs ls hl hw
    try dsimp only at hf
    refine lv_iconst (v := 1) hx hb dX7_allowYear_44 (by decide) ?_
    exact gm_zret C E hw rfl rfl ((congrArg (fun z => some (Value.int z)) (Option.some.inj hf)).symm) rfl dX7_allowYear_45
/-! LeapCapital$Sayings.countLeapsThen -/
def b_X7_countLeapsThen_4 (a0 : Nat) : (Int32 × gm_M) → Option ((Int32 × gm_M) ⊕ gm_M) := fun x => match x with | (v2_3, u_2) => if (41 : Int32) ≤ v2_3 then some (.inr u_2) else if ib v2_3 41 = true then gm_let (sI u_2 (a0 + 3) (ix v2_3) (0 : Int32)) fun u_5 => some (.inl (v2_3 + (1 : Int32), u_5)) else none
def j_X7_countLeapsThen_78 (a0 : Nat) (v1_13 : Int32) (v2_9 : Int32) (v3_16 : Int32) (t_17 : Int32) (t_18 : Int32) (t_19 : Int32) (u_15 : gm_M) : Option ((Int32 × gm_M) ⊕ gm_M) := if ib t_17 41 = true then gm_let (sI u_15 (a0 + 3) (ix t_17) (t_18 + t_19)) fun u_21 => some (.inl (v3_16 + (1 : Int32), u_21)) else none
def b_X7_countLeapsThen_48 (a0 : Nat) (v1_13 : Int32) (v2_9 : Int32) : (Int32 × gm_M) → Option ((Int32 × gm_M) ⊕ gm_M) := fun x => match x with | (v3_14, u_12) => if (41 : Int32) ≤ v3_14 then some (.inr u_12) else if ib v3_14 41 = true then gm_let (f_X0_isLeap (v2_9 + v3_14)) fun r_23 => if r_23 = 0 then j_X7_countLeapsThen_78 a0 v1_13 v2_9 v3_14 v3_14 (gI u_12 (a0 + 3) (ix v3_14)) (0 : Int32) u_12 else j_X7_countLeapsThen_78 a0 v1_13 v2_9 v3_14 v3_14 (gI u_12 (a0 + 3) (ix v3_14)) (1 : Int32) u_12 else none
def b_X7_countLeapsThen_28 (a0 : Nat) : (Int32 × Int32 × gm_M) → Option ((Int32 × Int32 × gm_M) ⊕ ((Int32 × gm_M))) := fun x => match x with | (v1_8, v2_9, u_7) => if (2000 : Int32) < v2_9 then some (.inr (v1_8, u_7)) else (f_X7_allowYear a0 v2_9 u_7).bind fun r_10 => if r_10 = 0 then some (.inl (v1_8, v2_9 + (1 : Int32), u_7)) else (gm_let (v1_8 + (1 : Int32)) fun v1_13 => (gm_lp (b_X7_countLeapsThen_48 a0 v1_13 v2_9) gm_FU ((0 : Int32), u_7)).bind fun o => match o with | u_24 => some (.inl (v1_13, v2_9 + (1 : Int32), u_24)))
def f_X7_countLeapsThen (a0 : Nat) (u : gm_M) : Option (Int32 × gm_M) := ((gm_lp (b_X7_countLeapsThen_4 a0) gm_FU ((0 : Int32), u)).bind fun o => match o with | u_6 => ((gm_lp (b_X7_countLeapsThen_28 a0) gm_FU ((0 : Int32), (1 : Int32), u_6)).bind fun o => match o with | (w1_25, u_26) => some (w1_25, u_26)))
set_option maxRecDepth 100000 in
set_option maxHeartbeats 4000000 in
theorem ok_X7_countLeapsThen (l : Launch) (Z : gm_Z) (a0 : Nat) (u : gm_M) (h0 : isSayings a0 = true) (r : Int32) (u' : gm_M) (hf : f_X7_countLeapsThen a0 u = some (r, u')) : gm_Met l GC Z yX7_countLeapsThen cX7_countLeapsThen 4 (some .int) ({ frames := 2, cells := 0, slots := 0, locals := 42 }) [rv Z a0] u (some (.int r)) u' := by
  unfold f_X7_countLeapsThen at hf
  refine gm_ofW (by decide +kernel) (by simp [lg_sl, gm_cat, gm_catI, gm_catJ]) ?_
  intro p e s m args below meth c A ls Q R hRf hRl C E hl hw
  obtain ⟨hx, hb, -⟩ := id C
  have hl : lv_has ls 4 [(0, rv Z a0)] := by simpa [lv_args, gm_cat, gm_catI, gm_catJ] using hl
  obtain ⟨k_1_0, k_1_1, k_1_2, k_1_3, k_1_4, k_1_5, k_1_6⟩ := fc_Sayings h0
  refine lv_iconst (v := 0) hx hb dX7_countLeapsThen_0 (by decide) ?_
  refine lv_istore_n (i := 1) (lv' := [(1, .int (0 : Int32)), (0, rv Z a0)]) hx hb dX7_countLeapsThen_1 rfl hl (by decide) (by simp [gm_cat, gm_catI, gm_catJ]) (fun ls hl => ?_)
  refine lv_iconst (v := 0) hx hb dX7_countLeapsThen_2 (by decide) ?_
  refine lv_istore_n (i := 2) (lv' := [(2, .int (0 : Int32)), (1, .int (0 : Int32)), (0, rv Z a0)]) hx hb dX7_countLeapsThen_3 rfl hl (by decide) rfl (fun ls hl => ?_)
  obtain ⟨o1, hlp, hf⟩ := gm_bnd hf
  have L4_1 := gm_loop (b_X7_countLeapsThen_4 a0) (fun x : (Int32 × gm_M) => ∀ (H : Heap) (locs : List Loc) (ls : Array Slot), lv_has ls 4 [(0, rv Z a0), (1, .int (0 : Int32)), (2, .int x.1)] → wd GC Z x.2 A s.heap H locs → W p l e R s m args below meth c H locs 0 0 Q (F0 m 4 ls [])) (fun z : gm_M => ∀ (H : Heap) (locs : List Loc) (ls : Array Slot), lv_has ls 4 [(0, rv Z a0), (1, .int (0 : Int32))] → wd GC Z z A s.heap H locs → W p l e R s m args below meth c H locs 0 0 Q (F0 m 26 ls [])) (by
    intro x o1 hf Kc Kx
    obtain ⟨v2_3, u_2⟩ := x
    intro H locs ls hl hw
    unfold b_X7_countLeapsThen_4 at hf
    try dsimp only at hf
    refine lv_iload_n hx hb dX7_countLeapsThen_4 rfl (lv_at hl 2 rfl) ?_
    refine gm_aload_n (G := GC) (r := a0) C k_1_0 dX7_countLeapsThen_5 rfl (lv_at hl 0 rfl) ?_
    refine gm_getS (G := GC) (u := u_2) (r := a0) (ci := 6) (k := 3) C hw k_1_0 fl_X7_23 dX7_countLeapsThen_6 rfl (q := a0 + 3) k_1_5 ?_
    refine gm_alen (G := GC) (u := u_2) (r := (a0 + 3)) (t := 0) (n := 41) (v := 41) C hw k_1_6 (by decide) (by decide) dX7_countLeapsThen_9 ?_
    refine lv_icmp_ge (tgt := 26) hx hb dX7_countLeapsThen_10 (by decide) (fun hc => ?_) (fun hc => ?_)
    · replace hf := (if_pos hc).symm.trans hf
      exact Kx _ (gm_si hf) _ _ _ (lv_sub hl [0, 1] rfl) hw
    · replace hf := (if_neg hc).symm.trans hf
      refine gm_aload_n (G := GC) (r := a0) C k_1_0 dX7_countLeapsThen_13 rfl (lv_at hl 0 rfl) ?_
      refine gm_getS (G := GC) (u := u_2) (r := a0) (ci := 6) (k := 3) C hw k_1_0 fl_X7_23 dX7_countLeapsThen_14 rfl (q := a0 + 3) k_1_5 ?_
      refine lv_iload_n hx hb dX7_countLeapsThen_17 rfl (lv_at hl 2 rfl) ?_
      refine lv_iconst (v := 0) hx hb dX7_countLeapsThen_18 (by decide) ?_
      obtain ⟨g_4, hf⟩ := gm_grd hf
      refine gm_iast (G := GC) (u := u_2) (r := (a0 + 3)) (n := 41) (i := v2_3) (x := (0 : Int32)) C hw k_1_6 g_4 rfl dX7_countLeapsThen_19 (fun H locs hw => ?_)
      obtain ⟨u_5, e_u_5, hf⟩ := gm_le hf
      rw [← e_u_5] at hw
      refine lv_iinc (v := v2_3 + (1 : Int32)) (lv' := [(2, .int (v2_3 + (1 : Int32))), (0, rv Z a0), (1, .int (0 : Int32))]) hx hb dX7_countLeapsThen_20 hl (k := 2) rfl rfl (by decide) rfl (fun ls hl => ?_)
      refine lv_goto (tgt := 4) hx hb dX7_countLeapsThen_23 (by decide) ?_
      exact Kc _ (gm_si hf) _ _ _ (lv_sub hl [1, 2, 0] rfl) hw)
  refine L4_1 _ _ _ hlp ?_ _ _ _ (lv_sub hl [2, 1, 0] rfl) hw
  obtain ⟨u_6, rfl⟩ : ∃ y, y = o1 := ⟨_, rfl⟩
  intro H locs ls hl hw
  try dsimp only at hf
  refine lv_iconst (v := 1) hx hb dX7_countLeapsThen_26 (by decide) ?_
  refine lv_istore_n (i := 2) (lv' := [(2, .int (1 : Int32)), (0, rv Z a0), (1, .int (0 : Int32))]) hx hb dX7_countLeapsThen_27 rfl hl (by decide) rfl (fun ls hl => ?_)
  obtain ⟨o2, hlp, hf⟩ := gm_bnd hf
  have L28_3 := gm_loop (b_X7_countLeapsThen_28 a0) (fun x : (Int32 × Int32 × gm_M) => ∀ (H : Heap) (locs : List Loc) (ls : Array Slot), lv_has ls 4 [(0, rv Z a0), (1, .int x.1), (2, .int x.2.1)] → wd GC Z x.2.2 A s.heap H locs → W p l e R s m args below meth c H locs 0 0 Q (F0 m 28 ls [])) (fun z : ((Int32 × gm_M)) => ∀ (H : Heap) (locs : List Loc) (ls : Array Slot), lv_has ls 4 [(1, .int z.1)] → wd GC Z z.2 A s.heap H locs → W p l e R s m args below meth c H locs 0 0 Q (F0 m 92 ls [])) (by
    intro x o2 hf Kc Kx
    obtain ⟨v1_8, v2_9, u_7⟩ := x
    intro H locs ls hl hw
    unfold b_X7_countLeapsThen_28 at hf
    try dsimp only at hf
    refine lv_iload_n hx hb dX7_countLeapsThen_28 rfl (lv_at hl 2 rfl) ?_
    refine lv_sipush (v := 2000) hx hb dX7_countLeapsThen_29 (by decide) ?_
    refine lv_icmp_gt (tgt := 92) hx hb dX7_countLeapsThen_32 (by decide) (fun hc => ?_) (fun hc => ?_)
    · replace hf := (if_pos hc).symm.trans hf
      exact Kx _ (gm_si hf) _ _ _ (lv_sub hl [1] rfl) hw
    · replace hf := (if_neg hc).symm.trans hf
      refine gm_aload_n (G := GC) (r := a0) C k_1_0 dX7_countLeapsThen_35 rfl (lv_at hl 0 rfl) ?_
      refine lv_iload_n hx hb dX7_countLeapsThen_36 rfl (lv_at hl 2 rfl) ?_
      obtain ⟨r_10, hc_11, hf⟩ := gm_bnd hf
      refine gm_callV (G := GC) (u := u_7) (u' := u_7) (r := a0) (ci := 6) (As := [.int v2_9]) (rest := []) (res := (some (.int r_10))) C hw hl (ok_X7_allowYear l Z a0 v2_9 u_7 h0 r_10 hc_11) cw_X7_42 im_X7_allowYear rfl se_X7_allowYear k_1_0 rfl rfl ⟨Nat.le_trans (Nat.le_of_ble_eq_true rfl) hRf, Nat.le_trans (Nat.le_of_ble_eq_true rfl) hRl⟩ rfl rfl (Nat.le_of_ble_eq_true rfl) dX7_countLeapsThen_37 (fun H locs hw => ?_)
      refine lv_if_eq (tgt := 86) hx hb dX7_countLeapsThen_40 (by decide) (fun hc => ?_) (fun hc => ?_)
      · replace hf := (if_pos hc).symm.trans hf
        refine lv_iinc (v := v2_9 + (1 : Int32)) (lv' := [(2, .int (v2_9 + (1 : Int32))), (0, rv Z a0), (1, .int v1_8)]) hx hb dX7_countLeapsThen_86 hl (k := 2) rfl rfl (by decide) rfl (fun ls hl => ?_)
        refine lv_goto (tgt := 28) hx hb dX7_countLeapsThen_89 (by decide) ?_
        exact Kc _ (gm_si hf) _ _ _ (lv_sub hl [1, 2, 0] rfl) hw
      · replace hf := (if_neg hc).symm.trans hf
        refine lv_iinc (v := v1_8 + (1 : Int32)) (lv' := [(1, .int (v1_8 + (1 : Int32))), (0, rv Z a0), (2, .int v2_9)]) hx hb dX7_countLeapsThen_43 hl (k := 1) rfl rfl (by decide) (by simp [gm_cat, gm_catI, gm_catJ]) (fun ls hl => ?_)
        refine lv_iconst (v := 0) hx hb dX7_countLeapsThen_46 (by decide) ?_
        refine lv_istore_n (i := 3) (lv' := [(3, .int (0 : Int32)), (1, .int (v1_8 + (1 : Int32))), (0, rv Z a0), (2, .int v2_9)]) hx hb dX7_countLeapsThen_47 rfl hl (by decide) rfl (fun ls hl => ?_)
        obtain ⟨v1_13, e_v1_13, hf⟩ := gm_le hf
        rw [← e_v1_13] at hl
        obtain ⟨o3, hlp, hf⟩ := gm_bnd hf
        have L48_3 := gm_loop (b_X7_countLeapsThen_48 a0 v1_13 v2_9) (fun x : (Int32 × gm_M) => ∀ (H : Heap) (locs : List Loc) (ls : Array Slot), lv_has ls 4 [(0, rv Z a0), (1, .int v1_13), (2, .int v2_9), (3, .int x.1)] → wd GC Z x.2 A s.heap H locs → W p l e R s m args below meth c H locs 0 0 Q (F0 m 48 ls [])) (fun z : gm_M => ∀ (H : Heap) (locs : List Loc) (ls : Array Slot), lv_has ls 4 [(0, rv Z a0), (1, .int v1_13), (2, .int v2_9)] → wd GC Z z A s.heap H locs → W p l e R s m args below meth c H locs 0 0 Q (F0 m 86 ls [])) (by
          intro x o3 hf Kc Kx
          obtain ⟨v3_14, u_12⟩ := x
          intro H locs ls hl hw
          unfold b_X7_countLeapsThen_48 at hf
          try dsimp only at hf
          have J78 : ∀ (v3_16 : Int32) (t_17 : Int32) (t_18 : Int32) (t_19 : Int32) (u_15 : gm_M) (H : Heap) (locs : List Loc) (ls : Array Slot), j_X7_countLeapsThen_78 a0 v1_13 v2_9 v3_16 t_17 t_18 t_19 u_15 = some o3 → lv_has ls 4 [(0, rv Z a0), (1, .int v1_13), (2, .int v2_9), (3, .int v3_16)] → wd GC Z u_15 A s.heap H locs → W p l e R s m args below meth c H locs 0 0 Q (F0 m 78 ls [.int t_19, .int t_18, .int t_17, rv Z (a0 + 3)]) := by
            intro v3_16 t_17 t_18 t_19 u_15 H locs ls hf  hl hw
            unfold j_X7_countLeapsThen_78 at hf
            refine lv_iadd hx hb dX7_countLeapsThen_78 ?_
            obtain ⟨g_20, hf⟩ := gm_grd hf
            refine gm_iast (G := GC) (u := u_15) (r := (a0 + 3)) (n := 41) (i := t_17) (x := t_18 + t_19) C hw k_1_6 g_20 rfl dX7_countLeapsThen_79 (fun H locs hw => ?_)
            obtain ⟨u_21, e_u_21, hf⟩ := gm_le hf
            rw [← e_u_21] at hw
            refine lv_iinc (v := v3_16 + (1 : Int32)) (lv' := [(3, .int (v3_16 + (1 : Int32))), (0, rv Z a0), (1, .int v1_13), (2, .int v2_9)]) hx hb dX7_countLeapsThen_80 hl (k := 3) rfl rfl (by decide) rfl (fun ls hl => ?_)
            refine lv_goto (tgt := 48) hx hb dX7_countLeapsThen_83 (by decide) ?_
            exact Kc _ (gm_si hf) _ _ _ (lv_sub hl [1, 2, 3, 0] rfl) hw
          refine lv_iload_n hx hb dX7_countLeapsThen_48 rfl (lv_at hl 3 rfl) ?_
          refine gm_aload_n (G := GC) (r := a0) C k_1_0 dX7_countLeapsThen_49 rfl (lv_at hl 0 rfl) ?_
          refine gm_getS (G := GC) (u := u_12) (r := a0) (ci := 6) (k := 3) C hw k_1_0 fl_X7_23 dX7_countLeapsThen_50 rfl (q := a0 + 3) k_1_5 ?_
          refine gm_alen (G := GC) (u := u_12) (r := (a0 + 3)) (t := 0) (n := 41) (v := 41) C hw k_1_6 (by decide) (by decide) dX7_countLeapsThen_53 ?_
          refine lv_icmp_ge (tgt := 86) hx hb dX7_countLeapsThen_54 (by decide) (fun hc => ?_) (fun hc => ?_)
          · replace hf := (if_pos hc).symm.trans hf
            exact Kx _ (gm_si hf) _ _ _ (lv_sub hl [0, 1, 2] rfl) hw
          · replace hf := (if_neg hc).symm.trans hf
            refine gm_aload_n (G := GC) (r := a0) C k_1_0 dX7_countLeapsThen_57 rfl (lv_at hl 0 rfl) ?_
            refine gm_getS (G := GC) (u := u_12) (r := a0) (ci := 6) (k := 3) C hw k_1_0 fl_X7_23 dX7_countLeapsThen_58 rfl (q := a0 + 3) k_1_5 ?_
            refine lv_iload_n hx hb dX7_countLeapsThen_61 rfl (lv_at hl 3 rfl) ?_
            refine lv_dup2_11 hx hb dX7_countLeapsThen_62 rfl (gm_cat _ _) ?_
            obtain ⟨g_22, hf⟩ := gm_grd hf
            refine gm_iald (G := GC) (u := u_12) (r := (a0 + 3)) (n := 41) (i := v3_14) C hw k_1_6 g_22 rfl dX7_countLeapsThen_63 ?_
            refine lv_iload_n hx hb dX7_countLeapsThen_64 rfl (lv_at hl 2 rfl) ?_
            refine lv_iload_n hx hb dX7_countLeapsThen_65 rfl (lv_at hl 3 rfl) ?_
            refine lv_iadd hx hb dX7_countLeapsThen_66 ?_
            obtain ⟨r_23, e_r_23, hf⟩ := gm_le hf
            refine gm_callS (G := GC) (u := u_12) (u' := u_12) (As := [.int (v2_9 + v3_14)]) (rest := [.int (gI u_12 (a0 + 3) (ix v3_14)), .int v3_14, rv Z (a0 + 3)]) (res := (some (.int (f_X0_isLeap (v2_9 + v3_14))))) C hw hl (ok_X0_isLeap l Z (v2_9 + v3_14) u_12) cw_X7_26 st_X0_isLeap rfl rfl ⟨Nat.le_trans (Nat.le_of_ble_eq_true rfl) hRf, Nat.le_trans (Nat.le_of_ble_eq_true rfl) hRl⟩ rfl rfl (by simp [gm_cat, gm_catI, gm_catJ]) dX7_countLeapsThen_67 (fun H locs hw => ?_)
            refine gm_topI e_r_23 ?_
            refine lv_if_eq (tgt := 77) hx hb dX7_countLeapsThen_70 (by decide) (fun hc => ?_) (fun hc => ?_)
            · replace hf := (if_pos hc).symm.trans hf
              refine lv_iconst (v := 0) hx hb dX7_countLeapsThen_77 (by decide) ?_
              exact J78 v3_14 v3_14 (gI u_12 (a0 + 3) (ix v3_14)) (0 : Int32) u_12 _ _ _ hf  (lv_sub hl [0, 1, 2, 3] rfl) hw
            · replace hf := (if_neg hc).symm.trans hf
              refine lv_iconst (v := 1) hx hb dX7_countLeapsThen_73 (by decide) ?_
              refine lv_goto (tgt := 78) hx hb dX7_countLeapsThen_74 (by decide) ?_
              exact J78 v3_14 v3_14 (gI u_12 (a0 + 3) (ix v3_14)) (1 : Int32) u_12 _ _ _ hf  (lv_sub hl [0, 1, 2, 3] rfl) hw)
        refine L48_3 _ _ _ hlp ?_ _ _ _ (lv_sub hl [2, 1, 3, 0] rfl) hw
        obtain ⟨u_24, rfl⟩ : ∃ y, y = o3 := ⟨_, rfl⟩
        intro H locs ls hl hw
        try dsimp only at hf
        refine lv_iinc (v := v2_9 + (1 : Int32)) (lv' := [(2, .int (v2_9 + (1 : Int32))), (0, rv Z a0), (1, .int v1_13)]) hx hb dX7_countLeapsThen_86 hl (k := 2) rfl rfl (by decide) rfl (fun ls hl => ?_)
        refine lv_goto (tgt := 28) hx hb dX7_countLeapsThen_89 (by decide) ?_
        exact Kc _ (gm_si hf) _ _ _ (lv_sub hl [1, 2, 0] rfl) hw)
  refine L28_3 _ _ _ hlp ?_ _ _ _ (lv_sub hl [1, 2, 0] rfl) hw
  obtain ⟨w1_25, u_26⟩ := o2
  intro H locs ls hl hw
  try dsimp only at hf
  refine lv_iload_n hx hb dX7_countLeapsThen_92 rfl (lv_at hl 0 rfl) ?_
  exact gm_iret C E hw rfl ((congrArg (fun z => some (Value.int z)) (gm_sp hf).1).symm) (gm_sp hf).2.symm dX7_countLeapsThen_93
