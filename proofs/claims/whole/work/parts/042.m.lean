/-! LeapCapitalModel.needsNumber -/
def f_X11_needsNumber (a1 : Int32) (a2 : Int32) (u : gm_M) : Option (Int32 × gm_M) := if (gI u 1 6) = (2 : Int32) then gm_let (f_X11_within (gI u 1 8) a1 a2) fun r_1 => if r_1 = 0 then (f_X11_fails (4 : Int32) u).bind fun o => match o with | (r_5, u_6) => some (r_5 &&& 1, u_6) else gm_let (sI u 1 32 (gI u 1 8)) fun u_2 => (f_X11_nextToken u_2).bind fun u_3 => some ((1 : Int32), u_3) else (f_X11_fails (1 : Int32) u).bind fun o => match o with | (r_9, u_10) => some (r_9 &&& 1, u_10)
set_option maxRecDepth 100000 in
set_option maxHeartbeats 4000000 in
theorem ok_X11_needsNumber (l : Launch) (Z : gm_Z) (a1 : Int32) (a2 : Int32) (u : gm_M)  (r : Int32) (u' : gm_M) (hf : f_X11_needsNumber a1 a2 u = some (r, u')) : gm_Met l GM Z yX11_needsNumber cX11_needsNumber 3 (some .boolean) ({ frames := 2, cells := 0, slots := 0, locals := 42 }) [rv Z 1, .int a1, .int a2] u (some (.int r)) u' := by
  unfold f_X11_needsNumber at hf
  refine gm_ofW (by decide +kernel) (Nat.le_of_ble_eq_true rfl) ?_
  intro p e s m args below meth c A ls Q R hRf hRl C E hl hw
  obtain ⟨hx, hb, -⟩ := id C
  have hl : lv_has ls 3 [(0, rv Z 1), (1, .int a1), (2, .int a2)] := hl
  refine gm_aload_n (G := GM) (r := 1) C rfl dX11_needsNumber_0 rfl (lv_at hl 0 rfl) ?_
  refine gm_getI (G := GM) (u := u) (r := 1) (ci := 10) (k := 6) C hw rfl fl_X11_161 dX11_needsNumber_1 rfl ?_
  refine lv_iconst (v := 2) hx hb dX11_needsNumber_4 (by decide) ?_
  refine lv_icmp_eq (tgt := 14) hx hb dX11_needsNumber_5 (by decide) (fun hc => ?_) (fun hc => ?_)
  · replace hf := (if_pos hc).symm.trans hf
    refine gm_aload_n (G := GM) (r := 1) C rfl dX11_needsNumber_14 rfl (lv_at hl 0 rfl) ?_
    refine gm_getI (G := GM) (u := u) (r := 1) (ci := 10) (k := 8) C hw rfl fl_X11_158 dX11_needsNumber_15 rfl ?_
    refine lv_iload_n hx hb dX11_needsNumber_18 rfl (lv_at hl 1 rfl) ?_
    refine lv_iload_n hx hb dX11_needsNumber_19 rfl (lv_at hl 2 rfl) ?_
    obtain ⟨r_1, e_r_1, hf⟩ := gm_le hf
    refine gm_callS (G := GM) (u := u) (u' := u) (As := [.int (gI u 1 8), .int a1, .int a2]) (rest := []) (res := (some (.int (f_X11_within (gI u 1 8) a1 a2)))) C hw hl (ok_X11_within l Z (gI u 1 8) a1 a2 u) cw_X11_254 st_X11_within rfl rfl ⟨Nat.le_trans (Nat.le_of_ble_eq_true rfl) hRf, Nat.le_trans (Nat.le_of_ble_eq_true rfl) hRl⟩ rfl rfl (Nat.le_of_ble_eq_true rfl) dX11_needsNumber_20 (fun H locs hw => ?_)
    refine gm_topI e_r_1 ?_
    refine lv_if_ne (tgt := 32) hx hb dX11_needsNumber_23 (by decide) (fun hc => ?_) (fun hc => ?_)
    · replace hf := (if_neg hc).symm.trans hf
      refine gm_aload_n (G := GM) (r := 1) C rfl dX11_needsNumber_32 rfl (lv_at hl 0 rfl) ?_
      refine gm_aload_n (G := GM) (r := 1) C rfl dX11_needsNumber_33 rfl (lv_at hl 0 rfl) ?_
      refine gm_getI (G := GM) (u := u) (r := 1) (ci := 10) (k := 8) C hw rfl fl_X11_158 dX11_needsNumber_34 rfl ?_
      refine gm_putI (G := GM) (u := u) (r := 1) (ci := 10) (k := 32) (v := gI u 1 8) C hw rfl fl_X11_258 fp_10_32 dX11_needsNumber_37 rfl (fun H locs hw => ?_)
      obtain ⟨u_2, e_u_2, hf⟩ := gm_le hf
      rw [← e_u_2] at hw
      refine gm_aload_n (G := GM) (r := 1) C rfl dX11_needsNumber_40 rfl (lv_at hl 0 rfl) ?_
      obtain ⟨u_3, hc_4, hf⟩ := gm_bnd hf
      refine gm_callV (G := GM) (u := u_2) (u' := u_3) (r := 1) (ci := 10) (As := []) (rest := []) (res := none) C hw hl (ok_X11_nextToken l Z u_2 u_3 hc_4) cw_X11_206 im_X11_nextToken rfl se_X11_nextToken rfl rfl rfl ⟨Nat.le_trans (Nat.le_of_ble_eq_true rfl) hRf, Nat.le_trans (Nat.le_of_ble_eq_true rfl) hRl⟩ rfl rfl (Nat.le_of_ble_eq_true rfl) dX11_needsNumber_41 (fun H locs hw => ?_)
      refine lv_iconst (v := 1) hx hb dX11_needsNumber_44 (by decide) ?_
      exact gm_zret C E hw rfl rfl ((congrArg (fun z => some (Value.int z)) (gm_sp hf).1).symm) (gm_sp hf).2.symm dX11_needsNumber_45
    · replace hf := (if_pos hc).symm.trans hf
      refine gm_aload_n (G := GM) (r := 1) C rfl dX11_needsNumber_26 rfl (lv_at hl 0 rfl) ?_
      refine lv_iconst (v := 4) hx hb dX11_needsNumber_27 (by decide) ?_
      obtain ⟨⟨r_5, u_6⟩, hc_7, hf⟩ := gm_bnd hf
      try dsimp only at hf
      refine gm_callV (G := GM) (u := u) (u' := u_6) (r := 1) (ci := 10) (As := [.int (4 : Int32)]) (rest := []) (res := (some (.int r_5))) C hw hl (ok_X11_fails l Z (4 : Int32) u r_5 u_6 hc_7) cw_X11_200 im_X11_fails rfl se_X11_fails rfl rfl rfl ⟨Nat.le_trans (Nat.le_of_ble_eq_true rfl) hRf, Nat.le_trans (Nat.le_of_ble_eq_true rfl) hRl⟩ rfl rfl (Nat.le_of_ble_eq_true rfl) dX11_needsNumber_28 (fun H locs hw => ?_)
      exact gm_zret C E hw rfl rfl ((congrArg (fun z => some (Value.int z)) (gm_sp hf).1).symm) (gm_sp hf).2.symm dX11_needsNumber_31
  · replace hf := (if_neg hc).symm.trans hf
    refine gm_aload_n (G := GM) (r := 1) C rfl dX11_needsNumber_8 rfl (lv_at hl 0 rfl) ?_
    refine lv_iconst (v := 1) hx hb dX11_needsNumber_9 (by decide) ?_
    obtain ⟨⟨r_9, u_10⟩, hc_11, hf⟩ := gm_bnd hf
    try dsimp only at hf
    refine gm_callV (G := GM) (u := u) (u' := u_10) (r := 1) (ci := 10) (As := [.int (1 : Int32)]) (rest := []) (res := (some (.int r_9))) C hw hl (ok_X11_fails l Z (1 : Int32) u r_9 u_10 hc_11) cw_X11_200 im_X11_fails rfl se_X11_fails rfl rfl rfl ⟨Nat.le_trans (Nat.le_of_ble_eq_true rfl) hRf, Nat.le_trans (Nat.le_of_ble_eq_true rfl) hRl⟩ rfl rfl (Nat.le_of_ble_eq_true rfl) dX11_needsNumber_10 (fun H locs hw => ?_)
    exact gm_zret C E hw rfl rfl ((congrArg (fun z => some (Value.int z)) (gm_sp hf).1).symm) (gm_sp hf).2.symm dX11_needsNumber_13
/-! LeapCapitalModel.needsBoth -/
def f_X11_needsBoth (a1 : Int64) (a3 : Int32) (a4 : Int32) (u : gm_M) : Option (Int32 × gm_M) := gm_let (f_X11_isWord a1 u) fun r_1 => if r_1 = 0 then (f_X11_fails (1 : Int32) u).bind fun o => match o with | (r_8, u_9) => some (r_8 &&& 1, u_9) else (f_X11_nextToken u).bind fun u_2 => (f_X11_needsNumber a3 a4 u_2).bind fun o => match o with | (r_4, u_5) => some (r_4 &&& 1, u_5)
set_option maxRecDepth 100000 in
set_option maxHeartbeats 4000000 in
theorem ok_X11_needsBoth (l : Launch) (Z : gm_Z) (a1 : Int64) (a3 : Int32) (a4 : Int32) (u : gm_M)  (r : Int32) (u' : gm_M) (hf : f_X11_needsBoth a1 a3 a4 u = some (r, u')) : gm_Met l GM Z yX11_needsBoth cX11_needsBoth 5 (some .boolean) ({ frames := 3, cells := 0, slots := 0, locals := 64 }) [rv Z 1, .long a1, .int a3, .int a4] u (some (.int r)) u' := by
  unfold f_X11_needsBoth at hf
  refine gm_ofW (by decide +kernel) (Nat.le_of_ble_eq_true rfl) ?_
  intro p e s m args below meth c A ls Q R hRf hRl C E hl hw
  obtain ⟨hx, hb, -⟩ := id C
  have hl : lv_has ls 5 [(0, rv Z 1), (1, .long a1), (3, .int a3), (4, .int a4)] := hl
  refine gm_aload_n (G := GM) (r := 1) C rfl dX11_needsBoth_0 rfl (lv_at hl 0 rfl) ?_
  refine lv_lload_n hx hb dX11_needsBoth_1 rfl (lv_at hl 1 rfl) ?_
  obtain ⟨r_1, e_r_1, hf⟩ := gm_le hf
  refine gm_callV (G := GM) (u := u) (u' := u) (r := 1) (ci := 10) (As := [.long a1]) (rest := []) (res := (some (.int (f_X11_isWord a1 u)))) C hw hl (ok_X11_isWord l Z a1 u) cw_X11_192 im_X11_isWord rfl se_X11_isWord rfl rfl rfl ⟨Nat.le_trans (Nat.le_of_ble_eq_true rfl) hRf, Nat.le_trans (Nat.le_of_ble_eq_true rfl) hRl⟩ rfl rfl (Nat.le_of_ble_eq_true rfl) dX11_needsBoth_2 (fun H locs hw => ?_)
  refine gm_topI e_r_1 ?_
  refine lv_if_ne (tgt := 14) hx hb dX11_needsBoth_5 (by decide) (fun hc => ?_) (fun hc => ?_)
  · replace hf := (if_neg hc).symm.trans hf
    refine gm_aload_n (G := GM) (r := 1) C rfl dX11_needsBoth_14 rfl (lv_at hl 0 rfl) ?_
    obtain ⟨u_2, hc_3, hf⟩ := gm_bnd hf
    refine gm_callV (G := GM) (u := u) (u' := u_2) (r := 1) (ci := 10) (As := []) (rest := []) (res := none) C hw hl (ok_X11_nextToken l Z u u_2 hc_3) cw_X11_206 im_X11_nextToken rfl se_X11_nextToken rfl rfl rfl ⟨Nat.le_trans (Nat.le_of_ble_eq_true rfl) hRf, Nat.le_trans (Nat.le_of_ble_eq_true rfl) hRl⟩ rfl rfl (Nat.le_of_ble_eq_true rfl) dX11_needsBoth_15 (fun H locs hw => ?_)
    refine gm_aload_n (G := GM) (r := 1) C rfl dX11_needsBoth_18 rfl (lv_at hl 0 rfl) ?_
    refine lv_iload_n hx hb dX11_needsBoth_19 rfl (lv_at hl 2 rfl) ?_
    refine lv_iload hx hb dX11_needsBoth_20 (lv_at hl 3 rfl) ?_
    obtain ⟨⟨r_4, u_5⟩, hc_6, hf⟩ := gm_bnd hf
    try dsimp only at hf
    refine gm_callV (G := GM) (u := u_2) (u' := u_5) (r := 1) (ci := 10) (As := [.int a3, .int a4]) (rest := []) (res := (some (.int r_4))) C hw hl (ok_X11_needsNumber l Z a3 a4 u_2 r_4 u_5 hc_6) cw_X11_261 im_X11_needsNumber rfl se_X11_needsNumber rfl rfl rfl ⟨Nat.le_trans (Nat.le_of_ble_eq_true rfl) hRf, Nat.le_trans (Nat.le_of_ble_eq_true rfl) hRl⟩ rfl rfl (Nat.le_of_ble_eq_true rfl) dX11_needsBoth_22 (fun H locs hw => ?_)
    exact gm_zret C E hw rfl rfl ((congrArg (fun z => some (Value.int z)) (gm_sp hf).1).symm) (gm_sp hf).2.symm dX11_needsBoth_25
  · replace hf := (if_pos hc).symm.trans hf
    refine gm_aload_n (G := GM) (r := 1) C rfl dX11_needsBoth_8 rfl (lv_at hl 0 rfl) ?_
    refine lv_iconst (v := 1) hx hb dX11_needsBoth_9 (by decide) ?_
    obtain ⟨⟨r_8, u_9⟩, hc_10, hf⟩ := gm_bnd hf
    try dsimp only at hf
    refine gm_callV (G := GM) (u := u) (u' := u_9) (r := 1) (ci := 10) (As := [.int (1 : Int32)]) (rest := []) (res := (some (.int r_8))) C hw hl (ok_X11_fails l Z (1 : Int32) u r_8 u_9 hc_10) cw_X11_200 im_X11_fails rfl se_X11_fails rfl rfl rfl ⟨Nat.le_trans (Nat.le_of_ble_eq_true rfl) hRf, Nat.le_trans (Nat.le_of_ble_eq_true rfl) hRl⟩ rfl rfl (Nat.le_of_ble_eq_true rfl) dX11_needsBoth_10 (fun H locs hw => ?_)
    exact gm_zret C E hw rfl rfl ((congrArg (fun z => some (Value.int z)) (gm_sp hf).1).symm) (gm_sp hf).2.symm dX11_needsBoth_13
/-! LeapCapitalModel.closes -/
def f_X11_closes  (u : gm_M) : Option (Int32 × gm_M) := (f_X11_isSign (59 : Int32) u).bind fun r_1 => if r_1 = 0 then (f_X11_fails (1 : Int32) u).bind fun o => match o with | (r_5, u_6) => some (r_5 &&& 1, u_6) else (f_X11_nextToken u).bind fun u_3 => some ((1 : Int32), u_3)
set_option maxRecDepth 100000 in
set_option maxHeartbeats 4000000 in
theorem ok_X11_closes (l : Launch) (Z : gm_Z)  (u : gm_M)  (r : Int32) (u' : gm_M) (hf : f_X11_closes u = some (r, u')) : gm_Met l GM Z yX11_closes cX11_closes 1 (some .boolean) ({ frames := 2, cells := 0, slots := 0, locals := 42 }) [rv Z 1] u (some (.int r)) u' := by
  unfold f_X11_closes at hf
  refine gm_ofW (by decide +kernel) (Nat.le_of_ble_eq_true rfl) ?_
  intro p e s m args below meth c A ls Q R hRf hRl C E hl hw
  obtain ⟨hx, hb, -⟩ := id C
  have hl : lv_has ls 1 [(0, rv Z 1)] := hl
  refine gm_aload_n (G := GM) (r := 1) C rfl dX11_closes_0 rfl (lv_at hl 0 rfl) ?_
  refine lv_bipush (v := 59) hx hb dX11_closes_1 (by decide) ?_
  obtain ⟨r_1, hc_2, hf⟩ := gm_bnd hf
  refine gm_callV (G := GM) (u := u) (u' := u) (r := 1) (ci := 10) (As := [.int (59 : Int32)]) (rest := []) (res := (some (.int r_1))) C hw hl (ok_X11_isSign l Z (59 : Int32) u r_1 hc_2) cw_X11_196 im_X11_isSign rfl se_X11_isSign rfl rfl rfl ⟨Nat.le_trans (Nat.le_of_ble_eq_true rfl) hRf, Nat.le_trans (Nat.le_of_ble_eq_true rfl) hRl⟩ rfl rfl (Nat.le_of_ble_eq_true rfl) dX11_closes_3 (fun H locs hw => ?_)
  refine lv_if_ne (tgt := 15) hx hb dX11_closes_6 (by decide) (fun hc => ?_) (fun hc => ?_)
  · replace hf := (if_neg hc).symm.trans hf
    refine gm_aload_n (G := GM) (r := 1) C rfl dX11_closes_15 rfl (lv_at hl 0 rfl) ?_
    obtain ⟨u_3, hc_4, hf⟩ := gm_bnd hf
    refine gm_callV (G := GM) (u := u) (u' := u_3) (r := 1) (ci := 10) (As := []) (rest := []) (res := none) C hw hl (ok_X11_nextToken l Z u u_3 hc_4) cw_X11_206 im_X11_nextToken rfl se_X11_nextToken rfl rfl rfl ⟨Nat.le_trans (Nat.le_of_ble_eq_true rfl) hRf, Nat.le_trans (Nat.le_of_ble_eq_true rfl) hRl⟩ rfl rfl (Nat.le_of_ble_eq_true rfl) dX11_closes_16 (fun H locs hw => ?_)
    refine lv_iconst (v := 1) hx hb dX11_closes_19 (by decide) ?_
    exact gm_zret C E hw rfl rfl ((congrArg (fun z => some (Value.int z)) (gm_sp hf).1).symm) (gm_sp hf).2.symm dX11_closes_20
  · replace hf := (if_pos hc).symm.trans hf
    refine gm_aload_n (G := GM) (r := 1) C rfl dX11_closes_9 rfl (lv_at hl 0 rfl) ?_
    refine lv_iconst (v := 1) hx hb dX11_closes_10 (by decide) ?_
    obtain ⟨⟨r_5, u_6⟩, hc_7, hf⟩ := gm_bnd hf
    try dsimp only at hf
    refine gm_callV (G := GM) (u := u) (u' := u_6) (r := 1) (ci := 10) (As := [.int (1 : Int32)]) (rest := []) (res := (some (.int r_5))) C hw hl (ok_X11_fails l Z (1 : Int32) u r_5 u_6 hc_7) cw_X11_200 im_X11_fails rfl se_X11_fails rfl rfl rfl ⟨Nat.le_trans (Nat.le_of_ble_eq_true rfl) hRf, Nat.le_trans (Nat.le_of_ble_eq_true rfl) hRl⟩ rfl rfl (Nat.le_of_ble_eq_true rfl) dX11_closes_11 (fun H locs hw => ?_)
    exact gm_zret C E hw rfl rfl ((congrArg (fun z => some (Value.int z)) (gm_sp hf).1).symm) (gm_sp hf).2.symm dX11_closes_14
/-! LeapCapitalModel.readsPerson -/
def j_X11_readsPerson_124 (v1_2 : Int32) (v2_3 : Int64) (t_4 : Int32) (t_5 : Int32) (u_1 : gm_M) : Option (Int32 × gm_M) := if ib t_4 12 = true then gm_let (sI u_1 5 (ix t_4) t_5) fun u_7 => if ib v1_2 12 = true then if 0 ≤ (gI u_7 5 (ix v1_2)) then (f_X11_nextToken u_7).bind fun u_9 => (f_X11_needsBoth (50801 : Int64) (1 : Int32) (3000 : Int32) u_9).bind fun o => match o with | (r_11, u_12) => if r_11 = 0 then some ((0 : Int32), u_12) else gm_let (sI u_12 6 (ix v1_2) (gI u_12 1 32)) fun u_15 => (f_X11_needsBoth (323812 : Int64) (1 : Int32) (20 : Int32) u_15).bind fun o => match o with | (r_16, u_17) => if r_16 = 0 then some ((0 : Int32), u_17) else gm_let (sI u_17 7 (ix v1_2) (gI u_17 1 32)) fun u_20 => gm_let (sJ u_20 4 (ix v1_2) v2_3) fun u_21 => gm_let (sI u_21 3 4 ((gI u_21 3 4) + (1 : Int32))) fun u_22 => (f_X11_closes u_22).bind fun o => match o with | (r_23, u_24) => some (r_23 &&& 1, u_24) else (f_X11_fails (1 : Int32) u_7).bind fun o => match o with | (r_27, u_28) => some (r_27 &&& 1, u_28) else none else none
def f_X11_readsPerson  (u : gm_M) : Option (Int32 × gm_M) := gm_let ((6 : Int32) + (gI u 3 4)) fun v1_31 => if v1_31 = (12 : Int32) then (f_X11_fails (5 : Int32) u).bind fun o => match o with | (r_52, u_53) => some (r_52 &&& 1, u_53) else (f_X11_nextToken u).bind fun u_32 => gm_let (f_X11_isKept u_32) fun r_34 => if r_34 = 0 then (f_X11_personNamed (1 : Int32) u_32).bind fun r_35 => if r_35 < 0 then gm_let (gJ u_32 1 7) fun v2_37 => (f_X11_nextToken u_32).bind fun u_38 => gm_let (f_X11_isWord (8740238 : Int64) u_38) fun r_40 => if r_40 = 0 then gm_let (f_X11_isWord (239884 : Int64) u_38) fun r_41 => if r_41 = 0 then gm_let (f_X11_isWord (161370 : Int64) u_38) fun r_42 => if r_42 = 0 then gm_let (f_X11_isWord (6688728 : Int64) u_38) fun r_43 => if r_43 = 0 then j_X11_readsPerson_124 v1_31 v2_37 v1_31 (-1 : Int32) u_38 else j_X11_readsPerson_124 v1_31 v2_37 v1_31 (3 : Int32) u_38 else j_X11_readsPerson_124 v1_31 v2_37 v1_31 (2 : Int32) u_38 else j_X11_readsPerson_124 v1_31 v2_37 v1_31 (1 : Int32) u_38 else j_X11_readsPerson_124 v1_31 v2_37 v1_31 (0 : Int32) u_38 else (f_X11_fails (3 : Int32) u_32).bind fun o => match o with | (r_44, u_45) => some (r_44 &&& 1, u_45) else (f_X11_fails (1 : Int32) u_32).bind fun o => match o with | (r_48, u_49) => some (r_48 &&& 1, u_49)
set_option maxRecDepth 100000 in
set_option maxHeartbeats 4000000 in
theorem ok_X11_readsPerson (l : Launch) (Z : gm_Z)  (u : gm_M)  (r : Int32) (u' : gm_M) (hf : f_X11_readsPerson u = some (r, u')) : gm_Met l GM Z yX11_readsPerson cX11_readsPerson 4 (some .boolean) ({ frames := 4, cells := 0, slots := 0, locals := 88 }) [rv Z 1] u (some (.int r)) u' := by
  unfold f_X11_readsPerson at hf
  refine gm_ofW (by decide +kernel) (Nat.le_of_ble_eq_true rfl) ?_
  intro p e s m args below meth c A ls Q R hRf hRl C E hl hw
  obtain ⟨hx, hb, -⟩ := id C
  have hl : lv_has ls 4 [(0, rv Z 1)] := hl
  have J124 : ∀ (v1_2 : Int32) (v2_3 : Int64) (t_4 : Int32) (t_5 : Int32) (u_1 : gm_M) (H : Heap) (locs : List Loc) (ls : Array Slot), j_X11_readsPerson_124 v1_2 v2_3 t_4 t_5 u_1 = some (r, u') → lv_has ls 4 [(0, rv Z 1), (1, .int v1_2), (2, .long v2_3)] → wd GM Z u_1 A s.heap H locs → W p l e R s m args below meth c H locs 0 0 Q (F0 m 124 ls [.int t_5, .int t_4, rv Z 5]) := by
    intro v1_2 v2_3 t_4 t_5 u_1 H locs ls hf  hl hw
    unfold j_X11_readsPerson_124 at hf
    obtain ⟨g_6, hf⟩ := gm_grd hf
    refine gm_iast (G := GM) (u := u_1) (r := 5) (n := 12) (i := t_4) (x := t_5) C hw rfl g_6 rfl dX11_readsPerson_124 (fun H locs hw => ?_)
    obtain ⟨u_7, e_u_7, hf⟩ := gm_le hf
    rw [← e_u_7] at hw
    refine gm_aload_n (G := GM) (r := 1) C rfl dX11_readsPerson_125 rfl (lv_at hl 0 rfl) ?_
    refine gm_getS (G := GM) (u := u_7) (r := 1) (ci := 10) (k := 12) C hw rfl fl_X11_20 dX11_readsPerson_126 rfl (q := 5) rfl ?_
    refine lv_iload_n hx hb dX11_readsPerson_129 rfl (lv_at hl 1 rfl) ?_
    obtain ⟨g_8, hf⟩ := gm_grd hf
    refine gm_iald (G := GM) (u := u_7) (r := 5) (n := 12) (i := v1_2) C hw rfl g_8 rfl dX11_readsPerson_130 ?_
    refine lv_if_ge (tgt := 140) hx hb dX11_readsPerson_131 (by decide) (fun hc => ?_) (fun hc => ?_)
    · replace hf := (if_pos hc).symm.trans hf
      refine gm_aload_n (G := GM) (r := 1) C rfl dX11_readsPerson_140 rfl (lv_at hl 0 rfl) ?_
      obtain ⟨u_9, hc_10, hf⟩ := gm_bnd hf
      refine gm_callV (G := GM) (u := u_7) (u' := u_9) (r := 1) (ci := 10) (As := []) (rest := []) (res := none) C hw hl (ok_X11_nextToken l Z u_7 u_9 hc_10) cw_X11_206 im_X11_nextToken rfl se_X11_nextToken rfl rfl rfl ⟨Nat.le_trans (Nat.le_of_ble_eq_true rfl) hRf, Nat.le_trans (Nat.le_of_ble_eq_true rfl) hRl⟩ rfl rfl (Nat.le_of_ble_eq_true rfl) dX11_readsPerson_141 (fun H locs hw => ?_)
      refine gm_aload_n (G := GM) (r := 1) C rfl dX11_readsPerson_144 rfl (lv_at hl 0 rfl) ?_
      refine lv_ldc2 hx hb C.2.2.2.1 (C.2.2.2.2.1 _ kn_X11_224) dX11_readsPerson_145 ?_
      refine lv_iconst (v := 1) hx hb dX11_readsPerson_148 (by decide) ?_
      refine lv_sipush (v := 3000) hx hb dX11_readsPerson_149 (by decide) ?_
      obtain ⟨⟨r_11, u_12⟩, hc_13, hf⟩ := gm_bnd hf
      try dsimp only at hf
      refine gm_callV (G := GM) (u := u_9) (u' := u_12) (r := 1) (ci := 10) (As := [.long (50801 : Int64), .int (1 : Int32), .int (3000 : Int32)]) (rest := []) (res := (some (.int r_11))) C hw hl (ok_X11_needsBoth l Z (50801 : Int64) (1 : Int32) (3000 : Int32) u_9 r_11 u_12 hc_13) cw_X11_272 im_X11_needsBoth rfl se_X11_needsBoth rfl rfl rfl ⟨Nat.le_trans (Nat.le_of_ble_eq_true rfl) hRf, Nat.le_trans (Nat.le_of_ble_eq_true rfl) hRl⟩ rfl rfl (Nat.le_of_ble_eq_true rfl) dX11_readsPerson_152 (fun H locs hw => ?_)
      refine lv_if_ne (tgt := 160) hx hb dX11_readsPerson_155 (by decide) (fun hc => ?_) (fun hc => ?_)
      · replace hf := (if_neg hc).symm.trans hf
        refine gm_aload_n (G := GM) (r := 1) C rfl dX11_readsPerson_160 rfl (lv_at hl 0 rfl) ?_
        refine gm_getS (G := GM) (u := u_12) (r := 1) (ci := 10) (k := 13) C hw rfl fl_X11_23 dX11_readsPerson_161 rfl (q := 6) rfl ?_
        refine lv_iload_n hx hb dX11_readsPerson_164 rfl (lv_at hl 1 rfl) ?_
        refine gm_aload_n (G := GM) (r := 1) C rfl dX11_readsPerson_165 rfl (lv_at hl 0 rfl) ?_
        refine gm_getI (G := GM) (u := u_12) (r := 1) (ci := 10) (k := 32) C hw rfl fl_X11_258 dX11_readsPerson_166 rfl ?_
        refine gm_iast (G := GM) (u := u_12) (r := 6) (n := 12) (i := v1_2) (x := gI u_12 1 32) C hw rfl g_8 rfl dX11_readsPerson_169 (fun H locs hw => ?_)
        obtain ⟨u_15, e_u_15, hf⟩ := gm_le hf
        rw [← e_u_15] at hw
        refine gm_aload_n (G := GM) (r := 1) C rfl dX11_readsPerson_170 rfl (lv_at hl 0 rfl) ?_
        refine lv_ldc2 hx hb C.2.2.2.1 (C.2.2.2.2.1 _ kn_X11_226) dX11_readsPerson_171 ?_
        refine lv_iconst (v := 1) hx hb dX11_readsPerson_174 (by decide) ?_
        refine lv_bipush (v := 20) hx hb dX11_readsPerson_175 (by decide) ?_
        obtain ⟨⟨r_16, u_17⟩, hc_18, hf⟩ := gm_bnd hf
        try dsimp only at hf
        refine gm_callV (G := GM) (u := u_15) (u' := u_17) (r := 1) (ci := 10) (As := [.long (323812 : Int64), .int (1 : Int32), .int (20 : Int32)]) (rest := []) (res := (some (.int r_16))) C hw hl (ok_X11_needsBoth l Z (323812 : Int64) (1 : Int32) (20 : Int32) u_15 r_16 u_17 hc_18) cw_X11_272 im_X11_needsBoth rfl se_X11_needsBoth rfl rfl rfl ⟨Nat.le_trans (Nat.le_of_ble_eq_true rfl) hRf, Nat.le_trans (Nat.le_of_ble_eq_true rfl) hRl⟩ rfl rfl (Nat.le_of_ble_eq_true rfl) dX11_readsPerson_177 (fun H locs hw => ?_)
        refine lv_if_ne (tgt := 185) hx hb dX11_readsPerson_180 (by decide) (fun hc => ?_) (fun hc => ?_)
        · replace hf := (if_neg hc).symm.trans hf
          refine gm_aload_n (G := GM) (r := 1) C rfl dX11_readsPerson_185 rfl (lv_at hl 0 rfl) ?_
          refine gm_getS (G := GM) (u := u_17) (r := 1) (ci := 10) (k := 14) C hw rfl fl_X11_26 dX11_readsPerson_186 rfl (q := 7) rfl ?_
          refine lv_iload_n hx hb dX11_readsPerson_189 rfl (lv_at hl 1 rfl) ?_
          refine gm_aload_n (G := GM) (r := 1) C rfl dX11_readsPerson_190 rfl (lv_at hl 0 rfl) ?_
          refine gm_getI (G := GM) (u := u_17) (r := 1) (ci := 10) (k := 32) C hw rfl fl_X11_258 dX11_readsPerson_191 rfl ?_
          refine gm_iast (G := GM) (u := u_17) (r := 7) (n := 12) (i := v1_2) (x := gI u_17 1 32) C hw rfl g_8 rfl dX11_readsPerson_194 (fun H locs hw => ?_)
          obtain ⟨u_20, e_u_20, hf⟩ := gm_le hf
          rw [← e_u_20] at hw
          refine gm_aload_n (G := GM) (r := 1) C rfl dX11_readsPerson_195 rfl (lv_at hl 0 rfl) ?_
          refine gm_getS (G := GM) (u := u_20) (r := 1) (ci := 10) (k := 11) C hw rfl fl_X11_16 dX11_readsPerson_196 rfl (q := 4) rfl ?_
          refine lv_iload_n hx hb dX11_readsPerson_199 rfl (lv_at hl 1 rfl) ?_
          refine lv_lload_n hx hb dX11_readsPerson_200 rfl (lv_at hl 2 rfl) ?_
          refine gm_last (G := GM) (u := u_20) (r := 4) (n := 12) (i := v1_2) (x := v2_3) C hw rfl g_8 rfl dX11_readsPerson_201 (fun H locs hw => ?_)
          obtain ⟨u_21, e_u_21, hf⟩ := gm_le hf
          rw [← e_u_21] at hw
          refine gm_aload_n (G := GM) (r := 1) C rfl dX11_readsPerson_202 rfl (lv_at hl 0 rfl) ?_
          refine gm_getS (G := GM) (u := u_21) (r := 1) (ci := 10) (k := 10) C hw rfl fl_X11_13 dX11_readsPerson_203 rfl (q := 3) rfl ?_
          refine lv_iconst (v := 4) hx hb dX11_readsPerson_206 (by decide) ?_
          refine lv_dup2_11 hx hb dX11_readsPerson_207 rfl (gm_cat _ _) ?_
          refine gm_iald (G := GM) (u := u_21) (r := 3) (n := 8) (i := (4 : Int32)) C hw rfl (by decide) (j := 4) (by decide) dX11_readsPerson_208 ?_
          refine lv_iconst (v := 1) hx hb dX11_readsPerson_209 (by decide) ?_
          refine lv_iadd hx hb dX11_readsPerson_210 ?_
          refine gm_iast (G := GM) (u := u_21) (r := 3) (n := 8) (i := (4 : Int32)) (x := (gI u_21 3 4) + (1 : Int32)) C hw rfl (by decide) (j := 4) (by decide) dX11_readsPerson_211 (fun H locs hw => ?_)
          obtain ⟨u_22, e_u_22, hf⟩ := gm_le hf
          rw [← e_u_22] at hw
          refine gm_aload_n (G := GM) (r := 1) C rfl dX11_readsPerson_212 rfl (lv_at hl 0 rfl) ?_
          obtain ⟨⟨r_23, u_24⟩, hc_25, hf⟩ := gm_bnd hf
          try dsimp only at hf
          refine gm_callV (G := GM) (u := u_22) (u' := u_24) (r := 1) (ci := 10) (As := []) (rest := []) (res := (some (.int r_23))) C hw hl (ok_X11_closes l Z u_22 r_23 u_24 hc_25) cw_X11_276 im_X11_closes rfl se_X11_closes rfl rfl rfl ⟨Nat.le_trans (Nat.le_of_ble_eq_true rfl) hRf, Nat.le_trans (Nat.le_of_ble_eq_true rfl) hRl⟩ rfl rfl (Nat.le_of_ble_eq_true rfl) dX11_readsPerson_213 (fun H locs hw => ?_)
          exact gm_zret C E hw rfl rfl ((congrArg (fun z => some (Value.int z)) (gm_sp hf).1).symm) (gm_sp hf).2.symm dX11_readsPerson_216
        · replace hf := (if_pos hc).symm.trans hf
          refine lv_iconst (v := 0) hx hb dX11_readsPerson_183 (by decide) ?_
          exact gm_zret C E hw rfl rfl ((congrArg (fun z => some (Value.int z)) (gm_sp hf).1).symm) (gm_sp hf).2.symm dX11_readsPerson_184
      · replace hf := (if_pos hc).symm.trans hf
        refine lv_iconst (v := 0) hx hb dX11_readsPerson_158 (by decide) ?_
        exact gm_zret C E hw rfl rfl ((congrArg (fun z => some (Value.int z)) (gm_sp hf).1).symm) (gm_sp hf).2.symm dX11_readsPerson_159
    · replace hf := (if_neg hc).symm.trans hf
      refine gm_aload_n (G := GM) (r := 1) C rfl dX11_readsPerson_134 rfl (lv_at hl 0 rfl) ?_
      refine lv_iconst (v := 1) hx hb dX11_readsPerson_135 (by decide) ?_
      obtain ⟨⟨r_27, u_28⟩, hc_29, hf⟩ := gm_bnd hf
      try dsimp only at hf
      refine gm_callV (G := GM) (u := u_7) (u' := u_28) (r := 1) (ci := 10) (As := [.int (1 : Int32)]) (rest := []) (res := (some (.int r_27))) C hw hl (ok_X11_fails l Z (1 : Int32) u_7 r_27 u_28 hc_29) cw_X11_200 im_X11_fails rfl se_X11_fails rfl rfl rfl ⟨Nat.le_trans (Nat.le_of_ble_eq_true rfl) hRf, Nat.le_trans (Nat.le_of_ble_eq_true rfl) hRl⟩ rfl rfl (Nat.le_of_ble_eq_true rfl) dX11_readsPerson_136 (fun H locs hw => ?_)
      exact gm_zret C E hw rfl rfl ((congrArg (fun z => some (Value.int z)) (gm_sp hf).1).symm) (gm_sp hf).2.symm dX11_readsPerson_139
  refine lv_bipush (v := 6) hx hb dX11_readsPerson_0 (by decide) ?_
  refine gm_aload_n (G := GM) (r := 1) C rfl dX11_readsPerson_2 rfl (lv_at hl 0 rfl) ?_
  refine gm_getS (G := GM) (u := u) (r := 1) (ci := 10) (k := 10) C hw rfl fl_X11_13 dX11_readsPerson_3 rfl (q := 3) rfl ?_
  refine lv_iconst (v := 4) hx hb dX11_readsPerson_6 (by decide) ?_
  refine gm_iald (G := GM) (u := u) (r := 3) (n := 8) (i := (4 : Int32)) C hw rfl (by decide) (j := 4) (by decide) dX11_readsPerson_7 ?_
  refine lv_iadd hx hb dX11_readsPerson_8 ?_
  obtain ⟨v1_31, e_v1_31, hf⟩ := gm_le hf
  refine gm_topI e_v1_31 ?_
  refine lv_istore_n (i := 1) (lv' := [(1, .int v1_31), (0, rv Z 1)]) hx hb dX11_readsPerson_9 rfl hl (by decide) rfl (fun ls hl => ?_)
  refine lv_iload_n hx hb dX11_readsPerson_10 rfl (lv_at hl 0 rfl) ?_
  refine lv_bipush (v := 12) hx hb dX11_readsPerson_11 (by decide) ?_
  refine lv_icmp_ne (tgt := 22) hx hb dX11_readsPerson_13 (by decide) (fun hc => ?_) (fun hc => ?_)
  · replace hf := (if_neg hc).symm.trans hf
    refine gm_aload_n (G := GM) (r := 1) C rfl dX11_readsPerson_22 rfl (lv_at hl 1 rfl) ?_
    obtain ⟨u_32, hc_33, hf⟩ := gm_bnd hf
    refine gm_callV (G := GM) (u := u) (u' := u_32) (r := 1) (ci := 10) (As := []) (rest := []) (res := none) C hw hl (ok_X11_nextToken l Z u u_32 hc_33) cw_X11_206 im_X11_nextToken rfl se_X11_nextToken rfl rfl rfl ⟨Nat.le_trans (Nat.le_of_ble_eq_true rfl) hRf, Nat.le_trans (Nat.le_of_ble_eq_true rfl) hRl⟩ rfl rfl (Nat.le_of_ble_eq_true rfl) dX11_readsPerson_23 (fun H locs hw => ?_)
    refine gm_aload_n (G := GM) (r := 1) C rfl dX11_readsPerson_26 rfl (lv_at hl 1 rfl) ?_
    obtain ⟨r_34, e_r_34, hf⟩ := gm_le hf
    refine gm_callV (G := GM) (u := u_32) (u' := u_32) (r := 1) (ci := 10) (As := []) (rest := []) (res := (some (.int (f_X11_isKept u_32)))) C hw hl (ok_X11_isKept l Z u_32) cw_X11_265 im_X11_isKept rfl se_X11_isKept rfl rfl rfl ⟨Nat.le_trans (Nat.le_of_ble_eq_true rfl) hRf, Nat.le_trans (Nat.le_of_ble_eq_true rfl) hRl⟩ rfl rfl (Nat.le_of_ble_eq_true rfl) dX11_readsPerson_27 (fun H locs hw => ?_)
    refine gm_topI e_r_34 ?_
    refine lv_if_eq (tgt := 39) hx hb dX11_readsPerson_30 (by decide) (fun hc => ?_) (fun hc => ?_)
    · replace hf := (if_pos hc).symm.trans hf
      refine gm_aload_n (G := GM) (r := 1) C rfl dX11_readsPerson_39 rfl (lv_at hl 1 rfl) ?_
      refine lv_iconst (v := 1) hx hb dX11_readsPerson_40 (by decide) ?_
      obtain ⟨r_35, hc_36, hf⟩ := gm_bnd hf
      refine gm_callV (G := GM) (u := u_32) (u' := u_32) (r := 1) (ci := 10) (As := [.int (1 : Int32)]) (rest := []) (res := (some (.int r_35))) C hw hl (ok_X11_personNamed l Z (1 : Int32) u_32 r_35 hc_36) cw_X11_269 im_X11_personNamed rfl se_X11_personNamed rfl rfl rfl ⟨Nat.le_trans (Nat.le_of_ble_eq_true rfl) hRf, Nat.le_trans (Nat.le_of_ble_eq_true rfl) hRl⟩ rfl rfl (Nat.le_of_ble_eq_true rfl) dX11_readsPerson_41 (fun H locs hw => ?_)
      refine lv_if_lt (tgt := 53) hx hb dX11_readsPerson_44 (by decide) (fun hc => ?_) (fun hc => ?_)
      · replace hf := (if_pos hc).symm.trans hf
        refine gm_aload_n (G := GM) (r := 1) C rfl dX11_readsPerson_53 rfl (lv_at hl 1 rfl) ?_
        refine gm_getJ (G := GM) (u := u_32) (r := 1) (ci := 10) (k := 7) C hw rfl fl_X11_154 dX11_readsPerson_54 rfl ?_
        obtain ⟨v2_37, e_v2_37, hf⟩ := gm_le hf
        refine gm_topJ e_v2_37 ?_
        refine lv_lstore_n (i := 2) (lv' := [(2, .long v2_37), (1, .int v1_31), (0, rv Z 1)]) hx hb dX11_readsPerson_57 rfl hl (by decide) rfl (fun ls hl => ?_)
        refine gm_aload_n (G := GM) (r := 1) C rfl dX11_readsPerson_58 rfl (lv_at hl 2 rfl) ?_
        obtain ⟨u_38, hc_39, hf⟩ := gm_bnd hf
        refine gm_callV (G := GM) (u := u_32) (u' := u_38) (r := 1) (ci := 10) (As := []) (rest := []) (res := none) C hw hl (ok_X11_nextToken l Z u_32 u_38 hc_39) cw_X11_206 im_X11_nextToken rfl se_X11_nextToken rfl rfl rfl ⟨Nat.le_trans (Nat.le_of_ble_eq_true rfl) hRf, Nat.le_trans (Nat.le_of_ble_eq_true rfl) hRl⟩ rfl rfl (Nat.le_of_ble_eq_true rfl) dX11_readsPerson_59 (fun H locs hw => ?_)
        refine gm_aload_n (G := GM) (r := 1) C rfl dX11_readsPerson_62 rfl (lv_at hl 2 rfl) ?_
        refine gm_getS (G := GM) (u := u_38) (r := 1) (ci := 10) (k := 12) C hw rfl fl_X11_20 dX11_readsPerson_63 rfl (q := 5) rfl ?_
        refine lv_iload_n hx hb dX11_readsPerson_66 rfl (lv_at hl 1 rfl) ?_
        refine gm_aload_n (G := GM) (r := 1) C rfl dX11_readsPerson_67 rfl (lv_at hl 2 rfl) ?_
        refine lv_ldc2 hx hb C.2.2.2.1 (C.2.2.2.2.1 _ kn_X11_246) dX11_readsPerson_68 ?_
        obtain ⟨r_40, e_r_40, hf⟩ := gm_le hf
        refine gm_callV (G := GM) (u := u_38) (u' := u_38) (r := 1) (ci := 10) (As := [.long (8740238 : Int64)]) (rest := [.int v1_31, rv Z 5]) (res := (some (.int (f_X11_isWord (8740238 : Int64) u_38)))) C hw hl (ok_X11_isWord l Z (8740238 : Int64) u_38) cw_X11_192 im_X11_isWord rfl se_X11_isWord rfl rfl rfl ⟨Nat.le_trans (Nat.le_of_ble_eq_true rfl) hRf, Nat.le_trans (Nat.le_of_ble_eq_true rfl) hRl⟩ rfl rfl (Nat.le_of_ble_eq_true rfl) dX11_readsPerson_71 (fun H locs hw => ?_)
        refine gm_topI e_r_40 ?_
        refine lv_if_eq (tgt := 81) hx hb dX11_readsPerson_74 (by decide) (fun hc => ?_) (fun hc => ?_)
        · replace hf := (if_pos hc).symm.trans hf
          refine gm_aload_n (G := GM) (r := 1) C rfl dX11_readsPerson_81 rfl (lv_at hl 2 rfl) ?_
          refine lv_ldc2 hx hb C.2.2.2.1 (C.2.2.2.2.1 _ kn_X11_248) dX11_readsPerson_82 ?_
          obtain ⟨r_41, e_r_41, hf⟩ := gm_le hf
          refine gm_callV (G := GM) (u := u_38) (u' := u_38) (r := 1) (ci := 10) (As := [.long (239884 : Int64)]) (rest := [.int v1_31, rv Z 5]) (res := (some (.int (f_X11_isWord (239884 : Int64) u_38)))) C hw hl (ok_X11_isWord l Z (239884 : Int64) u_38) cw_X11_192 im_X11_isWord rfl se_X11_isWord rfl rfl rfl ⟨Nat.le_trans (Nat.le_of_ble_eq_true rfl) hRf, Nat.le_trans (Nat.le_of_ble_eq_true rfl) hRl⟩ rfl rfl (Nat.le_of_ble_eq_true rfl) dX11_readsPerson_85 (fun H locs hw => ?_)
          refine gm_topI e_r_41 ?_
          refine lv_if_eq (tgt := 95) hx hb dX11_readsPerson_88 (by decide) (fun hc => ?_) (fun hc => ?_)
          · replace hf := (if_pos hc).symm.trans hf
            refine gm_aload_n (G := GM) (r := 1) C rfl dX11_readsPerson_95 rfl (lv_at hl 2 rfl) ?_
            refine lv_ldc2 hx hb C.2.2.2.1 (C.2.2.2.2.1 _ kn_X11_250) dX11_readsPerson_96 ?_
            obtain ⟨r_42, e_r_42, hf⟩ := gm_le hf
            refine gm_callV (G := GM) (u := u_38) (u' := u_38) (r := 1) (ci := 10) (As := [.long (161370 : Int64)]) (rest := [.int v1_31, rv Z 5]) (res := (some (.int (f_X11_isWord (161370 : Int64) u_38)))) C hw hl (ok_X11_isWord l Z (161370 : Int64) u_38) cw_X11_192 im_X11_isWord rfl se_X11_isWord rfl rfl rfl ⟨Nat.le_trans (Nat.le_of_ble_eq_true rfl) hRf, Nat.le_trans (Nat.le_of_ble_eq_true rfl) hRl⟩ rfl rfl (Nat.le_of_ble_eq_true rfl) dX11_readsPerson_99 (fun H locs hw => ?_)
            refine gm_topI e_r_42 ?_
            refine lv_if_eq (tgt := 109) hx hb dX11_readsPerson_102 (by decide) (fun hc => ?_) (fun hc => ?_)
            · replace hf := (if_pos hc).symm.trans hf
              refine gm_aload_n (G := GM) (r := 1) C rfl dX11_readsPerson_109 rfl (lv_at hl 2 rfl) ?_
              refine lv_ldc2 hx hb C.2.2.2.1 (C.2.2.2.2.1 _ kn_X11_252) dX11_readsPerson_110 ?_
              obtain ⟨r_43, e_r_43, hf⟩ := gm_le hf
              refine gm_callV (G := GM) (u := u_38) (u' := u_38) (r := 1) (ci := 10) (As := [.long (6688728 : Int64)]) (rest := [.int v1_31, rv Z 5]) (res := (some (.int (f_X11_isWord (6688728 : Int64) u_38)))) C hw hl (ok_X11_isWord l Z (6688728 : Int64) u_38) cw_X11_192 im_X11_isWord rfl se_X11_isWord rfl rfl rfl ⟨Nat.le_trans (Nat.le_of_ble_eq_true rfl) hRf, Nat.le_trans (Nat.le_of_ble_eq_true rfl) hRl⟩ rfl rfl (Nat.le_of_ble_eq_true rfl) dX11_readsPerson_113 (fun H locs hw => ?_)
              refine gm_topI e_r_43 ?_
              refine lv_if_eq (tgt := 123) hx hb dX11_readsPerson_116 (by decide) (fun hc => ?_) (fun hc => ?_)
              · replace hf := (if_pos hc).symm.trans hf
                refine lv_iconst (v := -1) hx hb dX11_readsPerson_123 (by decide) ?_
                exact J124 v1_31 v2_37 v1_31 (-1 : Int32) u_38 _ _ _ hf  (lv_sub hl [2, 1, 0] rfl) hw
              · replace hf := (if_neg hc).symm.trans hf
                refine lv_iconst (v := 3) hx hb dX11_readsPerson_119 (by decide) ?_
                refine lv_goto (tgt := 124) hx hb dX11_readsPerson_120 (by decide) ?_
                exact J124 v1_31 v2_37 v1_31 (3 : Int32) u_38 _ _ _ hf  (lv_sub hl [2, 1, 0] rfl) hw
            · replace hf := (if_neg hc).symm.trans hf
              refine lv_iconst (v := 2) hx hb dX11_readsPerson_105 (by decide) ?_
              refine lv_goto (tgt := 124) hx hb dX11_readsPerson_106 (by decide) ?_
              exact J124 v1_31 v2_37 v1_31 (2 : Int32) u_38 _ _ _ hf  (lv_sub hl [2, 1, 0] rfl) hw
          · replace hf := (if_neg hc).symm.trans hf
            refine lv_iconst (v := 1) hx hb dX11_readsPerson_91 (by decide) ?_
            refine lv_goto (tgt := 124) hx hb dX11_readsPerson_92 (by decide) ?_
            exact J124 v1_31 v2_37 v1_31 (1 : Int32) u_38 _ _ _ hf  (lv_sub hl [2, 1, 0] rfl) hw
        · replace hf := (if_neg hc).symm.trans hf
          refine lv_iconst (v := 0) hx hb dX11_readsPerson_77 (by decide) ?_
          refine lv_goto (tgt := 124) hx hb dX11_readsPerson_78 (by decide) ?_
          exact J124 v1_31 v2_37 v1_31 (0 : Int32) u_38 _ _ _ hf  (lv_sub hl [2, 1, 0] rfl) hw
      · replace hf := (if_neg hc).symm.trans hf
        refine gm_aload_n (G := GM) (r := 1) C rfl dX11_readsPerson_47 rfl (lv_at hl 1 rfl) ?_
        refine lv_iconst (v := 3) hx hb dX11_readsPerson_48 (by decide) ?_
        obtain ⟨⟨r_44, u_45⟩, hc_46, hf⟩ := gm_bnd hf
        try dsimp only at hf
        refine gm_callV (G := GM) (u := u_32) (u' := u_45) (r := 1) (ci := 10) (As := [.int (3 : Int32)]) (rest := []) (res := (some (.int r_44))) C hw hl (ok_X11_fails l Z (3 : Int32) u_32 r_44 u_45 hc_46) cw_X11_200 im_X11_fails rfl se_X11_fails rfl rfl rfl ⟨Nat.le_trans (Nat.le_of_ble_eq_true rfl) hRf, Nat.le_trans (Nat.le_of_ble_eq_true rfl) hRl⟩ rfl rfl (Nat.le_of_ble_eq_true rfl) dX11_readsPerson_49 (fun H locs hw => ?_)
        exact gm_zret C E hw rfl rfl ((congrArg (fun z => some (Value.int z)) (gm_sp hf).1).symm) (gm_sp hf).2.symm dX11_readsPerson_52
    · replace hf := (if_neg hc).symm.trans hf
      refine gm_aload_n (G := GM) (r := 1) C rfl dX11_readsPerson_33 rfl (lv_at hl 1 rfl) ?_
      refine lv_iconst (v := 1) hx hb dX11_readsPerson_34 (by decide) ?_
      obtain ⟨⟨r_48, u_49⟩, hc_50, hf⟩ := gm_bnd hf
      try dsimp only at hf
      refine gm_callV (G := GM) (u := u_32) (u' := u_49) (r := 1) (ci := 10) (As := [.int (1 : Int32)]) (rest := []) (res := (some (.int r_48))) C hw hl (ok_X11_fails l Z (1 : Int32) u_32 r_48 u_49 hc_50) cw_X11_200 im_X11_fails rfl se_X11_fails rfl rfl rfl ⟨Nat.le_trans (Nat.le_of_ble_eq_true rfl) hRf, Nat.le_trans (Nat.le_of_ble_eq_true rfl) hRl⟩ rfl rfl (Nat.le_of_ble_eq_true rfl) dX11_readsPerson_35 (fun H locs hw => ?_)
      exact gm_zret C E hw rfl rfl ((congrArg (fun z => some (Value.int z)) (gm_sp hf).1).symm) (gm_sp hf).2.symm dX11_readsPerson_38
  · replace hf := (if_pos hc).symm.trans hf
    refine gm_aload_n (G := GM) (r := 1) C rfl dX11_readsPerson_16 rfl (lv_at hl 1 rfl) ?_
    refine lv_iconst (v := 5) hx hb dX11_readsPerson_17 (by decide) ?_
    obtain ⟨⟨r_52, u_53⟩, hc_54, hf⟩ := gm_bnd hf
    try dsimp only at hf
    refine gm_callV (G := GM) (u := u) (u' := u_53) (r := 1) (ci := 10) (As := [.int (5 : Int32)]) (rest := []) (res := (some (.int r_52))) C hw hl (ok_X11_fails l Z (5 : Int32) u r_52 u_53 hc_54) cw_X11_200 im_X11_fails rfl se_X11_fails rfl rfl rfl ⟨Nat.le_trans (Nat.le_of_ble_eq_true rfl) hRf, Nat.le_trans (Nat.le_of_ble_eq_true rfl) hRl⟩ rfl rfl (Nat.le_of_ble_eq_true rfl) dX11_readsPerson_18 (fun H locs hw => ?_)
    exact gm_zret C E hw rfl rfl ((congrArg (fun z => some (Value.int z)) (gm_sp hf).1).symm) (gm_sp hf).2.symm dX11_readsPerson_21
/-! LeapCapitalModel.readsOne -/
def f_X11_readsOne (a1 : Int32) (a2 : Int32) (a3 : Int32) (u : gm_M) : Option (Int32 × gm_M) := if (((gI u 1 19) >>> (a1 &&& 31)) &&& (1 : Int32)) = (1 : Int32) then (f_X11_fails (3 : Int32) u).bind fun o => match o with | (r_14, u_15) => some (r_14 &&& 1, u_15) else gm_let (sI u 1 19 ((gI u 1 19) ||| ((1 : Int32) <<< (a1 &&& 31)))) fun u_1 => (f_X11_nextToken u_1).bind fun u_2 => (f_X11_needsNumber a2 a3 u_2).bind fun o => match o with | (r_4, u_5) => if r_4 = 0 then some ((0 : Int32), u_5) else if ib ((4 : Int32) + a1) 8 = true then gm_let (sI u_5 3 (ix ((4 : Int32) + a1)) (gI u_5 1 32)) fun u_9 => (f_X11_closes u_9).bind fun o => match o with | (r_10, u_11) => some (r_10 &&& 1, u_11) else none
set_option maxRecDepth 100000 in
set_option maxHeartbeats 4000000 in
theorem ok_X11_readsOne (l : Launch) (Z : gm_Z) (a1 : Int32) (a2 : Int32) (a3 : Int32) (u : gm_M)  (r : Int32) (u' : gm_M) (hf : f_X11_readsOne a1 a2 a3 u = some (r, u')) : gm_Met l GM Z yX11_readsOne cX11_readsOne 4 (some .boolean) ({ frames := 3, cells := 0, slots := 0, locals := 64 }) [rv Z 1, .int a1, .int a2, .int a3] u (some (.int r)) u' := by
  unfold f_X11_readsOne at hf
  refine gm_ofW (by decide +kernel) (Nat.le_of_ble_eq_true rfl) ?_
  intro p e s m args below meth c A ls Q R hRf hRl C E hl hw
  obtain ⟨hx, hb, -⟩ := id C
  have hl : lv_has ls 4 [(0, rv Z 1), (1, .int a1), (2, .int a2), (3, .int a3)] := hl
  refine gm_aload_n (G := GM) (r := 1) C rfl dX11_readsOne_0 rfl (lv_at hl 0 rfl) ?_
  refine gm_getI (G := GM) (u := u) (r := 1) (ci := 10) (k := 19) C hw rfl fl_X11_279 dX11_readsOne_1 rfl ?_
  refine lv_iload_n hx hb dX11_readsOne_4 rfl (lv_at hl 1 rfl) ?_
  refine lv_ishr hx hb dX11_readsOne_5 ?_
  refine lv_iconst (v := 1) hx hb dX11_readsOne_6 (by decide) ?_
  refine lv_iand hx hb dX11_readsOne_7 ?_
  refine lv_iconst (v := 1) hx hb dX11_readsOne_8 (by decide) ?_
  refine lv_icmp_ne (tgt := 18) hx hb dX11_readsOne_9 (by decide) (fun hc => ?_) (fun hc => ?_)
  · replace hf := (if_neg hc).symm.trans hf
    refine gm_aload_n (G := GM) (r := 1) C rfl dX11_readsOne_18 rfl (lv_at hl 0 rfl) ?_
    refine lv_dup hx hb dX11_readsOne_19 (gm_cat _ _) ?_
    refine gm_getI (G := GM) (u := u) (r := 1) (ci := 10) (k := 19) C hw rfl fl_X11_279 dX11_readsOne_20 rfl ?_
    refine lv_iconst (v := 1) hx hb dX11_readsOne_23 (by decide) ?_
    refine lv_iload_n hx hb dX11_readsOne_24 rfl (lv_at hl 1 rfl) ?_
    refine lv_ishl hx hb dX11_readsOne_25 ?_
    refine lv_ior hx hb dX11_readsOne_26 ?_
    refine gm_putI (G := GM) (u := u) (r := 1) (ci := 10) (k := 19) (v := (gI u 1 19) ||| ((1 : Int32) <<< (a1 &&& 31))) C hw rfl fl_X11_279 fp_10_19 dX11_readsOne_27 rfl (fun H locs hw => ?_)
    obtain ⟨u_1, e_u_1, hf⟩ := gm_le hf
    rw [← e_u_1] at hw
    refine gm_aload_n (G := GM) (r := 1) C rfl dX11_readsOne_30 rfl (lv_at hl 0 rfl) ?_
    obtain ⟨u_2, hc_3, hf⟩ := gm_bnd hf
    refine gm_callV (G := GM) (u := u_1) (u' := u_2) (r := 1) (ci := 10) (As := []) (rest := []) (res := none) C hw hl (ok_X11_nextToken l Z u_1 u_2 hc_3) cw_X11_206 im_X11_nextToken rfl se_X11_nextToken rfl rfl rfl ⟨Nat.le_trans (Nat.le_of_ble_eq_true rfl) hRf, Nat.le_trans (Nat.le_of_ble_eq_true rfl) hRl⟩ rfl rfl (Nat.le_of_ble_eq_true rfl) dX11_readsOne_31 (fun H locs hw => ?_)
    refine gm_aload_n (G := GM) (r := 1) C rfl dX11_readsOne_34 rfl (lv_at hl 0 rfl) ?_
    refine lv_iload_n hx hb dX11_readsOne_35 rfl (lv_at hl 2 rfl) ?_
    refine lv_iload_n hx hb dX11_readsOne_36 rfl (lv_at hl 3 rfl) ?_
    obtain ⟨⟨r_4, u_5⟩, hc_6, hf⟩ := gm_bnd hf
    try dsimp only at hf
    refine gm_callV (G := GM) (u := u_2) (u' := u_5) (r := 1) (ci := 10) (As := [.int a2, .int a3]) (rest := []) (res := (some (.int r_4))) C hw hl (ok_X11_needsNumber l Z a2 a3 u_2 r_4 u_5 hc_6) cw_X11_261 im_X11_needsNumber rfl se_X11_needsNumber rfl rfl rfl ⟨Nat.le_trans (Nat.le_of_ble_eq_true rfl) hRf, Nat.le_trans (Nat.le_of_ble_eq_true rfl) hRl⟩ rfl rfl (Nat.le_of_ble_eq_true rfl) dX11_readsOne_37 (fun H locs hw => ?_)
    refine lv_if_ne (tgt := 45) hx hb dX11_readsOne_40 (by decide) (fun hc => ?_) (fun hc => ?_)
    · replace hf := (if_neg hc).symm.trans hf
      refine gm_aload_n (G := GM) (r := 1) C rfl dX11_readsOne_45 rfl (lv_at hl 0 rfl) ?_
      refine gm_getS (G := GM) (u := u_5) (r := 1) (ci := 10) (k := 10) C hw rfl fl_X11_13 dX11_readsOne_46 rfl (q := 3) rfl ?_
      refine lv_iconst (v := 4) hx hb dX11_readsOne_49 (by decide) ?_
      refine lv_iload_n hx hb dX11_readsOne_50 rfl (lv_at hl 1 rfl) ?_
      refine lv_iadd hx hb dX11_readsOne_51 ?_
      refine gm_aload_n (G := GM) (r := 1) C rfl dX11_readsOne_52 rfl (lv_at hl 0 rfl) ?_
      refine gm_getI (G := GM) (u := u_5) (r := 1) (ci := 10) (k := 32) C hw rfl fl_X11_258 dX11_readsOne_53 rfl ?_
      obtain ⟨g_8, hf⟩ := gm_grd hf
      refine gm_iast (G := GM) (u := u_5) (r := 3) (n := 8) (i := (4 : Int32) + a1) (x := gI u_5 1 32) C hw rfl g_8 rfl dX11_readsOne_56 (fun H locs hw => ?_)
      obtain ⟨u_9, e_u_9, hf⟩ := gm_le hf
      rw [← e_u_9] at hw
      refine gm_aload_n (G := GM) (r := 1) C rfl dX11_readsOne_57 rfl (lv_at hl 0 rfl) ?_
      obtain ⟨⟨r_10, u_11⟩, hc_12, hf⟩ := gm_bnd hf
      try dsimp only at hf
      refine gm_callV (G := GM) (u := u_9) (u' := u_11) (r := 1) (ci := 10) (As := []) (rest := []) (res := (some (.int r_10))) C hw hl (ok_X11_closes l Z u_9 r_10 u_11 hc_12) cw_X11_276 im_X11_closes rfl se_X11_closes rfl rfl rfl ⟨Nat.le_trans (Nat.le_of_ble_eq_true rfl) hRf, Nat.le_trans (Nat.le_of_ble_eq_true rfl) hRl⟩ rfl rfl (Nat.le_of_ble_eq_true rfl) dX11_readsOne_58 (fun H locs hw => ?_)
      exact gm_zret C E hw rfl rfl ((congrArg (fun z => some (Value.int z)) (gm_sp hf).1).symm) (gm_sp hf).2.symm dX11_readsOne_61
    · replace hf := (if_pos hc).symm.trans hf
      refine lv_iconst (v := 0) hx hb dX11_readsOne_43 (by decide) ?_
      exact gm_zret C E hw rfl rfl ((congrArg (fun z => some (Value.int z)) (gm_sp hf).1).symm) (gm_sp hf).2.symm dX11_readsOne_44
  · replace hf := (if_pos hc).symm.trans hf
    refine gm_aload_n (G := GM) (r := 1) C rfl dX11_readsOne_12 rfl (lv_at hl 0 rfl) ?_
    refine lv_iconst (v := 3) hx hb dX11_readsOne_13 (by decide) ?_
    obtain ⟨⟨r_14, u_15⟩, hc_16, hf⟩ := gm_bnd hf
    try dsimp only at hf
    refine gm_callV (G := GM) (u := u) (u' := u_15) (r := 1) (ci := 10) (As := [.int (3 : Int32)]) (rest := []) (res := (some (.int r_14))) C hw hl (ok_X11_fails l Z (3 : Int32) u r_14 u_15 hc_16) cw_X11_200 im_X11_fails rfl se_X11_fails rfl rfl rfl ⟨Nat.le_trans (Nat.le_of_ble_eq_true rfl) hRf, Nat.le_trans (Nat.le_of_ble_eq_true rfl) hRl⟩ rfl rfl (Nat.le_of_ble_eq_true rfl) dX11_readsOne_14 (fun H locs hw => ?_)
    exact gm_zret C E hw rfl rfl ((congrArg (fun z => some (Value.int z)) (gm_sp hf).1).symm) (gm_sp hf).2.symm dX11_readsOne_17
/-! LeapCapitalModel.readsFirst -/
def f_X11_readsFirst  (u : gm_M) : Option (Int32 × gm_M) := if (gI u 9 1) ≤ (gI u 8 1) then (f_X11_nextToken u).bind fun u_1 => gm_let (sI u_1 8 1 (gI u_1 1 18)) fun u_3 => (f_X11_reads u_3).bind fun o => match o with | (r_4, u_5) => if r_4 = 0 then some ((0 : Int32), u_5) else gm_let (sI u_5 9 1 (gI u_5 1 18)) fun u_8 => some ((1 : Int32), u_8) else (f_X11_fails (3 : Int32) u).bind fun o => match o with | (r_9, u_10) => some (r_9 &&& 1, u_10)
set_option maxRecDepth 100000 in
set_option maxHeartbeats 4000000 in
theorem ok_X11_readsFirst (l : Launch) (Z : gm_Z)  (u : gm_M)  (r : Int32) (u' : gm_M) (hf : f_X11_readsFirst u = some (r, u')) : gm_Met l GM Z yX11_readsFirst cX11_readsFirst 1 (some .boolean) ({ frames := 3, cells := 0, slots := 0, locals := 67 }) [rv Z 1] u (some (.int r)) u' := by
  unfold f_X11_readsFirst at hf
  refine gm_ofW (by decide +kernel) (Nat.le_of_ble_eq_true rfl) ?_
  intro p e s m args below meth c A ls Q R hRf hRl C E hl hw
  obtain ⟨hx, hb, -⟩ := id C
  have hl : lv_has ls 1 [(0, rv Z 1)] := hl
  refine gm_aload_n (G := GM) (r := 1) C rfl dX11_readsFirst_0 rfl (lv_at hl 0 rfl) ?_
  refine gm_getS (G := GM) (u := u) (r := 1) (ci := 10) (k := 16) C hw rfl fl_X11_32 dX11_readsFirst_1 rfl (q := 9) rfl ?_
  refine lv_iconst (v := 1) hx hb dX11_readsFirst_4 (by decide) ?_
  refine gm_iald (G := GM) (u := u) (r := 9) (n := 2) (i := (1 : Int32)) C hw rfl (by decide) (j := 1) (by decide) dX11_readsFirst_5 ?_
  refine gm_aload_n (G := GM) (r := 1) C rfl dX11_readsFirst_6 rfl (lv_at hl 0 rfl) ?_
  refine gm_getS (G := GM) (u := u) (r := 1) (ci := 10) (k := 15) C hw rfl fl_X11_29 dX11_readsFirst_7 rfl (q := 8) rfl ?_
  refine lv_iconst (v := 1) hx hb dX11_readsFirst_10 (by decide) ?_
  refine gm_iald (G := GM) (u := u) (r := 8) (n := 2) (i := (1 : Int32)) C hw rfl (by decide) (j := 1) (by decide) dX11_readsFirst_11 ?_
  refine lv_icmp_le (tgt := 21) hx hb dX11_readsFirst_12 (by decide) (fun hc => ?_) (fun hc => ?_)
  · replace hf := (if_pos hc).symm.trans hf
    refine gm_aload_n (G := GM) (r := 1) C rfl dX11_readsFirst_21 rfl (lv_at hl 0 rfl) ?_
    obtain ⟨u_1, hc_2, hf⟩ := gm_bnd hf
    refine gm_callV (G := GM) (u := u) (u' := u_1) (r := 1) (ci := 10) (As := []) (rest := []) (res := none) C hw hl (ok_X11_nextToken l Z u u_1 hc_2) cw_X11_206 im_X11_nextToken rfl se_X11_nextToken rfl rfl rfl ⟨Nat.le_trans (Nat.le_of_ble_eq_true rfl) hRf, Nat.le_trans (Nat.le_of_ble_eq_true rfl) hRl⟩ rfl rfl (Nat.le_of_ble_eq_true rfl) dX11_readsFirst_22 (fun H locs hw => ?_)
    refine gm_aload_n (G := GM) (r := 1) C rfl dX11_readsFirst_25 rfl (lv_at hl 0 rfl) ?_
    refine gm_getS (G := GM) (u := u_1) (r := 1) (ci := 10) (k := 15) C hw rfl fl_X11_29 dX11_readsFirst_26 rfl (q := 8) rfl ?_
    refine lv_iconst (v := 1) hx hb dX11_readsFirst_29 (by decide) ?_
    refine gm_aload_n (G := GM) (r := 1) C rfl dX11_readsFirst_30 rfl (lv_at hl 0 rfl) ?_
    refine gm_getI (G := GM) (u := u_1) (r := 1) (ci := 10) (k := 18) C hw rfl fl_X11_175 dX11_readsFirst_31 rfl ?_
    refine gm_iast (G := GM) (u := u_1) (r := 8) (n := 2) (i := (1 : Int32)) (x := gI u_1 1 18) C hw rfl (by decide) (j := 1) (by decide) dX11_readsFirst_34 (fun H locs hw => ?_)
    obtain ⟨u_3, e_u_3, hf⟩ := gm_le hf
    rw [← e_u_3] at hw
    refine gm_aload_n (G := GM) (r := 1) C rfl dX11_readsFirst_35 rfl (lv_at hl 0 rfl) ?_
    obtain ⟨⟨r_4, u_5⟩, hc_6, hf⟩ := gm_bnd hf
    try dsimp only at hf
    refine gm_callV (G := GM) (u := u_3) (u' := u_5) (r := 1) (ci := 10) (As := []) (rest := []) (res := (some (.int r_4))) C hw hl (ok_X11_reads l Z u_3 r_4 u_5 hc_6) cw_X11_282 im_X11_reads rfl se_X11_reads rfl rfl rfl ⟨Nat.le_trans (Nat.le_of_ble_eq_true rfl) hRf, Nat.le_trans (Nat.le_of_ble_eq_true rfl) hRl⟩ rfl rfl (Nat.le_of_ble_eq_true rfl) dX11_readsFirst_36 (fun H locs hw => ?_)
    refine lv_if_ne (tgt := 44) hx hb dX11_readsFirst_39 (by decide) (fun hc => ?_) (fun hc => ?_)
    · replace hf := (if_neg hc).symm.trans hf
      refine gm_aload_n (G := GM) (r := 1) C rfl dX11_readsFirst_44 rfl (lv_at hl 0 rfl) ?_
      refine gm_getS (G := GM) (u := u_5) (r := 1) (ci := 10) (k := 16) C hw rfl fl_X11_32 dX11_readsFirst_45 rfl (q := 9) rfl ?_
      refine lv_iconst (v := 1) hx hb dX11_readsFirst_48 (by decide) ?_
      refine gm_aload_n (G := GM) (r := 1) C rfl dX11_readsFirst_49 rfl (lv_at hl 0 rfl) ?_
      refine gm_getI (G := GM) (u := u_5) (r := 1) (ci := 10) (k := 18) C hw rfl fl_X11_175 dX11_readsFirst_50 rfl ?_
      refine gm_iast (G := GM) (u := u_5) (r := 9) (n := 2) (i := (1 : Int32)) (x := gI u_5 1 18) C hw rfl (by decide) (j := 1) (by decide) dX11_readsFirst_53 (fun H locs hw => ?_)
      obtain ⟨u_8, e_u_8, hf⟩ := gm_le hf
      rw [← e_u_8] at hw
      refine lv_iconst (v := 1) hx hb dX11_readsFirst_54 (by decide) ?_
      exact gm_zret C E hw rfl rfl ((congrArg (fun z => some (Value.int z)) (gm_sp hf).1).symm) (gm_sp hf).2.symm dX11_readsFirst_55
    · replace hf := (if_pos hc).symm.trans hf
      refine lv_iconst (v := 0) hx hb dX11_readsFirst_42 (by decide) ?_
      exact gm_zret C E hw rfl rfl ((congrArg (fun z => some (Value.int z)) (gm_sp hf).1).symm) (gm_sp hf).2.symm dX11_readsFirst_43
  · replace hf := (if_neg hc).symm.trans hf
    refine gm_aload_n (G := GM) (r := 1) C rfl dX11_readsFirst_15 rfl (lv_at hl 0 rfl) ?_
    refine lv_iconst (v := 3) hx hb dX11_readsFirst_16 (by decide) ?_
    obtain ⟨⟨r_9, u_10⟩, hc_11, hf⟩ := gm_bnd hf
    try dsimp only at hf
    refine gm_callV (G := GM) (u := u) (u' := u_10) (r := 1) (ci := 10) (As := [.int (3 : Int32)]) (rest := []) (res := (some (.int r_9))) C hw hl (ok_X11_fails l Z (3 : Int32) u r_9 u_10 hc_11) cw_X11_200 im_X11_fails rfl se_X11_fails rfl rfl rfl ⟨Nat.le_trans (Nat.le_of_ble_eq_true rfl) hRf, Nat.le_trans (Nat.le_of_ble_eq_true rfl) hRl⟩ rfl rfl (Nat.le_of_ble_eq_true rfl) dX11_readsFirst_17 (fun H locs hw => ?_)
    exact gm_zret C E hw rfl rfl ((congrArg (fun z => some (Value.int z)) (gm_sp hf).1).symm) (gm_sp hf).2.symm dX11_readsFirst_20
/-! LeapCapitalModel.begins -/
def f_X11_begins  (u : gm_M) : Option gm_M := gm_let (sI u 1 3 (gI u 1 1)) fun u_1 => gm_let (sI u_1 1 1 (0 : Int32)) fun u_2 => gm_let (sI u_2 1 4 (0 : Int32)) fun u_3 => (f_X11_nextToken u_3).bind fun u_4 => some u_4
set_option maxRecDepth 100000 in
set_option maxHeartbeats 4000000 in
theorem ok_X11_begins (l : Launch) (Z : gm_Z)  (u : gm_M)  (u' : gm_M) (hf : f_X11_begins u = some (u')) : gm_Met l GM Z yX11_begins cX11_begins 1 none ({ frames := 2, cells := 0, slots := 0, locals := 42 }) [rv Z 1] u none u' := by
  unfold f_X11_begins at hf
  refine gm_ofW (by decide +kernel) (Nat.le_of_ble_eq_true rfl) ?_
  intro p e s m args below meth c A ls Q R hRf hRl C E hl hw
  obtain ⟨hx, hb, -⟩ := id C
  have hl : lv_has ls 1 [(0, rv Z 1)] := hl
  refine gm_aload_n (G := GM) (r := 1) C rfl dX11_begins_0 rfl (lv_at hl 0 rfl) ?_
  refine gm_aload_n (G := GM) (r := 1) C rfl dX11_begins_1 rfl (lv_at hl 0 rfl) ?_
  refine gm_getI (G := GM) (u := u) (r := 1) (ci := 10) (k := 1) C hw rfl fl_X11_142 dX11_begins_2 rfl ?_
  refine gm_putI (G := GM) (u := u) (r := 1) (ci := 10) (k := 3) (v := gI u 1 1) C hw rfl fl_X11_145 fp_10_3 dX11_begins_5 rfl (fun H locs hw => ?_)
  obtain ⟨u_1, e_u_1, hf⟩ := gm_le hf
  rw [← e_u_1] at hw
  refine gm_aload_n (G := GM) (r := 1) C rfl dX11_begins_8 rfl (lv_at hl 0 rfl) ?_
  refine lv_iconst (v := 0) hx hb dX11_begins_9 (by decide) ?_
  refine gm_putI (G := GM) (u := u_1) (r := 1) (ci := 10) (k := 1) (v := (0 : Int32)) C hw rfl fl_X11_142 fp_10_1 dX11_begins_10 rfl (fun H locs hw => ?_)
  obtain ⟨u_2, e_u_2, hf⟩ := gm_le hf
  rw [← e_u_2] at hw
  refine gm_aload_n (G := GM) (r := 1) C rfl dX11_begins_13 rfl (lv_at hl 0 rfl) ?_
  refine lv_iconst (v := 0) hx hb dX11_begins_14 (by decide) ?_
  refine gm_putI (G := GM) (u := u_2) (r := 1) (ci := 10) (k := 4) (v := (0 : Int32)) C hw rfl fl_X11_148 fp_10_4 dX11_begins_15 rfl (fun H locs hw => ?_)
  obtain ⟨u_3, e_u_3, hf⟩ := gm_le hf
  rw [← e_u_3] at hw
  refine gm_aload_n (G := GM) (r := 1) C rfl dX11_begins_18 rfl (lv_at hl 0 rfl) ?_
  obtain ⟨u_4, hc_5, hf⟩ := gm_bnd hf
  refine gm_callV (G := GM) (u := u_3) (u' := u_4) (r := 1) (ci := 10) (As := []) (rest := []) (res := none) C hw hl (ok_X11_nextToken l Z u_3 u_4 hc_5) cw_X11_206 im_X11_nextToken rfl se_X11_nextToken rfl rfl rfl ⟨Nat.le_trans (Nat.le_of_ble_eq_true rfl) hRf, Nat.le_trans (Nat.le_of_ble_eq_true rfl) hRl⟩ rfl rfl (Nat.le_of_ble_eq_true rfl) dX11_begins_19 (fun H locs hw => ?_)
  exact gm_vret C E hw rfl rfl (Option.some.inj hf).symm dX11_begins_22
/-! LeapCapitalModel.readsAll -/
def j_X11_readsAll_149 (t_11 : Int32) (u_10 : gm_M) : Option (gm_M ⊕ (gm_M ⊕ gm_M)) := if t_11 = 0 then some (.inr (.inl u_10)) else some (.inl u_10)
def b_X11_readsAll_39 : gm_M → Option (gm_M ⊕ (gm_M ⊕ gm_M)) := fun x => match x with | u_9 => if (gI u_9 1 6) = 0 then some (.inr (.inr u_9)) else gm_let (f_X11_isWord (232608281 : Int64) u_9) fun r_12 => if r_12 = 0 then gm_let (f_X11_isWord (495765 : Int64) u_9) fun r_13 => if r_13 = 0 then gm_let (f_X11_isWord (43856969 : Int64) u_9) fun r_14 => if r_14 = 0 then gm_let (f_X11_isWord (6570631 : Int64) u_9) fun r_15 => if r_15 = 0 then gm_let (f_X11_isWord (3379448 : Int64) u_9) fun r_16 => if r_16 = 0 then (f_X11_fails (1 : Int32) u_9).bind fun o => match o with | (r_17, u_18) => j_X11_readsAll_149 r_17 u_18 else (f_X11_readsFirst u_9).bind fun o => match o with | (r_21, u_22) => j_X11_readsAll_149 r_21 u_22 else (f_X11_readsOne (3 : Int32) (1 : Int32) (120 : Int32) u_9).bind fun o => match o with | (r_25, u_26) => j_X11_readsAll_149 r_25 u_26 else (f_X11_readsOne (2 : Int32) (1 : Int32) (40 : Int32) u_9).bind fun o => match o with | (r_29, u_30) => j_X11_readsAll_149 r_29 u_30 else (f_X11_readsOne (1 : Int32) (1 : Int32) (3000 : Int32) u_9).bind fun o => match o with | (r_33, u_34) => j_X11_readsAll_149 r_33 u_34 else (f_X11_readsPerson u_9).bind fun o => match o with | (r_37, u_38) => j_X11_readsAll_149 r_37 u_38
def f_X11_readsAll  (u : gm_M) : Option (Int32 × gm_M) := (f_X11_usual (1 : Int32) u).bind fun u_1 => gm_let (sI u_1 8 1 (1000 : Int32)) fun u_3 => gm_let (sI u_3 9 1 (1000 : Int32)) fun u_4 => gm_let (sI u_4 1 19 (0 : Int32)) fun u_5 => gm_let (sI u_5 1 18 (1000 : Int32)) fun u_6 => (f_X11_begins u_6).bind fun u_7 => ((gm_lp (b_X11_readsAll_39) gm_FU u_7).bind fun o => match o with | .inl u_41 => (some ((0 : Int32), u_41)) | .inr (u_42) => (some ((1 : Int32), u_42)))
set_option maxRecDepth 100000 in
set_option maxHeartbeats 4000000 in
theorem ok_X11_readsAll (l : Launch) (Z : gm_Z)  (u : gm_M)  (r : Int32) (u' : gm_M) (hf : f_X11_readsAll u = some (r, u')) : gm_Met l GM Z yX11_readsAll cX11_readsAll 2 (some .boolean) ({ frames := 5, cells := 0, slots := 0, locals := 111 }) [rv Z 1] u (some (.int r)) u' := by
  unfold f_X11_readsAll at hf
  refine gm_ofW (by decide +kernel) (Nat.le_of_ble_eq_true rfl) ?_
  intro p e s m args below meth c A ls Q R hRf hRl C E hl hw
  obtain ⟨hx, hb, -⟩ := id C
  have hl : lv_has ls 2 [(0, rv Z 1)] := hl
  refine gm_aload_n (G := GM) (r := 1) C rfl dX11_readsAll_0 rfl (lv_at hl 0 rfl) ?_
  refine lv_iconst (v := 1) hx hb dX11_readsAll_1 (by decide) ?_
  obtain ⟨u_1, hc_2, hf⟩ := gm_bnd hf
  refine gm_callV (G := GM) (u := u) (u' := u_1) (r := 1) (ci := 10) (As := [.int (1 : Int32)]) (rest := []) (res := none) C hw hl (ok_X11_usual l Z (1 : Int32) u u_1 hc_2) cw_X11_130 im_X11_usual rfl se_X11_usual rfl rfl rfl ⟨Nat.le_trans (Nat.le_of_ble_eq_true rfl) hRf, Nat.le_trans (Nat.le_of_ble_eq_true rfl) hRl⟩ rfl rfl (Nat.le_of_ble_eq_true rfl) dX11_readsAll_2 (fun H locs hw => ?_)
  refine gm_aload_n (G := GM) (r := 1) C rfl dX11_readsAll_5 rfl (lv_at hl 0 rfl) ?_
  refine gm_getS (G := GM) (u := u_1) (r := 1) (ci := 10) (k := 15) C hw rfl fl_X11_29 dX11_readsAll_6 rfl (q := 8) rfl ?_
  refine lv_iconst (v := 1) hx hb dX11_readsAll_9 (by decide) ?_
  refine lv_sipush (v := 1000) hx hb dX11_readsAll_10 (by decide) ?_
  refine gm_iast (G := GM) (u := u_1) (r := 8) (n := 2) (i := (1 : Int32)) (x := (1000 : Int32)) C hw rfl (by decide) (j := 1) (by decide) dX11_readsAll_13 (fun H locs hw => ?_)
  obtain ⟨u_3, e_u_3, hf⟩ := gm_le hf
  rw [← e_u_3] at hw
  refine gm_aload_n (G := GM) (r := 1) C rfl dX11_readsAll_14 rfl (lv_at hl 0 rfl) ?_
  refine gm_getS (G := GM) (u := u_3) (r := 1) (ci := 10) (k := 16) C hw rfl fl_X11_32 dX11_readsAll_15 rfl (q := 9) rfl ?_
  refine lv_iconst (v := 1) hx hb dX11_readsAll_18 (by decide) ?_
  refine lv_sipush (v := 1000) hx hb dX11_readsAll_19 (by decide) ?_
  refine gm_iast (G := GM) (u := u_3) (r := 9) (n := 2) (i := (1 : Int32)) (x := (1000 : Int32)) C hw rfl (by decide) (j := 1) (by decide) dX11_readsAll_22 (fun H locs hw => ?_)
  obtain ⟨u_4, e_u_4, hf⟩ := gm_le hf
  rw [← e_u_4] at hw
  refine gm_aload_n (G := GM) (r := 1) C rfl dX11_readsAll_23 rfl (lv_at hl 0 rfl) ?_
  refine lv_iconst (v := 0) hx hb dX11_readsAll_24 (by decide) ?_
  refine gm_putI (G := GM) (u := u_4) (r := 1) (ci := 10) (k := 19) (v := (0 : Int32)) C hw rfl fl_X11_279 fp_10_19 dX11_readsAll_25 rfl (fun H locs hw => ?_)
  obtain ⟨u_5, e_u_5, hf⟩ := gm_le hf
  rw [← e_u_5] at hw
  refine gm_aload_n (G := GM) (r := 1) C rfl dX11_readsAll_28 rfl (lv_at hl 0 rfl) ?_
  refine lv_sipush (v := 1000) hx hb dX11_readsAll_29 (by decide) ?_
  refine gm_putI (G := GM) (u := u_5) (r := 1) (ci := 10) (k := 18) (v := (1000 : Int32)) C hw rfl fl_X11_175 fp_10_18 dX11_readsAll_32 rfl (fun H locs hw => ?_)
  obtain ⟨u_6, e_u_6, hf⟩ := gm_le hf
  rw [← e_u_6] at hw
  refine gm_aload_n (G := GM) (r := 1) C rfl dX11_readsAll_35 rfl (lv_at hl 0 rfl) ?_
  obtain ⟨u_7, hc_8, hf⟩ := gm_bnd hf
  refine gm_callV (G := GM) (u := u_6) (u' := u_7) (r := 1) (ci := 10) (As := []) (rest := []) (res := none) C hw hl (ok_X11_begins l Z u_6 u_7 hc_8) cw_X11_285 im_X11_begins rfl se_X11_begins rfl rfl rfl ⟨Nat.le_trans (Nat.le_of_ble_eq_true rfl) hRf, Nat.le_trans (Nat.le_of_ble_eq_true rfl) hRl⟩ rfl rfl (Nat.le_of_ble_eq_true rfl) dX11_readsAll_36 (fun H locs hw => ?_)
  obtain ⟨o1, hlp, hf⟩ := gm_bnd hf
  have L39_1 := gm_loop (b_X11_readsAll_39) (fun x : gm_M => ∀ (H : Heap) (locs : List Loc) (ls : Array Slot), lv_has ls 2 [(0, rv Z 1)] → wd GM Z x A s.heap H locs → W p l e R s m args below meth c H locs 0 0 Q (F0 m 39 ls [])) (fun z : (gm_M ⊕ gm_M) => match z with | .inl q0 => ∀ (H : Heap) (locs : List Loc) (ls : Array Slot), lv_has ls 2 [] → wd GM Z q0 A s.heap H locs → W p l e R s m args below meth c H locs 0 0 Q (F0 m 154 ls []) | .inr p0 => ∀ (H : Heap) (locs : List Loc) (ls : Array Slot), lv_has ls 2 [] → wd GM Z p0 A s.heap H locs → W p l e R s m args below meth c H locs 0 0 Q (F0 m 159 ls [])) (by
    intro x o1 hf Kc Kx
    obtain ⟨u_9, rfl⟩ : ∃ y, y = x := ⟨_, rfl⟩
    intro H locs ls hl hw
    unfold b_X11_readsAll_39 at hf
    try dsimp only at hf
    have J149 : ∀ (t_11 : Int32) (u_10 : gm_M) (H : Heap) (locs : List Loc) (ls : Array Slot), j_X11_readsAll_149 t_11 u_10 = some o1 → lv_has ls 2 [(0, rv Z 1)] → wd GM Z u_10 A s.heap H locs → W p l e R s m args below meth c H locs 0 0 Q (F0 m 149 ls [.int t_11]) := by
      intro t_11 u_10 H locs ls hf  hl hw
      unfold j_X11_readsAll_149 at hf
      refine lv_istore_n (i := 1) (lv' := [(1, .int t_11), (0, rv Z 1)]) hx hb dX11_readsAll_149 rfl hl (by decide) rfl (fun ls hl => ?_)
      refine lv_iload_n hx hb dX11_readsAll_150 rfl (lv_at hl 0 rfl) ?_
      refine lv_if_ne (tgt := 156) hx hb dX11_readsAll_151 (by decide) (fun hc => ?_) (fun hc => ?_)
      · replace hf := (if_neg hc).symm.trans hf
        refine lv_goto (tgt := 39) hx hb dX11_readsAll_156 (by decide) ?_
        exact Kc _ (gm_si hf) _ _ _ (lv_sub hl [1] rfl) hw
      · replace hf := (if_pos hc).symm.trans hf
        exact Kx _ (gm_si hf) _ _ _ (lv_sub hl [] rfl) hw
    refine gm_aload_n (G := GM) (r := 1) C rfl dX11_readsAll_39 rfl (lv_at hl 0 rfl) ?_
    refine gm_getI (G := GM) (u := u_9) (r := 1) (ci := 10) (k := 6) C hw rfl fl_X11_161 dX11_readsAll_40 rfl ?_
    refine lv_if_eq (tgt := 159) hx hb dX11_readsAll_43 (by decide) (fun hc => ?_) (fun hc => ?_)
    · replace hf := (if_pos hc).symm.trans hf
      exact Kx _ (gm_si hf) _ _ _ (lv_sub hl [] rfl) hw
    · replace hf := (if_neg hc).symm.trans hf
      refine gm_aload_n (G := GM) (r := 1) C rfl dX11_readsAll_46 rfl (lv_at hl 0 rfl) ?_
      refine lv_ldc2 hx hb C.2.2.2.1 (C.2.2.2.2.1 _ kn_X11_222) dX11_readsAll_47 ?_
      obtain ⟨r_12, e_r_12, hf⟩ := gm_le hf
      refine gm_callV (G := GM) (u := u_9) (u' := u_9) (r := 1) (ci := 10) (As := [.long (232608281 : Int64)]) (rest := []) (res := (some (.int (f_X11_isWord (232608281 : Int64) u_9)))) C hw hl (ok_X11_isWord l Z (232608281 : Int64) u_9) cw_X11_192 im_X11_isWord rfl se_X11_isWord rfl rfl rfl ⟨Nat.le_trans (Nat.le_of_ble_eq_true rfl) hRf, Nat.le_trans (Nat.le_of_ble_eq_true rfl) hRl⟩ rfl rfl (Nat.le_of_ble_eq_true rfl) dX11_readsAll_50 (fun H locs hw => ?_)
      refine gm_topI e_r_12 ?_
      refine lv_if_eq (tgt := 63) hx hb dX11_readsAll_53 (by decide) (fun hc => ?_) (fun hc => ?_)
      · replace hf := (if_pos hc).symm.trans hf
        refine gm_aload_n (G := GM) (r := 1) C rfl dX11_readsAll_63 rfl (lv_at hl 0 rfl) ?_
        refine lv_ldc2 hx hb C.2.2.2.1 (C.2.2.2.2.1 _ kn_X11_228) dX11_readsAll_64 ?_
        obtain ⟨r_13, e_r_13, hf⟩ := gm_le hf
        refine gm_callV (G := GM) (u := u_9) (u' := u_9) (r := 1) (ci := 10) (As := [.long (495765 : Int64)]) (rest := []) (res := (some (.int (f_X11_isWord (495765 : Int64) u_9)))) C hw hl (ok_X11_isWord l Z (495765 : Int64) u_9) cw_X11_192 im_X11_isWord rfl se_X11_isWord rfl rfl rfl ⟨Nat.le_trans (Nat.le_of_ble_eq_true rfl) hRf, Nat.le_trans (Nat.le_of_ble_eq_true rfl) hRl⟩ rfl rfl (Nat.le_of_ble_eq_true rfl) dX11_readsAll_67 (fun H locs hw => ?_)
        refine gm_topI e_r_13 ?_
        refine lv_if_eq (tgt := 85) hx hb dX11_readsAll_70 (by decide) (fun hc => ?_) (fun hc => ?_)
        · replace hf := (if_pos hc).symm.trans hf
          refine gm_aload_n (G := GM) (r := 1) C rfl dX11_readsAll_85 rfl (lv_at hl 0 rfl) ?_
          refine lv_ldc2 hx hb C.2.2.2.1 (C.2.2.2.2.1 _ kn_X11_230) dX11_readsAll_86 ?_
          obtain ⟨r_14, e_r_14, hf⟩ := gm_le hf
          refine gm_callV (G := GM) (u := u_9) (u' := u_9) (r := 1) (ci := 10) (As := [.long (43856969 : Int64)]) (rest := []) (res := (some (.int (f_X11_isWord (43856969 : Int64) u_9)))) C hw hl (ok_X11_isWord l Z (43856969 : Int64) u_9) cw_X11_192 im_X11_isWord rfl se_X11_isWord rfl rfl rfl ⟨Nat.le_trans (Nat.le_of_ble_eq_true rfl) hRf, Nat.le_trans (Nat.le_of_ble_eq_true rfl) hRl⟩ rfl rfl (Nat.le_of_ble_eq_true rfl) dX11_readsAll_89 (fun H locs hw => ?_)
          refine gm_topI e_r_14 ?_
          refine lv_if_eq (tgt := 106) hx hb dX11_readsAll_92 (by decide) (fun hc => ?_) (fun hc => ?_)
          · replace hf := (if_pos hc).symm.trans hf
            refine gm_aload_n (G := GM) (r := 1) C rfl dX11_readsAll_106 rfl (lv_at hl 0 rfl) ?_
            refine lv_ldc2 hx hb C.2.2.2.1 (C.2.2.2.2.1 _ kn_X11_232) dX11_readsAll_107 ?_
            obtain ⟨r_15, e_r_15, hf⟩ := gm_le hf
            refine gm_callV (G := GM) (u := u_9) (u' := u_9) (r := 1) (ci := 10) (As := [.long (6570631 : Int64)]) (rest := []) (res := (some (.int (f_X11_isWord (6570631 : Int64) u_9)))) C hw hl (ok_X11_isWord l Z (6570631 : Int64) u_9) cw_X11_192 im_X11_isWord rfl se_X11_isWord rfl rfl rfl ⟨Nat.le_trans (Nat.le_of_ble_eq_true rfl) hRf, Nat.le_trans (Nat.le_of_ble_eq_true rfl) hRl⟩ rfl rfl (Nat.le_of_ble_eq_true rfl) dX11_readsAll_110 (fun H locs hw => ?_)
            refine gm_topI e_r_15 ?_
            refine lv_if_eq (tgt := 127) hx hb dX11_readsAll_113 (by decide) (fun hc => ?_) (fun hc => ?_)
            · replace hf := (if_pos hc).symm.trans hf
              refine gm_aload_n (G := GM) (r := 1) C rfl dX11_readsAll_127 rfl (lv_at hl 0 rfl) ?_
              refine lv_ldc2 hx hb C.2.2.2.1 (C.2.2.2.2.1 _ kn_X11_234) dX11_readsAll_128 ?_
              obtain ⟨r_16, e_r_16, hf⟩ := gm_le hf
              refine gm_callV (G := GM) (u := u_9) (u' := u_9) (r := 1) (ci := 10) (As := [.long (3379448 : Int64)]) (rest := []) (res := (some (.int (f_X11_isWord (3379448 : Int64) u_9)))) C hw hl (ok_X11_isWord l Z (3379448 : Int64) u_9) cw_X11_192 im_X11_isWord rfl se_X11_isWord rfl rfl rfl ⟨Nat.le_trans (Nat.le_of_ble_eq_true rfl) hRf, Nat.le_trans (Nat.le_of_ble_eq_true rfl) hRl⟩ rfl rfl (Nat.le_of_ble_eq_true rfl) dX11_readsAll_131 (fun H locs hw => ?_)
              refine gm_topI e_r_16 ?_
              refine lv_if_eq (tgt := 144) hx hb dX11_readsAll_134 (by decide) (fun hc => ?_) (fun hc => ?_)
              · replace hf := (if_pos hc).symm.trans hf
                refine gm_aload_n (G := GM) (r := 1) C rfl dX11_readsAll_144 rfl (lv_at hl 0 rfl) ?_
                refine lv_iconst (v := 1) hx hb dX11_readsAll_145 (by decide) ?_
                obtain ⟨⟨r_17, u_18⟩, hc_19, hf⟩ := gm_bnd hf
                try dsimp only at hf
                refine gm_callV (G := GM) (u := u_9) (u' := u_18) (r := 1) (ci := 10) (As := [.int (1 : Int32)]) (rest := []) (res := (some (.int r_17))) C hw hl (ok_X11_fails l Z (1 : Int32) u_9 r_17 u_18 hc_19) cw_X11_200 im_X11_fails rfl se_X11_fails rfl rfl rfl ⟨Nat.le_trans (Nat.le_of_ble_eq_true rfl) hRf, Nat.le_trans (Nat.le_of_ble_eq_true rfl) hRl⟩ rfl rfl (Nat.le_of_ble_eq_true rfl) dX11_readsAll_146 (fun H locs hw => ?_)
                exact J149 r_17 u_18 _ _ _ hf  (lv_sub hl [0] rfl) hw
              · replace hf := (if_neg hc).symm.trans hf
                refine gm_aload_n (G := GM) (r := 1) C rfl dX11_readsAll_137 rfl (lv_at hl 0 rfl) ?_
                obtain ⟨⟨r_21, u_22⟩, hc_23, hf⟩ := gm_bnd hf
                try dsimp only at hf
                refine gm_callV (G := GM) (u := u_9) (u' := u_22) (r := 1) (ci := 10) (As := []) (rest := []) (res := (some (.int r_21))) C hw hl (ok_X11_readsFirst l Z u_9 r_21 u_22 hc_23) cw_X11_294 im_X11_readsFirst rfl se_X11_readsFirst rfl rfl rfl ⟨Nat.le_trans (Nat.le_of_ble_eq_true rfl) hRf, Nat.le_trans (Nat.le_of_ble_eq_true rfl) hRl⟩ rfl rfl (Nat.le_of_ble_eq_true rfl) dX11_readsAll_138 (fun H locs hw => ?_)
                refine lv_goto (tgt := 149) hx hb dX11_readsAll_141 (by decide) ?_
                exact J149 r_21 u_22 _ _ _ hf  (lv_sub hl [0] rfl) hw
            · replace hf := (if_neg hc).symm.trans hf
              refine gm_aload_n (G := GM) (r := 1) C rfl dX11_readsAll_116 rfl (lv_at hl 0 rfl) ?_
              refine lv_iconst (v := 3) hx hb dX11_readsAll_117 (by decide) ?_
              refine lv_iconst (v := 1) hx hb dX11_readsAll_118 (by decide) ?_
              refine lv_bipush (v := 120) hx hb dX11_readsAll_119 (by decide) ?_
              obtain ⟨⟨r_25, u_26⟩, hc_27, hf⟩ := gm_bnd hf
              try dsimp only at hf
              refine gm_callV (G := GM) (u := u_9) (u' := u_26) (r := 1) (ci := 10) (As := [.int (3 : Int32), .int (1 : Int32), .int (120 : Int32)]) (rest := []) (res := (some (.int r_25))) C hw hl (ok_X11_readsOne l Z (3 : Int32) (1 : Int32) (120 : Int32) u_9 r_25 u_26 hc_27) cw_X11_291 im_X11_readsOne rfl se_X11_readsOne rfl rfl rfl ⟨Nat.le_trans (Nat.le_of_ble_eq_true rfl) hRf, Nat.le_trans (Nat.le_of_ble_eq_true rfl) hRl⟩ rfl rfl (Nat.le_of_ble_eq_true rfl) dX11_readsAll_121 (fun H locs hw => ?_)
              refine lv_goto (tgt := 149) hx hb dX11_readsAll_124 (by decide) ?_
              exact J149 r_25 u_26 _ _ _ hf  (lv_sub hl [0] rfl) hw
          · replace hf := (if_neg hc).symm.trans hf
            refine gm_aload_n (G := GM) (r := 1) C rfl dX11_readsAll_95 rfl (lv_at hl 0 rfl) ?_
            refine lv_iconst (v := 2) hx hb dX11_readsAll_96 (by decide) ?_
            refine lv_iconst (v := 1) hx hb dX11_readsAll_97 (by decide) ?_
            refine lv_bipush (v := 40) hx hb dX11_readsAll_98 (by decide) ?_
            obtain ⟨⟨r_29, u_30⟩, hc_31, hf⟩ := gm_bnd hf
            try dsimp only at hf
            refine gm_callV (G := GM) (u := u_9) (u' := u_30) (r := 1) (ci := 10) (As := [.int (2 : Int32), .int (1 : Int32), .int (40 : Int32)]) (rest := []) (res := (some (.int r_29))) C hw hl (ok_X11_readsOne l Z (2 : Int32) (1 : Int32) (40 : Int32) u_9 r_29 u_30 hc_31) cw_X11_291 im_X11_readsOne rfl se_X11_readsOne rfl rfl rfl ⟨Nat.le_trans (Nat.le_of_ble_eq_true rfl) hRf, Nat.le_trans (Nat.le_of_ble_eq_true rfl) hRl⟩ rfl rfl (Nat.le_of_ble_eq_true rfl) dX11_readsAll_100 (fun H locs hw => ?_)
            refine lv_goto (tgt := 149) hx hb dX11_readsAll_103 (by decide) ?_
            exact J149 r_29 u_30 _ _ _ hf  (lv_sub hl [0] rfl) hw
        · replace hf := (if_neg hc).symm.trans hf
          refine gm_aload_n (G := GM) (r := 1) C rfl dX11_readsAll_73 rfl (lv_at hl 0 rfl) ?_
          refine lv_iconst (v := 1) hx hb dX11_readsAll_74 (by decide) ?_
          refine lv_iconst (v := 1) hx hb dX11_readsAll_75 (by decide) ?_
          refine lv_sipush (v := 3000) hx hb dX11_readsAll_76 (by decide) ?_
          obtain ⟨⟨r_33, u_34⟩, hc_35, hf⟩ := gm_bnd hf
          try dsimp only at hf
          refine gm_callV (G := GM) (u := u_9) (u' := u_34) (r := 1) (ci := 10) (As := [.int (1 : Int32), .int (1 : Int32), .int (3000 : Int32)]) (rest := []) (res := (some (.int r_33))) C hw hl (ok_X11_readsOne l Z (1 : Int32) (1 : Int32) (3000 : Int32) u_9 r_33 u_34 hc_35) cw_X11_291 im_X11_readsOne rfl se_X11_readsOne rfl rfl rfl ⟨Nat.le_trans (Nat.le_of_ble_eq_true rfl) hRf, Nat.le_trans (Nat.le_of_ble_eq_true rfl) hRl⟩ rfl rfl (Nat.le_of_ble_eq_true rfl) dX11_readsAll_79 (fun H locs hw => ?_)
          refine lv_goto (tgt := 149) hx hb dX11_readsAll_82 (by decide) ?_
          exact J149 r_33 u_34 _ _ _ hf  (lv_sub hl [0] rfl) hw
      · replace hf := (if_neg hc).symm.trans hf
        refine gm_aload_n (G := GM) (r := 1) C rfl dX11_readsAll_56 rfl (lv_at hl 0 rfl) ?_
        obtain ⟨⟨r_37, u_38⟩, hc_39, hf⟩ := gm_bnd hf
        try dsimp only at hf
        refine gm_callV (G := GM) (u := u_9) (u' := u_38) (r := 1) (ci := 10) (As := []) (rest := []) (res := (some (.int r_37))) C hw hl (ok_X11_readsPerson l Z u_9 r_37 u_38 hc_39) cw_X11_288 im_X11_readsPerson rfl se_X11_readsPerson rfl rfl rfl ⟨Nat.le_trans (Nat.le_of_ble_eq_true rfl) hRf, Nat.le_trans (Nat.le_of_ble_eq_true rfl) hRl⟩ rfl rfl (Nat.le_of_ble_eq_true rfl) dX11_readsAll_57 (fun H locs hw => ?_)
        refine lv_goto (tgt := 149) hx hb dX11_readsAll_60 (by decide) ?_
        exact J149 r_37 u_38 _ _ _ hf  (lv_sub hl [0] rfl) hw)
  refine L39_1 _ _ _ hlp ?_ _ _ _ (lv_sub hl [0] rfl) hw
  cases o1 with
  | inl q0_z_43 =>
    obtain ⟨u_41, rfl⟩ : ∃ y, y = q0_z_43 := ⟨_, rfl⟩
    intro H locs ls hl hw
    try dsimp only at hf
    refine lv_iconst (v := 0) hx hb dX11_readsAll_154 (by decide) ?_
    exact gm_zret C E hw rfl rfl ((congrArg (fun z => some (Value.int z)) (gm_sp hf).1).symm) (gm_sp hf).2.symm dX11_readsAll_155
  | inr p0_z_43 =>
    obtain ⟨u_42, rfl⟩ : ∃ y, y = p0_z_43 := ⟨_, rfl⟩
    intro H locs ls hl hw
    try dsimp only at hf
    refine lv_iconst (v := 1) hx hb dX11_readsAll_159 (by decide) ?_
    exact gm_zret C E hw rfl rfl ((congrArg (fun z => some (Value.int z)) (gm_sp hf).1).symm) (gm_sp hf).2.symm dX11_readsAll_160
/-! LeapCapitalModel.shifts -/
def b_X11_shifts_2 (a0 : Nat) (n0 : Nat) (a1 : Int32) : (Int32 × gm_M) → Option ((Int32 × gm_M) ⊕ gm_M) := fun x => match x with | (v2_2, u_1) => if a1 ≤ v2_2 then some (.inr u_1) else if ib (a1 + v2_2) n0 = true then if ib v2_2 n0 = true then gm_let (sI u_1 a0 (ix v2_2) (gI u_1 a0 (ix (a1 + v2_2)))) fun u_5 => some (.inl (v2_2 + (1 : Int32), u_5)) else none else none
def f_X11_shifts (a0 : Nat) (n0 : Nat) (a1 : Int32) (u : gm_M) : Option gm_M := ((gm_lp (b_X11_shifts_2 a0 n0 a1) gm_FU ((0 : Int32), u)).bind fun o => match o with | u_6 => some u_6)
set_option maxRecDepth 100000 in
set_option maxHeartbeats 4000000 in
theorem ok_X11_shifts (l : Launch) (Z : gm_Z) (a0 : Nat) (n0 : Nat) (a1 : Int32) (u : gm_M) (h0 : gm_sh GM a0 = some (.inr (0, n0))) (u' : gm_M) (hf : f_X11_shifts a0 n0 a1 u = some (u')) : gm_Met l GM Z yX11_shifts cX11_shifts 3 none ({ frames := 0, cells := 0, slots := 0, locals := 0 }) [rv Z a0, .int a1] u none u' := by
  unfold f_X11_shifts at hf
  refine gm_ofW (by decide +kernel) (by simp [lg_sl, gm_cat, gm_catI, gm_catJ]) ?_
  intro p e s m args below meth c A ls Q R hRf hRl C E hl hw
  obtain ⟨hx, hb, -⟩ := id C
  have hl : lv_has ls 3 [(0, rv Z a0), (1, .int a1)] := by simpa [lv_args, gm_cat, gm_catI, gm_catJ] using hl
  refine lv_iconst (v := 0) hx hb dX11_shifts_0 (by decide) ?_
  refine lv_istore_n (i := 2) (lv' := [(2, .int (0 : Int32)), (0, rv Z a0), (1, .int a1)]) hx hb dX11_shifts_1 rfl hl (by decide) rfl (fun ls hl => ?_)
  obtain ⟨o1, hlp, hf⟩ := gm_bnd hf
  have L2_1 := gm_loop (b_X11_shifts_2 a0 n0 a1) (fun x : (Int32 × gm_M) => ∀ (H : Heap) (locs : List Loc) (ls : Array Slot), lv_has ls 3 [(0, rv Z a0), (1, .int a1), (2, .int x.1)] → wd GM Z x.2 A s.heap H locs → W p l e R s m args below meth c H locs 0 0 Q (F0 m 2 ls [])) (fun z : gm_M => ∀ (H : Heap) (locs : List Loc) (ls : Array Slot), lv_has ls 3 [] → wd GM Z z A s.heap H locs → W p l e R s m args below meth c H locs 0 0 Q (F0 m 21 ls [])) (by
    intro x o1 hf Kc Kx
    obtain ⟨v2_2, u_1⟩ := x
    intro H locs ls hl hw
    unfold b_X11_shifts_2 at hf
    try dsimp only at hf
    refine lv_iload_n hx hb dX11_shifts_2 rfl (lv_at hl 2 rfl) ?_
    refine lv_iload_n hx hb dX11_shifts_3 rfl (lv_at hl 1 rfl) ?_
    refine lv_icmp_ge (tgt := 21) hx hb dX11_shifts_4 (by decide) (fun hc => ?_) (fun hc => ?_)
    · replace hf := (if_pos hc).symm.trans hf
      exact Kx _ (gm_si hf) _ _ _ (lv_sub hl [] rfl) hw
    · replace hf := (if_neg hc).symm.trans hf
      refine gm_aload_n (G := GM) (r := a0) C h0 dX11_shifts_7 rfl (lv_at hl 0 rfl) ?_
      refine lv_iload_n hx hb dX11_shifts_8 rfl (lv_at hl 2 rfl) ?_
      refine gm_aload_n (G := GM) (r := a0) C h0 dX11_shifts_9 rfl (lv_at hl 0 rfl) ?_
      refine lv_iload_n hx hb dX11_shifts_10 rfl (lv_at hl 1 rfl) ?_
      refine lv_iload_n hx hb dX11_shifts_11 rfl (lv_at hl 2 rfl) ?_
      refine lv_iadd hx hb dX11_shifts_12 ?_
      obtain ⟨g_3, hf⟩ := gm_grd hf
      refine gm_iald (G := GM) (u := u_1) (r := a0) (n := n0) (i := a1 + v2_2) C hw h0 g_3 rfl dX11_shifts_13 ?_
      obtain ⟨g_4, hf⟩ := gm_grd hf
      refine gm_iast (G := GM) (u := u_1) (r := a0) (n := n0) (i := v2_2) (x := gI u_1 a0 (ix (a1 + v2_2))) C hw h0 g_4 rfl dX11_shifts_14 (fun H locs hw => ?_)
      obtain ⟨u_5, e_u_5, hf⟩ := gm_le hf
      rw [← e_u_5] at hw
      refine lv_iinc (v := v2_2 + (1 : Int32)) (lv' := [(2, .int (v2_2 + (1 : Int32))), (0, rv Z a0), (1, .int a1)]) hx hb dX11_shifts_15 hl (k := 2) rfl rfl (by decide) rfl (fun ls hl => ?_)
      refine lv_goto (tgt := 2) hx hb dX11_shifts_18 (by decide) ?_
      exact Kc _ (gm_si hf) _ _ _ (lv_sub hl [1, 2, 0] rfl) hw)
  refine L2_1 _ _ _ hlp ?_ _ _ _ (lv_sub hl [1, 2, 0] rfl) hw
  obtain ⟨u_6, rfl⟩ : ∃ y, y = o1 := ⟨_, rfl⟩
  intro H locs ls hl hw
  try dsimp only at hf
  exact gm_vret C E hw rfl rfl (Option.some.inj hf).symm dX11_shifts_21
/-! LeapCapitalModel.lays -/
def b_X11_lays_10 : (Int32 × gm_M) → Option ((Int32 × gm_M) ⊕ gm_M) := fun x => match x with | (v1_4, u_3) => if (6 : Int32) ≤ v1_4 then some (.inr u_3) else if ib ((6 : Int32) + v1_4) 12 = true then if ib v1_4 12 = true then gm_let (sJ u_3 4 (ix v1_4) (gJ u_3 4 (ix ((6 : Int32) + v1_4)))) fun u_7 => some (.inl (v1_4 + (1 : Int32), u_7)) else none else none
def f_X11_lays  (u : gm_M) : Option gm_M := (f_X11_shifts 3 8 (4 : Int32) u).bind fun u_1 => ((gm_lp (b_X11_lays_10) gm_FU ((0 : Int32), u_1)).bind fun o => match o with | u_8 => (f_X11_shifts 5 12 (6 : Int32) u_8).bind fun u_9 => (f_X11_shifts 6 12 (6 : Int32) u_9).bind fun u_11 => (f_X11_shifts 7 12 (6 : Int32) u_11).bind fun u_13 => (f_X11_shifts 10 2000 (1000 : Int32) u_13).bind fun u_15 => gm_let (sI u_15 8 0 ((gI u_15 8 1) - (1000 : Int32))) fun u_17 => gm_let (sI u_17 9 0 ((gI u_17 9 1) - (1000 : Int32))) fun u_18 => some u_18)
set_option maxRecDepth 100000 in
set_option maxHeartbeats 4000000 in
theorem ok_X11_lays (l : Launch) (Z : gm_Z)  (u : gm_M)  (u' : gm_M) (hf : f_X11_lays u = some (u')) : gm_Met l GM Z yX11_lays cX11_lays 2 none ({ frames := 1, cells := 0, slots := 0, locals := 22 }) [rv Z 1] u none u' := by
  unfold f_X11_lays at hf
  refine gm_ofW (by decide +kernel) (Nat.le_of_ble_eq_true rfl) ?_
  intro p e s m args below meth c A ls Q R hRf hRl C E hl hw
  obtain ⟨hx, hb, -⟩ := id C
  have hl : lv_has ls 2 [(0, rv Z 1)] := hl
  refine gm_aload_n (G := GM) (r := 1) C rfl dX11_lays_0 rfl (lv_at hl 0 rfl) ?_
  refine gm_getS (G := GM) (u := u) (r := 1) (ci := 10) (k := 10) C hw rfl fl_X11_13 dX11_lays_1 rfl (q := 3) rfl ?_
  refine lv_iconst (v := 4) hx hb dX11_lays_4 (by decide) ?_
  obtain ⟨u_1, hc_2, hf⟩ := gm_bnd hf
  refine gm_callS (G := GM) (u := u) (u' := u_1) (As := [rv Z 3, .int (4 : Int32)]) (rest := []) (res := none) C hw hl (ok_X11_shifts l Z 3 8 (4 : Int32) u rfl u_1 hc_2) cw_X11_297 st_X11_shifts rfl rfl ⟨Nat.le_trans (Nat.le_of_ble_eq_true rfl) hRf, Nat.le_trans (Nat.le_of_ble_eq_true rfl) hRl⟩ rfl rfl (Nat.le_of_ble_eq_true rfl) dX11_lays_5 (fun H locs hw => ?_)
  refine lv_iconst (v := 0) hx hb dX11_lays_8 (by decide) ?_
  refine lv_istore_n (i := 1) (lv' := [(1, .int (0 : Int32)), (0, rv Z 1)]) hx hb dX11_lays_9 rfl hl (by decide) rfl (fun ls hl => ?_)
  obtain ⟨o1, hlp, hf⟩ := gm_bnd hf
  have L10_1 := gm_loop (b_X11_lays_10) (fun x : (Int32 × gm_M) => ∀ (H : Heap) (locs : List Loc) (ls : Array Slot), lv_has ls 2 [(0, rv Z 1), (1, .int x.1)] → wd GM Z x.2 A s.heap H locs → W p l e R s m args below meth c H locs 0 0 Q (F0 m 10 ls [])) (fun z : gm_M => ∀ (H : Heap) (locs : List Loc) (ls : Array Slot), lv_has ls 2 [(0, rv Z 1)] → wd GM Z z A s.heap H locs → W p l e R s m args below meth c H locs 0 0 Q (F0 m 37 ls [])) (by
    intro x o1 hf Kc Kx
    obtain ⟨v1_4, u_3⟩ := x
    intro H locs ls hl hw
    unfold b_X11_lays_10 at hf
    try dsimp only at hf
    refine lv_iload_n hx hb dX11_lays_10 rfl (lv_at hl 1 rfl) ?_
    refine lv_bipush (v := 6) hx hb dX11_lays_11 (by decide) ?_
    refine lv_icmp_ge (tgt := 37) hx hb dX11_lays_13 (by decide) (fun hc => ?_) (fun hc => ?_)
    · replace hf := (if_pos hc).symm.trans hf
      exact Kx _ (gm_si hf) _ _ _ (lv_sub hl [0] rfl) hw
    · replace hf := (if_neg hc).symm.trans hf
      refine gm_aload_n (G := GM) (r := 1) C rfl dX11_lays_16 rfl (lv_at hl 0 rfl) ?_
      refine gm_getS (G := GM) (u := u_3) (r := 1) (ci := 10) (k := 11) C hw rfl fl_X11_16 dX11_lays_17 rfl (q := 4) rfl ?_
      refine lv_iload_n hx hb dX11_lays_20 rfl (lv_at hl 1 rfl) ?_
      refine gm_aload_n (G := GM) (r := 1) C rfl dX11_lays_21 rfl (lv_at hl 0 rfl) ?_
      refine gm_getS (G := GM) (u := u_3) (r := 1) (ci := 10) (k := 11) C hw rfl fl_X11_16 dX11_lays_22 rfl (q := 4) rfl ?_
      refine lv_bipush (v := 6) hx hb dX11_lays_25 (by decide) ?_
      refine lv_iload_n hx hb dX11_lays_27 rfl (lv_at hl 1 rfl) ?_
      refine lv_iadd hx hb dX11_lays_28 ?_
      obtain ⟨g_5, hf⟩ := gm_grd hf
      refine gm_lald (G := GM) (u := u_3) (r := 4) (n := 12) (i := (6 : Int32) + v1_4) C hw rfl g_5 rfl dX11_lays_29 ?_
      obtain ⟨g_6, hf⟩ := gm_grd hf
      refine gm_last (G := GM) (u := u_3) (r := 4) (n := 12) (i := v1_4) (x := gJ u_3 4 (ix ((6 : Int32) + v1_4))) C hw rfl g_6 rfl dX11_lays_30 (fun H locs hw => ?_)
      obtain ⟨u_7, e_u_7, hf⟩ := gm_le hf
      rw [← e_u_7] at hw
      refine lv_iinc (v := v1_4 + (1 : Int32)) (lv' := [(1, .int (v1_4 + (1 : Int32))), (0, rv Z 1)]) hx hb dX11_lays_31 hl (k := 1) rfl rfl (by decide) rfl (fun ls hl => ?_)
      refine lv_goto (tgt := 10) hx hb dX11_lays_34 (by decide) ?_
      exact Kc _ (gm_si hf) _ _ _ (lv_sub hl [1, 0] rfl) hw)
  refine L10_1 _ _ _ hlp ?_ _ _ _ (lv_sub hl [1, 0] rfl) hw
  obtain ⟨u_8, rfl⟩ : ∃ y, y = o1 := ⟨_, rfl⟩
  intro H locs ls hl hw
  try dsimp only at hf
  refine gm_aload_n (G := GM) (r := 1) C rfl dX11_lays_37 rfl (lv_at hl 0 rfl) ?_
  refine gm_getS (G := GM) (u := u_8) (r := 1) (ci := 10) (k := 12) C hw rfl fl_X11_20 dX11_lays_38 rfl (q := 5) rfl ?_
  refine lv_bipush (v := 6) hx hb dX11_lays_41 (by decide) ?_
  obtain ⟨u_9, hc_10, hf⟩ := gm_bnd hf
  refine gm_callS (G := GM) (u := u_8) (u' := u_9) (As := [rv Z 5, .int (6 : Int32)]) (rest := []) (res := none) C hw hl (ok_X11_shifts l Z 5 12 (6 : Int32) u_8 rfl u_9 hc_10) cw_X11_297 st_X11_shifts rfl rfl ⟨Nat.le_trans (Nat.le_of_ble_eq_true rfl) hRf, Nat.le_trans (Nat.le_of_ble_eq_true rfl) hRl⟩ rfl rfl (Nat.le_of_ble_eq_true rfl) dX11_lays_43 (fun H locs hw => ?_)
  refine gm_aload_n (G := GM) (r := 1) C rfl dX11_lays_46 rfl (lv_at hl 0 rfl) ?_
  refine gm_getS (G := GM) (u := u_9) (r := 1) (ci := 10) (k := 13) C hw rfl fl_X11_23 dX11_lays_47 rfl (q := 6) rfl ?_
  refine lv_bipush (v := 6) hx hb dX11_lays_50 (by decide) ?_
  obtain ⟨u_11, hc_12, hf⟩ := gm_bnd hf
  refine gm_callS (G := GM) (u := u_9) (u' := u_11) (As := [rv Z 6, .int (6 : Int32)]) (rest := []) (res := none) C hw hl (ok_X11_shifts l Z 6 12 (6 : Int32) u_9 rfl u_11 hc_12) cw_X11_297 st_X11_shifts rfl rfl ⟨Nat.le_trans (Nat.le_of_ble_eq_true rfl) hRf, Nat.le_trans (Nat.le_of_ble_eq_true rfl) hRl⟩ rfl rfl (Nat.le_of_ble_eq_true rfl) dX11_lays_52 (fun H locs hw => ?_)
  refine gm_aload_n (G := GM) (r := 1) C rfl dX11_lays_55 rfl (lv_at hl 0 rfl) ?_
  refine gm_getS (G := GM) (u := u_11) (r := 1) (ci := 10) (k := 14) C hw rfl fl_X11_26 dX11_lays_56 rfl (q := 7) rfl ?_
  refine lv_bipush (v := 6) hx hb dX11_lays_59 (by decide) ?_
  obtain ⟨u_13, hc_14, hf⟩ := gm_bnd hf
  refine gm_callS (G := GM) (u := u_11) (u' := u_13) (As := [rv Z 7, .int (6 : Int32)]) (rest := []) (res := none) C hw hl (ok_X11_shifts l Z 7 12 (6 : Int32) u_11 rfl u_13 hc_14) cw_X11_297 st_X11_shifts rfl rfl ⟨Nat.le_trans (Nat.le_of_ble_eq_true rfl) hRf, Nat.le_trans (Nat.le_of_ble_eq_true rfl) hRl⟩ rfl rfl (Nat.le_of_ble_eq_true rfl) dX11_lays_61 (fun H locs hw => ?_)
  refine gm_aload_n (G := GM) (r := 1) C rfl dX11_lays_64 rfl (lv_at hl 0 rfl) ?_
  refine gm_getS (G := GM) (u := u_13) (r := 1) (ci := 10) (k := 17) C hw rfl fl_X11_35 dX11_lays_65 rfl (q := 10) rfl ?_
  refine lv_sipush (v := 1000) hx hb dX11_lays_68 (by decide) ?_
  obtain ⟨u_15, hc_16, hf⟩ := gm_bnd hf
  refine gm_callS (G := GM) (u := u_13) (u' := u_15) (As := [rv Z 10, .int (1000 : Int32)]) (rest := []) (res := none) C hw hl (ok_X11_shifts l Z 10 2000 (1000 : Int32) u_13 rfl u_15 hc_16) cw_X11_297 st_X11_shifts rfl rfl ⟨Nat.le_trans (Nat.le_of_ble_eq_true rfl) hRf, Nat.le_trans (Nat.le_of_ble_eq_true rfl) hRl⟩ rfl rfl (Nat.le_of_ble_eq_true rfl) dX11_lays_71 (fun H locs hw => ?_)
  refine gm_aload_n (G := GM) (r := 1) C rfl dX11_lays_74 rfl (lv_at hl 0 rfl) ?_
  refine gm_getS (G := GM) (u := u_15) (r := 1) (ci := 10) (k := 15) C hw rfl fl_X11_29 dX11_lays_75 rfl (q := 8) rfl ?_
  refine lv_iconst (v := 0) hx hb dX11_lays_78 (by decide) ?_
  refine gm_aload_n (G := GM) (r := 1) C rfl dX11_lays_79 rfl (lv_at hl 0 rfl) ?_
  refine gm_getS (G := GM) (u := u_15) (r := 1) (ci := 10) (k := 15) C hw rfl fl_X11_29 dX11_lays_80 rfl (q := 8) rfl ?_
  refine lv_iconst (v := 1) hx hb dX11_lays_83 (by decide) ?_
  refine gm_iald (G := GM) (u := u_15) (r := 8) (n := 2) (i := (1 : Int32)) C hw rfl (by decide) (j := 1) (by decide) dX11_lays_84 ?_
  refine lv_sipush (v := 1000) hx hb dX11_lays_85 (by decide) ?_
  refine lv_isub hx hb dX11_lays_88 ?_
  refine gm_iast (G := GM) (u := u_15) (r := 8) (n := 2) (i := (0 : Int32)) (x := (gI u_15 8 1) - (1000 : Int32)) C hw rfl (by decide) (j := 0) (by decide) dX11_lays_89 (fun H locs hw => ?_)
  obtain ⟨u_17, e_u_17, hf⟩ := gm_le hf
  rw [← e_u_17] at hw
  refine gm_aload_n (G := GM) (r := 1) C rfl dX11_lays_90 rfl (lv_at hl 0 rfl) ?_
  refine gm_getS (G := GM) (u := u_17) (r := 1) (ci := 10) (k := 16) C hw rfl fl_X11_32 dX11_lays_91 rfl (q := 9) rfl ?_
  refine lv_iconst (v := 0) hx hb dX11_lays_94 (by decide) ?_
  refine gm_aload_n (G := GM) (r := 1) C rfl dX11_lays_95 rfl (lv_at hl 0 rfl) ?_
  refine gm_getS (G := GM) (u := u_17) (r := 1) (ci := 10) (k := 16) C hw rfl fl_X11_32 dX11_lays_96 rfl (q := 9) rfl ?_
  refine lv_iconst (v := 1) hx hb dX11_lays_99 (by decide) ?_
  refine gm_iald (G := GM) (u := u_17) (r := 9) (n := 2) (i := (1 : Int32)) C hw rfl (by decide) (j := 1) (by decide) dX11_lays_100 ?_
  refine lv_sipush (v := 1000) hx hb dX11_lays_101 (by decide) ?_
  refine lv_isub hx hb dX11_lays_104 ?_
  refine gm_iast (G := GM) (u := u_17) (r := 9) (n := 2) (i := (0 : Int32)) (x := (gI u_17 9 1) - (1000 : Int32)) C hw rfl (by decide) (j := 0) (by decide) dX11_lays_105 (fun H locs hw => ?_)
  obtain ⟨u_18, e_u_18, hf⟩ := gm_le hf
  rw [← e_u_18] at hw
  exact gm_vret C E hw rfl rfl (Option.some.inj hf).symm dX11_lays_106
/-! LeapCapitalModel.copies -/
def b_X11_copies_3 (a0 : Nat) (n0 : Nat) (a1 : Int32) (a2 : Nat) (n2 : Nat) (a3 : Int32) : (Int32 × gm_M) → Option ((Int32 × gm_M) ⊕ gm_M) := fun x => match x with | (v4_2, u_1) => if (22 : Int32) ≤ v4_2 then some (.inr u_1) else if ib (a1 + v4_2) n0 = true then if ib (a3 + v4_2) n2 = true then gm_let (sI u_1 a2 (ix (a3 + v4_2)) (gI u_1 a0 (ix (a1 + v4_2)))) fun u_5 => some (.inl (v4_2 + (1 : Int32), u_5)) else none else none
def f_X11_copies (a0 : Nat) (n0 : Nat) (a1 : Int32) (a2 : Nat) (n2 : Nat) (a3 : Int32) (u : gm_M) : Option gm_M := ((gm_lp (b_X11_copies_3 a0 n0 a1 a2 n2 a3) gm_FU ((0 : Int32), u)).bind fun o => match o with | u_6 => some u_6)
set_option maxRecDepth 100000 in
set_option maxHeartbeats 4000000 in
theorem ok_X11_copies (l : Launch) (Z : gm_Z) (a0 : Nat) (n0 : Nat) (a1 : Int32) (a2 : Nat) (n2 : Nat) (a3 : Int32) (u : gm_M) (h0 : gm_sh GM a0 = some (.inr (0, n0))) (h2 : gm_sh GM a2 = some (.inr (0, n2))) (u' : gm_M) (hf : f_X11_copies a0 n0 a1 a2 n2 a3 u = some (u')) : gm_Met l GM Z yX11_copies cX11_copies 5 none ({ frames := 0, cells := 0, slots := 0, locals := 0 }) [rv Z a0, .int a1, rv Z a2, .int a3] u none u' := by
  unfold f_X11_copies at hf
  refine gm_ofW (by decide +kernel) (by simp [lg_sl, gm_cat, gm_catI, gm_catJ]) ?_
  intro p e s m args below meth c A ls Q R hRf hRl C E hl hw
  obtain ⟨hx, hb, -⟩ := id C
  have hl : lv_has ls 5 [(0, rv Z a0), (1, .int a1), (2, rv Z a2), (3, .int a3)] := by simpa [lv_args, gm_cat, gm_catI, gm_catJ] using hl
  refine lv_iconst (v := 0) hx hb dX11_copies_0 (by decide) ?_
  refine lv_istore (i := 4) (lv' := [(4, .int (0 : Int32)), (0, rv Z a0), (1, .int a1), (2, rv Z a2), (3, .int a3)]) hx hb dX11_copies_1 hl (by decide) rfl (fun ls hl => ?_)
  obtain ⟨o1, hlp, hf⟩ := gm_bnd hf
  have L3_1 := gm_loop (b_X11_copies_3 a0 n0 a1 a2 n2 a3) (fun x : (Int32 × gm_M) => ∀ (H : Heap) (locs : List Loc) (ls : Array Slot), lv_has ls 5 [(0, rv Z a0), (1, .int a1), (2, rv Z a2), (3, .int a3), (4, .int x.1)] → wd GM Z x.2 A s.heap H locs → W p l e R s m args below meth c H locs 0 0 Q (F0 m 3 ls [])) (fun z : gm_M => ∀ (H : Heap) (locs : List Loc) (ls : Array Slot), lv_has ls 5 [] → wd GM Z z A s.heap H locs → W p l e R s m args below meth c H locs 0 0 Q (F0 m 28 ls [])) (by
    intro x o1 hf Kc Kx
    obtain ⟨v4_2, u_1⟩ := x
    intro H locs ls hl hw
    unfold b_X11_copies_3 at hf
    try dsimp only at hf
    refine lv_iload hx hb dX11_copies_3 (lv_at hl 4 rfl) ?_
    refine lv_bipush (v := 22) hx hb dX11_copies_5 (by decide) ?_
    refine lv_icmp_ge (tgt := 28) hx hb dX11_copies_7 (by decide) (fun hc => ?_) (fun hc => ?_)
    · replace hf := (if_pos hc).symm.trans hf
      exact Kx _ (gm_si hf) _ _ _ (lv_sub hl [] rfl) hw
    · replace hf := (if_neg hc).symm.trans hf
      refine gm_aload_n (G := GM) (r := a2) C h2 dX11_copies_10 rfl (lv_at hl 2 rfl) ?_
      refine lv_iload_n hx hb dX11_copies_11 rfl (lv_at hl 3 rfl) ?_
      refine lv_iload hx hb dX11_copies_12 (lv_at hl 4 rfl) ?_
      refine lv_iadd hx hb dX11_copies_14 ?_
      refine gm_aload_n (G := GM) (r := a0) C h0 dX11_copies_15 rfl (lv_at hl 0 rfl) ?_
      refine lv_iload_n hx hb dX11_copies_16 rfl (lv_at hl 1 rfl) ?_
      refine lv_iload hx hb dX11_copies_17 (lv_at hl 4 rfl) ?_
      refine lv_iadd hx hb dX11_copies_19 ?_
      obtain ⟨g_3, hf⟩ := gm_grd hf
      refine gm_iald (G := GM) (u := u_1) (r := a0) (n := n0) (i := a1 + v4_2) C hw h0 g_3 rfl dX11_copies_20 ?_
      obtain ⟨g_4, hf⟩ := gm_grd hf
      refine gm_iast (G := GM) (u := u_1) (r := a2) (n := n2) (i := a3 + v4_2) (x := gI u_1 a0 (ix (a1 + v4_2))) C hw h2 g_4 rfl dX11_copies_21 (fun H locs hw => ?_)
      obtain ⟨u_5, e_u_5, hf⟩ := gm_le hf
      rw [← e_u_5] at hw
      refine lv_iinc (v := v4_2 + (1 : Int32)) (lv' := [(4, .int (v4_2 + (1 : Int32))), (0, rv Z a0), (1, .int a1), (2, rv Z a2), (3, .int a3)]) hx hb dX11_copies_22 hl (k := 4) rfl rfl (by decide) rfl (fun ls hl => ?_)
      refine lv_goto (tgt := 3) hx hb dX11_copies_25 (by decide) ?_
      exact Kc _ (gm_si hf) _ _ _ (lv_sub hl [1, 2, 3, 4, 0] rfl) hw)
  refine L3_1 _ _ _ hlp ?_ _ _ _ (lv_sub hl [1, 2, 3, 4, 0] rfl) hw
  obtain ⟨u_6, rfl⟩ : ∃ y, y = o1 := ⟨_, rfl⟩
  intro H locs ls hl hw
  try dsimp only at hf
  exact gm_vret C E hw rfl rfl (Option.some.inj hf).symm dX11_copies_28
/-! LeapCapitalModel.readsLine -/
def j_X11_readsLine_199 (u_1 : gm_M) : Option (Int32 × gm_M) := gm_let (sI u_1 23 5 ((gI u_1 23 5) + (1 : Int32))) fun u_2 => (f_X11_closes u_2).bind fun o => match o with | (r_3, u_4) => some (r_3 &&& 1, u_4)
def j_X11_readsLine_71 (t_8 : Int32) (u_7 : gm_M) : Option (Int32 × gm_M) := if 0 ≤ t_8 then if (gI u_7 23 5) = (40 : Int32) then (f_X11_fails (5 : Int32) u_7).bind fun o => match o with | (r_33, u_34) => some (r_33 &&& 1, u_34) else (f_X11_nextToken u_7).bind fun u_9 => gm_let ((200 : Int32) + (gI u_9 23 5)) fun v2_11 => if ib v2_11 240 = true then gm_let (sI u_9 24 (ix v2_11) t_8) fun u_13 => if (2 : Int32) ≤ t_8 then if t_8 = (2 : Int32) then (f_X11_needsNumber (1 : Int32) (20 : Int32) u_13).bind fun o => match o with | (r_14, u_15) => if r_14 = 0 then some ((0 : Int32), u_15) else gm_let (sI u_15 25 (ix v2_11) (gI u_15 1 32)) fun u_18 => j_X11_readsLine_199 u_18 else j_X11_readsLine_199 u_13 else gm_let (f_X11_isKept u_13) fun r_19 => if r_19 = 0 then (f_X11_personNamed (0 : Int32) u_13).bind fun r_20 => gm_let (sI u_13 25 (ix v2_11) r_20) fun u_22 => if 0 ≤ (gI u_22 25 (ix v2_11)) then (f_X11_nextToken u_22).bind fun u_23 => j_X11_readsLine_199 u_23 else (f_X11_fails (2 : Int32) u_22).bind fun o => match o with | (r_25, u_26) => some (r_25 &&& 1, u_26) else (f_X11_fails (1 : Int32) u_13).bind fun o => match o with | (r_29, u_30) => some (r_29 &&& 1, u_30) else none else (f_X11_fails (1 : Int32) u_7).bind fun o => match o with | (r_37, u_38) => some (r_37 &&& 1, u_38)
def f_X11_readsLine  (u : gm_M) : Option (Int32 × gm_M) := gm_let (f_X11_isWord (70340 : Int64) u) fun r_41 => if r_41 = 0 then gm_let (f_X11_isWord (6477035 : Int64) u) fun r_42 => if r_42 = 0 then gm_let (f_X11_isWord (237292 : Int64) u) fun r_43 => if r_43 = 0 then gm_let (f_X11_isWord (453701 : Int64) u) fun r_44 => if r_44 = 0 then gm_let (f_X11_isWord (360968 : Int64) u) fun r_45 => if r_45 = 0 then j_X11_readsLine_71 (-1 : Int32) u else j_X11_readsLine_71 (4 : Int32) u else j_X11_readsLine_71 (3 : Int32) u else j_X11_readsLine_71 (2 : Int32) u else j_X11_readsLine_71 (1 : Int32) u else j_X11_readsLine_71 (0 : Int32) u
set_option maxRecDepth 100000 in
set_option maxHeartbeats 4000000 in
theorem ok_X11_readsLine (l : Launch) (Z : gm_Z)  (u : gm_M)  (r : Int32) (u' : gm_M) (hf : f_X11_readsLine u = some (r, u')) : gm_Met l GM Z yX11_readsLine cX11_readsLine 3 (some .boolean) ({ frames := 3, cells := 0, slots := 0, locals := 64 }) [rv Z 1] u (some (.int r)) u' := by
  unfold f_X11_readsLine at hf
  refine gm_ofW (by decide +kernel) (Nat.le_of_ble_eq_true rfl) ?_
  intro p e s m args below meth c A ls Q R hRf hRl C E hl hw
  obtain ⟨hx, hb, -⟩ := id C
  have hl : lv_has ls 3 [(0, rv Z 1)] := hl
  have J199 : ∀  (u_1 : gm_M) (H : Heap) (locs : List Loc) (ls : Array Slot), j_X11_readsLine_199 u_1 = some (r, u') → lv_has ls 3 [(0, rv Z 1)] → wd GM Z u_1 A s.heap H locs → W p l e R s m args below meth c H locs 0 0 Q (F0 m 199 ls []) := by
    intro  u_1 H locs ls hf  hl hw
    unfold j_X11_readsLine_199 at hf
    refine gm_aload_n (G := GM) (r := 1) C rfl dX11_readsLine_199 rfl (lv_at hl 0 rfl) ?_
    refine gm_getS (G := GM) (u := u_1) (r := 1) (ci := 10) (k := 33) C hw rfl fl_X11_75 dX11_readsLine_200 rfl (q := 23) rfl ?_
    refine lv_iconst (v := 5) hx hb dX11_readsLine_203 (by decide) ?_
    refine lv_dup2_11 hx hb dX11_readsLine_204 rfl (gm_cat _ _) ?_
    refine gm_iald (G := GM) (u := u_1) (r := 23) (n := 6) (i := (5 : Int32)) C hw rfl (by decide) (j := 5) (by decide) dX11_readsLine_205 ?_
    refine lv_iconst (v := 1) hx hb dX11_readsLine_206 (by decide) ?_
    refine lv_iadd hx hb dX11_readsLine_207 ?_
    refine gm_iast (G := GM) (u := u_1) (r := 23) (n := 6) (i := (5 : Int32)) (x := (gI u_1 23 5) + (1 : Int32)) C hw rfl (by decide) (j := 5) (by decide) dX11_readsLine_208 (fun H locs hw => ?_)
    obtain ⟨u_2, e_u_2, hf⟩ := gm_le hf
    rw [← e_u_2] at hw
    refine gm_aload_n (G := GM) (r := 1) C rfl dX11_readsLine_209 rfl (lv_at hl 0 rfl) ?_
    obtain ⟨⟨r_3, u_4⟩, hc_5, hf⟩ := gm_bnd hf
    try dsimp only at hf
    refine gm_callV (G := GM) (u := u_2) (u' := u_4) (r := 1) (ci := 10) (As := []) (rest := []) (res := (some (.int r_3))) C hw hl (ok_X11_closes l Z u_2 r_3 u_4 hc_5) cw_X11_276 im_X11_closes rfl se_X11_closes rfl rfl rfl ⟨Nat.le_trans (Nat.le_of_ble_eq_true rfl) hRf, Nat.le_trans (Nat.le_of_ble_eq_true rfl) hRl⟩ rfl rfl (Nat.le_of_ble_eq_true rfl) dX11_readsLine_210 (fun H locs hw => ?_)
    exact gm_zret C E hw rfl rfl ((congrArg (fun z => some (Value.int z)) (gm_sp hf).1).symm) (gm_sp hf).2.symm dX11_readsLine_213
  have J71 : ∀ (t_8 : Int32) (u_7 : gm_M) (H : Heap) (locs : List Loc) (ls : Array Slot), j_X11_readsLine_71 t_8 u_7 = some (r, u') → lv_has ls 3 [(0, rv Z 1)] → wd GM Z u_7 A s.heap H locs → W p l e R s m args below meth c H locs 0 0 Q (F0 m 71 ls [.int t_8]) := by
    intro t_8 u_7 H locs ls hf  hl hw
    unfold j_X11_readsLine_71 at hf
    refine lv_istore_n (i := 1) (lv' := [(1, .int t_8), (0, rv Z 1)]) hx hb dX11_readsLine_71 rfl hl (by decide) rfl (fun ls hl => ?_)
    refine lv_iload_n hx hb dX11_readsLine_72 rfl (lv_at hl 0 rfl) ?_
    refine lv_if_ge (tgt := 82) hx hb dX11_readsLine_73 (by decide) (fun hc => ?_) (fun hc => ?_)
    · replace hf := (if_pos hc).symm.trans hf
      refine gm_aload_n (G := GM) (r := 1) C rfl dX11_readsLine_82 rfl (lv_at hl 1 rfl) ?_
      refine gm_getS (G := GM) (u := u_7) (r := 1) (ci := 10) (k := 33) C hw rfl fl_X11_75 dX11_readsLine_83 rfl (q := 23) rfl ?_
      refine lv_iconst (v := 5) hx hb dX11_readsLine_86 (by decide) ?_
      refine gm_iald (G := GM) (u := u_7) (r := 23) (n := 6) (i := (5 : Int32)) C hw rfl (by decide) (j := 5) (by decide) dX11_readsLine_87 ?_
      refine lv_bipush (v := 40) hx hb dX11_readsLine_88 (by decide) ?_
      refine lv_icmp_ne (tgt := 99) hx hb dX11_readsLine_90 (by decide) (fun hc => ?_) (fun hc => ?_)
      · replace hf := (if_neg hc).symm.trans hf
        refine gm_aload_n (G := GM) (r := 1) C rfl dX11_readsLine_99 rfl (lv_at hl 1 rfl) ?_
        obtain ⟨u_9, hc_10, hf⟩ := gm_bnd hf
        refine gm_callV (G := GM) (u := u_7) (u' := u_9) (r := 1) (ci := 10) (As := []) (rest := []) (res := none) C hw hl (ok_X11_nextToken l Z u_7 u_9 hc_10) cw_X11_206 im_X11_nextToken rfl se_X11_nextToken rfl rfl rfl ⟨Nat.le_trans (Nat.le_of_ble_eq_true rfl) hRf, Nat.le_trans (Nat.le_of_ble_eq_true rfl) hRl⟩ rfl rfl (Nat.le_of_ble_eq_true rfl) dX11_readsLine_100 (fun H locs hw => ?_)
        refine lv_sipush (v := 200) hx hb dX11_readsLine_103 (by decide) ?_
        refine gm_aload_n (G := GM) (r := 1) C rfl dX11_readsLine_106 rfl (lv_at hl 1 rfl) ?_
        refine gm_getS (G := GM) (u := u_9) (r := 1) (ci := 10) (k := 33) C hw rfl fl_X11_75 dX11_readsLine_107 rfl (q := 23) rfl ?_
        refine lv_iconst (v := 5) hx hb dX11_readsLine_110 (by decide) ?_
        refine gm_iald (G := GM) (u := u_9) (r := 23) (n := 6) (i := (5 : Int32)) C hw rfl (by decide) (j := 5) (by decide) dX11_readsLine_111 ?_
        refine lv_iadd hx hb dX11_readsLine_112 ?_
        obtain ⟨v2_11, e_v2_11, hf⟩ := gm_le hf
        refine gm_topI e_v2_11 ?_
        refine lv_istore_n (i := 2) (lv' := [(2, .int v2_11), (1, .int t_8), (0, rv Z 1)]) hx hb dX11_readsLine_113 rfl hl (by decide) rfl (fun ls hl => ?_)
        refine gm_aload_n (G := GM) (r := 1) C rfl dX11_readsLine_114 rfl (lv_at hl 2 rfl) ?_
        refine gm_getS (G := GM) (u := u_9) (r := 1) (ci := 10) (k := 34) C hw rfl fl_X11_78 dX11_readsLine_115 rfl (q := 24) rfl ?_
        refine lv_iload_n hx hb dX11_readsLine_118 rfl (lv_at hl 0 rfl) ?_
        refine lv_iload_n hx hb dX11_readsLine_119 rfl (lv_at hl 1 rfl) ?_
        obtain ⟨g_12, hf⟩ := gm_grd hf
        refine gm_iast (G := GM) (u := u_9) (r := 24) (n := 240) (i := v2_11) (x := t_8) C hw rfl g_12 rfl dX11_readsLine_120 (fun H locs hw => ?_)
        obtain ⟨u_13, e_u_13, hf⟩ := gm_le hf
        rw [← e_u_13] at hw
        refine lv_iload_n hx hb dX11_readsLine_121 rfl (lv_at hl 1 rfl) ?_
        refine lv_iconst (v := 2) hx hb dX11_readsLine_122 (by decide) ?_
        refine lv_icmp_ge (tgt := 172) hx hb dX11_readsLine_123 (by decide) (fun hc => ?_) (fun hc => ?_)
        · replace hf := (if_pos hc).symm.trans hf
          refine lv_iload_n hx hb dX11_readsLine_172 rfl (lv_at hl 1 rfl) ?_
          refine lv_iconst (v := 2) hx hb dX11_readsLine_173 (by decide) ?_
          refine lv_icmp_ne (tgt := 199) hx hb dX11_readsLine_174 (by decide) (fun hc => ?_) (fun hc => ?_)
          · replace hf := (if_neg hc).symm.trans hf
            exact J199 u_13 _ _ _ hf  (lv_sub hl [2] rfl) hw
          · replace hf := (if_pos hc).symm.trans hf
            refine gm_aload_n (G := GM) (r := 1) C rfl dX11_readsLine_177 rfl (lv_at hl 2 rfl) ?_
            refine lv_iconst (v := 1) hx hb dX11_readsLine_178 (by decide) ?_
            refine lv_bipush (v := 20) hx hb dX11_readsLine_179 (by decide) ?_
            obtain ⟨⟨r_14, u_15⟩, hc_16, hf⟩ := gm_bnd hf
            try dsimp only at hf
            refine gm_callV (G := GM) (u := u_13) (u' := u_15) (r := 1) (ci := 10) (As := [.int (1 : Int32), .int (20 : Int32)]) (rest := []) (res := (some (.int r_14))) C hw hl (ok_X11_needsNumber l Z (1 : Int32) (20 : Int32) u_13 r_14 u_15 hc_16) cw_X11_261 im_X11_needsNumber rfl se_X11_needsNumber rfl rfl rfl ⟨Nat.le_trans (Nat.le_of_ble_eq_true rfl) hRf, Nat.le_trans (Nat.le_of_ble_eq_true rfl) hRl⟩ rfl rfl (Nat.le_of_ble_eq_true rfl) dX11_readsLine_181 (fun H locs hw => ?_)
            refine lv_if_ne (tgt := 189) hx hb dX11_readsLine_184 (by decide) (fun hc => ?_) (fun hc => ?_)
            · replace hf := (if_neg hc).symm.trans hf
              refine gm_aload_n (G := GM) (r := 1) C rfl dX11_readsLine_189 rfl (lv_at hl 2 rfl) ?_
              refine gm_getS (G := GM) (u := u_15) (r := 1) (ci := 10) (k := 35) C hw rfl fl_X11_81 dX11_readsLine_190 rfl (q := 25) rfl ?_
              refine lv_iload_n hx hb dX11_readsLine_193 rfl (lv_at hl 0 rfl) ?_
              refine gm_aload_n (G := GM) (r := 1) C rfl dX11_readsLine_194 rfl (lv_at hl 2 rfl) ?_
              refine gm_getI (G := GM) (u := u_15) (r := 1) (ci := 10) (k := 32) C hw rfl fl_X11_258 dX11_readsLine_195 rfl ?_
              refine gm_iast (G := GM) (u := u_15) (r := 25) (n := 240) (i := v2_11) (x := gI u_15 1 32) C hw rfl g_12 rfl dX11_readsLine_198 (fun H locs hw => ?_)
              obtain ⟨u_18, e_u_18, hf⟩ := gm_le hf
              rw [← e_u_18] at hw
              exact J199 u_18 _ _ _ hf  (lv_sub hl [2] rfl) hw
            · replace hf := (if_pos hc).symm.trans hf
              refine lv_iconst (v := 0) hx hb dX11_readsLine_187 (by decide) ?_
              exact gm_zret C E hw rfl rfl ((congrArg (fun z => some (Value.int z)) (gm_sp hf).1).symm) (gm_sp hf).2.symm dX11_readsLine_188
        · replace hf := (if_neg hc).symm.trans hf
          refine gm_aload_n (G := GM) (r := 1) C rfl dX11_readsLine_126 rfl (lv_at hl 2 rfl) ?_
          obtain ⟨r_19, e_r_19, hf⟩ := gm_le hf
          refine gm_callV (G := GM) (u := u_13) (u' := u_13) (r := 1) (ci := 10) (As := []) (rest := []) (res := (some (.int (f_X11_isKept u_13)))) C hw hl (ok_X11_isKept l Z u_13) cw_X11_265 im_X11_isKept rfl se_X11_isKept rfl rfl rfl ⟨Nat.le_trans (Nat.le_of_ble_eq_true rfl) hRf, Nat.le_trans (Nat.le_of_ble_eq_true rfl) hRl⟩ rfl rfl (Nat.le_of_ble_eq_true rfl) dX11_readsLine_127 (fun H locs hw => ?_)
          refine gm_topI e_r_19 ?_
          refine lv_if_eq (tgt := 139) hx hb dX11_readsLine_130 (by decide) (fun hc => ?_) (fun hc => ?_)
          · replace hf := (if_pos hc).symm.trans hf
            refine gm_aload_n (G := GM) (r := 1) C rfl dX11_readsLine_139 rfl (lv_at hl 2 rfl) ?_
            refine gm_getS (G := GM) (u := u_13) (r := 1) (ci := 10) (k := 35) C hw rfl fl_X11_81 dX11_readsLine_140 rfl (q := 25) rfl ?_
            refine lv_iload_n hx hb dX11_readsLine_143 rfl (lv_at hl 0 rfl) ?_
            refine gm_aload_n (G := GM) (r := 1) C rfl dX11_readsLine_144 rfl (lv_at hl 2 rfl) ?_
            refine lv_iconst (v := 0) hx hb dX11_readsLine_145 (by decide) ?_
            obtain ⟨r_20, hc_21, hf⟩ := gm_bnd hf
            refine gm_callV (G := GM) (u := u_13) (u' := u_13) (r := 1) (ci := 10) (As := [.int (0 : Int32)]) (rest := [.int v2_11, rv Z 25]) (res := (some (.int r_20))) C hw hl (ok_X11_personNamed l Z (0 : Int32) u_13 r_20 hc_21) cw_X11_269 im_X11_personNamed rfl se_X11_personNamed rfl rfl rfl ⟨Nat.le_trans (Nat.le_of_ble_eq_true rfl) hRf, Nat.le_trans (Nat.le_of_ble_eq_true rfl) hRl⟩ rfl rfl (Nat.le_of_ble_eq_true rfl) dX11_readsLine_146 (fun H locs hw => ?_)
            refine gm_iast (G := GM) (u := u_13) (r := 25) (n := 240) (i := v2_11) (x := r_20) C hw rfl g_12 rfl dX11_readsLine_149 (fun H locs hw => ?_)
            obtain ⟨u_22, e_u_22, hf⟩ := gm_le hf
            rw [← e_u_22] at hw
            refine gm_aload_n (G := GM) (r := 1) C rfl dX11_readsLine_150 rfl (lv_at hl 2 rfl) ?_
            refine gm_getS (G := GM) (u := u_22) (r := 1) (ci := 10) (k := 35) C hw rfl fl_X11_81 dX11_readsLine_151 rfl (q := 25) rfl ?_
            refine lv_iload_n hx hb dX11_readsLine_154 rfl (lv_at hl 0 rfl) ?_
            refine gm_iald (G := GM) (u := u_22) (r := 25) (n := 240) (i := v2_11) C hw rfl g_12 rfl dX11_readsLine_155 ?_
            refine lv_if_ge (tgt := 165) hx hb dX11_readsLine_156 (by decide) (fun hc => ?_) (fun hc => ?_)
            · replace hf := (if_pos hc).symm.trans hf
              refine gm_aload_n (G := GM) (r := 1) C rfl dX11_readsLine_165 rfl (lv_at hl 2 rfl) ?_
              obtain ⟨u_23, hc_24, hf⟩ := gm_bnd hf
              refine gm_callV (G := GM) (u := u_22) (u' := u_23) (r := 1) (ci := 10) (As := []) (rest := []) (res := none) C hw hl (ok_X11_nextToken l Z u_22 u_23 hc_24) cw_X11_206 im_X11_nextToken rfl se_X11_nextToken rfl rfl rfl ⟨Nat.le_trans (Nat.le_of_ble_eq_true rfl) hRf, Nat.le_trans (Nat.le_of_ble_eq_true rfl) hRl⟩ rfl rfl (Nat.le_of_ble_eq_true rfl) dX11_readsLine_166 (fun H locs hw => ?_)
              refine lv_goto (tgt := 199) hx hb dX11_readsLine_169 (by decide) ?_
              exact J199 u_23 _ _ _ hf  (lv_sub hl [2] rfl) hw
            · replace hf := (if_neg hc).symm.trans hf
              refine gm_aload_n (G := GM) (r := 1) C rfl dX11_readsLine_159 rfl (lv_at hl 2 rfl) ?_
              refine lv_iconst (v := 2) hx hb dX11_readsLine_160 (by decide) ?_
              obtain ⟨⟨r_25, u_26⟩, hc_27, hf⟩ := gm_bnd hf
              try dsimp only at hf
              refine gm_callV (G := GM) (u := u_22) (u' := u_26) (r := 1) (ci := 10) (As := [.int (2 : Int32)]) (rest := []) (res := (some (.int r_25))) C hw hl (ok_X11_fails l Z (2 : Int32) u_22 r_25 u_26 hc_27) cw_X11_200 im_X11_fails rfl se_X11_fails rfl rfl rfl ⟨Nat.le_trans (Nat.le_of_ble_eq_true rfl) hRf, Nat.le_trans (Nat.le_of_ble_eq_true rfl) hRl⟩ rfl rfl (Nat.le_of_ble_eq_true rfl) dX11_readsLine_161 (fun H locs hw => ?_)
              exact gm_zret C E hw rfl rfl ((congrArg (fun z => some (Value.int z)) (gm_sp hf).1).symm) (gm_sp hf).2.symm dX11_readsLine_164
          · replace hf := (if_neg hc).symm.trans hf
            refine gm_aload_n (G := GM) (r := 1) C rfl dX11_readsLine_133 rfl (lv_at hl 2 rfl) ?_
            refine lv_iconst (v := 1) hx hb dX11_readsLine_134 (by decide) ?_
            obtain ⟨⟨r_29, u_30⟩, hc_31, hf⟩ := gm_bnd hf
            try dsimp only at hf
            refine gm_callV (G := GM) (u := u_13) (u' := u_30) (r := 1) (ci := 10) (As := [.int (1 : Int32)]) (rest := []) (res := (some (.int r_29))) C hw hl (ok_X11_fails l Z (1 : Int32) u_13 r_29 u_30 hc_31) cw_X11_200 im_X11_fails rfl se_X11_fails rfl rfl rfl ⟨Nat.le_trans (Nat.le_of_ble_eq_true rfl) hRf, Nat.le_trans (Nat.le_of_ble_eq_true rfl) hRl⟩ rfl rfl (Nat.le_of_ble_eq_true rfl) dX11_readsLine_135 (fun H locs hw => ?_)
            exact gm_zret C E hw rfl rfl ((congrArg (fun z => some (Value.int z)) (gm_sp hf).1).symm) (gm_sp hf).2.symm dX11_readsLine_138
      · replace hf := (if_pos hc).symm.trans hf
        refine gm_aload_n (G := GM) (r := 1) C rfl dX11_readsLine_93 rfl (lv_at hl 1 rfl) ?_
        refine lv_iconst (v := 5) hx hb dX11_readsLine_94 (by decide) ?_
        obtain ⟨⟨r_33, u_34⟩, hc_35, hf⟩ := gm_bnd hf
        try dsimp only at hf
        refine gm_callV (G := GM) (u := u_7) (u' := u_34) (r := 1) (ci := 10) (As := [.int (5 : Int32)]) (rest := []) (res := (some (.int r_33))) C hw hl (ok_X11_fails l Z (5 : Int32) u_7 r_33 u_34 hc_35) cw_X11_200 im_X11_fails rfl se_X11_fails rfl rfl rfl ⟨Nat.le_trans (Nat.le_of_ble_eq_true rfl) hRf, Nat.le_trans (Nat.le_of_ble_eq_true rfl) hRl⟩ rfl rfl (Nat.le_of_ble_eq_true rfl) dX11_readsLine_95 (fun H locs hw => ?_)
        exact gm_zret C E hw rfl rfl ((congrArg (fun z => some (Value.int z)) (gm_sp hf).1).symm) (gm_sp hf).2.symm dX11_readsLine_98
    · replace hf := (if_neg hc).symm.trans hf
      refine gm_aload_n (G := GM) (r := 1) C rfl dX11_readsLine_76 rfl (lv_at hl 1 rfl) ?_
      refine lv_iconst (v := 1) hx hb dX11_readsLine_77 (by decide) ?_
      obtain ⟨⟨r_37, u_38⟩, hc_39, hf⟩ := gm_bnd hf
      try dsimp only at hf
      refine gm_callV (G := GM) (u := u_7) (u' := u_38) (r := 1) (ci := 10) (As := [.int (1 : Int32)]) (rest := []) (res := (some (.int r_37))) C hw hl (ok_X11_fails l Z (1 : Int32) u_7 r_37 u_38 hc_39) cw_X11_200 im_X11_fails rfl se_X11_fails rfl rfl rfl ⟨Nat.le_trans (Nat.le_of_ble_eq_true rfl) hRf, Nat.le_trans (Nat.le_of_ble_eq_true rfl) hRl⟩ rfl rfl (Nat.le_of_ble_eq_true rfl) dX11_readsLine_78 (fun H locs hw => ?_)
      exact gm_zret C E hw rfl rfl ((congrArg (fun z => some (Value.int z)) (gm_sp hf).1).symm) (gm_sp hf).2.symm dX11_readsLine_81
  refine gm_aload_n (G := GM) (r := 1) C rfl dX11_readsLine_0 rfl (lv_at hl 0 rfl) ?_
  refine lv_ldc2 hx hb C.2.2.2.1 (C.2.2.2.2.1 _ kn_X11_236) dX11_readsLine_1 ?_
  obtain ⟨r_41, e_r_41, hf⟩ := gm_le hf
  refine gm_callV (G := GM) (u := u) (u' := u) (r := 1) (ci := 10) (As := [.long (70340 : Int64)]) (rest := []) (res := (some (.int (f_X11_isWord (70340 : Int64) u)))) C hw hl (ok_X11_isWord l Z (70340 : Int64) u) cw_X11_192 im_X11_isWord rfl se_X11_isWord rfl rfl rfl ⟨Nat.le_trans (Nat.le_of_ble_eq_true rfl) hRf, Nat.le_trans (Nat.le_of_ble_eq_true rfl) hRl⟩ rfl rfl (Nat.le_of_ble_eq_true rfl) dX11_readsLine_4 (fun H locs hw => ?_)
  refine gm_topI e_r_41 ?_
  refine lv_if_eq (tgt := 14) hx hb dX11_readsLine_7 (by decide) (fun hc => ?_) (fun hc => ?_)
  · replace hf := (if_pos hc).symm.trans hf
    refine gm_aload_n (G := GM) (r := 1) C rfl dX11_readsLine_14 rfl (lv_at hl 0 rfl) ?_
    refine lv_ldc2 hx hb C.2.2.2.1 (C.2.2.2.2.1 _ kn_X11_238) dX11_readsLine_15 ?_
    obtain ⟨r_42, e_r_42, hf⟩ := gm_le hf
    refine gm_callV (G := GM) (u := u) (u' := u) (r := 1) (ci := 10) (As := [.long (6477035 : Int64)]) (rest := []) (res := (some (.int (f_X11_isWord (6477035 : Int64) u)))) C hw hl (ok_X11_isWord l Z (6477035 : Int64) u) cw_X11_192 im_X11_isWord rfl se_X11_isWord rfl rfl rfl ⟨Nat.le_trans (Nat.le_of_ble_eq_true rfl) hRf, Nat.le_trans (Nat.le_of_ble_eq_true rfl) hRl⟩ rfl rfl (Nat.le_of_ble_eq_true rfl) dX11_readsLine_18 (fun H locs hw => ?_)
    refine gm_topI e_r_42 ?_
    refine lv_if_eq (tgt := 28) hx hb dX11_readsLine_21 (by decide) (fun hc => ?_) (fun hc => ?_)
    · replace hf := (if_pos hc).symm.trans hf
      refine gm_aload_n (G := GM) (r := 1) C rfl dX11_readsLine_28 rfl (lv_at hl 0 rfl) ?_
      refine lv_ldc2 hx hb C.2.2.2.1 (C.2.2.2.2.1 _ kn_X11_240) dX11_readsLine_29 ?_
      obtain ⟨r_43, e_r_43, hf⟩ := gm_le hf
      refine gm_callV (G := GM) (u := u) (u' := u) (r := 1) (ci := 10) (As := [.long (237292 : Int64)]) (rest := []) (res := (some (.int (f_X11_isWord (237292 : Int64) u)))) C hw hl (ok_X11_isWord l Z (237292 : Int64) u) cw_X11_192 im_X11_isWord rfl se_X11_isWord rfl rfl rfl ⟨Nat.le_trans (Nat.le_of_ble_eq_true rfl) hRf, Nat.le_trans (Nat.le_of_ble_eq_true rfl) hRl⟩ rfl rfl (Nat.le_of_ble_eq_true rfl) dX11_readsLine_32 (fun H locs hw => ?_)
      refine gm_topI e_r_43 ?_
      refine lv_if_eq (tgt := 42) hx hb dX11_readsLine_35 (by decide) (fun hc => ?_) (fun hc => ?_)
      · replace hf := (if_pos hc).symm.trans hf
        refine gm_aload_n (G := GM) (r := 1) C rfl dX11_readsLine_42 rfl (lv_at hl 0 rfl) ?_
        refine lv_ldc2 hx hb C.2.2.2.1 (C.2.2.2.2.1 _ kn_X11_242) dX11_readsLine_43 ?_
        obtain ⟨r_44, e_r_44, hf⟩ := gm_le hf
        refine gm_callV (G := GM) (u := u) (u' := u) (r := 1) (ci := 10) (As := [.long (453701 : Int64)]) (rest := []) (res := (some (.int (f_X11_isWord (453701 : Int64) u)))) C hw hl (ok_X11_isWord l Z (453701 : Int64) u) cw_X11_192 im_X11_isWord rfl se_X11_isWord rfl rfl rfl ⟨Nat.le_trans (Nat.le_of_ble_eq_true rfl) hRf, Nat.le_trans (Nat.le_of_ble_eq_true rfl) hRl⟩ rfl rfl (Nat.le_of_ble_eq_true rfl) dX11_readsLine_46 (fun H locs hw => ?_)
        refine gm_topI e_r_44 ?_
        refine lv_if_eq (tgt := 56) hx hb dX11_readsLine_49 (by decide) (fun hc => ?_) (fun hc => ?_)
        · replace hf := (if_pos hc).symm.trans hf
          refine gm_aload_n (G := GM) (r := 1) C rfl dX11_readsLine_56 rfl (lv_at hl 0 rfl) ?_
          refine lv_ldc2 hx hb C.2.2.2.1 (C.2.2.2.2.1 _ kn_X11_244) dX11_readsLine_57 ?_
          obtain ⟨r_45, e_r_45, hf⟩ := gm_le hf
          refine gm_callV (G := GM) (u := u) (u' := u) (r := 1) (ci := 10) (As := [.long (360968 : Int64)]) (rest := []) (res := (some (.int (f_X11_isWord (360968 : Int64) u)))) C hw hl (ok_X11_isWord l Z (360968 : Int64) u) cw_X11_192 im_X11_isWord rfl se_X11_isWord rfl rfl rfl ⟨Nat.le_trans (Nat.le_of_ble_eq_true rfl) hRf, Nat.le_trans (Nat.le_of_ble_eq_true rfl) hRl⟩ rfl rfl (Nat.le_of_ble_eq_true rfl) dX11_readsLine_60 (fun H locs hw => ?_)
          refine gm_topI e_r_45 ?_
          refine lv_if_eq (tgt := 70) hx hb dX11_readsLine_63 (by decide) (fun hc => ?_) (fun hc => ?_)
          · replace hf := (if_pos hc).symm.trans hf
            refine lv_iconst (v := -1) hx hb dX11_readsLine_70 (by decide) ?_
            exact J71 (-1 : Int32) u _ _ _ hf  (lv_sub hl [0] rfl) hw
          · replace hf := (if_neg hc).symm.trans hf
            refine lv_iconst (v := 4) hx hb dX11_readsLine_66 (by decide) ?_
            refine lv_goto (tgt := 71) hx hb dX11_readsLine_67 (by decide) ?_
            exact J71 (4 : Int32) u _ _ _ hf  (lv_sub hl [0] rfl) hw
        · replace hf := (if_neg hc).symm.trans hf
          refine lv_iconst (v := 3) hx hb dX11_readsLine_52 (by decide) ?_
          refine lv_goto (tgt := 71) hx hb dX11_readsLine_53 (by decide) ?_
          exact J71 (3 : Int32) u _ _ _ hf  (lv_sub hl [0] rfl) hw
      · replace hf := (if_neg hc).symm.trans hf
        refine lv_iconst (v := 2) hx hb dX11_readsLine_38 (by decide) ?_
        refine lv_goto (tgt := 71) hx hb dX11_readsLine_39 (by decide) ?_
        exact J71 (2 : Int32) u _ _ _ hf  (lv_sub hl [0] rfl) hw
    · replace hf := (if_neg hc).symm.trans hf
      refine lv_iconst (v := 1) hx hb dX11_readsLine_24 (by decide) ?_
      refine lv_goto (tgt := 71) hx hb dX11_readsLine_25 (by decide) ?_
      exact J71 (1 : Int32) u _ _ _ hf  (lv_sub hl [0] rfl) hw
  · replace hf := (if_neg hc).symm.trans hf
    refine lv_iconst (v := 0) hx hb dX11_readsLine_10 (by decide) ?_
    refine lv_goto (tgt := 71) hx hb dX11_readsLine_11 (by decide) ?_
    exact J71 (0 : Int32) u _ _ _ hf  (lv_sub hl [0] rfl) hw
