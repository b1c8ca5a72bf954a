/-! LeapCapitalModel.when -/
def j_X11_when_73 (a1 : Int32) (v2_2 : Int32) (u_1 : gm_M) : Option (Int32 × gm_M) := (f_X11_copies 31 22 (0 : Int32) 29 22 (0 : Int32) u_1).bind fun u_3 => if v2_2 ≤ (99 : Int32) then some (v2_2, u_3) else some ((-1 : Int32), u_3)
def b_X11_when_48 (a1 : Int32) : (Int32 × gm_M) → Option ((Int32 × gm_M) ⊕ ((Int32 × gm_M))) := fun x => match x with | (v2_13, u_12) => if (99 : Int32) < v2_13 then some (.inr (v2_13, u_12)) else gm_let (f_X11_isHeard a1 u_12) fun r_14 => if r_14 = 0 then (f_X11_passes u_12).bind fun o => match o with | (r_15, u_16) => some (.inl (v2_13 + (1 : Int32), u_16)) else some (.inr (v2_13, u_12))
def f_X11_when (a1 : Int32) (u : gm_M) : Option (Int32 × gm_M) := gm_let (sI u 1 0 (0 : Int32)) fun u_5 => gm_let (f_X11_isPerson a1 u_5) fun r_6 => if r_6 = 0 then some ((-1 : Int32), u_5) else (f_X11_placeOf a1 u_5).bind fun r_7 => if 0 ≤ r_7 then gm_let (sI u_5 1 49 (gI u_5 3 2)) fun u_9 => (f_X11_copies 29 22 (0 : Int32) 31 22 (0 : Int32) u_9).bind fun u_10 => ((gm_lp (b_X11_when_48 a1) gm_FU ((0 : Int32), u_10)).bind fun o => match o with | (w2_19, u_20) => j_X11_when_73 a1 w2_19 u_20) else some ((-1 : Int32), u_5)
set_option maxRecDepth 100000 in
set_option maxHeartbeats 4000000 in
theorem ok_X11_when (l : Launch) (Z : gm_Z) (a1 : Int32) (u : gm_M)  (r : Int32) (u' : gm_M) (hf : f_X11_when a1 u = some (r, u')) : gm_Met l GM Z yX11_when cX11_when 3 (some .int) ({ frames := 7, cells := 0, slots := 0, locals := 160 }) [rv Z 1, .int a1] u (some (.int r)) u' := by
  unfold f_X11_when at hf
  refine gm_ofW (by decide +kernel) (Nat.le_of_ble_eq_true rfl) ?_
  intro p e s m args below meth c A ls Q R hRf hRl C E hl hw
  obtain ⟨hx, hb, -⟩ := id C
  have hl : lv_has ls 3 [(0, rv Z 1), (1, .int a1)] := hl
  have J73 : ∀ (v2_2 : Int32) (u_1 : gm_M) (H : Heap) (locs : List Loc) (ls : Array Slot), j_X11_when_73 a1 v2_2 u_1 = some (r, u') → lv_has ls 3 [(0, rv Z 1), (2, .int v2_2)] → wd GM Z u_1 A s.heap H locs → W p l e R s m args below meth c H locs 0 0 Q (F0 m 73 ls []) := by
    intro v2_2 u_1 H locs ls hf  hl hw
    unfold j_X11_when_73 at hf
    refine gm_aload_n (G := GM) (r := 1) C rfl dX11_when_73 rfl (lv_at hl 0 rfl) ?_
    refine gm_getS (G := GM) (u := u_1) (r := 1) (ci := 10) (k := 41) C hw rfl fl_X11_99 dX11_when_74 rfl (q := 31) rfl ?_
    refine lv_iconst (v := 0) hx hb dX11_when_77 (by decide) ?_
    refine gm_aload_n (G := GM) (r := 1) C rfl dX11_when_78 rfl (lv_at hl 0 rfl) ?_
    refine gm_getS (G := GM) (u := u_1) (r := 1) (ci := 10) (k := 39) C hw rfl fl_X11_93 dX11_when_79 rfl (q := 29) rfl ?_
    refine lv_iconst (v := 0) hx hb dX11_when_82 (by decide) ?_
    obtain ⟨u_3, hc_4, hf⟩ := gm_bnd hf
    refine gm_callS (G := GM) (u := u_1) (u' := u_3) (As := [rv Z 31, .int (0 : Int32), rv Z 29, .int (0 : Int32)]) (rest := []) (res := none) C hw hl (ok_X11_copies l Z 31 22 (0 : Int32) 29 22 (0 : Int32) u_1 rfl rfl u_3 hc_4) cw_X11_376 st_X11_copies rfl rfl ⟨Nat.le_trans (Nat.le_of_ble_eq_true rfl) hRf, Nat.le_trans (Nat.le_of_ble_eq_true rfl) hRl⟩ rfl rfl (Nat.le_of_ble_eq_true rfl) dX11_when_83 (fun H locs hw => ?_)
    refine lv_iload_n hx hb dX11_when_86 rfl (lv_at hl 1 rfl) ?_
    refine lv_bipush (v := 99) hx hb dX11_when_87 (by decide) ?_
    refine lv_icmp_le (tgt := 96) hx hb dX11_when_89 (by decide) (fun hc => ?_) (fun hc => ?_)
    · replace hf := (if_pos hc).symm.trans hf
      refine lv_iload_n hx hb dX11_when_96 rfl (lv_at hl 1 rfl) ?_
      exact gm_iret C E hw rfl ((congrArg (fun z => some (Value.int z)) (gm_sp hf).1).symm) (gm_sp hf).2.symm dX11_when_97
    · replace hf := (if_neg hc).symm.trans hf
      refine lv_iconst (v := -1) hx hb dX11_when_92 (by decide) ?_
      refine lv_goto (tgt := 97) hx hb dX11_when_93 (by decide) ?_
      exact gm_iret C E hw rfl ((congrArg (fun z => some (Value.int z)) (gm_sp hf).1).symm) (gm_sp hf).2.symm dX11_when_97
  refine gm_aload_n (G := GM) (r := 1) C rfl dX11_when_0 rfl (lv_at hl 0 rfl) ?_
  refine lv_iconst (v := 0) hx hb dX11_when_1 (by decide) ?_
  refine gm_putI (G := GM) (u := u) (r := 1) (ci := 10) (k := 0) (v := (0 : Int32)) C hw rfl fl_X11_137 fp_10_0 dX11_when_2 rfl (fun H locs hw => ?_)
  obtain ⟨u_5, e_u_5, hf⟩ := gm_le hf
  rw [← e_u_5] at hw
  refine gm_aload_n (G := GM) (r := 1) C rfl dX11_when_5 rfl (lv_at hl 0 rfl) ?_
  refine lv_iload_n hx hb dX11_when_6 rfl (lv_at hl 1 rfl) ?_
  obtain ⟨r_6, e_r_6, hf⟩ := gm_le hf
  refine gm_callV (G := GM) (u := u_5) (u' := u_5) (r := 1) (ci := 10) (As := [.int a1]) (rest := []) (res := (some (.int (f_X11_isPerson a1 u_5)))) C hw hl (ok_X11_isPerson l Z a1 u_5) cw_X11_373 im_X11_isPerson rfl se_X11_isPerson rfl rfl rfl ⟨Nat.le_trans (Nat.le_of_ble_eq_true rfl) hRf, Nat.le_trans (Nat.le_of_ble_eq_true rfl) hRl⟩ rfl rfl (Nat.le_of_ble_eq_true rfl) dX11_when_7 (fun H locs hw => ?_)
  refine gm_topI e_r_6 ?_
  refine lv_if_eq (tgt := 21) hx hb dX11_when_10 (by decide) (fun hc => ?_) (fun hc => ?_)
  · replace hf := (if_pos hc).symm.trans hf
    refine lv_iconst (v := -1) hx hb dX11_when_21 (by decide) ?_
    exact gm_iret C E hw rfl ((congrArg (fun z => some (Value.int z)) (gm_sp hf).1).symm) (gm_sp hf).2.symm dX11_when_22
  · replace hf := (if_neg hc).symm.trans hf
    refine gm_aload_n (G := GM) (r := 1) C rfl dX11_when_13 rfl (lv_at hl 0 rfl) ?_
    refine lv_iload_n hx hb dX11_when_14 rfl (lv_at hl 1 rfl) ?_
    obtain ⟨r_7, hc_8, hf⟩ := gm_bnd hf
    refine gm_callV (G := GM) (u := u_5) (u' := u_5) (r := 1) (ci := 10) (As := [.int a1]) (rest := []) (res := (some (.int r_7))) C hw hl (ok_X11_placeOf l Z a1 u_5 r_7 hc_8) cw_X11_324 im_X11_placeOf rfl se_X11_placeOf rfl rfl rfl ⟨Nat.le_trans (Nat.le_of_ble_eq_true rfl) hRf, Nat.le_trans (Nat.le_of_ble_eq_true rfl) hRl⟩ rfl rfl (Nat.le_of_ble_eq_true rfl) dX11_when_15 (fun H locs hw => ?_)
    refine lv_if_ge (tgt := 23) hx hb dX11_when_18 (by decide) (fun hc => ?_) (fun hc => ?_)
    · replace hf := (if_pos hc).symm.trans hf
      refine gm_aload_n (G := GM) (r := 1) C rfl dX11_when_23 rfl (lv_at hl 0 rfl) ?_
      refine gm_aload_n (G := GM) (r := 1) C rfl dX11_when_24 rfl (lv_at hl 0 rfl) ?_
      refine gm_getS (G := GM) (u := u_5) (r := 1) (ci := 10) (k := 10) C hw rfl fl_X11_13 dX11_when_25 rfl (q := 3) rfl ?_
      refine lv_iconst (v := 2) hx hb dX11_when_28 (by decide) ?_
      refine gm_iald (G := GM) (u := u_5) (r := 3) (n := 8) (i := (2 : Int32)) C hw rfl (by decide) (j := 2) (by decide) dX11_when_29 ?_
      refine gm_putI (G := GM) (u := u_5) (r := 1) (ci := 10) (k := 49) (v := gI u_5 3 2) C hw rfl fl_X11_117 fp_10_49 dX11_when_30 rfl (fun H locs hw => ?_)
      obtain ⟨u_9, e_u_9, hf⟩ := gm_le hf
      rw [← e_u_9] at hw
      refine gm_aload_n (G := GM) (r := 1) C rfl dX11_when_33 rfl (lv_at hl 0 rfl) ?_
      refine gm_getS (G := GM) (u := u_9) (r := 1) (ci := 10) (k := 39) C hw rfl fl_X11_93 dX11_when_34 rfl (q := 29) rfl ?_
      refine lv_iconst (v := 0) hx hb dX11_when_37 (by decide) ?_
      refine gm_aload_n (G := GM) (r := 1) C rfl dX11_when_38 rfl (lv_at hl 0 rfl) ?_
      refine gm_getS (G := GM) (u := u_9) (r := 1) (ci := 10) (k := 41) C hw rfl fl_X11_99 dX11_when_39 rfl (q := 31) rfl ?_
      refine lv_iconst (v := 0) hx hb dX11_when_42 (by decide) ?_
      obtain ⟨u_10, hc_11, hf⟩ := gm_bnd hf
      refine gm_callS (G := GM) (u := u_9) (u' := u_10) (As := [rv Z 29, .int (0 : Int32), rv Z 31, .int (0 : Int32)]) (rest := []) (res := none) C hw hl (ok_X11_copies l Z 29 22 (0 : Int32) 31 22 (0 : Int32) u_9 rfl rfl u_10 hc_11) cw_X11_376 st_X11_copies rfl rfl ⟨Nat.le_trans (Nat.le_of_ble_eq_true rfl) hRf, Nat.le_trans (Nat.le_of_ble_eq_true rfl) hRl⟩ rfl rfl (Nat.le_of_ble_eq_true rfl) dX11_when_43 (fun H locs hw => ?_)
      refine lv_iconst (v := 0) hx hb dX11_when_46 (by decide) ?_
      refine lv_istore_n (i := 2) (lv' := [(2, .int (0 : Int32)), (0, rv Z 1), (1, .int a1)]) hx hb dX11_when_47 rfl hl (by decide) rfl (fun ls hl => ?_)
      obtain ⟨o1, hlp, hf⟩ := gm_bnd hf
      have L48_1 := gm_loop (b_X11_when_48 a1) (fun x : (Int32 × gm_M) => ∀ (H : Heap) (locs : List Loc) (ls : Array Slot), lv_has ls 3 [(0, rv Z 1), (1, .int a1), (2, .int x.1)] → wd GM Z x.2 A s.heap H locs → W p l e R s m args below meth c H locs 0 0 Q (F0 m 48 ls [])) (fun z : ((Int32 × gm_M)) => ∀ (H : Heap) (locs : List Loc) (ls : Array Slot), lv_has ls 3 [(0, rv Z 1), (2, .int z.1)] → wd GM Z z.2 A s.heap H locs → W p l e R s m args below meth c H locs 0 0 Q (F0 m 73 ls [])) (by
        intro x o1 hf Kc Kx
        obtain ⟨v2_13, u_12⟩ := x
        intro H locs ls hl hw
        unfold b_X11_when_48 at hf
        try dsimp only at hf
        refine lv_iload_n hx hb dX11_when_48 rfl (lv_at hl 2 rfl) ?_
        refine lv_bipush (v := 99) hx hb dX11_when_49 (by decide) ?_
        refine lv_icmp_gt (tgt := 73) hx hb dX11_when_51 (by decide) (fun hc => ?_) (fun hc => ?_)
        · replace hf := (if_pos hc).symm.trans hf
          exact Kx _ (gm_si hf) _ _ _ (lv_sub hl [0, 2] rfl) hw
        · replace hf := (if_neg hc).symm.trans hf
          refine gm_aload_n (G := GM) (r := 1) C rfl dX11_when_54 rfl (lv_at hl 0 rfl) ?_
          refine lv_iload_n hx hb dX11_when_55 rfl (lv_at hl 1 rfl) ?_
          obtain ⟨r_14, e_r_14, hf⟩ := gm_le hf
          refine gm_callV (G := GM) (u := u_12) (u' := u_12) (r := 1) (ci := 10) (As := [.int a1]) (rest := []) (res := (some (.int (f_X11_isHeard a1 u_12)))) C hw hl (ok_X11_isHeard l Z a1 u_12) cw_X11_327 im_X11_isHeard rfl se_X11_isHeard rfl rfl rfl ⟨Nat.le_trans (Nat.le_of_ble_eq_true rfl) hRf, Nat.le_trans (Nat.le_of_ble_eq_true rfl) hRl⟩ rfl rfl (Nat.le_of_ble_eq_true rfl) dX11_when_56 (fun H locs hw => ?_)
          refine gm_topI e_r_14 ?_
          refine lv_if_ne (tgt := 73) hx hb dX11_when_59 (by decide) (fun hc => ?_) (fun hc => ?_)
          · replace hf := (if_neg hc).symm.trans hf
            exact Kx _ (gm_si hf) _ _ _ (lv_sub hl [0, 2] rfl) hw
          · replace hf := (if_pos hc).symm.trans hf
            refine gm_aload_n (G := GM) (r := 1) C rfl dX11_when_62 rfl (lv_at hl 0 rfl) ?_
            obtain ⟨⟨r_15, u_16⟩, hc_17, hf⟩ := gm_bnd hf
            try dsimp only at hf
            refine gm_callV (G := GM) (u := u_12) (u' := u_16) (r := 1) (ci := 10) (As := []) (rest := []) (res := (some (.int r_15))) C hw hl (ok_X11_passes l Z u_12 r_15 u_16 hc_17) cw_X11_370 im_X11_passes rfl se_X11_passes rfl rfl rfl ⟨Nat.le_trans (Nat.le_of_ble_eq_true rfl) hRf, Nat.le_trans (Nat.le_of_ble_eq_true rfl) hRl⟩ rfl rfl (Nat.le_of_ble_eq_true rfl) dX11_when_63 (fun H locs hw => ?_)
            refine lv_pop hx hb dX11_when_66 rfl ?_
            refine lv_iinc (v := v2_13 + (1 : Int32)) (lv' := [(2, .int (v2_13 + (1 : Int32))), (0, rv Z 1), (1, .int a1)]) hx hb dX11_when_67 hl (k := 2) rfl rfl (by decide) rfl (fun ls hl => ?_)
            refine lv_goto (tgt := 48) hx hb dX11_when_70 (by decide) ?_
            exact Kc _ (gm_si hf) _ _ _ (lv_sub hl [1, 2, 0] rfl) hw)
      refine L48_1 _ _ _ hlp ?_ _ _ _ (lv_sub hl [1, 2, 0] rfl) hw
      obtain ⟨w2_19, u_20⟩ := o1
      intro H locs ls hl hw
      try dsimp only at hf
      exact J73 w2_19 u_20 _ _ _ hf  (lv_sub hl [0, 1] rfl) hw
    · replace hf := (if_neg hc).symm.trans hf
      refine lv_iconst (v := -1) hx hb dX11_when_21 (by decide) ?_
      exact gm_iret C E hw rfl ((congrArg (fun z => some (Value.int z)) (gm_sp hf).1).symm) (gm_sp hf).2.symm dX11_when_22
/-! LeapCapitalModel.audience -/
def b_X11_audience_44 (a1 : Int32) : (Int32 × Int32 × gm_M) → Option ((Int32 × Int32 × gm_M) ⊕ ((Int32 × gm_M))) := fun x => match x with | (v2_7, v3_8, u_6) => if a1 ≤ v3_8 then some (.inr (v2_7, u_6)) else gm_let (gI u_6 29 3) fun v2_9 => (f_X11_rides u_6).bind fun u_10 => some (.inl (v2_9, v3_8 + (1 : Int32), u_10))
def f_X11_audience (a1 : Int32) (u : gm_M) : Option (Int32 × gm_M) := gm_let (sI u 1 0 (0 : Int32)) fun u_1 => gm_let (f_X11_within a1 (1 : Int32) (12 : Int32)) fun r_2 => if r_2 = 0 then some ((-1 : Int32), u_1) else gm_let (sI u_1 1 49 (gI u_1 3 2)) fun u_3 => (f_X11_copies 29 22 (0 : Int32) 31 22 (0 : Int32) u_3).bind fun u_4 => ((gm_lp (b_X11_audience_44 a1) gm_FU ((0 : Int32), (0 : Int32), u_4)).bind fun o => match o with | (w2_12, u_13) => gm_let ((gI u_13 29 3) &&& (w2_12 ^^^ (-1 : Int32))) fun v3_14 => (f_X11_copies 31 22 (0 : Int32) 29 22 (0 : Int32) u_13).bind fun u_15 => some (v3_14, u_15))
set_option maxRecDepth 100000 in
set_option maxHeartbeats 4000000 in
theorem ok_X11_audience (l : Launch) (Z : gm_Z) (a1 : Int32) (u : gm_M)  (r : Int32) (u' : gm_M) (hf : f_X11_audience a1 u = some (r, u')) : gm_Met l GM Z yX11_audience cX11_audience 4 (some .int) ({ frames := 8, cells := 0, slots := 0, locals := 181 }) [rv Z 1, .int a1] u (some (.int r)) u' := by
  unfold f_X11_audience at hf
  refine gm_ofW (by decide +kernel) (Nat.le_of_ble_eq_true rfl) ?_
  intro p e s m args below meth c A ls Q R hRf hRl C E hl hw
  obtain ⟨hx, hb, -⟩ := id C
  have hl : lv_has ls 4 [(0, rv Z 1), (1, .int a1)] := hl
  refine gm_aload_n (G := GM) (r := 1) C rfl dX11_audience_0 rfl (lv_at hl 0 rfl) ?_
  refine lv_iconst (v := 0) hx hb dX11_audience_1 (by decide) ?_
  refine gm_putI (G := GM) (u := u) (r := 1) (ci := 10) (k := 0) (v := (0 : Int32)) C hw rfl fl_X11_137 fp_10_0 dX11_audience_2 rfl (fun H locs hw => ?_)
  obtain ⟨u_1, e_u_1, hf⟩ := gm_le hf
  rw [← e_u_1] at hw
  refine lv_iload_n hx hb dX11_audience_5 rfl (lv_at hl 1 rfl) ?_
  refine lv_iconst (v := 1) hx hb dX11_audience_6 (by decide) ?_
  refine lv_bipush (v := 12) hx hb dX11_audience_7 (by decide) ?_
  obtain ⟨r_2, e_r_2, hf⟩ := gm_le hf
  refine gm_callS (G := GM) (u := u_1) (u' := u_1) (As := [.int a1, .int (1 : Int32), .int (12 : Int32)]) (rest := []) (res := (some (.int (f_X11_within a1 (1 : Int32) (12 : Int32))))) C hw hl (ok_X11_within l Z a1 (1 : Int32) (12 : Int32) u_1) cw_X11_254 st_X11_within rfl rfl ⟨Nat.le_trans (Nat.le_of_ble_eq_true rfl) hRf, Nat.le_trans (Nat.le_of_ble_eq_true rfl) hRl⟩ rfl rfl (Nat.le_of_ble_eq_true rfl) dX11_audience_9 (fun H locs hw => ?_)
  refine gm_topI e_r_2 ?_
  refine lv_if_ne (tgt := 17) hx hb dX11_audience_12 (by decide) (fun hc => ?_) (fun hc => ?_)
  · replace hf := (if_neg hc).symm.trans hf
    refine gm_aload_n (G := GM) (r := 1) C rfl dX11_audience_17 rfl (lv_at hl 0 rfl) ?_
    refine gm_aload_n (G := GM) (r := 1) C rfl dX11_audience_18 rfl (lv_at hl 0 rfl) ?_
    refine gm_getS (G := GM) (u := u_1) (r := 1) (ci := 10) (k := 10) C hw rfl fl_X11_13 dX11_audience_19 rfl (q := 3) rfl ?_
    refine lv_iconst (v := 2) hx hb dX11_audience_22 (by decide) ?_
    refine gm_iald (G := GM) (u := u_1) (r := 3) (n := 8) (i := (2 : Int32)) C hw rfl (by decide) (j := 2) (by decide) dX11_audience_23 ?_
    refine gm_putI (G := GM) (u := u_1) (r := 1) (ci := 10) (k := 49) (v := gI u_1 3 2) C hw rfl fl_X11_117 fp_10_49 dX11_audience_24 rfl (fun H locs hw => ?_)
    obtain ⟨u_3, e_u_3, hf⟩ := gm_le hf
    rw [← e_u_3] at hw
    refine gm_aload_n (G := GM) (r := 1) C rfl dX11_audience_27 rfl (lv_at hl 0 rfl) ?_
    refine gm_getS (G := GM) (u := u_3) (r := 1) (ci := 10) (k := 39) C hw rfl fl_X11_93 dX11_audience_28 rfl (q := 29) rfl ?_
    refine lv_iconst (v := 0) hx hb dX11_audience_31 (by decide) ?_
    refine gm_aload_n (G := GM) (r := 1) C rfl dX11_audience_32 rfl (lv_at hl 0 rfl) ?_
    refine gm_getS (G := GM) (u := u_3) (r := 1) (ci := 10) (k := 41) C hw rfl fl_X11_99 dX11_audience_33 rfl (q := 31) rfl ?_
    refine lv_iconst (v := 0) hx hb dX11_audience_36 (by decide) ?_
    obtain ⟨u_4, hc_5, hf⟩ := gm_bnd hf
    refine gm_callS (G := GM) (u := u_3) (u' := u_4) (As := [rv Z 29, .int (0 : Int32), rv Z 31, .int (0 : Int32)]) (rest := []) (res := none) C hw hl (ok_X11_copies l Z 29 22 (0 : Int32) 31 22 (0 : Int32) u_3 rfl rfl u_4 hc_5) cw_X11_376 st_X11_copies rfl rfl ⟨Nat.le_trans (Nat.le_of_ble_eq_true rfl) hRf, Nat.le_trans (Nat.le_of_ble_eq_true rfl) hRl⟩ rfl rfl (Nat.le_of_ble_eq_true rfl) dX11_audience_37 (fun H locs hw => ?_)
    refine lv_iconst (v := 0) hx hb dX11_audience_40 (by decide) ?_
    refine lv_istore_n (i := 2) (lv' := [(2, .int (0 : Int32)), (0, rv Z 1), (1, .int a1)]) hx hb dX11_audience_41 rfl hl (by decide) rfl (fun ls hl => ?_)
    refine lv_iconst (v := 0) hx hb dX11_audience_42 (by decide) ?_
    refine lv_istore_n (i := 3) (lv' := [(3, .int (0 : Int32)), (2, .int (0 : Int32)), (0, rv Z 1), (1, .int a1)]) hx hb dX11_audience_43 rfl hl (by decide) rfl (fun ls hl => ?_)
    obtain ⟨o1, hlp, hf⟩ := gm_bnd hf
    have L44_1 := gm_loop (b_X11_audience_44 a1) (fun x : (Int32 × Int32 × gm_M) => ∀ (H : Heap) (locs : List Loc) (ls : Array Slot), lv_has ls 4 [(0, rv Z 1), (1, .int a1), (2, .int x.1), (3, .int x.2.1)] → wd GM Z x.2.2 A s.heap H locs → W p l e R s m args below meth c H locs 0 0 Q (F0 m 44 ls [])) (fun z : ((Int32 × gm_M)) => ∀ (H : Heap) (locs : List Loc) (ls : Array Slot), lv_has ls 4 [(0, rv Z 1), (2, .int z.1)] → wd GM Z z.2 A s.heap H locs → W p l e R s m args below meth c H locs 0 0 Q (F0 m 66 ls [])) (by
      intro x o1 hf Kc Kx
      obtain ⟨v2_7, v3_8, u_6⟩ := x
      intro H locs ls hl hw
      unfold b_X11_audience_44 at hf
      try dsimp only at hf
      refine lv_iload_n hx hb dX11_audience_44 rfl (lv_at hl 3 rfl) ?_
      refine lv_iload_n hx hb dX11_audience_45 rfl (lv_at hl 1 rfl) ?_
      refine lv_icmp_ge (tgt := 66) hx hb dX11_audience_46 (by decide) (fun hc => ?_) (fun hc => ?_)
      · replace hf := (if_pos hc).symm.trans hf
        exact Kx _ (gm_si hf) _ _ _ (lv_sub hl [0, 2] rfl) hw
      · replace hf := (if_neg hc).symm.trans hf
        refine gm_aload_n (G := GM) (r := 1) C rfl dX11_audience_49 rfl (lv_at hl 0 rfl) ?_
        refine gm_getS (G := GM) (u := u_6) (r := 1) (ci := 10) (k := 39) C hw rfl fl_X11_93 dX11_audience_50 rfl (q := 29) rfl ?_
        refine lv_iconst (v := 3) hx hb dX11_audience_53 (by decide) ?_
        refine gm_iald (G := GM) (u := u_6) (r := 29) (n := 22) (i := (3 : Int32)) C hw rfl (by decide) (j := 3) (by decide) dX11_audience_54 ?_
        obtain ⟨v2_9, e_v2_9, hf⟩ := gm_le hf
        refine gm_topI e_v2_9 ?_
        refine lv_istore_n (i := 2) (lv' := [(2, .int v2_9), (0, rv Z 1), (1, .int a1), (3, .int v3_8)]) hx hb dX11_audience_55 rfl hl (by decide) rfl (fun ls hl => ?_)
        refine gm_aload_n (G := GM) (r := 1) C rfl dX11_audience_56 rfl (lv_at hl 1 rfl) ?_
        obtain ⟨u_10, hc_11, hf⟩ := gm_bnd hf
        refine gm_callV (G := GM) (u := u_6) (u' := u_10) (r := 1) (ci := 10) (As := []) (rest := []) (res := none) C hw hl (ok_X11_rides l Z u_6 u_10 hc_11) cw_X11_392 im_X11_rides rfl se_X11_rides rfl rfl rfl ⟨Nat.le_trans (Nat.le_of_ble_eq_true rfl) hRf, Nat.le_trans (Nat.le_of_ble_eq_true rfl) hRl⟩ rfl rfl (Nat.le_of_ble_eq_true rfl) dX11_audience_57 (fun H locs hw => ?_)
        refine lv_iinc (v := v3_8 + (1 : Int32)) (lv' := [(3, .int (v3_8 + (1 : Int32))), (2, .int v2_9), (0, rv Z 1), (1, .int a1)]) hx hb dX11_audience_60 hl (k := 3) rfl rfl (by decide) rfl (fun ls hl => ?_)
        refine lv_goto (tgt := 44) hx hb dX11_audience_63 (by decide) ?_
        exact Kc _ (gm_si hf) _ _ _ (lv_sub hl [2, 3, 1, 0] rfl) hw)
    refine L44_1 _ _ _ hlp ?_ _ _ _ (lv_sub hl [2, 3, 1, 0] rfl) hw
    obtain ⟨w2_12, u_13⟩ := o1
    intro H locs ls hl hw
    try dsimp only at hf
    refine gm_aload_n (G := GM) (r := 1) C rfl dX11_audience_66 rfl (lv_at hl 0 rfl) ?_
    refine gm_getS (G := GM) (u := u_13) (r := 1) (ci := 10) (k := 39) C hw rfl fl_X11_93 dX11_audience_67 rfl (q := 29) rfl ?_
    refine lv_iconst (v := 3) hx hb dX11_audience_70 (by decide) ?_
    refine gm_iald (G := GM) (u := u_13) (r := 29) (n := 22) (i := (3 : Int32)) C hw rfl (by decide) (j := 3) (by decide) dX11_audience_71 ?_
    refine lv_iload_n hx hb dX11_audience_72 rfl (lv_at hl 1 rfl) ?_
    refine lv_iconst (v := -1) hx hb dX11_audience_73 (by decide) ?_
    refine lv_ixor hx hb dX11_audience_74 ?_
    refine lv_iand hx hb dX11_audience_75 ?_
    obtain ⟨v3_14, e_v3_14, hf⟩ := gm_le hf
    refine gm_topI e_v3_14 ?_
    refine lv_istore_n (i := 3) (lv' := [(3, .int v3_14), (0, rv Z 1), (2, .int w2_12)]) hx hb dX11_audience_76 rfl hl (by decide) rfl (fun ls hl => ?_)
    refine gm_aload_n (G := GM) (r := 1) C rfl dX11_audience_77 rfl (lv_at hl 1 rfl) ?_
    refine gm_getS (G := GM) (u := u_13) (r := 1) (ci := 10) (k := 41) C hw rfl fl_X11_99 dX11_audience_78 rfl (q := 31) rfl ?_
    refine lv_iconst (v := 0) hx hb dX11_audience_81 (by decide) ?_
    refine gm_aload_n (G := GM) (r := 1) C rfl dX11_audience_82 rfl (lv_at hl 1 rfl) ?_
    refine gm_getS (G := GM) (u := u_13) (r := 1) (ci := 10) (k := 39) C hw rfl fl_X11_93 dX11_audience_83 rfl (q := 29) rfl ?_
    refine lv_iconst (v := 0) hx hb dX11_audience_86 (by decide) ?_
    obtain ⟨u_15, hc_16, hf⟩ := gm_bnd hf
    refine gm_callS (G := GM) (u := u_13) (u' := u_15) (As := [rv Z 31, .int (0 : Int32), rv Z 29, .int (0 : Int32)]) (rest := []) (res := none) C hw hl (ok_X11_copies l Z 31 22 (0 : Int32) 29 22 (0 : Int32) u_13 rfl rfl u_15 hc_16) cw_X11_376 st_X11_copies rfl rfl ⟨Nat.le_trans (Nat.le_of_ble_eq_true rfl) hRf, Nat.le_trans (Nat.le_of_ble_eq_true rfl) hRl⟩ rfl rfl (Nat.le_of_ble_eq_true rfl) dX11_audience_87 (fun H locs hw => ?_)
    refine lv_iload_n hx hb dX11_audience_90 rfl (lv_at hl 0 rfl) ?_
    exact gm_iret C E hw rfl ((congrArg (fun z => some (Value.int z)) (gm_sp hf).1).symm) (gm_sp hf).2.symm dX11_audience_91
  · replace hf := (if_pos hc).symm.trans hf
    refine lv_iconst (v := -1) hx hb dX11_audience_15 (by decide) ?_
    exact gm_iret C E hw rfl ((congrArg (fun z => some (Value.int z)) (gm_sp hf).1).symm) (gm_sp hf).2.symm dX11_audience_16
/-! LeapCapitalModel.holds -/
def b_X11_holds_25 (a1 : Int32) : (Int32 × gm_M) → Option ((Int32 × gm_M) ⊕ gm_M) := fun x => match x with | (v2_5, u_4) => if a1 ≤ v2_5 then some (.inr u_4) else (f_X11_rides u_4).bind fun u_6 => some (.inl (v2_5 + (1 : Int32), u_6))
def f_X11_holds (a1 : Int32) (u : gm_M) : Option gm_M := gm_let (sI u 1 49 (gI u 3 2)) fun u_1 => (f_X11_copies 29 22 (0 : Int32) 31 22 (0 : Int32) u_1).bind fun u_2 => ((gm_lp (b_X11_holds_25 a1) gm_FU ((0 : Int32), u_2)).bind fun o => match o with | u_8 => (f_X11_copies 31 22 (0 : Int32) 29 22 (0 : Int32) u_8).bind fun u_9 => some u_9)
set_option maxRecDepth 100000 in
set_option maxHeartbeats 4000000 in
theorem ok_X11_holds (l : Launch) (Z : gm_Z) (a1 : Int32) (u : gm_M)  (u' : gm_M) (hf : f_X11_holds a1 u = some (u')) : gm_Met l GM Z yX11_holds cX11_holds 3 none ({ frames := 8, cells := 0, slots := 0, locals := 181 }) [rv Z 1, .int a1] u none u' := by
  unfold f_X11_holds at hf
  refine gm_ofW (by decide +kernel) (Nat.le_of_ble_eq_true rfl) ?_
  intro p e s m args below meth c A ls Q R hRf hRl C E hl hw
  obtain ⟨hx, hb, -⟩ := id C
  have hl : lv_has ls 3 [(0, rv Z 1), (1, .int a1)] := hl
  refine gm_aload_n (G := GM) (r := 1) C rfl dX11_holds_0 rfl (lv_at hl 0 rfl) ?_
  refine gm_aload_n (G := GM) (r := 1) C rfl dX11_holds_1 rfl (lv_at hl 0 rfl) ?_
  refine gm_getS (G := GM) (u := u) (r := 1) (ci := 10) (k := 10) C hw rfl fl_X11_13 dX11_holds_2 rfl (q := 3) rfl ?_
  refine lv_iconst (v := 2) hx hb dX11_holds_5 (by decide) ?_
  refine gm_iald (G := GM) (u := u) (r := 3) (n := 8) (i := (2 : Int32)) C hw rfl (by decide) (j := 2) (by decide) dX11_holds_6 ?_
  refine gm_putI (G := GM) (u := u) (r := 1) (ci := 10) (k := 49) (v := gI u 3 2) C hw rfl fl_X11_117 fp_10_49 dX11_holds_7 rfl (fun H locs hw => ?_)
  obtain ⟨u_1, e_u_1, hf⟩ := gm_le hf
  rw [← e_u_1] at hw
  refine gm_aload_n (G := GM) (r := 1) C rfl dX11_holds_10 rfl (lv_at hl 0 rfl) ?_
  refine gm_getS (G := GM) (u := u_1) (r := 1) (ci := 10) (k := 39) C hw rfl fl_X11_93 dX11_holds_11 rfl (q := 29) rfl ?_
  refine lv_iconst (v := 0) hx hb dX11_holds_14 (by decide) ?_
  refine gm_aload_n (G := GM) (r := 1) C rfl dX11_holds_15 rfl (lv_at hl 0 rfl) ?_
  refine gm_getS (G := GM) (u := u_1) (r := 1) (ci := 10) (k := 41) C hw rfl fl_X11_99 dX11_holds_16 rfl (q := 31) rfl ?_
  refine lv_iconst (v := 0) hx hb dX11_holds_19 (by decide) ?_
  obtain ⟨u_2, hc_3, hf⟩ := gm_bnd hf
  refine gm_callS (G := GM) (u := u_1) (u' := u_2) (As := [rv Z 29, .int (0 : Int32), rv Z 31, .int (0 : Int32)]) (rest := []) (res := none) C hw hl (ok_X11_copies l Z 29 22 (0 : Int32) 31 22 (0 : Int32) u_1 rfl rfl u_2 hc_3) cw_X11_376 st_X11_copies rfl rfl ⟨Nat.le_trans (Nat.le_of_ble_eq_true rfl) hRf, Nat.le_trans (Nat.le_of_ble_eq_true rfl) hRl⟩ rfl rfl (Nat.le_of_ble_eq_true rfl) dX11_holds_20 (fun H locs hw => ?_)
  refine lv_iconst (v := 0) hx hb dX11_holds_23 (by decide) ?_
  refine lv_istore_n (i := 2) (lv' := [(2, .int (0 : Int32)), (0, rv Z 1), (1, .int a1)]) hx hb dX11_holds_24 rfl hl (by decide) rfl (fun ls hl => ?_)
  obtain ⟨o1, hlp, hf⟩ := gm_bnd hf
  have L25_1 := gm_loop (b_X11_holds_25 a1) (fun x : (Int32 × gm_M) => ∀ (H : Heap) (locs : List Loc) (ls : Array Slot), lv_has ls 3 [(0, rv Z 1), (1, .int a1), (2, .int x.1)] → wd GM Z x.2 A s.heap H locs → W p l e R s m args below meth c H locs 0 0 Q (F0 m 25 ls [])) (fun z : gm_M => ∀ (H : Heap) (locs : List Loc) (ls : Array Slot), lv_has ls 3 [(0, rv Z 1)] → wd GM Z z A s.heap H locs → W p l e R s m args below meth c H locs 0 0 Q (F0 m 40 ls [])) (by
    intro x o1 hf Kc Kx
    obtain ⟨v2_5, u_4⟩ := x
    intro H locs ls hl hw
    unfold b_X11_holds_25 at hf
    try dsimp only at hf
    refine lv_iload_n hx hb dX11_holds_25 rfl (lv_at hl 2 rfl) ?_
    refine lv_iload_n hx hb dX11_holds_26 rfl (lv_at hl 1 rfl) ?_
    refine lv_icmp_ge (tgt := 40) hx hb dX11_holds_27 (by decide) (fun hc => ?_) (fun hc => ?_)
    · replace hf := (if_pos hc).symm.trans hf
      exact Kx _ (gm_si hf) _ _ _ (lv_sub hl [0] rfl) hw
    · replace hf := (if_neg hc).symm.trans hf
      refine gm_aload_n (G := GM) (r := 1) C rfl dX11_holds_30 rfl (lv_at hl 0 rfl) ?_
      obtain ⟨u_6, hc_7, hf⟩ := gm_bnd hf
      refine gm_callV (G := GM) (u := u_4) (u' := u_6) (r := 1) (ci := 10) (As := []) (rest := []) (res := none) C hw hl (ok_X11_rides l Z u_4 u_6 hc_7) cw_X11_392 im_X11_rides rfl se_X11_rides rfl rfl rfl ⟨Nat.le_trans (Nat.le_of_ble_eq_true rfl) hRf, Nat.le_trans (Nat.le_of_ble_eq_true rfl) hRl⟩ rfl rfl (Nat.le_of_ble_eq_true rfl) dX11_holds_31 (fun H locs hw => ?_)
      refine lv_iinc (v := v2_5 + (1 : Int32)) (lv' := [(2, .int (v2_5 + (1 : Int32))), (0, rv Z 1), (1, .int a1)]) hx hb dX11_holds_34 hl (k := 2) rfl rfl (by decide) rfl (fun ls hl => ?_)
      refine lv_goto (tgt := 25) hx hb dX11_holds_37 (by decide) ?_
      exact Kc _ (gm_si hf) _ _ _ (lv_sub hl [1, 2, 0] rfl) hw)
  refine L25_1 _ _ _ hlp ?_ _ _ _ (lv_sub hl [1, 2, 0] rfl) hw
  obtain ⟨u_8, rfl⟩ : ∃ y, y = o1 := ⟨_, rfl⟩
  intro H locs ls hl hw
  try dsimp only at hf
  refine gm_aload_n (G := GM) (r := 1) C rfl dX11_holds_40 rfl (lv_at hl 0 rfl) ?_
  refine gm_getS (G := GM) (u := u_8) (r := 1) (ci := 10) (k := 41) C hw rfl fl_X11_99 dX11_holds_41 rfl (q := 31) rfl ?_
  refine lv_iconst (v := 0) hx hb dX11_holds_44 (by decide) ?_
  refine gm_aload_n (G := GM) (r := 1) C rfl dX11_holds_45 rfl (lv_at hl 0 rfl) ?_
  refine gm_getS (G := GM) (u := u_8) (r := 1) (ci := 10) (k := 39) C hw rfl fl_X11_93 dX11_holds_46 rfl (q := 29) rfl ?_
  refine lv_iconst (v := 0) hx hb dX11_holds_49 (by decide) ?_
  obtain ⟨u_9, hc_10, hf⟩ := gm_bnd hf
  refine gm_callS (G := GM) (u := u_8) (u' := u_9) (As := [rv Z 31, .int (0 : Int32), rv Z 29, .int (0 : Int32)]) (rest := []) (res := none) C hw hl (ok_X11_copies l Z 31 22 (0 : Int32) 29 22 (0 : Int32) u_8 rfl rfl u_9 hc_10) cw_X11_376 st_X11_copies rfl rfl ⟨Nat.le_trans (Nat.le_of_ble_eq_true rfl) hRf, Nat.le_trans (Nat.le_of_ble_eq_true rfl) hRl⟩ rfl rfl (Nat.le_of_ble_eq_true rfl) dX11_holds_50 (fun H locs hw => ?_)
  exact gm_vret C E hw rfl rfl (Option.some.inj hf).symm dX11_holds_53
/-! LeapCapitalModel.burnt -/
def f_X11_burnt (a1 : Int32) (u : gm_M) : Option (Int32 × gm_M) := gm_let (sI u 1 0 (0 : Int32)) fun u_1 => gm_let (f_X11_within a1 (1 : Int32) (12 : Int32)) fun r_2 => if r_2 = 0 then some ((-1 : Int32), u_1) else (f_X11_holds a1 u_1).bind fun u_3 => some (gI u_3 1 51, u_3)
set_option maxRecDepth 100000 in
set_option maxHeartbeats 4000000 in
theorem ok_X11_burnt (l : Launch) (Z : gm_Z) (a1 : Int32) (u : gm_M)  (r : Int32) (u' : gm_M) (hf : f_X11_burnt a1 u = some (r, u')) : gm_Met l GM Z yX11_burnt cX11_burnt 2 (some .int) ({ frames := 9, cells := 0, slots := 0, locals := 203 }) [rv Z 1, .int a1] u (some (.int r)) u' := by
  unfold f_X11_burnt at hf
  refine gm_ofW (by decide +kernel) (Nat.le_of_ble_eq_true rfl) ?_
  intro p e s m args below meth c A ls Q R hRf hRl C E hl hw
  obtain ⟨hx, hb, -⟩ := id C
  have hl : lv_has ls 2 [(0, rv Z 1), (1, .int a1)] := hl
  refine gm_aload_n (G := GM) (r := 1) C rfl dX11_burnt_0 rfl (lv_at hl 0 rfl) ?_
  refine lv_iconst (v := 0) hx hb dX11_burnt_1 (by decide) ?_
  refine gm_putI (G := GM) (u := u) (r := 1) (ci := 10) (k := 0) (v := (0 : Int32)) C hw rfl fl_X11_137 fp_10_0 dX11_burnt_2 rfl (fun H locs hw => ?_)
  obtain ⟨u_1, e_u_1, hf⟩ := gm_le hf
  rw [← e_u_1] at hw
  refine lv_iload_n hx hb dX11_burnt_5 rfl (lv_at hl 1 rfl) ?_
  refine lv_iconst (v := 1) hx hb dX11_burnt_6 (by decide) ?_
  refine lv_bipush (v := 12) hx hb dX11_burnt_7 (by decide) ?_
  obtain ⟨r_2, e_r_2, hf⟩ := gm_le hf
  refine gm_callS (G := GM) (u := u_1) (u' := u_1) (As := [.int a1, .int (1 : Int32), .int (12 : Int32)]) (rest := []) (res := (some (.int (f_X11_within a1 (1 : Int32) (12 : Int32))))) C hw hl (ok_X11_within l Z a1 (1 : Int32) (12 : Int32) u_1) cw_X11_254 st_X11_within rfl rfl ⟨Nat.le_trans (Nat.le_of_ble_eq_true rfl) hRf, Nat.le_trans (Nat.le_of_ble_eq_true rfl) hRl⟩ rfl rfl (Nat.le_of_ble_eq_true rfl) dX11_burnt_9 (fun H locs hw => ?_)
  refine gm_topI e_r_2 ?_
  refine lv_if_ne (tgt := 17) hx hb dX11_burnt_12 (by decide) (fun hc => ?_) (fun hc => ?_)
  · replace hf := (if_neg hc).symm.trans hf
    refine gm_aload_n (G := GM) (r := 1) C rfl dX11_burnt_17 rfl (lv_at hl 0 rfl) ?_
    refine lv_iload_n hx hb dX11_burnt_18 rfl (lv_at hl 1 rfl) ?_
    obtain ⟨u_3, hc_4, hf⟩ := gm_bnd hf
    refine gm_callV (G := GM) (u := u_1) (u' := u_3) (r := 1) (ci := 10) (As := [.int a1]) (rest := []) (res := none) C hw hl (ok_X11_holds l Z a1 u_1 u_3 hc_4) cw_X11_410 im_X11_holds rfl se_X11_holds rfl rfl rfl ⟨Nat.le_trans (Nat.le_of_ble_eq_true rfl) hRf, Nat.le_trans (Nat.le_of_ble_eq_true rfl) hRl⟩ rfl rfl (Nat.le_of_ble_eq_true rfl) dX11_burnt_19 (fun H locs hw => ?_)
    refine gm_aload_n (G := GM) (r := 1) C rfl dX11_burnt_22 rfl (lv_at hl 0 rfl) ?_
    refine gm_getI (G := GM) (u := u_3) (r := 1) (ci := 10) (k := 51) C hw rfl fl_X11_354 dX11_burnt_23 rfl ?_
    exact gm_iret C E hw rfl ((congrArg (fun z => some (Value.int z)) (gm_sp hf).1).symm) (gm_sp hf).2.symm dX11_burnt_26
  · replace hf := (if_pos hc).symm.trans hf
    refine lv_iconst (v := -1) hx hb dX11_burnt_15 (by decide) ?_
    exact gm_iret C E hw rfl ((congrArg (fun z => some (Value.int z)) (gm_sp hf).1).symm) (gm_sp hf).2.symm dX11_burnt_16
/-! LeapCapitalModel.crowd -/
def f_X11_crowd (a1 : Int32) (u : gm_M) : Option (Int32 × gm_M) := gm_let (sI u 1 0 (0 : Int32)) fun u_1 => gm_let (f_X11_within a1 (1 : Int32) (12 : Int32)) fun r_2 => if r_2 = 0 then some ((-1 : Int32), u_1) else (f_X11_holds a1 u_1).bind fun u_3 => some (gI u_3 1 50, u_3)
set_option maxRecDepth 100000 in
set_option maxHeartbeats 4000000 in
theorem ok_X11_crowd (l : Launch) (Z : gm_Z) (a1 : Int32) (u : gm_M)  (r : Int32) (u' : gm_M) (hf : f_X11_crowd a1 u = some (r, u')) : gm_Met l GM Z yX11_crowd cX11_crowd 2 (some .int) ({ frames := 9, cells := 0, slots := 0, locals := 203 }) [rv Z 1, .int a1] u (some (.int r)) u' := by
  unfold f_X11_crowd at hf
  refine gm_ofW (by decide +kernel) (Nat.le_of_ble_eq_true rfl) ?_
  intro p e s m args below meth c A ls Q R hRf hRl C E hl hw
  obtain ⟨hx, hb, -⟩ := id C
  have hl : lv_has ls 2 [(0, rv Z 1), (1, .int a1)] := hl
  refine gm_aload_n (G := GM) (r := 1) C rfl dX11_crowd_0 rfl (lv_at hl 0 rfl) ?_
  refine lv_iconst (v := 0) hx hb dX11_crowd_1 (by decide) ?_
  refine gm_putI (G := GM) (u := u) (r := 1) (ci := 10) (k := 0) (v := (0 : Int32)) C hw rfl fl_X11_137 fp_10_0 dX11_crowd_2 rfl (fun H locs hw => ?_)
  obtain ⟨u_1, e_u_1, hf⟩ := gm_le hf
  rw [← e_u_1] at hw
  refine lv_iload_n hx hb dX11_crowd_5 rfl (lv_at hl 1 rfl) ?_
  refine lv_iconst (v := 1) hx hb dX11_crowd_6 (by decide) ?_
  refine lv_bipush (v := 12) hx hb dX11_crowd_7 (by decide) ?_
  obtain ⟨r_2, e_r_2, hf⟩ := gm_le hf
  refine gm_callS (G := GM) (u := u_1) (u' := u_1) (As := [.int a1, .int (1 : Int32), .int (12 : Int32)]) (rest := []) (res := (some (.int (f_X11_within a1 (1 : Int32) (12 : Int32))))) C hw hl (ok_X11_within l Z a1 (1 : Int32) (12 : Int32) u_1) cw_X11_254 st_X11_within rfl rfl ⟨Nat.le_trans (Nat.le_of_ble_eq_true rfl) hRf, Nat.le_trans (Nat.le_of_ble_eq_true rfl) hRl⟩ rfl rfl (Nat.le_of_ble_eq_true rfl) dX11_crowd_9 (fun H locs hw => ?_)
  refine gm_topI e_r_2 ?_
  refine lv_if_ne (tgt := 17) hx hb dX11_crowd_12 (by decide) (fun hc => ?_) (fun hc => ?_)
  · replace hf := (if_neg hc).symm.trans hf
    refine gm_aload_n (G := GM) (r := 1) C rfl dX11_crowd_17 rfl (lv_at hl 0 rfl) ?_
    refine lv_iload_n hx hb dX11_crowd_18 rfl (lv_at hl 1 rfl) ?_
    obtain ⟨u_3, hc_4, hf⟩ := gm_bnd hf
    refine gm_callV (G := GM) (u := u_1) (u' := u_3) (r := 1) (ci := 10) (As := [.int a1]) (rest := []) (res := none) C hw hl (ok_X11_holds l Z a1 u_1 u_3 hc_4) cw_X11_410 im_X11_holds rfl se_X11_holds rfl rfl rfl ⟨Nat.le_trans (Nat.le_of_ble_eq_true rfl) hRf, Nat.le_trans (Nat.le_of_ble_eq_true rfl) hRl⟩ rfl rfl (Nat.le_of_ble_eq_true rfl) dX11_crowd_19 (fun H locs hw => ?_)
    refine gm_aload_n (G := GM) (r := 1) C rfl dX11_crowd_22 rfl (lv_at hl 0 rfl) ?_
    refine gm_getI (G := GM) (u := u_3) (r := 1) (ci := 10) (k := 50) C hw rfl fl_X11_351 dX11_crowd_23 rfl ?_
    exact gm_iret C E hw rfl ((congrArg (fun z => some (Value.int z)) (gm_sp hf).1).symm) (gm_sp hf).2.symm dX11_crowd_26
  · replace hf := (if_pos hc).symm.trans hf
    refine lv_iconst (v := -1) hx hb dX11_crowd_15 (by decide) ?_
    exact gm_iret C E hw rfl ((congrArg (fun z => some (Value.int z)) (gm_sp hf).1).symm) (gm_sp hf).2.symm dX11_crowd_16
/-! LeapCapitalModel.exchange -/
def f_X11_exchange (a1 : Int32) (a2 : Int32) (u : gm_M) : Option (Int32 × gm_M) := gm_let (sI u 1 0 (0 : Int32)) fun u_1 => gm_let (f_X11_isPerson a1 u_1) fun r_2 => if r_2 = 0 then some ((-1 : Int32), u_1) else gm_let (f_X11_isPerson a2 u_1) fun r_3 => if r_3 = 0 then some ((-1 : Int32), u_1) else if a1 = a2 then some ((-1 : Int32), u_1) else (f_X11_placeOf a1 u_1).bind fun r_4 => if r_4 < 0 then some ((-1 : Int32), u_1) else (f_X11_placeOf a2 u_1).bind fun r_6 => if 0 ≤ r_6 then gm_let (sI u_1 1 49 (gI u_1 3 2)) fun u_8 => (f_X11_copies 29 22 (0 : Int32) 31 22 (0 : Int32) u_8).bind fun u_9 => gm_let (gI u_9 29 3) fun v3_11 => (f_X11_placeOf a1 u_9).bind fun r_12 => (f_X11_placeOf a2 u_9).bind fun r_14 => if ib ((4 : Int32) + r_12) 22 = true then gm_let (sI u_9 29 (ix ((4 : Int32) + r_12)) a2) fun u_17 => if ib ((4 : Int32) + r_14) 22 = true then gm_let (sI u_17 29 (ix ((4 : Int32) + r_14)) a1) fun u_19 => (f_X11_rides u_19).bind fun u_20 => gm_let ((gI u_20 29 3) &&& (v3_11 ^^^ (-1 : Int32))) fun v6_22 => (f_X11_copies 31 22 (0 : Int32) 29 22 (0 : Int32) u_20).bind fun u_23 => some (v6_22, u_23) else none else none else some ((-1 : Int32), u_1)
set_option maxRecDepth 100000 in
set_option maxHeartbeats 4000000 in
theorem ok_X11_exchange (l : Launch) (Z : gm_Z) (a1 : Int32) (a2 : Int32) (u : gm_M)  (r : Int32) (u' : gm_M) (hf : f_X11_exchange a1 a2 u = some (r, u')) : gm_Met l GM Z yX11_exchange cX11_exchange 7 (some .int) ({ frames := 8, cells := 0, slots := 0, locals := 181 }) [rv Z 1, .int a1, .int a2] u (some (.int r)) u' := by
  unfold f_X11_exchange at hf
  refine gm_ofW (by decide +kernel) (Nat.le_of_ble_eq_true rfl) ?_
  intro p e s m args below meth c A ls Q R hRf hRl C E hl hw
  obtain ⟨hx, hb, -⟩ := id C
  have hl : lv_has ls 7 [(0, rv Z 1), (1, .int a1), (2, .int a2)] := hl
  refine gm_aload_n (G := GM) (r := 1) C rfl dX11_exchange_0 rfl (lv_at hl 0 rfl) ?_
  refine lv_iconst (v := 0) hx hb dX11_exchange_1 (by decide) ?_
  refine gm_putI (G := GM) (u := u) (r := 1) (ci := 10) (k := 0) (v := (0 : Int32)) C hw rfl fl_X11_137 fp_10_0 dX11_exchange_2 rfl (fun H locs hw => ?_)
  obtain ⟨u_1, e_u_1, hf⟩ := gm_le hf
  rw [← e_u_1] at hw
  refine gm_aload_n (G := GM) (r := 1) C rfl dX11_exchange_5 rfl (lv_at hl 0 rfl) ?_
  refine lv_iload_n hx hb dX11_exchange_6 rfl (lv_at hl 1 rfl) ?_
  obtain ⟨r_2, e_r_2, hf⟩ := gm_le hf
  refine gm_callV (G := GM) (u := u_1) (u' := u_1) (r := 1) (ci := 10) (As := [.int a1]) (rest := []) (res := (some (.int (f_X11_isPerson a1 u_1)))) C hw hl (ok_X11_isPerson l Z a1 u_1) cw_X11_373 im_X11_isPerson rfl se_X11_isPerson rfl rfl rfl ⟨Nat.le_trans (Nat.le_of_ble_eq_true rfl) hRf, Nat.le_trans (Nat.le_of_ble_eq_true rfl) hRl⟩ rfl rfl (Nat.le_of_ble_eq_true rfl) dX11_exchange_7 (fun H locs hw => ?_)
  refine gm_topI e_r_2 ?_
  refine lv_if_eq (tgt := 42) hx hb dX11_exchange_10 (by decide) (fun hc => ?_) (fun hc => ?_)
  · replace hf := (if_pos hc).symm.trans hf
    refine lv_iconst (v := -1) hx hb dX11_exchange_42 (by decide) ?_
    exact gm_iret C E hw rfl ((congrArg (fun z => some (Value.int z)) (gm_sp hf).1).symm) (gm_sp hf).2.symm dX11_exchange_43
  · replace hf := (if_neg hc).symm.trans hf
    refine gm_aload_n (G := GM) (r := 1) C rfl dX11_exchange_13 rfl (lv_at hl 0 rfl) ?_
    refine lv_iload_n hx hb dX11_exchange_14 rfl (lv_at hl 2 rfl) ?_
    obtain ⟨r_3, e_r_3, hf⟩ := gm_le hf
    refine gm_callV (G := GM) (u := u_1) (u' := u_1) (r := 1) (ci := 10) (As := [.int a2]) (rest := []) (res := (some (.int (f_X11_isPerson a2 u_1)))) C hw hl (ok_X11_isPerson l Z a2 u_1) cw_X11_373 im_X11_isPerson rfl se_X11_isPerson rfl rfl rfl ⟨Nat.le_trans (Nat.le_of_ble_eq_true rfl) hRf, Nat.le_trans (Nat.le_of_ble_eq_true rfl) hRl⟩ rfl rfl (Nat.le_of_ble_eq_true rfl) dX11_exchange_15 (fun H locs hw => ?_)
    refine gm_topI e_r_3 ?_
    refine lv_if_eq (tgt := 42) hx hb dX11_exchange_18 (by decide) (fun hc => ?_) (fun hc => ?_)
    · replace hf := (if_pos hc).symm.trans hf
      refine lv_iconst (v := -1) hx hb dX11_exchange_42 (by decide) ?_
      exact gm_iret C E hw rfl ((congrArg (fun z => some (Value.int z)) (gm_sp hf).1).symm) (gm_sp hf).2.symm dX11_exchange_43
    · replace hf := (if_neg hc).symm.trans hf
      refine lv_iload_n hx hb dX11_exchange_21 rfl (lv_at hl 1 rfl) ?_
      refine lv_iload_n hx hb dX11_exchange_22 rfl (lv_at hl 2 rfl) ?_
      refine lv_icmp_eq (tgt := 42) hx hb dX11_exchange_23 (by decide) (fun hc => ?_) (fun hc => ?_)
      · replace hf := (if_pos hc).symm.trans hf
        refine lv_iconst (v := -1) hx hb dX11_exchange_42 (by decide) ?_
        exact gm_iret C E hw rfl ((congrArg (fun z => some (Value.int z)) (gm_sp hf).1).symm) (gm_sp hf).2.symm dX11_exchange_43
      · replace hf := (if_neg hc).symm.trans hf
        refine gm_aload_n (G := GM) (r := 1) C rfl dX11_exchange_26 rfl (lv_at hl 0 rfl) ?_
        refine lv_iload_n hx hb dX11_exchange_27 rfl (lv_at hl 1 rfl) ?_
        obtain ⟨r_4, hc_5, hf⟩ := gm_bnd hf
        refine gm_callV (G := GM) (u := u_1) (u' := u_1) (r := 1) (ci := 10) (As := [.int a1]) (rest := []) (res := (some (.int r_4))) C hw hl (ok_X11_placeOf l Z a1 u_1 r_4 hc_5) cw_X11_324 im_X11_placeOf rfl se_X11_placeOf rfl rfl rfl ⟨Nat.le_trans (Nat.le_of_ble_eq_true rfl) hRf, Nat.le_trans (Nat.le_of_ble_eq_true rfl) hRl⟩ rfl rfl (Nat.le_of_ble_eq_true rfl) dX11_exchange_28 (fun H locs hw => ?_)
        refine lv_if_lt (tgt := 42) hx hb dX11_exchange_31 (by decide) (fun hc => ?_) (fun hc => ?_)
        · replace hf := (if_pos hc).symm.trans hf
          refine lv_iconst (v := -1) hx hb dX11_exchange_42 (by decide) ?_
          exact gm_iret C E hw rfl ((congrArg (fun z => some (Value.int z)) (gm_sp hf).1).symm) (gm_sp hf).2.symm dX11_exchange_43
        · replace hf := (if_neg hc).symm.trans hf
          refine gm_aload_n (G := GM) (r := 1) C rfl dX11_exchange_34 rfl (lv_at hl 0 rfl) ?_
          refine lv_iload_n hx hb dX11_exchange_35 rfl (lv_at hl 2 rfl) ?_
          obtain ⟨r_6, hc_7, hf⟩ := gm_bnd hf
          refine gm_callV (G := GM) (u := u_1) (u' := u_1) (r := 1) (ci := 10) (As := [.int a2]) (rest := []) (res := (some (.int r_6))) C hw hl (ok_X11_placeOf l Z a2 u_1 r_6 hc_7) cw_X11_324 im_X11_placeOf rfl se_X11_placeOf rfl rfl rfl ⟨Nat.le_trans (Nat.le_of_ble_eq_true rfl) hRf, Nat.le_trans (Nat.le_of_ble_eq_true rfl) hRl⟩ rfl rfl (Nat.le_of_ble_eq_true rfl) dX11_exchange_36 (fun H locs hw => ?_)
          refine lv_if_ge (tgt := 44) hx hb dX11_exchange_39 (by decide) (fun hc => ?_) (fun hc => ?_)
          · replace hf := (if_pos hc).symm.trans hf
            refine gm_aload_n (G := GM) (r := 1) C rfl dX11_exchange_44 rfl (lv_at hl 0 rfl) ?_
            refine gm_aload_n (G := GM) (r := 1) C rfl dX11_exchange_45 rfl (lv_at hl 0 rfl) ?_
            refine gm_getS (G := GM) (u := u_1) (r := 1) (ci := 10) (k := 10) C hw rfl fl_X11_13 dX11_exchange_46 rfl (q := 3) rfl ?_
            refine lv_iconst (v := 2) hx hb dX11_exchange_49 (by decide) ?_
            refine gm_iald (G := GM) (u := u_1) (r := 3) (n := 8) (i := (2 : Int32)) C hw rfl (by decide) (j := 2) (by decide) dX11_exchange_50 ?_
            refine gm_putI (G := GM) (u := u_1) (r := 1) (ci := 10) (k := 49) (v := gI u_1 3 2) C hw rfl fl_X11_117 fp_10_49 dX11_exchange_51 rfl (fun H locs hw => ?_)
            obtain ⟨u_8, e_u_8, hf⟩ := gm_le hf
            rw [← e_u_8] at hw
            refine gm_aload_n (G := GM) (r := 1) C rfl dX11_exchange_54 rfl (lv_at hl 0 rfl) ?_
            refine gm_getS (G := GM) (u := u_8) (r := 1) (ci := 10) (k := 39) C hw rfl fl_X11_93 dX11_exchange_55 rfl (q := 29) rfl ?_
            refine lv_iconst (v := 0) hx hb dX11_exchange_58 (by decide) ?_
            refine gm_aload_n (G := GM) (r := 1) C rfl dX11_exchange_59 rfl (lv_at hl 0 rfl) ?_
            refine gm_getS (G := GM) (u := u_8) (r := 1) (ci := 10) (k := 41) C hw rfl fl_X11_99 dX11_exchange_60 rfl (q := 31) rfl ?_
            refine lv_iconst (v := 0) hx hb dX11_exchange_63 (by decide) ?_
            obtain ⟨u_9, hc_10, hf⟩ := gm_bnd hf
            refine gm_callS (G := GM) (u := u_8) (u' := u_9) (As := [rv Z 29, .int (0 : Int32), rv Z 31, .int (0 : Int32)]) (rest := []) (res := none) C hw hl (ok_X11_copies l Z 29 22 (0 : Int32) 31 22 (0 : Int32) u_8 rfl rfl u_9 hc_10) cw_X11_376 st_X11_copies rfl rfl ⟨Nat.le_trans (Nat.le_of_ble_eq_true rfl) hRf, Nat.le_trans (Nat.le_of_ble_eq_true rfl) hRl⟩ rfl rfl (Nat.le_of_ble_eq_true rfl) dX11_exchange_64 (fun H locs hw => ?_)
            refine gm_aload_n (G := GM) (r := 1) C rfl dX11_exchange_67 rfl (lv_at hl 0 rfl) ?_
            refine gm_getS (G := GM) (u := u_9) (r := 1) (ci := 10) (k := 39) C hw rfl fl_X11_93 dX11_exchange_68 rfl (q := 29) rfl ?_
            refine lv_iconst (v := 3) hx hb dX11_exchange_71 (by decide) ?_
            refine gm_iald (G := GM) (u := u_9) (r := 29) (n := 22) (i := (3 : Int32)) C hw rfl (by decide) (j := 3) (by decide) dX11_exchange_72 ?_
            obtain ⟨v3_11, e_v3_11, hf⟩ := gm_le hf
            refine gm_topI e_v3_11 ?_
            refine lv_istore_n (i := 3) (lv' := [(3, .int v3_11), (0, rv Z 1), (1, .int a1), (2, .int a2)]) hx hb dX11_exchange_73 rfl hl (by decide) rfl (fun ls hl => ?_)
            refine gm_aload_n (G := GM) (r := 1) C rfl dX11_exchange_74 rfl (lv_at hl 1 rfl) ?_
            refine lv_iload_n hx hb dX11_exchange_75 rfl (lv_at hl 2 rfl) ?_
            obtain ⟨r_12, hc_13, hf⟩ := gm_bnd hf
            refine gm_callV (G := GM) (u := u_9) (u' := u_9) (r := 1) (ci := 10) (As := [.int a1]) (rest := []) (res := (some (.int r_12))) C hw hl (ok_X11_placeOf l Z a1 u_9 r_12 hc_13) cw_X11_324 im_X11_placeOf rfl se_X11_placeOf rfl rfl rfl ⟨Nat.le_trans (Nat.le_of_ble_eq_true rfl) hRf, Nat.le_trans (Nat.le_of_ble_eq_true rfl) hRl⟩ rfl rfl (Nat.le_of_ble_eq_true rfl) dX11_exchange_76 (fun H locs hw => ?_)
            refine lv_istore (i := 4) (lv' := [(4, .int r_12), (3, .int v3_11), (0, rv Z 1), (1, .int a1), (2, .int a2)]) hx hb dX11_exchange_79 hl (by decide) rfl (fun ls hl => ?_)
            refine gm_aload_n (G := GM) (r := 1) C rfl dX11_exchange_81 rfl (lv_at hl 2 rfl) ?_
            refine lv_iload_n hx hb dX11_exchange_82 rfl (lv_at hl 4 rfl) ?_
            obtain ⟨r_14, hc_15, hf⟩ := gm_bnd hf
            refine gm_callV (G := GM) (u := u_9) (u' := u_9) (r := 1) (ci := 10) (As := [.int a2]) (rest := []) (res := (some (.int r_14))) C hw hl (ok_X11_placeOf l Z a2 u_9 r_14 hc_15) cw_X11_324 im_X11_placeOf rfl se_X11_placeOf rfl rfl rfl ⟨Nat.le_trans (Nat.le_of_ble_eq_true rfl) hRf, Nat.le_trans (Nat.le_of_ble_eq_true rfl) hRl⟩ rfl rfl (Nat.le_of_ble_eq_true rfl) dX11_exchange_83 (fun H locs hw => ?_)
            refine lv_istore (i := 5) (lv' := [(5, .int r_14), (4, .int r_12), (3, .int v3_11), (0, rv Z 1), (1, .int a1), (2, .int a2)]) hx hb dX11_exchange_86 hl (by decide) rfl (fun ls hl => ?_)
            refine gm_aload_n (G := GM) (r := 1) C rfl dX11_exchange_88 rfl (lv_at hl 3 rfl) ?_
            refine gm_getS (G := GM) (u := u_9) (r := 1) (ci := 10) (k := 39) C hw rfl fl_X11_93 dX11_exchange_89 rfl (q := 29) rfl ?_
            refine lv_iconst (v := 4) hx hb dX11_exchange_92 (by decide) ?_
            refine lv_iload hx hb dX11_exchange_93 (lv_at hl 1 rfl) ?_
            refine lv_iadd hx hb dX11_exchange_95 ?_
            refine lv_iload_n hx hb dX11_exchange_96 rfl (lv_at hl 5 rfl) ?_
            obtain ⟨g_16, hf⟩ := gm_grd hf
            refine gm_iast (G := GM) (u := u_9) (r := 29) (n := 22) (i := (4 : Int32) + r_12) (x := a2) C hw rfl g_16 rfl dX11_exchange_97 (fun H locs hw => ?_)
            obtain ⟨u_17, e_u_17, hf⟩ := gm_le hf
            rw [← e_u_17] at hw
            refine gm_aload_n (G := GM) (r := 1) C rfl dX11_exchange_98 rfl (lv_at hl 3 rfl) ?_
            refine gm_getS (G := GM) (u := u_17) (r := 1) (ci := 10) (k := 39) C hw rfl fl_X11_93 dX11_exchange_99 rfl (q := 29) rfl ?_
            refine lv_iconst (v := 4) hx hb dX11_exchange_102 (by decide) ?_
            refine lv_iload hx hb dX11_exchange_103 (lv_at hl 0 rfl) ?_
            refine lv_iadd hx hb dX11_exchange_105 ?_
            refine lv_iload_n hx hb dX11_exchange_106 rfl (lv_at hl 4 rfl) ?_
            obtain ⟨g_18, hf⟩ := gm_grd hf
            refine gm_iast (G := GM) (u := u_17) (r := 29) (n := 22) (i := (4 : Int32) + r_14) (x := a1) C hw rfl g_18 rfl dX11_exchange_107 (fun H locs hw => ?_)
            obtain ⟨u_19, e_u_19, hf⟩ := gm_le hf
            rw [← e_u_19] at hw
            refine gm_aload_n (G := GM) (r := 1) C rfl dX11_exchange_108 rfl (lv_at hl 3 rfl) ?_
            obtain ⟨u_20, hc_21, hf⟩ := gm_bnd hf
            refine gm_callV (G := GM) (u := u_19) (u' := u_20) (r := 1) (ci := 10) (As := []) (rest := []) (res := none) C hw hl (ok_X11_rides l Z u_19 u_20 hc_21) cw_X11_392 im_X11_rides rfl se_X11_rides rfl rfl rfl ⟨Nat.le_trans (Nat.le_of_ble_eq_true rfl) hRf, Nat.le_trans (Nat.le_of_ble_eq_true rfl) hRl⟩ rfl rfl (Nat.le_of_ble_eq_true rfl) dX11_exchange_109 (fun H locs hw => ?_)
            refine gm_aload_n (G := GM) (r := 1) C rfl dX11_exchange_112 rfl (lv_at hl 3 rfl) ?_
            refine gm_getS (G := GM) (u := u_20) (r := 1) (ci := 10) (k := 39) C hw rfl fl_X11_93 dX11_exchange_113 rfl (q := 29) rfl ?_
            refine lv_iconst (v := 3) hx hb dX11_exchange_116 (by decide) ?_
            refine gm_iald (G := GM) (u := u_20) (r := 29) (n := 22) (i := (3 : Int32)) C hw rfl (by decide) (j := 3) (by decide) dX11_exchange_117 ?_
            refine lv_iload_n hx hb dX11_exchange_118 rfl (lv_at hl 2 rfl) ?_
            refine lv_iconst (v := -1) hx hb dX11_exchange_119 (by decide) ?_
            refine lv_ixor hx hb dX11_exchange_120 ?_
            refine lv_iand hx hb dX11_exchange_121 ?_
            obtain ⟨v6_22, e_v6_22, hf⟩ := gm_le hf
            refine gm_topI e_v6_22 ?_
            refine lv_istore (i := 6) (lv' := [(6, .int v6_22), (5, .int r_14), (4, .int r_12), (3, .int v3_11), (0, rv Z 1), (1, .int a1), (2, .int a2)]) hx hb dX11_exchange_122 hl (by decide) rfl (fun ls hl => ?_)
            refine gm_aload_n (G := GM) (r := 1) C rfl dX11_exchange_124 rfl (lv_at hl 4 rfl) ?_
            refine gm_getS (G := GM) (u := u_20) (r := 1) (ci := 10) (k := 41) C hw rfl fl_X11_99 dX11_exchange_125 rfl (q := 31) rfl ?_
            refine lv_iconst (v := 0) hx hb dX11_exchange_128 (by decide) ?_
            refine gm_aload_n (G := GM) (r := 1) C rfl dX11_exchange_129 rfl (lv_at hl 4 rfl) ?_
            refine gm_getS (G := GM) (u := u_20) (r := 1) (ci := 10) (k := 39) C hw rfl fl_X11_93 dX11_exchange_130 rfl (q := 29) rfl ?_
            refine lv_iconst (v := 0) hx hb dX11_exchange_133 (by decide) ?_
            obtain ⟨u_23, hc_24, hf⟩ := gm_bnd hf
            refine gm_callS (G := GM) (u := u_20) (u' := u_23) (As := [rv Z 31, .int (0 : Int32), rv Z 29, .int (0 : Int32)]) (rest := []) (res := none) C hw hl (ok_X11_copies l Z 31 22 (0 : Int32) 29 22 (0 : Int32) u_20 rfl rfl u_23 hc_24) cw_X11_376 st_X11_copies rfl rfl ⟨Nat.le_trans (Nat.le_of_ble_eq_true rfl) hRf, Nat.le_trans (Nat.le_of_ble_eq_true rfl) hRl⟩ rfl rfl (Nat.le_of_ble_eq_true rfl) dX11_exchange_134 (fun H locs hw => ?_)
            refine lv_iload hx hb dX11_exchange_137 (lv_at hl 0 rfl) ?_
            exact gm_iret C E hw rfl ((congrArg (fun z => some (Value.int z)) (gm_sp hf).1).symm) (gm_sp hf).2.symm dX11_exchange_139
          · replace hf := (if_neg hc).symm.trans hf
            refine lv_iconst (v := -1) hx hb dX11_exchange_42 (by decide) ?_
            exact gm_iret C E hw rfl ((congrArg (fun z => some (Value.int z)) (gm_sp hf).1).symm) (gm_sp hf).2.symm dX11_exchange_43
/-! LeapCapitalModel.need -/
def j_X11_need_69 (a1 : Int32) (v2_11 : Int32) (v3_12 : Int32) (u_10 : gm_M) : Option ((Int32 × Int32 × gm_M) ⊕ ((Int32 × gm_M))) := (f_X11_copies 31 22 (0 : Int32) 29 22 (0 : Int32) u_10).bind fun u_13 => some (.inl (v2_11, v3_12 + (1 : Int32), u_13))
def b_X11_need_40 (a1 : Int32) : (Int32 × Int32 × gm_M) → Option ((Int32 × Int32 × gm_M) ⊕ ((Int32 × gm_M))) := fun x => match x with | (v2_8, v3_9, u_7) => if (100 : Int32) ≤ v3_9 then some (.inr (v2_8, u_7)) else if 0 ≤ v2_8 then some (.inr (v2_8, u_7)) else gm_let (sI u_7 1 49 v3_9) fun u_15 => (f_X11_rides u_15).bind fun u_16 => gm_let (f_X11_isHeard a1 u_16) fun r_18 => if r_18 = 0 then j_X11_need_69 a1 v2_8 v3_9 u_16 else j_X11_need_69 a1 v3_9 v3_9 u_16
def f_X11_need (a1 : Int32) (u : gm_M) : Option (Int32 × gm_M) := gm_let (sI u 1 0 (0 : Int32)) fun u_1 => gm_let (f_X11_isPerson a1 u_1) fun r_2 => if r_2 = 0 then some ((-1 : Int32), u_1) else (f_X11_placeOf a1 u_1).bind fun r_3 => if 0 ≤ r_3 then (f_X11_copies 29 22 (0 : Int32) 31 22 (0 : Int32) u_1).bind fun u_5 => ((gm_lp (b_X11_need_40 a1) gm_FU ((-1 : Int32), (1 : Int32), u_5)).bind fun o => match o with | (w2_19, u_20) => some (w2_19, u_20)) else some ((-1 : Int32), u_1)
set_option maxRecDepth 100000 in
set_option maxHeartbeats 4000000 in
theorem ok_X11_need (l : Launch) (Z : gm_Z) (a1 : Int32) (u : gm_M)  (r : Int32) (u' : gm_M) (hf : f_X11_need a1 u = some (r, u')) : gm_Met l GM Z yX11_need cX11_need 4 (some .int) ({ frames := 8, cells := 0, slots := 0, locals := 181 }) [rv Z 1, .int a1] u (some (.int r)) u' := by
  unfold f_X11_need at hf
  refine gm_ofW (by decide +kernel) (Nat.le_of_ble_eq_true rfl) ?_
  intro p e s m args below meth c A ls Q R hRf hRl C E hl hw
  obtain ⟨hx, hb, -⟩ := id C
  have hl : lv_has ls 4 [(0, rv Z 1), (1, .int a1)] := hl
  refine gm_aload_n (G := GM) (r := 1) C rfl dX11_need_0 rfl (lv_at hl 0 rfl) ?_
  refine lv_iconst (v := 0) hx hb dX11_need_1 (by decide) ?_
  refine gm_putI (G := GM) (u := u) (r := 1) (ci := 10) (k := 0) (v := (0 : Int32)) C hw rfl fl_X11_137 fp_10_0 dX11_need_2 rfl (fun H locs hw => ?_)
  obtain ⟨u_1, e_u_1, hf⟩ := gm_le hf
  rw [← e_u_1] at hw
  refine gm_aload_n (G := GM) (r := 1) C rfl dX11_need_5 rfl (lv_at hl 0 rfl) ?_
  refine lv_iload_n hx hb dX11_need_6 rfl (lv_at hl 1 rfl) ?_
  obtain ⟨r_2, e_r_2, hf⟩ := gm_le hf
  refine gm_callV (G := GM) (u := u_1) (u' := u_1) (r := 1) (ci := 10) (As := [.int a1]) (rest := []) (res := (some (.int (f_X11_isPerson a1 u_1)))) C hw hl (ok_X11_isPerson l Z a1 u_1) cw_X11_373 im_X11_isPerson rfl se_X11_isPerson rfl rfl rfl ⟨Nat.le_trans (Nat.le_of_ble_eq_true rfl) hRf, Nat.le_trans (Nat.le_of_ble_eq_true rfl) hRl⟩ rfl rfl (Nat.le_of_ble_eq_true rfl) dX11_need_7 (fun H locs hw => ?_)
  refine gm_topI e_r_2 ?_
  refine lv_if_eq (tgt := 21) hx hb dX11_need_10 (by decide) (fun hc => ?_) (fun hc => ?_)
  · replace hf := (if_pos hc).symm.trans hf
    refine lv_iconst (v := -1) hx hb dX11_need_21 (by decide) ?_
    exact gm_iret C E hw rfl ((congrArg (fun z => some (Value.int z)) (gm_sp hf).1).symm) (gm_sp hf).2.symm dX11_need_22
  · replace hf := (if_neg hc).symm.trans hf
    refine gm_aload_n (G := GM) (r := 1) C rfl dX11_need_13 rfl (lv_at hl 0 rfl) ?_
    refine lv_iload_n hx hb dX11_need_14 rfl (lv_at hl 1 rfl) ?_
    obtain ⟨r_3, hc_4, hf⟩ := gm_bnd hf
    refine gm_callV (G := GM) (u := u_1) (u' := u_1) (r := 1) (ci := 10) (As := [.int a1]) (rest := []) (res := (some (.int r_3))) C hw hl (ok_X11_placeOf l Z a1 u_1 r_3 hc_4) cw_X11_324 im_X11_placeOf rfl se_X11_placeOf rfl rfl rfl ⟨Nat.le_trans (Nat.le_of_ble_eq_true rfl) hRf, Nat.le_trans (Nat.le_of_ble_eq_true rfl) hRl⟩ rfl rfl (Nat.le_of_ble_eq_true rfl) dX11_need_15 (fun H locs hw => ?_)
    refine lv_if_ge (tgt := 23) hx hb dX11_need_18 (by decide) (fun hc => ?_) (fun hc => ?_)
    · replace hf := (if_pos hc).symm.trans hf
      refine gm_aload_n (G := GM) (r := 1) C rfl dX11_need_23 rfl (lv_at hl 0 rfl) ?_
      refine gm_getS (G := GM) (u := u_1) (r := 1) (ci := 10) (k := 39) C hw rfl fl_X11_93 dX11_need_24 rfl (q := 29) rfl ?_
      refine lv_iconst (v := 0) hx hb dX11_need_27 (by decide) ?_
      refine gm_aload_n (G := GM) (r := 1) C rfl dX11_need_28 rfl (lv_at hl 0 rfl) ?_
      refine gm_getS (G := GM) (u := u_1) (r := 1) (ci := 10) (k := 41) C hw rfl fl_X11_99 dX11_need_29 rfl (q := 31) rfl ?_
      refine lv_iconst (v := 0) hx hb dX11_need_32 (by decide) ?_
      obtain ⟨u_5, hc_6, hf⟩ := gm_bnd hf
      refine gm_callS (G := GM) (u := u_1) (u' := u_5) (As := [rv Z 29, .int (0 : Int32), rv Z 31, .int (0 : Int32)]) (rest := []) (res := none) C hw hl (ok_X11_copies l Z 29 22 (0 : Int32) 31 22 (0 : Int32) u_1 rfl rfl u_5 hc_6) cw_X11_376 st_X11_copies rfl rfl ⟨Nat.le_trans (Nat.le_of_ble_eq_true rfl) hRf, Nat.le_trans (Nat.le_of_ble_eq_true rfl) hRl⟩ rfl rfl (Nat.le_of_ble_eq_true rfl) dX11_need_33 (fun H locs hw => ?_)
      refine lv_iconst (v := -1) hx hb dX11_need_36 (by decide) ?_
      refine lv_istore_n (i := 2) (lv' := [(2, .int (-1 : Int32)), (0, rv Z 1), (1, .int a1)]) hx hb dX11_need_37 rfl hl (by decide) rfl (fun ls hl => ?_)
      refine lv_iconst (v := 1) hx hb dX11_need_38 (by decide) ?_
      refine lv_istore_n (i := 3) (lv' := [(3, .int (1 : Int32)), (2, .int (-1 : Int32)), (0, rv Z 1), (1, .int a1)]) hx hb dX11_need_39 rfl hl (by decide) rfl (fun ls hl => ?_)
      obtain ⟨o1, hlp, hf⟩ := gm_bnd hf
      have L40_1 := gm_loop (b_X11_need_40 a1) (fun x : (Int32 × Int32 × gm_M) => ∀ (H : Heap) (locs : List Loc) (ls : Array Slot), lv_has ls 4 [(0, rv Z 1), (1, .int a1), (2, .int x.1), (3, .int x.2.1)] → wd GM Z x.2.2 A s.heap H locs → W p l e R s m args below meth c H locs 0 0 Q (F0 m 40 ls [])) (fun z : ((Int32 × gm_M)) => ∀ (H : Heap) (locs : List Loc) (ls : Array Slot), lv_has ls 4 [(2, .int z.1)] → wd GM Z z.2 A s.heap H locs → W p l e R s m args below meth c H locs 0 0 Q (F0 m 88 ls [])) (by
        intro x o1 hf Kc Kx
        obtain ⟨v2_8, v3_9, u_7⟩ := x
        intro H locs ls hl hw
        unfold b_X11_need_40 at hf
        try dsimp only at hf
        have J69 : ∀ (v2_11 : Int32) (v3_12 : Int32) (u_10 : gm_M) (H : Heap) (locs : List Loc) (ls : Array Slot), j_X11_need_69 a1 v2_11 v3_12 u_10 = some o1 → lv_has ls 4 [(0, rv Z 1), (1, .int a1), (2, .int v2_11), (3, .int v3_12)] → wd GM Z u_10 A s.heap H locs → W p l e R s m args below meth c H locs 0 0 Q (F0 m 69 ls []) := by
          intro v2_11 v3_12 u_10 H locs ls hf  hl hw
          unfold j_X11_need_69 at hf
          refine gm_aload_n (G := GM) (r := 1) C rfl dX11_need_69 rfl (lv_at hl 0 rfl) ?_
          refine gm_getS (G := GM) (u := u_10) (r := 1) (ci := 10) (k := 41) C hw rfl fl_X11_99 dX11_need_70 rfl (q := 31) rfl ?_
          refine lv_iconst (v := 0) hx hb dX11_need_73 (by decide) ?_
          refine gm_aload_n (G := GM) (r := 1) C rfl dX11_need_74 rfl (lv_at hl 0 rfl) ?_
          refine gm_getS (G := GM) (u := u_10) (r := 1) (ci := 10) (k := 39) C hw rfl fl_X11_93 dX11_need_75 rfl (q := 29) rfl ?_
          refine lv_iconst (v := 0) hx hb dX11_need_78 (by decide) ?_
          obtain ⟨u_13, hc_14, hf⟩ := gm_bnd hf
          refine gm_callS (G := GM) (u := u_10) (u' := u_13) (As := [rv Z 31, .int (0 : Int32), rv Z 29, .int (0 : Int32)]) (rest := []) (res := none) C hw hl (ok_X11_copies l Z 31 22 (0 : Int32) 29 22 (0 : Int32) u_10 rfl rfl u_13 hc_14) cw_X11_376 st_X11_copies rfl rfl ⟨Nat.le_trans (Nat.le_of_ble_eq_true rfl) hRf, Nat.le_trans (Nat.le_of_ble_eq_true rfl) hRl⟩ rfl rfl (Nat.le_of_ble_eq_true rfl) dX11_need_79 (fun H locs hw => ?_)
          refine lv_iinc (v := v3_12 + (1 : Int32)) (lv' := [(3, .int (v3_12 + (1 : Int32))), (0, rv Z 1), (1, .int a1), (2, .int v2_11)]) hx hb dX11_need_82 hl (k := 3) rfl rfl (by decide) rfl (fun ls hl => ?_)
          refine lv_goto (tgt := 40) hx hb dX11_need_85 (by decide) ?_
          exact Kc _ (gm_si hf) _ _ _ (lv_sub hl [1, 2, 3, 0] rfl) hw
        refine lv_iload_n hx hb dX11_need_40 rfl (lv_at hl 3 rfl) ?_
        refine lv_bipush (v := 100) hx hb dX11_need_41 (by decide) ?_
        refine lv_icmp_ge (tgt := 88) hx hb dX11_need_43 (by decide) (fun hc => ?_) (fun hc => ?_)
        · replace hf := (if_pos hc).symm.trans hf
          exact Kx _ (gm_si hf) _ _ _ (lv_sub hl [2] rfl) hw
        · replace hf := (if_neg hc).symm.trans hf
          refine lv_iload_n hx hb dX11_need_46 rfl (lv_at hl 2 rfl) ?_
          refine lv_if_ge (tgt := 88) hx hb dX11_need_47 (by decide) (fun hc => ?_) (fun hc => ?_)
          · replace hf := (if_pos hc).symm.trans hf
            exact Kx _ (gm_si hf) _ _ _ (lv_sub hl [2] rfl) hw
          · replace hf := (if_neg hc).symm.trans hf
            refine gm_aload_n (G := GM) (r := 1) C rfl dX11_need_50 rfl (lv_at hl 0 rfl) ?_
            refine lv_iload_n hx hb dX11_need_51 rfl (lv_at hl 3 rfl) ?_
            refine gm_putI (G := GM) (u := u_7) (r := 1) (ci := 10) (k := 49) (v := v3_9) C hw rfl fl_X11_117 fp_10_49 dX11_need_52 rfl (fun H locs hw => ?_)
            obtain ⟨u_15, e_u_15, hf⟩ := gm_le hf
            rw [← e_u_15] at hw
            refine gm_aload_n (G := GM) (r := 1) C rfl dX11_need_55 rfl (lv_at hl 0 rfl) ?_
            obtain ⟨u_16, hc_17, hf⟩ := gm_bnd hf
            refine gm_callV (G := GM) (u := u_15) (u' := u_16) (r := 1) (ci := 10) (As := []) (rest := []) (res := none) C hw hl (ok_X11_rides l Z u_15 u_16 hc_17) cw_X11_392 im_X11_rides rfl se_X11_rides rfl rfl rfl ⟨Nat.le_trans (Nat.le_of_ble_eq_true rfl) hRf, Nat.le_trans (Nat.le_of_ble_eq_true rfl) hRl⟩ rfl rfl (Nat.le_of_ble_eq_true rfl) dX11_need_56 (fun H locs hw => ?_)
            refine gm_aload_n (G := GM) (r := 1) C rfl dX11_need_59 rfl (lv_at hl 0 rfl) ?_
            refine lv_iload_n hx hb dX11_need_60 rfl (lv_at hl 1 rfl) ?_
            obtain ⟨r_18, e_r_18, hf⟩ := gm_le hf
            refine gm_callV (G := GM) (u := u_16) (u' := u_16) (r := 1) (ci := 10) (As := [.int a1]) (rest := []) (res := (some (.int (f_X11_isHeard a1 u_16)))) C hw hl (ok_X11_isHeard l Z a1 u_16) cw_X11_327 im_X11_isHeard rfl se_X11_isHeard rfl rfl rfl ⟨Nat.le_trans (Nat.le_of_ble_eq_true rfl) hRf, Nat.le_trans (Nat.le_of_ble_eq_true rfl) hRl⟩ rfl rfl (Nat.le_of_ble_eq_true rfl) dX11_need_61 (fun H locs hw => ?_)
            refine gm_topI e_r_18 ?_
            refine lv_if_eq (tgt := 69) hx hb dX11_need_64 (by decide) (fun hc => ?_) (fun hc => ?_)
            · replace hf := (if_pos hc).symm.trans hf
              exact J69 v2_8 v3_9 u_16 _ _ _ hf  (lv_sub hl [0, 1, 2, 3] rfl) hw
            · replace hf := (if_neg hc).symm.trans hf
              refine lv_iload_n hx hb dX11_need_67 rfl (lv_at hl 3 rfl) ?_
              refine lv_istore_n (i := 2) (lv' := [(2, .int v3_9), (0, rv Z 1), (1, .int a1), (3, .int v3_9)]) hx hb dX11_need_68 rfl hl (by decide) rfl (fun ls hl => ?_)
              exact J69 v3_9 v3_9 u_16 _ _ _ hf  (lv_sub hl [1, 2, 0, 3] rfl) hw)
      refine L40_1 _ _ _ hlp ?_ _ _ _ (lv_sub hl [2, 3, 1, 0] rfl) hw
      obtain ⟨w2_19, u_20⟩ := o1
      intro H locs ls hl hw
      try dsimp only at hf
      refine lv_iload_n hx hb dX11_need_88 rfl (lv_at hl 0 rfl) ?_
      exact gm_iret C E hw rfl ((congrArg (fun z => some (Value.int z)) (gm_sp hf).1).symm) (gm_sp hf).2.symm dX11_need_89
    · replace hf := (if_neg hc).symm.trans hf
      refine lv_iconst (v := -1) hx hb dX11_need_21 (by decide) ?_
      exact gm_iret C E hw rfl ((congrArg (fun z => some (Value.int z)) (gm_sp hf).1).symm) (gm_sp hf).2.symm dX11_need_22
/-! LeapCapitalModel.old -/
def f_X11_old (a1 : Int32) (u : gm_M) : Option (Int32 × gm_M) := gm_let (sI u 1 0 (0 : Int32)) fun u_1 => gm_let (f_X11_isPerson a1 u_1) fun r_2 => if r_2 = 0 then some ((-1 : Int32), u_1) else gm_let (f_X11_leapsUpTo (gI u_1 29 0)) fun r_3 => if ib a1 12 = true then gm_let (f_X11_leapsUpTo (gI u_1 6 (ix a1))) fun r_5 => gm_let (if (0 : Int32) < (r_3 - r_5) then (r_3 - r_5) else (0 : Int32)) fun v_6 => some (v_6, u_1) else none
set_option maxRecDepth 100000 in
set_option maxHeartbeats 4000000 in
theorem ok_X11_old (l : Launch) (Z : gm_Z) (a1 : Int32) (u : gm_M)  (r : Int32) (u' : gm_M) (hf : f_X11_old a1 u = some (r, u')) : gm_Met l GM Z yX11_old cX11_old 2 (some .int) ({ frames := 1, cells := 0, slots := 0, locals := 32 }) [rv Z 1, .int a1] u (some (.int r)) u' := by
  unfold f_X11_old at hf
  refine gm_ofW (by decide +kernel) (Nat.le_of_ble_eq_true rfl) ?_
  intro p e s m args below meth c A ls Q R hRf hRl C E hl hw
  obtain ⟨hx, hb, -⟩ := id C
  have hl : lv_has ls 2 [(0, rv Z 1), (1, .int a1)] := hl
  refine gm_aload_n (G := GM) (r := 1) C rfl dX11_old_0 rfl (lv_at hl 0 rfl) ?_
  refine lv_iconst (v := 0) hx hb dX11_old_1 (by decide) ?_
  refine gm_putI (G := GM) (u := u) (r := 1) (ci := 10) (k := 0) (v := (0 : Int32)) C hw rfl fl_X11_137 fp_10_0 dX11_old_2 rfl (fun H locs hw => ?_)
  obtain ⟨u_1, e_u_1, hf⟩ := gm_le hf
  rw [← e_u_1] at hw
  refine gm_aload_n (G := GM) (r := 1) C rfl dX11_old_5 rfl (lv_at hl 0 rfl) ?_
  refine lv_iload_n hx hb dX11_old_6 rfl (lv_at hl 1 rfl) ?_
  obtain ⟨r_2, e_r_2, hf⟩ := gm_le hf
  refine gm_callV (G := GM) (u := u_1) (u' := u_1) (r := 1) (ci := 10) (As := [.int a1]) (rest := []) (res := (some (.int (f_X11_isPerson a1 u_1)))) C hw hl (ok_X11_isPerson l Z a1 u_1) cw_X11_373 im_X11_isPerson rfl se_X11_isPerson rfl rfl rfl ⟨Nat.le_trans (Nat.le_of_ble_eq_true rfl) hRf, Nat.le_trans (Nat.le_of_ble_eq_true rfl) hRl⟩ rfl rfl (Nat.le_of_ble_eq_true rfl) dX11_old_7 (fun H locs hw => ?_)
  refine gm_topI e_r_2 ?_
  refine lv_if_eq (tgt := 39) hx hb dX11_old_10 (by decide) (fun hc => ?_) (fun hc => ?_)
  · replace hf := (if_pos hc).symm.trans hf
    refine lv_iconst (v := -1) hx hb dX11_old_39 (by decide) ?_
    exact gm_iret C E hw rfl ((congrArg (fun z => some (Value.int z)) (gm_sp hf).1).symm) (gm_sp hf).2.symm dX11_old_40
  · replace hf := (if_neg hc).symm.trans hf
    refine lv_iconst (v := 0) hx hb dX11_old_13 (by decide) ?_
    refine gm_aload_n (G := GM) (r := 1) C rfl dX11_old_14 rfl (lv_at hl 0 rfl) ?_
    refine gm_getS (G := GM) (u := u_1) (r := 1) (ci := 10) (k := 39) C hw rfl fl_X11_93 dX11_old_15 rfl (q := 29) rfl ?_
    refine lv_iconst (v := 0) hx hb dX11_old_18 (by decide) ?_
    refine gm_iald (G := GM) (u := u_1) (r := 29) (n := 22) (i := (0 : Int32)) C hw rfl (by decide) (j := 0) (by decide) dX11_old_19 ?_
    obtain ⟨r_3, e_r_3, hf⟩ := gm_le hf
    refine gm_callS (G := GM) (u := u_1) (u' := u_1) (As := [.int (gI u_1 29 0)]) (rest := [.int (0 : Int32)]) (res := (some (.int (f_X11_leapsUpTo (gI u_1 29 0))))) C hw hl (ok_X11_leapsUpTo l Z (gI u_1 29 0) u_1) cw_X11_401 st_X11_leapsUpTo rfl rfl ⟨Nat.le_trans (Nat.le_of_ble_eq_true rfl) hRf, Nat.le_trans (Nat.le_of_ble_eq_true rfl) hRl⟩ rfl rfl (Nat.le_of_ble_eq_true rfl) dX11_old_20 (fun H locs hw => ?_)
    refine gm_topI e_r_3 ?_
    refine gm_aload_n (G := GM) (r := 1) C rfl dX11_old_23 rfl (lv_at hl 0 rfl) ?_
    refine gm_getS (G := GM) (u := u_1) (r := 1) (ci := 10) (k := 13) C hw rfl fl_X11_23 dX11_old_24 rfl (q := 6) rfl ?_
    refine lv_iload_n hx hb dX11_old_27 rfl (lv_at hl 1 rfl) ?_
    obtain ⟨g_4, hf⟩ := gm_grd hf
    refine gm_iald (G := GM) (u := u_1) (r := 6) (n := 12) (i := a1) C hw rfl g_4 rfl dX11_old_28 ?_
    obtain ⟨r_5, e_r_5, hf⟩ := gm_le hf
    refine gm_callS (G := GM) (u := u_1) (u' := u_1) (As := [.int (gI u_1 6 (ix a1))]) (rest := [.int r_3, .int (0 : Int32)]) (res := (some (.int (f_X11_leapsUpTo (gI u_1 6 (ix a1)))))) C hw hl (ok_X11_leapsUpTo l Z (gI u_1 6 (ix a1)) u_1) cw_X11_401 st_X11_leapsUpTo rfl rfl ⟨Nat.le_trans (Nat.le_of_ble_eq_true rfl) hRf, Nat.le_trans (Nat.le_of_ble_eq_true rfl) hRl⟩ rfl rfl (Nat.le_of_ble_eq_true rfl) dX11_old_29 (fun H locs hw => ?_)
    refine gm_topI e_r_5 ?_
    refine lv_isub hx hb dX11_old_32 ?_
    refine gm_max C hl mw_X11_342 (Nat.le_trans (Nat.le_of_ble_eq_true rfl) hRf) (Nat.le_trans (Nat.le_of_ble_eq_true rfl) hRl) (Nat.le_of_ble_eq_true rfl) dX11_old_33 ?_
    obtain ⟨v_6, e_v_6, hf⟩ := gm_le hf
    refine gm_topI e_v_6 ?_
    refine lv_goto (tgt := 40) hx hb dX11_old_36 (by decide) ?_
    exact gm_iret C E hw rfl ((congrArg (fun z => some (Value.int z)) (gm_sp hf).1).symm) (gm_sp hf).2.symm dX11_old_40
/-! LeapCapitalModel.heardBehind -/
def b_X11_heardBehind_15 (a1 : Int32) : (Int32 × gm_M) → Option ((Int32 × gm_M) ⊕ gm_M) := fun x => match x with | (v2_4, u_3) => if a1 ≤ v2_4 then some (.inr u_3) else (f_X11_passes u_3).bind fun o => match o with | (r_5, u_6) => some (.inl (v2_4 + (1 : Int32), u_6))
def f_X11_heardBehind (a1 : Int32) (u : gm_M) : Option (Int32 × gm_M) := (f_X11_copies 29 22 (0 : Int32) 31 22 (0 : Int32) u).bind fun u_1 => ((gm_lp (b_X11_heardBehind_15 a1) gm_FU ((0 : Int32), u_1)).bind fun o => match o with | u_9 => gm_let (gI u_9 29 3) fun v2_10 => (f_X11_copies 31 22 (0 : Int32) 29 22 (0 : Int32) u_9).bind fun u_11 => some (v2_10, u_11))
set_option maxRecDepth 100000 in
set_option maxHeartbeats 4000000 in
theorem ok_X11_heardBehind (l : Launch) (Z : gm_Z) (a1 : Int32) (u : gm_M)  (r : Int32) (u' : gm_M) (hf : f_X11_heardBehind a1 u = some (r, u')) : gm_Met l GM Z yX11_heardBehind cX11_heardBehind 3 (some .int) ({ frames := 7, cells := 0, slots := 0, locals := 160 }) [rv Z 1, .int a1] u (some (.int r)) u' := by
  unfold f_X11_heardBehind at hf
  refine gm_ofW (by decide +kernel) (Nat.le_of_ble_eq_true rfl) ?_
  intro p e s m args below meth c A ls Q R hRf hRl C E hl hw
  obtain ⟨hx, hb, -⟩ := id C
  have hl : lv_has ls 3 [(0, rv Z 1), (1, .int a1)] := hl
  refine gm_aload_n (G := GM) (r := 1) C rfl dX11_heardBehind_0 rfl (lv_at hl 0 rfl) ?_
  refine gm_getS (G := GM) (u := u) (r := 1) (ci := 10) (k := 39) C hw rfl fl_X11_93 dX11_heardBehind_1 rfl (q := 29) rfl ?_
  refine lv_iconst (v := 0) hx hb dX11_heardBehind_4 (by decide) ?_
  refine gm_aload_n (G := GM) (r := 1) C rfl dX11_heardBehind_5 rfl (lv_at hl 0 rfl) ?_
  refine gm_getS (G := GM) (u := u) (r := 1) (ci := 10) (k := 41) C hw rfl fl_X11_99 dX11_heardBehind_6 rfl (q := 31) rfl ?_
  refine lv_iconst (v := 0) hx hb dX11_heardBehind_9 (by decide) ?_
  obtain ⟨u_1, hc_2, hf⟩ := gm_bnd hf
  refine gm_callS (G := GM) (u := u) (u' := u_1) (As := [rv Z 29, .int (0 : Int32), rv Z 31, .int (0 : Int32)]) (rest := []) (res := none) C hw hl (ok_X11_copies l Z 29 22 (0 : Int32) 31 22 (0 : Int32) u rfl rfl u_1 hc_2) cw_X11_376 st_X11_copies rfl rfl ⟨Nat.le_trans (Nat.le_of_ble_eq_true rfl) hRf, Nat.le_trans (Nat.le_of_ble_eq_true rfl) hRl⟩ rfl rfl (Nat.le_of_ble_eq_true rfl) dX11_heardBehind_10 (fun H locs hw => ?_)
  refine lv_iconst (v := 0) hx hb dX11_heardBehind_13 (by decide) ?_
  refine lv_istore_n (i := 2) (lv' := [(2, .int (0 : Int32)), (0, rv Z 1), (1, .int a1)]) hx hb dX11_heardBehind_14 rfl hl (by decide) rfl (fun ls hl => ?_)
  obtain ⟨o1, hlp, hf⟩ := gm_bnd hf
  have L15_1 := gm_loop (b_X11_heardBehind_15 a1) (fun x : (Int32 × gm_M) => ∀ (H : Heap) (locs : List Loc) (ls : Array Slot), lv_has ls 3 [(0, rv Z 1), (1, .int a1), (2, .int x.1)] → wd GM Z x.2 A s.heap H locs → W p l e R s m args below meth c H locs 0 0 Q (F0 m 15 ls [])) (fun z : gm_M => ∀ (H : Heap) (locs : List Loc) (ls : Array Slot), lv_has ls 3 [(0, rv Z 1)] → wd GM Z z A s.heap H locs → W p l e R s m args below meth c H locs 0 0 Q (F0 m 31 ls [])) (by
    intro x o1 hf Kc Kx
    obtain ⟨v2_4, u_3⟩ := x
    intro H locs ls hl hw
    unfold b_X11_heardBehind_15 at hf
    try dsimp only at hf
    refine lv_iload_n hx hb dX11_heardBehind_15 rfl (lv_at hl 2 rfl) ?_
    refine lv_iload_n hx hb dX11_heardBehind_16 rfl (lv_at hl 1 rfl) ?_
    refine lv_icmp_ge (tgt := 31) hx hb dX11_heardBehind_17 (by decide) (fun hc => ?_) (fun hc => ?_)
    · replace hf := (if_pos hc).symm.trans hf
      exact Kx _ (gm_si hf) _ _ _ (lv_sub hl [0] rfl) hw
    · replace hf := (if_neg hc).symm.trans hf
      refine gm_aload_n (G := GM) (r := 1) C rfl dX11_heardBehind_20 rfl (lv_at hl 0 rfl) ?_
      obtain ⟨⟨r_5, u_6⟩, hc_7, hf⟩ := gm_bnd hf
      try dsimp only at hf
      refine gm_callV (G := GM) (u := u_3) (u' := u_6) (r := 1) (ci := 10) (As := []) (rest := []) (res := (some (.int r_5))) C hw hl (ok_X11_passes l Z u_3 r_5 u_6 hc_7) cw_X11_370 im_X11_passes rfl se_X11_passes rfl rfl rfl ⟨Nat.le_trans (Nat.le_of_ble_eq_true rfl) hRf, Nat.le_trans (Nat.le_of_ble_eq_true rfl) hRl⟩ rfl rfl (Nat.le_of_ble_eq_true rfl) dX11_heardBehind_21 (fun H locs hw => ?_)
      refine lv_pop hx hb dX11_heardBehind_24 rfl ?_
      refine lv_iinc (v := v2_4 + (1 : Int32)) (lv' := [(2, .int (v2_4 + (1 : Int32))), (0, rv Z 1), (1, .int a1)]) hx hb dX11_heardBehind_25 hl (k := 2) rfl rfl (by decide) rfl (fun ls hl => ?_)
      refine lv_goto (tgt := 15) hx hb dX11_heardBehind_28 (by decide) ?_
      exact Kc _ (gm_si hf) _ _ _ (lv_sub hl [1, 2, 0] rfl) hw)
  refine L15_1 _ _ _ hlp ?_ _ _ _ (lv_sub hl [1, 2, 0] rfl) hw
  obtain ⟨u_9, rfl⟩ : ∃ y, y = o1 := ⟨_, rfl⟩
  intro H locs ls hl hw
  try dsimp only at hf
  refine gm_aload_n (G := GM) (r := 1) C rfl dX11_heardBehind_31 rfl (lv_at hl 0 rfl) ?_
  refine gm_getS (G := GM) (u := u_9) (r := 1) (ci := 10) (k := 39) C hw rfl fl_X11_93 dX11_heardBehind_32 rfl (q := 29) rfl ?_
  refine lv_iconst (v := 3) hx hb dX11_heardBehind_35 (by decide) ?_
  refine gm_iald (G := GM) (u := u_9) (r := 29) (n := 22) (i := (3 : Int32)) C hw rfl (by decide) (j := 3) (by decide) dX11_heardBehind_36 ?_
  obtain ⟨v2_10, e_v2_10, hf⟩ := gm_le hf
  refine gm_topI e_v2_10 ?_
  refine lv_istore_n (i := 2) (lv' := [(2, .int v2_10), (0, rv Z 1)]) hx hb dX11_heardBehind_37 rfl hl (by decide) rfl (fun ls hl => ?_)
  refine gm_aload_n (G := GM) (r := 1) C rfl dX11_heardBehind_38 rfl (lv_at hl 1 rfl) ?_
  refine gm_getS (G := GM) (u := u_9) (r := 1) (ci := 10) (k := 41) C hw rfl fl_X11_99 dX11_heardBehind_39 rfl (q := 31) rfl ?_
  refine lv_iconst (v := 0) hx hb dX11_heardBehind_42 (by decide) ?_
  refine gm_aload_n (G := GM) (r := 1) C rfl dX11_heardBehind_43 rfl (lv_at hl 1 rfl) ?_
  refine gm_getS (G := GM) (u := u_9) (r := 1) (ci := 10) (k := 39) C hw rfl fl_X11_93 dX11_heardBehind_44 rfl (q := 29) rfl ?_
  refine lv_iconst (v := 0) hx hb dX11_heardBehind_47 (by decide) ?_
  obtain ⟨u_11, hc_12, hf⟩ := gm_bnd hf
  refine gm_callS (G := GM) (u := u_9) (u' := u_11) (As := [rv Z 31, .int (0 : Int32), rv Z 29, .int (0 : Int32)]) (rest := []) (res := none) C hw hl (ok_X11_copies l Z 31 22 (0 : Int32) 29 22 (0 : Int32) u_9 rfl rfl u_11 hc_12) cw_X11_376 st_X11_copies rfl rfl ⟨Nat.le_trans (Nat.le_of_ble_eq_true rfl) hRf, Nat.le_trans (Nat.le_of_ble_eq_true rfl) hRl⟩ rfl rfl (Nat.le_of_ble_eq_true rfl) dX11_heardBehind_48 (fun H locs hw => ?_)
  refine lv_iload_n hx hb dX11_heardBehind_51 rfl (lv_at hl 0 rfl) ?_
  exact gm_iret C E hw rfl ((congrArg (fun z => some (Value.int z)) (gm_sp hf).1).symm) (gm_sp hf).2.symm dX11_heardBehind_52
/-! LeapCapitalModel.julian -/
def f_X11_julian (a1 : Int32) (u : gm_M) : Option (Int32 × gm_M) := gm_let (sI u 1 0 (0 : Int32)) fun u_1 => gm_let (f_X11_within a1 (1 : Int32) (99 : Int32)) fun r_2 => if r_2 = 0 then some ((-1 : Int32), u_1) else gm_let (sI u_1 1 49 (gI u_1 3 2)) fun u_3 => (f_X11_heardBehind a1 u_3).bind fun o => match o with | (r_4, u_5) => gm_let (sI u_5 1 46 (1 : Int32)) fun u_8 => (f_X11_heardBehind a1 u_8).bind fun o => match o with | (r_9, u_10) => gm_let (sI u_10 1 46 (0 : Int32)) fun u_13 => some (r_9 &&& (r_4 ^^^ (-1 : Int32)), u_13)
set_option maxRecDepth 100000 in
set_option maxHeartbeats 4000000 in
theorem ok_X11_julian (l : Launch) (Z : gm_Z) (a1 : Int32) (u : gm_M)  (r : Int32) (u' : gm_M) (hf : f_X11_julian a1 u = some (r, u')) : gm_Met l GM Z yX11_julian cX11_julian 4 (some .int) ({ frames := 8, cells := 0, slots := 0, locals := 182 }) [rv Z 1, .int a1] u (some (.int r)) u' := by
  unfold f_X11_julian at hf
  refine gm_ofW (by decide +kernel) (Nat.le_of_ble_eq_true rfl) ?_
  intro p e s m args below meth c A ls Q R hRf hRl C E hl hw
  obtain ⟨hx, hb, -⟩ := id C
  have hl : lv_has ls 4 [(0, rv Z 1), (1, .int a1)] := hl
  refine gm_aload_n (G := GM) (r := 1) C rfl dX11_julian_0 rfl (lv_at hl 0 rfl) ?_
  refine lv_iconst (v := 0) hx hb dX11_julian_1 (by decide) ?_
  refine gm_putI (G := GM) (u := u) (r := 1) (ci := 10) (k := 0) (v := (0 : Int32)) C hw rfl fl_X11_137 fp_10_0 dX11_julian_2 rfl (fun H locs hw => ?_)
  obtain ⟨u_1, e_u_1, hf⟩ := gm_le hf
  rw [← e_u_1] at hw
  refine lv_iload_n hx hb dX11_julian_5 rfl (lv_at hl 1 rfl) ?_
  refine lv_iconst (v := 1) hx hb dX11_julian_6 (by decide) ?_
  refine lv_bipush (v := 99) hx hb dX11_julian_7 (by decide) ?_
  obtain ⟨r_2, e_r_2, hf⟩ := gm_le hf
  refine gm_callS (G := GM) (u := u_1) (u' := u_1) (As := [.int a1, .int (1 : Int32), .int (99 : Int32)]) (rest := []) (res := (some (.int (f_X11_within a1 (1 : Int32) (99 : Int32))))) C hw hl (ok_X11_within l Z a1 (1 : Int32) (99 : Int32) u_1) cw_X11_254 st_X11_within rfl rfl ⟨Nat.le_trans (Nat.le_of_ble_eq_true rfl) hRf, Nat.le_trans (Nat.le_of_ble_eq_true rfl) hRl⟩ rfl rfl (Nat.le_of_ble_eq_true rfl) dX11_julian_9 (fun H locs hw => ?_)
  refine gm_topI e_r_2 ?_
  refine lv_if_ne (tgt := 17) hx hb dX11_julian_12 (by decide) (fun hc => ?_) (fun hc => ?_)
  · replace hf := (if_neg hc).symm.trans hf
    refine gm_aload_n (G := GM) (r := 1) C rfl dX11_julian_17 rfl (lv_at hl 0 rfl) ?_
    refine gm_aload_n (G := GM) (r := 1) C rfl dX11_julian_18 rfl (lv_at hl 0 rfl) ?_
    refine gm_getS (G := GM) (u := u_1) (r := 1) (ci := 10) (k := 10) C hw rfl fl_X11_13 dX11_julian_19 rfl (q := 3) rfl ?_
    refine lv_iconst (v := 2) hx hb dX11_julian_22 (by decide) ?_
    refine gm_iald (G := GM) (u := u_1) (r := 3) (n := 8) (i := (2 : Int32)) C hw rfl (by decide) (j := 2) (by decide) dX11_julian_23 ?_
    refine gm_putI (G := GM) (u := u_1) (r := 1) (ci := 10) (k := 49) (v := gI u_1 3 2) C hw rfl fl_X11_117 fp_10_49 dX11_julian_24 rfl (fun H locs hw => ?_)
    obtain ⟨u_3, e_u_3, hf⟩ := gm_le hf
    rw [← e_u_3] at hw
    refine gm_aload_n (G := GM) (r := 1) C rfl dX11_julian_27 rfl (lv_at hl 0 rfl) ?_
    refine lv_iload_n hx hb dX11_julian_28 rfl (lv_at hl 1 rfl) ?_
    obtain ⟨⟨r_4, u_5⟩, hc_6, hf⟩ := gm_bnd hf
    try dsimp only at hf
    refine gm_callV (G := GM) (u := u_3) (u' := u_5) (r := 1) (ci := 10) (As := [.int a1]) (rest := []) (res := (some (.int r_4))) C hw hl (ok_X11_heardBehind l Z a1 u_3 r_4 u_5 hc_6) cw_X11_420 im_X11_heardBehind rfl se_X11_heardBehind rfl rfl rfl ⟨Nat.le_trans (Nat.le_of_ble_eq_true rfl) hRf, Nat.le_trans (Nat.le_of_ble_eq_true rfl) hRl⟩ rfl rfl (Nat.le_of_ble_eq_true rfl) dX11_julian_29 (fun H locs hw => ?_)
    refine lv_istore_n (i := 2) (lv' := [(2, .int r_4), (0, rv Z 1), (1, .int a1)]) hx hb dX11_julian_32 rfl hl (by decide) rfl (fun ls hl => ?_)
    refine gm_aload_n (G := GM) (r := 1) C rfl dX11_julian_33 rfl (lv_at hl 1 rfl) ?_
    refine lv_iconst (v := 1) hx hb dX11_julian_34 (by decide) ?_
    refine gm_putZ (G := GM) (u := u_5) (r := 1) (ci := 10) (k := 46) (v := (1 : Int32)) C hw rfl fl_X11_317 fp_10_46 dX11_julian_35 rfl (by decide) (fun H locs hw => ?_)
    obtain ⟨u_8, e_u_8, hf⟩ := gm_le hf
    rw [← e_u_8] at hw
    refine gm_aload_n (G := GM) (r := 1) C rfl dX11_julian_38 rfl (lv_at hl 1 rfl) ?_
    refine lv_iload_n hx hb dX11_julian_39 rfl (lv_at hl 2 rfl) ?_
    obtain ⟨⟨r_9, u_10⟩, hc_11, hf⟩ := gm_bnd hf
    try dsimp only at hf
    refine gm_callV (G := GM) (u := u_8) (u' := u_10) (r := 1) (ci := 10) (As := [.int a1]) (rest := []) (res := (some (.int r_9))) C hw hl (ok_X11_heardBehind l Z a1 u_8 r_9 u_10 hc_11) cw_X11_420 im_X11_heardBehind rfl se_X11_heardBehind rfl rfl rfl ⟨Nat.le_trans (Nat.le_of_ble_eq_true rfl) hRf, Nat.le_trans (Nat.le_of_ble_eq_true rfl) hRl⟩ rfl rfl (Nat.le_of_ble_eq_true rfl) dX11_julian_40 (fun H locs hw => ?_)
    refine lv_istore_n (i := 3) (lv' := [(3, .int r_9), (2, .int r_4), (0, rv Z 1), (1, .int a1)]) hx hb dX11_julian_43 rfl hl (by decide) rfl (fun ls hl => ?_)
    refine gm_aload_n (G := GM) (r := 1) C rfl dX11_julian_44 rfl (lv_at hl 2 rfl) ?_
    refine lv_iconst (v := 0) hx hb dX11_julian_45 (by decide) ?_
    refine gm_putZ (G := GM) (u := u_10) (r := 1) (ci := 10) (k := 46) (v := (0 : Int32)) C hw rfl fl_X11_317 fp_10_46 dX11_julian_46 rfl (by decide) (fun H locs hw => ?_)
    obtain ⟨u_13, e_u_13, hf⟩ := gm_le hf
    rw [← e_u_13] at hw
    refine lv_iload_n hx hb dX11_julian_49 rfl (lv_at hl 0 rfl) ?_
    refine lv_iload_n hx hb dX11_julian_50 rfl (lv_at hl 1 rfl) ?_
    refine lv_iconst (v := -1) hx hb dX11_julian_51 (by decide) ?_
    refine lv_ixor hx hb dX11_julian_52 ?_
    refine lv_iand hx hb dX11_julian_53 ?_
    exact gm_iret C E hw rfl ((congrArg (fun z => some (Value.int z)) (gm_sp hf).1).symm) (gm_sp hf).2.symm dX11_julian_54
  · replace hf := (if_pos hc).symm.trans hf
    refine lv_iconst (v := -1) hx hb dX11_julian_15 (by decide) ?_
    exact gm_iret C E hw rfl ((congrArg (fun z => some (Value.int z)) (gm_sp hf).1).symm) (gm_sp hf).2.symm dX11_julian_16
/-! LeapCapitalModel.stale -/
def b_X11_stale_35 (r_5 : Int32) : (Int32 × gm_M) → Option ((Int32 × gm_M) ⊕ gm_M) := fun x => match x with | (v2_8, u_7) => if (99 : Int32) ≤ v2_8 then some (.inr u_7) else (f_X11_passes u_7).bind fun o => match o with | (r_9, u_10) => some (.inl (v2_8 + (1 : Int32), u_10))
def f_X11_stale  (u : gm_M) : Option (Int32 × gm_M) := gm_let (sI u 1 0 (0 : Int32)) fun u_1 => gm_let (sI u_1 1 49 (gI u_1 3 2)) fun u_2 => (f_X11_copies 29 22 (0 : Int32) 31 22 (0 : Int32) u_2).bind fun u_3 => (f_X11_inQueue u_3).bind fun r_5 => ((gm_lp (b_X11_stale_35 r_5) gm_FU ((0 : Int32), u_3)).bind fun o => match o with | u_13 => (f_X11_inQueue u_13).bind fun r_14 => gm_let (r_5 &&& (((gI u_13 29 3) ^^^ (-1 : Int32)) &&& (r_14 ^^^ (-1 : Int32)))) fun v1_16 => (f_X11_copies 31 22 (0 : Int32) 29 22 (0 : Int32) u_13).bind fun u_17 => some (v1_16, u_17))
set_option maxRecDepth 100000 in
set_option maxHeartbeats 4000000 in
theorem ok_X11_stale (l : Launch) (Z : gm_Z)  (u : gm_M)  (r : Int32) (u' : gm_M) (hf : f_X11_stale u = some (r, u')) : gm_Met l GM Z yX11_stale cX11_stale 3 (some .int) ({ frames := 7, cells := 0, slots := 0, locals := 160 }) [rv Z 1] u (some (.int r)) u' := by
  unfold f_X11_stale at hf
  refine gm_ofW (by decide +kernel) (Nat.le_of_ble_eq_true rfl) ?_
  intro p e s m args below meth c A ls Q R hRf hRl C E hl hw
  obtain ⟨hx, hb, -⟩ := id C
  have hl : lv_has ls 3 [(0, rv Z 1)] := hl
  refine gm_aload_n (G := GM) (r := 1) C rfl dX11_stale_0 rfl (lv_at hl 0 rfl) ?_
  refine lv_iconst (v := 0) hx hb dX11_stale_1 (by decide) ?_
  refine gm_putI (G := GM) (u := u) (r := 1) (ci := 10) (k := 0) (v := (0 : Int32)) C hw rfl fl_X11_137 fp_10_0 dX11_stale_2 rfl (fun H locs hw => ?_)
  obtain ⟨u_1, e_u_1, hf⟩ := gm_le hf
  rw [← e_u_1] at hw
  refine gm_aload_n (G := GM) (r := 1) C rfl dX11_stale_5 rfl (lv_at hl 0 rfl) ?_
  refine gm_aload_n (G := GM) (r := 1) C rfl dX11_stale_6 rfl (lv_at hl 0 rfl) ?_
  refine gm_getS (G := GM) (u := u_1) (r := 1) (ci := 10) (k := 10) C hw rfl fl_X11_13 dX11_stale_7 rfl (q := 3) rfl ?_
  refine lv_iconst (v := 2) hx hb dX11_stale_10 (by decide) ?_
  refine gm_iald (G := GM) (u := u_1) (r := 3) (n := 8) (i := (2 : Int32)) C hw rfl (by decide) (j := 2) (by decide) dX11_stale_11 ?_
  refine gm_putI (G := GM) (u := u_1) (r := 1) (ci := 10) (k := 49) (v := gI u_1 3 2) C hw rfl fl_X11_117 fp_10_49 dX11_stale_12 rfl (fun H locs hw => ?_)
  obtain ⟨u_2, e_u_2, hf⟩ := gm_le hf
  rw [← e_u_2] at hw
  refine gm_aload_n (G := GM) (r := 1) C rfl dX11_stale_15 rfl (lv_at hl 0 rfl) ?_
  refine gm_getS (G := GM) (u := u_2) (r := 1) (ci := 10) (k := 39) C hw rfl fl_X11_93 dX11_stale_16 rfl (q := 29) rfl ?_
  refine lv_iconst (v := 0) hx hb dX11_stale_19 (by decide) ?_
  refine gm_aload_n (G := GM) (r := 1) C rfl dX11_stale_20 rfl (lv_at hl 0 rfl) ?_
  refine gm_getS (G := GM) (u := u_2) (r := 1) (ci := 10) (k := 41) C hw rfl fl_X11_99 dX11_stale_21 rfl (q := 31) rfl ?_
  refine lv_iconst (v := 0) hx hb dX11_stale_24 (by decide) ?_
  obtain ⟨u_3, hc_4, hf⟩ := gm_bnd hf
  refine gm_callS (G := GM) (u := u_2) (u' := u_3) (As := [rv Z 29, .int (0 : Int32), rv Z 31, .int (0 : Int32)]) (rest := []) (res := none) C hw hl (ok_X11_copies l Z 29 22 (0 : Int32) 31 22 (0 : Int32) u_2 rfl rfl u_3 hc_4) cw_X11_376 st_X11_copies rfl rfl ⟨Nat.le_trans (Nat.le_of_ble_eq_true rfl) hRf, Nat.le_trans (Nat.le_of_ble_eq_true rfl) hRl⟩ rfl rfl (Nat.le_of_ble_eq_true rfl) dX11_stale_25 (fun H locs hw => ?_)
  refine gm_aload_n (G := GM) (r := 1) C rfl dX11_stale_28 rfl (lv_at hl 0 rfl) ?_
  obtain ⟨r_5, hc_6, hf⟩ := gm_bnd hf
  refine gm_callV (G := GM) (u := u_3) (u' := u_3) (r := 1) (ci := 10) (As := []) (rest := []) (res := (some (.int r_5))) C hw hl (ok_X11_inQueue l Z u_3 r_5 hc_6) cw_X11_423 im_X11_inQueue rfl se_X11_inQueue rfl rfl rfl ⟨Nat.le_trans (Nat.le_of_ble_eq_true rfl) hRf, Nat.le_trans (Nat.le_of_ble_eq_true rfl) hRl⟩ rfl rfl (Nat.le_of_ble_eq_true rfl) dX11_stale_29 (fun H locs hw => ?_)
  refine lv_istore_n (i := 1) (lv' := [(1, .int r_5), (0, rv Z 1)]) hx hb dX11_stale_32 rfl hl (by decide) rfl (fun ls hl => ?_)
  refine lv_iconst (v := 0) hx hb dX11_stale_33 (by decide) ?_
  refine lv_istore_n (i := 2) (lv' := [(2, .int (0 : Int32)), (1, .int r_5), (0, rv Z 1)]) hx hb dX11_stale_34 rfl hl (by decide) rfl (fun ls hl => ?_)
  obtain ⟨o1, hlp, hf⟩ := gm_bnd hf
  have L35_1 := gm_loop (b_X11_stale_35 r_5) (fun x : (Int32 × gm_M) => ∀ (H : Heap) (locs : List Loc) (ls : Array Slot), lv_has ls 3 [(0, rv Z 1), (1, .int r_5), (2, .int x.1)] → wd GM Z x.2 A s.heap H locs → W p l e R s m args below meth c H locs 0 0 Q (F0 m 35 ls [])) (fun z : gm_M => ∀ (H : Heap) (locs : List Loc) (ls : Array Slot), lv_has ls 3 [(0, rv Z 1), (1, .int r_5)] → wd GM Z z A s.heap H locs → W p l e R s m args below meth c H locs 0 0 Q (F0 m 52 ls [])) (by
    intro x o1 hf Kc Kx
    obtain ⟨v2_8, u_7⟩ := x
    intro H locs ls hl hw
    unfold b_X11_stale_35 at hf
    try dsimp only at hf
    refine lv_iload_n hx hb dX11_stale_35 rfl (lv_at hl 2 rfl) ?_
    refine lv_bipush (v := 99) hx hb dX11_stale_36 (by decide) ?_
    refine lv_icmp_ge (tgt := 52) hx hb dX11_stale_38 (by decide) (fun hc => ?_) (fun hc => ?_)
    · replace hf := (if_pos hc).symm.trans hf
      exact Kx _ (gm_si hf) _ _ _ (lv_sub hl [0, 1] rfl) hw
    · replace hf := (if_neg hc).symm.trans hf
      refine gm_aload_n (G := GM) (r := 1) C rfl dX11_stale_41 rfl (lv_at hl 0 rfl) ?_
      obtain ⟨⟨r_9, u_10⟩, hc_11, hf⟩ := gm_bnd hf
      try dsimp only at hf
      refine gm_callV (G := GM) (u := u_7) (u' := u_10) (r := 1) (ci := 10) (As := []) (rest := []) (res := (some (.int r_9))) C hw hl (ok_X11_passes l Z u_7 r_9 u_10 hc_11) cw_X11_370 im_X11_passes rfl se_X11_passes rfl rfl rfl ⟨Nat.le_trans (Nat.le_of_ble_eq_true rfl) hRf, Nat.le_trans (Nat.le_of_ble_eq_true rfl) hRl⟩ rfl rfl (Nat.le_of_ble_eq_true rfl) dX11_stale_42 (fun H locs hw => ?_)
      refine lv_pop hx hb dX11_stale_45 rfl ?_
      refine lv_iinc (v := v2_8 + (1 : Int32)) (lv' := [(2, .int (v2_8 + (1 : Int32))), (0, rv Z 1), (1, .int r_5)]) hx hb dX11_stale_46 hl (k := 2) rfl rfl (by decide) rfl (fun ls hl => ?_)
      refine lv_goto (tgt := 35) hx hb dX11_stale_49 (by decide) ?_
      exact Kc _ (gm_si hf) _ _ _ (lv_sub hl [1, 2, 0] rfl) hw)
  refine L35_1 _ _ _ hlp ?_ _ _ _ (lv_sub hl [2, 1, 0] rfl) hw
  obtain ⟨u_13, rfl⟩ : ∃ y, y = o1 := ⟨_, rfl⟩
  intro H locs ls hl hw
  try dsimp only at hf
  refine lv_iload_n hx hb dX11_stale_52 rfl (lv_at hl 1 rfl) ?_
  refine gm_aload_n (G := GM) (r := 1) C rfl dX11_stale_53 rfl (lv_at hl 0 rfl) ?_
  refine gm_getS (G := GM) (u := u_13) (r := 1) (ci := 10) (k := 39) C hw rfl fl_X11_93 dX11_stale_54 rfl (q := 29) rfl ?_
  refine lv_iconst (v := 3) hx hb dX11_stale_57 (by decide) ?_
  refine gm_iald (G := GM) (u := u_13) (r := 29) (n := 22) (i := (3 : Int32)) C hw rfl (by decide) (j := 3) (by decide) dX11_stale_58 ?_
  refine lv_iconst (v := -1) hx hb dX11_stale_59 (by decide) ?_
  refine lv_ixor hx hb dX11_stale_60 ?_
  refine gm_aload_n (G := GM) (r := 1) C rfl dX11_stale_61 rfl (lv_at hl 0 rfl) ?_
  obtain ⟨r_14, hc_15, hf⟩ := gm_bnd hf
  refine gm_callV (G := GM) (u := u_13) (u' := u_13) (r := 1) (ci := 10) (As := []) (rest := [.int ((gI u_13 29 3) ^^^ (-1 : Int32)), .int r_5]) (res := (some (.int r_14))) C hw hl (ok_X11_inQueue l Z u_13 r_14 hc_15) cw_X11_423 im_X11_inQueue rfl se_X11_inQueue rfl rfl rfl ⟨Nat.le_trans (Nat.le_of_ble_eq_true rfl) hRf, Nat.le_trans (Nat.le_of_ble_eq_true rfl) hRl⟩ rfl rfl (Nat.le_of_ble_eq_true rfl) dX11_stale_62 (fun H locs hw => ?_)
  refine lv_iconst (v := -1) hx hb dX11_stale_65 (by decide) ?_
  refine lv_ixor hx hb dX11_stale_66 ?_
  refine lv_iand hx hb dX11_stale_67 ?_
  refine lv_iand hx hb dX11_stale_68 ?_
  obtain ⟨v1_16, e_v1_16, hf⟩ := gm_le hf
  refine gm_topI e_v1_16 ?_
  refine lv_istore_n (i := 1) (lv' := [(1, .int v1_16), (0, rv Z 1)]) hx hb dX11_stale_69 rfl hl (by decide) rfl (fun ls hl => ?_)
  refine gm_aload_n (G := GM) (r := 1) C rfl dX11_stale_70 rfl (lv_at hl 1 rfl) ?_
  refine gm_getS (G := GM) (u := u_13) (r := 1) (ci := 10) (k := 41) C hw rfl fl_X11_99 dX11_stale_71 rfl (q := 31) rfl ?_
  refine lv_iconst (v := 0) hx hb dX11_stale_74 (by decide) ?_
  refine gm_aload_n (G := GM) (r := 1) C rfl dX11_stale_75 rfl (lv_at hl 1 rfl) ?_
  refine gm_getS (G := GM) (u := u_13) (r := 1) (ci := 10) (k := 39) C hw rfl fl_X11_93 dX11_stale_76 rfl (q := 29) rfl ?_
  refine lv_iconst (v := 0) hx hb dX11_stale_79 (by decide) ?_
  obtain ⟨u_17, hc_18, hf⟩ := gm_bnd hf
  refine gm_callS (G := GM) (u := u_13) (u' := u_17) (As := [rv Z 31, .int (0 : Int32), rv Z 29, .int (0 : Int32)]) (rest := []) (res := none) C hw hl (ok_X11_copies l Z 31 22 (0 : Int32) 29 22 (0 : Int32) u_13 rfl rfl u_17 hc_18) cw_X11_376 st_X11_copies rfl rfl ⟨Nat.le_trans (Nat.le_of_ble_eq_true rfl) hRf, Nat.le_trans (Nat.le_of_ble_eq_true rfl) hRl⟩ rfl rfl (Nat.le_of_ble_eq_true rfl) dX11_stale_80 (fun H locs hw => ?_)
  refine lv_iload_n hx hb dX11_stale_83 rfl (lv_at hl 0 rfl) ?_
  exact gm_iret C E hw rfl ((congrArg (fun z => some (Value.int z)) (gm_sp hf).1).symm) (gm_sp hf).2.symm dX11_stale_84
/-! LeapCapitalModel.say -/
def f_X11_say (a1 : Int32) (a2 : Int32) (u : gm_M) : Option (Int32 × gm_M) := gm_let (sI u 1 0 (0 : Int32)) fun u_1 => gm_let (f_X11_within a1 (0 : Int32) (40 : Int32)) fun r_2 => if r_2 = 0 then some ((0 : Int32), u_1) else if (gI u_1 26 0) = (8 : Int32) then some ((0 : Int32), u_1) else if ib (gI u_1 26 0) 40 = true then gm_let (sI u_1 27 (ix (gI u_1 26 0)) a1) fun u_4 => if ib (gI u_4 26 0) 40 = true then gm_let (sI u_4 28 (ix (gI u_4 26 0)) (a2 &&& 1)) fun u_6 => gm_let (sI u_6 26 0 ((gI u_6 26 0) + (1 : Int32))) fun u_7 => some ((1 : Int32), u_7) else none else none
set_option maxRecDepth 100000 in
set_option maxHeartbeats 4000000 in
theorem ok_X11_say (l : Launch) (Z : gm_Z) (a1 : Int32) (a2 : Int32) (u : gm_M)  (r : Int32) (u' : gm_M) (hf : f_X11_say a1 a2 u = some (r, u')) : gm_Met l GM Z yX11_say cX11_say 3 (some .boolean) ({ frames := 1, cells := 0, slots := 0, locals := 22 }) [rv Z 1, .int a1, .int a2] u (some (.int r)) u' := by
  unfold f_X11_say at hf
  refine gm_ofW (by decide +kernel) (Nat.le_of_ble_eq_true rfl) ?_
  intro p e s m args below meth c A ls Q R hRf hRl C E hl hw
  obtain ⟨hx, hb, -⟩ := id C
  have hl : lv_has ls 3 [(0, rv Z 1), (1, .int a1), (2, .int a2)] := hl
  refine gm_aload_n (G := GM) (r := 1) C rfl dX11_say_0 rfl (lv_at hl 0 rfl) ?_
  refine lv_iconst (v := 0) hx hb dX11_say_1 (by decide) ?_
  refine gm_putI (G := GM) (u := u) (r := 1) (ci := 10) (k := 0) (v := (0 : Int32)) C hw rfl fl_X11_137 fp_10_0 dX11_say_2 rfl (fun H locs hw => ?_)
  obtain ⟨u_1, e_u_1, hf⟩ := gm_le hf
  rw [← e_u_1] at hw
  refine lv_iload_n hx hb dX11_say_5 rfl (lv_at hl 1 rfl) ?_
  refine lv_iconst (v := 0) hx hb dX11_say_6 (by decide) ?_
  refine lv_bipush (v := 40) hx hb dX11_say_7 (by decide) ?_
  obtain ⟨r_2, e_r_2, hf⟩ := gm_le hf
  refine gm_callS (G := GM) (u := u_1) (u' := u_1) (As := [.int a1, .int (0 : Int32), .int (40 : Int32)]) (rest := []) (res := (some (.int (f_X11_within a1 (0 : Int32) (40 : Int32))))) C hw hl (ok_X11_within l Z a1 (0 : Int32) (40 : Int32) u_1) cw_X11_254 st_X11_within rfl rfl ⟨Nat.le_trans (Nat.le_of_ble_eq_true rfl) hRf, Nat.le_trans (Nat.le_of_ble_eq_true rfl) hRl⟩ rfl rfl (Nat.le_of_ble_eq_true rfl) dX11_say_9 (fun H locs hw => ?_)
  refine gm_topI e_r_2 ?_
  refine lv_if_eq (tgt := 26) hx hb dX11_say_12 (by decide) (fun hc => ?_) (fun hc => ?_)
  · replace hf := (if_pos hc).symm.trans hf
    refine lv_iconst (v := 0) hx hb dX11_say_26 (by decide) ?_
    exact gm_zret C E hw rfl rfl ((congrArg (fun z => some (Value.int z)) (gm_sp hf).1).symm) (gm_sp hf).2.symm dX11_say_27
  · replace hf := (if_neg hc).symm.trans hf
    refine gm_aload_n (G := GM) (r := 1) C rfl dX11_say_15 rfl (lv_at hl 0 rfl) ?_
    refine gm_getS (G := GM) (u := u_1) (r := 1) (ci := 10) (k := 36) C hw rfl fl_X11_84 dX11_say_16 rfl (q := 26) rfl ?_
    refine lv_iconst (v := 0) hx hb dX11_say_19 (by decide) ?_
    refine gm_iald (G := GM) (u := u_1) (r := 26) (n := 5) (i := (0 : Int32)) C hw rfl (by decide) (j := 0) (by decide) dX11_say_20 ?_
    refine lv_bipush (v := 8) hx hb dX11_say_21 (by decide) ?_
    refine lv_icmp_ne (tgt := 28) hx hb dX11_say_23 (by decide) (fun hc => ?_) (fun hc => ?_)
    · replace hf := (if_neg hc).symm.trans hf
      refine gm_aload_n (G := GM) (r := 1) C rfl dX11_say_28 rfl (lv_at hl 0 rfl) ?_
      refine gm_getS (G := GM) (u := u_1) (r := 1) (ci := 10) (k := 37) C hw rfl fl_X11_87 dX11_say_29 rfl (q := 27) rfl ?_
      refine gm_aload_n (G := GM) (r := 1) C rfl dX11_say_32 rfl (lv_at hl 0 rfl) ?_
      refine gm_getS (G := GM) (u := u_1) (r := 1) (ci := 10) (k := 36) C hw rfl fl_X11_84 dX11_say_33 rfl (q := 26) rfl ?_
      refine lv_iconst (v := 0) hx hb dX11_say_36 (by decide) ?_
      refine gm_iald (G := GM) (u := u_1) (r := 26) (n := 5) (i := (0 : Int32)) C hw rfl (by decide) (j := 0) (by decide) dX11_say_37 ?_
      refine lv_iload_n hx hb dX11_say_38 rfl (lv_at hl 1 rfl) ?_
      obtain ⟨g_3, hf⟩ := gm_grd hf
      refine gm_iast (G := GM) (u := u_1) (r := 27) (n := 40) (i := gI u_1 26 0) (x := a1) C hw rfl g_3 rfl dX11_say_39 (fun H locs hw => ?_)
      obtain ⟨u_4, e_u_4, hf⟩ := gm_le hf
      rw [← e_u_4] at hw
      refine gm_aload_n (G := GM) (r := 1) C rfl dX11_say_40 rfl (lv_at hl 0 rfl) ?_
      refine gm_getS (G := GM) (u := u_4) (r := 1) (ci := 10) (k := 38) C hw rfl fl_X11_90 dX11_say_41 rfl (q := 28) rfl ?_
      refine gm_aload_n (G := GM) (r := 1) C rfl dX11_say_44 rfl (lv_at hl 0 rfl) ?_
      refine gm_getS (G := GM) (u := u_4) (r := 1) (ci := 10) (k := 36) C hw rfl fl_X11_84 dX11_say_45 rfl (q := 26) rfl ?_
      refine lv_iconst (v := 0) hx hb dX11_say_48 (by decide) ?_
      refine gm_iald (G := GM) (u := u_4) (r := 26) (n := 5) (i := (0 : Int32)) C hw rfl (by decide) (j := 0) (by decide) dX11_say_49 ?_
      refine lv_iload_n hx hb dX11_say_50 rfl (lv_at hl 2 rfl) ?_
      obtain ⟨g_5, hf⟩ := gm_grd hf
      refine gm_zast (G := GM) (u := u_4) (r := 28) (n := 40) (i := gI u_4 26 0) (x := a2) C hw rfl g_5 rfl dX11_say_51 (fun H locs hw => ?_)
      obtain ⟨u_6, e_u_6, hf⟩ := gm_le hf
      rw [← e_u_6] at hw
      refine gm_aload_n (G := GM) (r := 1) C rfl dX11_say_52 rfl (lv_at hl 0 rfl) ?_
      refine gm_getS (G := GM) (u := u_6) (r := 1) (ci := 10) (k := 36) C hw rfl fl_X11_84 dX11_say_53 rfl (q := 26) rfl ?_
      refine lv_iconst (v := 0) hx hb dX11_say_56 (by decide) ?_
      refine lv_dup2_11 hx hb dX11_say_57 rfl (gm_cat _ _) ?_
      refine gm_iald (G := GM) (u := u_6) (r := 26) (n := 5) (i := (0 : Int32)) C hw rfl (by decide) (j := 0) (by decide) dX11_say_58 ?_
      refine lv_iconst (v := 1) hx hb dX11_say_59 (by decide) ?_
      refine lv_iadd hx hb dX11_say_60 ?_
      refine gm_iast (G := GM) (u := u_6) (r := 26) (n := 5) (i := (0 : Int32)) (x := (gI u_6 26 0) + (1 : Int32)) C hw rfl (by decide) (j := 0) (by decide) dX11_say_61 (fun H locs hw => ?_)
      obtain ⟨u_7, e_u_7, hf⟩ := gm_le hf
      rw [← e_u_7] at hw
      refine lv_iconst (v := 1) hx hb dX11_say_62 (by decide) ?_
      exact gm_zret C E hw rfl rfl ((congrArg (fun z => some (Value.int z)) (gm_sp hf).1).symm) (gm_sp hf).2.symm dX11_say_63
    · replace hf := (if_pos hc).symm.trans hf
      refine lv_iconst (v := 0) hx hb dX11_say_26 (by decide) ?_
      exact gm_zret C E hw rfl rfl ((congrArg (fun z => some (Value.int z)) (gm_sp hf).1).symm) (gm_sp hf).2.symm dX11_say_27
/-! LeapCapitalModel.isAsSaid -/
def b_X11_isAsSaid_2 (a1 : Int32) (u : gm_M) : Int32 → Option (Int32 ⊕ (Unit ⊕ Unit)) := fun x => match x with | v2_1 => if (gI u 26 0) ≤ v2_1 then some (.inr (.inr ())) else if ib v2_1 40 = true then gm_let (f_X11_isLeap (a1 + (gI u 27 (ix v2_1)))) fun r_3 => if r_3 = (gI u 28 (ix v2_1)) then some (.inl (v2_1 + (1 : Int32))) else some (.inr (.inl ())) else none
def f_X11_isAsSaid (a1 : Int32) (u : gm_M) : Option Int32 := ((gm_lp (b_X11_isAsSaid_2 a1 u) gm_FU (0 : Int32)).bind fun o => match o with | .inl _ => (some (0 : Int32)) | .inr (_) => (some (1 : Int32)))
set_option maxRecDepth 100000 in
set_option maxHeartbeats 4000000 in
theorem ok_X11_isAsSaid (l : Launch) (Z : gm_Z) (a1 : Int32) (u : gm_M)  (r : Int32) (hf : f_X11_isAsSaid a1 u = some r) : gm_Met l GM Z yX11_isAsSaid cX11_isAsSaid 3 (some .boolean) ({ frames := 1, cells := 0, slots := 0, locals := 20 }) [rv Z 1, .int a1] u (some (.int r)) u := by
  unfold f_X11_isAsSaid at hf
  refine gm_ofW (by decide +kernel) (Nat.le_of_ble_eq_true rfl) ?_
  intro p e s m args below meth c A ls Q R hRf hRl C E hl hw
  obtain ⟨hx, hb, -⟩ := id C
  have hl : lv_has ls 3 [(0, rv Z 1), (1, .int a1)] := hl
  refine lv_iconst (v := 0) hx hb dX11_isAsSaid_0 (by decide) ?_
  refine lv_istore_n (i := 2) (lv' := [(2, .int (0 : Int32)), (0, rv Z 1), (1, .int a1)]) hx hb dX11_isAsSaid_1 rfl hl (by decide) rfl (fun ls hl => ?_)
  obtain ⟨o1, hlp, hf⟩ := gm_bnd hf
  have L2_1 := gm_loop (b_X11_isAsSaid_2 a1 u) (fun x : Int32 => ∀ (H : Heap) (locs : List Loc) (ls : Array Slot), lv_has ls 3 [(0, rv Z 1), (1, .int a1), (2, .int x)] → wd GM Z u A s.heap H locs → W p l e R s m args below meth c H locs 0 0 Q (F0 m 2 ls [])) (fun z : (Unit ⊕ Unit) => match z with | .inl q0 => ∀ (H : Heap) (locs : List Loc) (ls : Array Slot), lv_has ls 3 [] → wd GM Z u A s.heap H locs → W p l e R s m args below meth c H locs 0 0 Q (F0 m 32 ls []) | .inr p0 => ∀ (H : Heap) (locs : List Loc) (ls : Array Slot), lv_has ls 3 [] → wd GM Z u A s.heap H locs → W p l e R s m args below meth c H locs 0 0 Q (F0 m 40 ls [])) (by
    intro x o1 hf Kc Kx
    obtain ⟨v2_1, rfl⟩ : ∃ y, y = x := ⟨_, rfl⟩
    intro H locs ls hl hw
    unfold b_X11_isAsSaid_2 at hf
    try dsimp only at hf
    refine lv_iload_n hx hb dX11_isAsSaid_2 rfl (lv_at hl 2 rfl) ?_
    refine gm_aload_n (G := GM) (r := 1) C rfl dX11_isAsSaid_3 rfl (lv_at hl 0 rfl) ?_
    refine gm_getS (G := GM) (u := u) (r := 1) (ci := 10) (k := 36) C hw rfl fl_X11_84 dX11_isAsSaid_4 rfl (q := 26) rfl ?_
    refine lv_iconst (v := 0) hx hb dX11_isAsSaid_7 (by decide) ?_
    refine gm_iald (G := GM) (u := u) (r := 26) (n := 5) (i := (0 : Int32)) C hw rfl (by decide) (j := 0) (by decide) dX11_isAsSaid_8 ?_
    refine lv_icmp_ge (tgt := 40) hx hb dX11_isAsSaid_9 (by decide) (fun hc => ?_) (fun hc => ?_)
    · replace hf := (if_pos hc).symm.trans hf
      exact Kx _ (gm_si hf) _ _ _ (lv_sub hl [] rfl) hw
    · replace hf := (if_neg hc).symm.trans hf
      refine lv_iload_n hx hb dX11_isAsSaid_12 rfl (lv_at hl 1 rfl) ?_
      refine gm_aload_n (G := GM) (r := 1) C rfl dX11_isAsSaid_13 rfl (lv_at hl 0 rfl) ?_
      refine gm_getS (G := GM) (u := u) (r := 1) (ci := 10) (k := 37) C hw rfl fl_X11_87 dX11_isAsSaid_14 rfl (q := 27) rfl ?_
      refine lv_iload_n hx hb dX11_isAsSaid_17 rfl (lv_at hl 2 rfl) ?_
      obtain ⟨g_2, hf⟩ := gm_grd hf
      refine gm_iald (G := GM) (u := u) (r := 27) (n := 40) (i := v2_1) C hw rfl g_2 rfl dX11_isAsSaid_18 ?_
      refine lv_iadd hx hb dX11_isAsSaid_19 ?_
      obtain ⟨r_3, e_r_3, hf⟩ := gm_le hf
      refine gm_callS (G := GM) (u := u) (u' := u) (As := [.int (a1 + (gI u 27 (ix v2_1)))]) (rest := []) (res := (some (.int (f_X11_isLeap (a1 + (gI u 27 (ix v2_1))))))) C hw hl (ok_X11_isLeap l Z (a1 + (gI u 27 (ix v2_1))) u) cw_X11_321 st_X11_isLeap rfl rfl ⟨Nat.le_trans (Nat.le_of_ble_eq_true rfl) hRf, Nat.le_trans (Nat.le_of_ble_eq_true rfl) hRl⟩ rfl rfl (Nat.le_of_ble_eq_true rfl) dX11_isAsSaid_20 (fun H locs hw => ?_)
      refine gm_topI e_r_3 ?_
      refine gm_aload_n (G := GM) (r := 1) C rfl dX11_isAsSaid_23 rfl (lv_at hl 0 rfl) ?_
      refine gm_getS (G := GM) (u := u) (r := 1) (ci := 10) (k := 38) C hw rfl fl_X11_90 dX11_isAsSaid_24 rfl (q := 28) rfl ?_
      refine lv_iload_n hx hb dX11_isAsSaid_27 rfl (lv_at hl 2 rfl) ?_
      refine gm_zald (G := GM) (u := u) (r := 28) (n := 40) (i := v2_1) C hw rfl g_2 rfl dX11_isAsSaid_28 ?_
      refine lv_icmp_eq (tgt := 34) hx hb dX11_isAsSaid_29 (by decide) (fun hc => ?_) (fun hc => ?_)
      · replace hf := (if_pos hc).symm.trans hf
        refine lv_iinc (v := v2_1 + (1 : Int32)) (lv' := [(2, .int (v2_1 + (1 : Int32))), (0, rv Z 1), (1, .int a1)]) hx hb dX11_isAsSaid_34 hl (k := 2) rfl rfl (by decide) rfl (fun ls hl => ?_)
        refine lv_goto (tgt := 2) hx hb dX11_isAsSaid_37 (by decide) ?_
        exact Kc _ (gm_si hf) _ _ _ (lv_sub hl [1, 2, 0] rfl) hw
      · replace hf := (if_neg hc).symm.trans hf
        exact Kx _ (gm_si hf) _ _ _ (lv_sub hl [] rfl) hw)
  refine L2_1 _ _ _ hlp ?_ _ _ _ (lv_sub hl [1, 2, 0] rfl) hw
  cases o1 with
  | inl q0_z_4 =>
    intro H locs ls hl hw
    try dsimp only at hf
    refine lv_iconst (v := 0) hx hb dX11_isAsSaid_32 (by decide) ?_
    exact gm_zret C E hw rfl rfl ((congrArg (fun z => some (Value.int z)) (Option.some.inj hf)).symm) rfl dX11_isAsSaid_33
  | inr p0_z_4 =>
    intro H locs ls hl hw
    try dsimp only at hf
    refine lv_iconst (v := 1) hx hb dX11_isAsSaid_40 (by decide) ?_
    exact gm_zret C E hw rfl rfl ((congrArg (fun z => some (Value.int z)) (Option.some.inj hf)).symm) rfl dX11_isAsSaid_41
