/-! LeapCapitalModel.fits -/
def b_X11_fits_26 (a1 : Int32) (u_1 : gm_M) : (Int32 × Int32 × Int32 × Int32) → Option ((Int32 × Int32 × Int32 × Int32) ⊕ ((Int32 × Int32 × Int32))) := fun x => match x with | (v2_3, v3_4, v4_5, v5_6) => if (2001 : Int32) ≤ v5_6 then some (.inr (v2_3, v3_4, v4_5)) else (f_X11_isAsSaid v5_6 u_1).bind fun r_7 => if r_7 = 0 then some (.inl (v2_3, v3_4, v4_5, v5_6 + (1 : Int32))) else if 0 ≤ v3_4 then some (.inl (v2_3 + (1 : Int32), v3_4, v5_6, v5_6 + (1 : Int32))) else some (.inl (v2_3 + (1 : Int32), v5_6, v5_6, v5_6 + (1 : Int32)))
def f_X11_fits (a1 : Int32) (u : gm_M) : Option (Int32 × gm_M) := gm_let (sI u 1 0 (0 : Int32)) fun u_1 => gm_let (f_X11_within a1 (0 : Int32) (2 : Int32)) fun r_2 => if r_2 = 0 then some ((-1 : Int32), u_1) else ((gm_lp (b_X11_fits_26 a1 u_1) gm_FU ((0 : Int32), (-1 : Int32), (-1 : Int32), (1 : Int32))).bind fun o => match o with | (w2_9, w3_10, w4_11) => if a1 = 0 then some (w2_9, u_1) else if a1 = (1 : Int32) then some (w3_10, u_1) else some (w4_11, u_1))
set_option maxRecDepth 100000 in
set_option maxHeartbeats 4000000 in
theorem ok_X11_fits (l : Launch) (Z : gm_Z) (a1 : Int32) (u : gm_M)  (r : Int32) (u' : gm_M) (hf : f_X11_fits a1 u = some (r, u')) : gm_Met l GM Z yX11_fits cX11_fits 6 (some .int) ({ frames := 2, cells := 0, slots := 0, locals := 42 }) [rv Z 1, .int a1] u (some (.int r)) u' := by
  unfold f_X11_fits at hf
  refine gm_ofW (by decide +kernel) (Nat.le_of_ble_eq_true rfl) ?_
  intro p e s m args below meth c A ls Q R hRf hRl C E hl hw
  obtain ⟨hx, hb, -⟩ := id C
  have hl : lv_has ls 6 [(0, rv Z 1), (1, .int a1)] := hl
  refine gm_aload_n (G := GM) (r := 1) C rfl dX11_fits_0 rfl (lv_at hl 0 rfl) ?_
  refine lv_iconst (v := 0) hx hb dX11_fits_1 (by decide) ?_
  refine gm_putI (G := GM) (u := u) (r := 1) (ci := 10) (k := 0) (v := (0 : Int32)) C hw rfl fl_X11_137 fp_10_0 dX11_fits_2 rfl (fun H locs hw => ?_)
  obtain ⟨u_1, e_u_1, hf⟩ := gm_le hf
  rw [← e_u_1] at hw
  refine lv_iload_n hx hb dX11_fits_5 rfl (lv_at hl 1 rfl) ?_
  refine lv_iconst (v := 0) hx hb dX11_fits_6 (by decide) ?_
  refine lv_iconst (v := 2) hx hb dX11_fits_7 (by decide) ?_
  obtain ⟨r_2, e_r_2, hf⟩ := gm_le hf
  refine gm_callS (G := GM) (u := u_1) (u' := u_1) (As := [.int a1, .int (0 : Int32), .int (2 : Int32)]) (rest := []) (res := (some (.int (f_X11_within a1 (0 : Int32) (2 : Int32))))) C hw hl (ok_X11_within l Z a1 (0 : Int32) (2 : Int32) u_1) cw_X11_254 st_X11_within rfl rfl ⟨Nat.le_trans (Nat.le_of_ble_eq_true rfl) hRf, Nat.le_trans (Nat.le_of_ble_eq_true rfl) hRl⟩ rfl rfl (Nat.le_of_ble_eq_true rfl) dX11_fits_8 (fun H locs hw => ?_)
  refine gm_topI e_r_2 ?_
  refine lv_if_ne (tgt := 16) hx hb dX11_fits_11 (by decide) (fun hc => ?_) (fun hc => ?_)
  · replace hf := (if_neg hc).symm.trans hf
    refine lv_iconst (v := 0) hx hb dX11_fits_16 (by decide) ?_
    refine lv_istore_n (i := 2) (lv' := [(2, .int (0 : Int32)), (0, rv Z 1), (1, .int a1)]) hx hb dX11_fits_17 rfl hl (by decide) rfl (fun ls hl => ?_)
    refine lv_iconst (v := -1) hx hb dX11_fits_18 (by decide) ?_
    refine lv_istore_n (i := 3) (lv' := [(3, .int (-1 : Int32)), (2, .int (0 : Int32)), (0, rv Z 1), (1, .int a1)]) hx hb dX11_fits_19 rfl hl (by decide) rfl (fun ls hl => ?_)
    refine lv_iconst (v := -1) hx hb dX11_fits_20 (by decide) ?_
    refine lv_istore (i := 4) (lv' := [(4, .int (-1 : Int32)), (3, .int (-1 : Int32)), (2, .int (0 : Int32)), (0, rv Z 1), (1, .int a1)]) hx hb dX11_fits_21 hl (by decide) rfl (fun ls hl => ?_)
    refine lv_iconst (v := 1) hx hb dX11_fits_23 (by decide) ?_
    refine lv_istore (i := 5) (lv' := [(5, .int (1 : Int32)), (4, .int (-1 : Int32)), (3, .int (-1 : Int32)), (2, .int (0 : Int32)), (0, rv Z 1), (1, .int a1)]) hx hb dX11_fits_24 hl (by decide) rfl (fun ls hl => ?_)
    obtain ⟨o1, hlp, hf⟩ := gm_bnd hf
    have L26_1 := gm_loop (b_X11_fits_26 a1 u_1) (fun x : (Int32 × Int32 × Int32 × Int32) => ∀ (H : Heap) (locs : List Loc) (ls : Array Slot), lv_has ls 6 [(0, rv Z 1), (1, .int a1), (2, .int x.1), (3, .int x.2.1), (4, .int x.2.2.1), (5, .int x.2.2.2)] → wd GM Z u_1 A s.heap H locs → W p l e R s m args below meth c H locs 0 0 Q (F0 m 26 ls [])) (fun z : ((Int32 × Int32 × Int32)) => ∀ (H : Heap) (locs : List Loc) (ls : Array Slot), lv_has ls 6 [(1, .int a1), (2, .int z.1), (3, .int z.2.1), (4, .int z.2.2)] → wd GM Z u_1 A s.heap H locs → W p l e R s m args below meth c H locs 0 0 Q (F0 m 66 ls [])) (by
      intro x o1 hf Kc Kx
      obtain ⟨v2_3, v3_4, v4_5, v5_6⟩ := x
      intro H locs ls hl hw
      unfold b_X11_fits_26 at hf
      try dsimp only at hf
      refine lv_iload hx hb dX11_fits_26 (lv_at hl 5 rfl) ?_
      refine lv_sipush (v := 2001) hx hb dX11_fits_28 (by decide) ?_
      refine lv_icmp_ge (tgt := 66) hx hb dX11_fits_31 (by decide) (fun hc => ?_) (fun hc => ?_)
      · replace hf := (if_pos hc).symm.trans hf
        exact Kx _ (gm_si hf) _ _ _ (lv_sub hl [1, 2, 3, 4] rfl) hw
      · replace hf := (if_neg hc).symm.trans hf
        refine gm_aload_n (G := GM) (r := 1) C rfl dX11_fits_34 rfl (lv_at hl 0 rfl) ?_
        refine lv_iload hx hb dX11_fits_35 (lv_at hl 5 rfl) ?_
        obtain ⟨r_7, hc_8, hf⟩ := gm_bnd hf
        refine gm_callV (G := GM) (u := u_1) (u' := u_1) (r := 1) (ci := 10) (As := [.int v5_6]) (rest := []) (res := (some (.int r_7))) C hw hl (ok_X11_isAsSaid l Z v5_6 u_1 r_7 hc_8) cw_X11_426 im_X11_isAsSaid rfl se_X11_isAsSaid rfl rfl rfl ⟨Nat.le_trans (Nat.le_of_ble_eq_true rfl) hRf, Nat.le_trans (Nat.le_of_ble_eq_true rfl) hRl⟩ rfl rfl (Nat.le_of_ble_eq_true rfl) dX11_fits_37 (fun H locs hw => ?_)
        refine lv_if_ne (tgt := 46) hx hb dX11_fits_40 (by decide) (fun hc => ?_) (fun hc => ?_)
        · replace hf := (if_neg hc).symm.trans hf
          refine lv_iinc (v := v2_3 + (1 : Int32)) (lv' := [(2, .int (v2_3 + (1 : Int32))), (0, rv Z 1), (1, .int a1), (3, .int v3_4), (4, .int v4_5), (5, .int v5_6)]) hx hb dX11_fits_46 hl (k := 2) rfl rfl (by decide) rfl (fun ls hl => ?_)
          refine lv_iload_n hx hb dX11_fits_49 rfl (lv_at hl 3 rfl) ?_
          refine lv_if_ge (tgt := 56) hx hb dX11_fits_50 (by decide) (fun hc => ?_) (fun hc => ?_)
          · replace hf := (if_pos hc).symm.trans hf
            refine lv_iload hx hb dX11_fits_56 (lv_at hl 5 rfl) ?_
            refine lv_istore (i := 4) (lv' := [(4, .int v5_6), (2, .int (v2_3 + (1 : Int32))), (0, rv Z 1), (1, .int a1), (3, .int v3_4), (5, .int v5_6)]) hx hb dX11_fits_58 hl (by decide) rfl (fun ls hl => ?_)
            refine lv_iinc (v := v5_6 + (1 : Int32)) (lv' := [(5, .int (v5_6 + (1 : Int32))), (4, .int v5_6), (2, .int (v2_3 + (1 : Int32))), (0, rv Z 1), (1, .int a1), (3, .int v3_4)]) hx hb dX11_fits_60 hl (k := 5) rfl rfl (by decide) rfl (fun ls hl => ?_)
            refine lv_goto (tgt := 26) hx hb dX11_fits_63 (by decide) ?_
            exact Kc _ (gm_si hf) _ _ _ (lv_sub hl [3, 4, 2, 5, 1, 0] rfl) hw
          · replace hf := (if_neg hc).symm.trans hf
            refine lv_iload hx hb dX11_fits_53 (lv_at hl 5 rfl) ?_
            refine lv_istore_n (i := 3) (lv' := [(3, .int v5_6), (2, .int (v2_3 + (1 : Int32))), (0, rv Z 1), (1, .int a1), (4, .int v4_5), (5, .int v5_6)]) hx hb dX11_fits_55 rfl hl (by decide) rfl (fun ls hl => ?_)
            refine lv_iload hx hb dX11_fits_56 (lv_at hl 5 rfl) ?_
            refine lv_istore (i := 4) (lv' := [(4, .int v5_6), (3, .int v5_6), (2, .int (v2_3 + (1 : Int32))), (0, rv Z 1), (1, .int a1), (5, .int v5_6)]) hx hb dX11_fits_58 hl (by decide) rfl (fun ls hl => ?_)
            refine lv_iinc (v := v5_6 + (1 : Int32)) (lv' := [(5, .int (v5_6 + (1 : Int32))), (4, .int v5_6), (3, .int v5_6), (2, .int (v2_3 + (1 : Int32))), (0, rv Z 1), (1, .int a1)]) hx hb dX11_fits_60 hl (k := 5) rfl rfl (by decide) rfl (fun ls hl => ?_)
            refine lv_goto (tgt := 26) hx hb dX11_fits_63 (by decide) ?_
            exact Kc _ (gm_si hf) _ _ _ (lv_sub hl [4, 5, 3, 2, 1, 0] rfl) hw
        · replace hf := (if_pos hc).symm.trans hf
          refine lv_goto (tgt := 60) hx hb dX11_fits_43 (by decide) ?_
          refine lv_iinc (v := v5_6 + (1 : Int32)) (lv' := [(5, .int (v5_6 + (1 : Int32))), (0, rv Z 1), (1, .int a1), (2, .int v2_3), (3, .int v3_4), (4, .int v4_5)]) hx hb dX11_fits_60 hl (k := 5) rfl rfl (by decide) rfl (fun ls hl => ?_)
          refine lv_goto (tgt := 26) hx hb dX11_fits_63 (by decide) ?_
          exact Kc _ (gm_si hf) _ _ _ (lv_sub hl [1, 2, 3, 4, 5, 0] rfl) hw)
    refine L26_1 _ _ _ hlp ?_ _ _ _ (lv_sub hl [4, 5, 3, 2, 1, 0] rfl) hw
    obtain ⟨w2_9, w3_10, w4_11⟩ := o1
    intro H locs ls hl hw
    try dsimp only at hf
    refine lv_iload_n hx hb dX11_fits_66 rfl (lv_at hl 0 rfl) ?_
    refine lv_if_ne (tgt := 74) hx hb dX11_fits_67 (by decide) (fun hc => ?_) (fun hc => ?_)
    · replace hf := (if_neg hc).symm.trans hf
      refine lv_iload_n hx hb dX11_fits_74 rfl (lv_at hl 0 rfl) ?_
      refine lv_iconst (v := 1) hx hb dX11_fits_75 (by decide) ?_
      refine lv_icmp_ne (tgt := 83) hx hb dX11_fits_76 (by decide) (fun hc => ?_) (fun hc => ?_)
      · replace hf := (if_neg hc).symm.trans hf
        refine lv_iload hx hb dX11_fits_83 (lv_at hl 3 rfl) ?_
        exact gm_iret C E hw rfl ((congrArg (fun z => some (Value.int z)) (gm_sp hf).1).symm) (gm_sp hf).2.symm dX11_fits_85
      · replace hf := (if_pos hc).symm.trans hf
        refine lv_iload_n hx hb dX11_fits_79 rfl (lv_at hl 2 rfl) ?_
        refine lv_goto (tgt := 85) hx hb dX11_fits_80 (by decide) ?_
        exact gm_iret C E hw rfl ((congrArg (fun z => some (Value.int z)) (gm_sp hf).1).symm) (gm_sp hf).2.symm dX11_fits_85
    · replace hf := (if_pos hc).symm.trans hf
      refine lv_iload_n hx hb dX11_fits_70 rfl (lv_at hl 1 rfl) ?_
      refine lv_goto (tgt := 85) hx hb dX11_fits_71 (by decide) ?_
      exact gm_iret C E hw rfl ((congrArg (fun z => some (Value.int z)) (gm_sp hf).1).symm) (gm_sp hf).2.symm dX11_fits_85
  · replace hf := (if_pos hc).symm.trans hf
    refine lv_iconst (v := -1) hx hb dX11_fits_14 (by decide) ?_
    exact gm_iret C E hw rfl ((congrArg (fun z => some (Value.int z)) (gm_sp hf).1).symm) (gm_sp hf).2.symm dX11_fits_15
/-! LeapCapitalModel.ask -/
def b_X11_ask_7 : (Int32 × gm_M) → Option ((Int32 × gm_M) ⊕ gm_M) := fun x => match x with | (v1_3, u_2) => if (41 : Int32) ≤ v1_3 then some (.inr u_2) else if ib v1_3 41 = true then gm_let (sI u_2 39 (ix v1_3) (0 : Int32)) fun u_5 => some (.inl (v1_3 + (1 : Int32), u_5)) else none
def j_X11_ask_80 (v1_13 : Int32) (v2_9 : Int32) (v3_16 : Int32) (t_17 : Int32) (t_18 : Int32) (t_19 : Int32) (u_15 : gm_M) : Option ((Int32 × gm_M) ⊕ gm_M) := if ib t_17 41 = true then gm_let (sI u_15 39 (ix t_17) (t_18 + t_19)) fun u_21 => some (.inl (v3_16 + (1 : Int32), u_21)) else none
def b_X11_ask_53 (v1_13 : Int32) (v2_9 : Int32) : (Int32 × gm_M) → Option ((Int32 × gm_M) ⊕ gm_M) := fun x => match x with | (v3_14, u_12) => if (41 : Int32) ≤ v3_14 then some (.inr u_12) else if ib v3_14 41 = true then gm_let (f_X11_isLeap (v2_9 + v3_14)) fun r_23 => if r_23 = 0 then j_X11_ask_80 v1_13 v2_9 v3_14 v3_14 (gI u_12 39 (ix v3_14)) (0 : Int32) u_12 else j_X11_ask_80 v1_13 v2_9 v3_14 v3_14 (gI u_12 39 (ix v3_14)) (1 : Int32) u_12 else none
def b_X11_ask_30 : (Int32 × Int32 × gm_M) → Option ((Int32 × Int32 × gm_M) ⊕ ((Int32 × gm_M))) := fun x => match x with | (v1_8, v2_9, u_7) => if (2001 : Int32) ≤ v2_9 then some (.inr (v1_8, u_7)) else (f_X11_isAsSaid v2_9 u_7).bind fun r_10 => if r_10 = 0 then some (.inl (v1_8, v2_9 + (1 : Int32), u_7)) else (gm_let (v1_8 + (1 : Int32)) fun v1_13 => (gm_lp (b_X11_ask_53 v1_13 v2_9) gm_FU ((0 : Int32), u_7)).bind fun o => match o with | u_24 => some (.inl (v1_13, v2_9 + (1 : Int32), u_24)))
def b_X11_ask_101 (w1_25 : Int32) (u_26 : gm_M) : (Int32 × Int32 × Int32) → Option ((Int32 × Int32 × Int32) ⊕ Int32) := fun x => match x with | (v2_27, v3_28, v4_29) => if (41 : Int32) ≤ v4_29 then some (.inr v3_28) else if ib v4_29 41 = true then gm_let (if (gI u_26 39 (ix v4_29)) < (w1_25 - (gI u_26 39 (ix v4_29))) then (w1_25 - (gI u_26 39 (ix v4_29))) else (gI u_26 39 (ix v4_29))) fun v_31 => if v_31 < v2_27 then some (.inl (v_31, v4_29, v4_29 + (1 : Int32))) else some (.inl (v2_27, v3_28, v4_29 + (1 : Int32))) else none
def f_X11_ask  (u : gm_M) : Option (Int32 × gm_M) := gm_let (sI u 1 0 (0 : Int32)) fun u_1 => ((gm_lp (b_X11_ask_7) gm_FU ((0 : Int32), u_1)).bind fun o => match o with | u_6 => ((gm_lp (b_X11_ask_30) gm_FU ((0 : Int32), (1 : Int32), u_6)).bind fun o => match o with | (w1_25, u_26) => ((gm_lp (b_X11_ask_101 w1_25 u_26) gm_FU (w1_25, (-1 : Int32), (0 : Int32))).bind fun o => match o with | w3_32 => some (w3_32, u_26))))
set_option maxRecDepth 100000 in
set_option maxHeartbeats 4000000 in
theorem ok_X11_ask (l : Launch) (Z : gm_Z)  (u : gm_M)  (r : Int32) (u' : gm_M) (hf : f_X11_ask u = some (r, u')) : gm_Met l GM Z yX11_ask cX11_ask 6 (some .int) ({ frames := 2, cells := 0, slots := 0, locals := 42 }) [rv Z 1] u (some (.int r)) u' := by
  unfold f_X11_ask at hf
  refine gm_ofW (by decide +kernel) (Nat.le_of_ble_eq_true rfl) ?_
  intro p e s m args below meth c A ls Q R hRf hRl C E hl hw
  obtain ⟨hx, hb, -⟩ := id C
  have hl : lv_has ls 6 [(0, rv Z 1)] := hl
  refine gm_aload_n (G := GM) (r := 1) C rfl dX11_ask_0 rfl (lv_at hl 0 rfl) ?_
  refine lv_iconst (v := 0) hx hb dX11_ask_1 (by decide) ?_
  refine gm_putI (G := GM) (u := u) (r := 1) (ci := 10) (k := 0) (v := (0 : Int32)) C hw rfl fl_X11_137 fp_10_0 dX11_ask_2 rfl (fun H locs hw => ?_)
  obtain ⟨u_1, e_u_1, hf⟩ := gm_le hf
  rw [← e_u_1] at hw
  refine lv_iconst (v := 0) hx hb dX11_ask_5 (by decide) ?_
  refine lv_istore_n (i := 1) (lv' := [(1, .int (0 : Int32)), (0, rv Z 1)]) hx hb dX11_ask_6 rfl hl (by decide) rfl (fun ls hl => ?_)
  obtain ⟨o1, hlp, hf⟩ := gm_bnd hf
  have L7_1 := gm_loop (b_X11_ask_7) (fun x : (Int32 × gm_M) => ∀ (H : Heap) (locs : List Loc) (ls : Array Slot), lv_has ls 6 [(0, rv Z 1), (1, .int x.1)] → wd GM Z x.2 A s.heap H locs → W p l e R s m args below meth c H locs 0 0 Q (F0 m 7 ls [])) (fun z : gm_M => ∀ (H : Heap) (locs : List Loc) (ls : Array Slot), lv_has ls 6 [(0, rv Z 1)] → wd GM Z z A s.heap H locs → W p l e R s m args below meth c H locs 0 0 Q (F0 m 26 ls [])) (by
    intro x o1 hf Kc Kx
    obtain ⟨v1_3, u_2⟩ := x
    intro H locs ls hl hw
    unfold b_X11_ask_7 at hf
    try dsimp only at hf
    refine lv_iload_n hx hb dX11_ask_7 rfl (lv_at hl 1 rfl) ?_
    refine lv_bipush (v := 41) hx hb dX11_ask_8 (by decide) ?_
    refine lv_icmp_ge (tgt := 26) hx hb dX11_ask_10 (by decide) (fun hc => ?_) (fun hc => ?_)
    · replace hf := (if_pos hc).symm.trans hf
      exact Kx _ (gm_si hf) _ _ _ (lv_sub hl [0] rfl) hw
    · replace hf := (if_neg hc).symm.trans hf
      refine gm_aload_n (G := GM) (r := 1) C rfl dX11_ask_13 rfl (lv_at hl 0 rfl) ?_
      refine gm_getS (G := GM) (u := u_2) (r := 1) (ci := 10) (k := 55) C hw rfl fl_X11_127 dX11_ask_14 rfl (q := 39) rfl ?_
      refine lv_iload_n hx hb dX11_ask_17 rfl (lv_at hl 1 rfl) ?_
      refine lv_iconst (v := 0) hx hb dX11_ask_18 (by decide) ?_
      obtain ⟨g_4, hf⟩ := gm_grd hf
      refine gm_iast (G := GM) (u := u_2) (r := 39) (n := 41) (i := v1_3) (x := (0 : Int32)) C hw rfl g_4 rfl dX11_ask_19 (fun H locs hw => ?_)
      obtain ⟨u_5, e_u_5, hf⟩ := gm_le hf
      rw [← e_u_5] at hw
      refine lv_iinc (v := v1_3 + (1 : Int32)) (lv' := [(1, .int (v1_3 + (1 : Int32))), (0, rv Z 1)]) hx hb dX11_ask_20 hl (k := 1) rfl rfl (by decide) rfl (fun ls hl => ?_)
      refine lv_goto (tgt := 7) hx hb dX11_ask_23 (by decide) ?_
      exact Kc _ (gm_si hf) _ _ _ (lv_sub hl [1, 0] rfl) hw)
  refine L7_1 _ _ _ hlp ?_ _ _ _ (lv_sub hl [1, 0] rfl) hw
  obtain ⟨u_6, rfl⟩ : ∃ y, y = o1 := ⟨_, rfl⟩
  intro H locs ls hl hw
  try dsimp only at hf
  refine lv_iconst (v := 0) hx hb dX11_ask_26 (by decide) ?_
  refine lv_istore_n (i := 1) (lv' := [(1, .int (0 : Int32)), (0, rv Z 1)]) hx hb dX11_ask_27 rfl hl (by decide) rfl (fun ls hl => ?_)
  refine lv_iconst (v := 1) hx hb dX11_ask_28 (by decide) ?_
  refine lv_istore_n (i := 2) (lv' := [(2, .int (1 : Int32)), (1, .int (0 : Int32)), (0, rv Z 1)]) hx hb dX11_ask_29 rfl hl (by decide) rfl (fun ls hl => ?_)
  obtain ⟨o2, hlp, hf⟩ := gm_bnd hf
  have L30_3 := gm_loop (b_X11_ask_30) (fun x : (Int32 × Int32 × gm_M) => ∀ (H : Heap) (locs : List Loc) (ls : Array Slot), lv_has ls 6 [(0, rv Z 1), (1, .int x.1), (2, .int x.2.1)] → wd GM Z x.2.2 A s.heap H locs → W p l e R s m args below meth c H locs 0 0 Q (F0 m 30 ls [])) (fun z : ((Int32 × gm_M)) => ∀ (H : Heap) (locs : List Loc) (ls : Array Slot), lv_has ls 6 [(0, rv Z 1), (1, .int z.1)] → wd GM Z z.2 A s.heap H locs → W p l e R s m args below meth c H locs 0 0 Q (F0 m 94 ls [])) (by
    intro x o2 hf Kc Kx
    obtain ⟨v1_8, v2_9, u_7⟩ := x
    intro H locs ls hl hw
    unfold b_X11_ask_30 at hf
    try dsimp only at hf
    refine lv_iload_n hx hb dX11_ask_30 rfl (lv_at hl 2 rfl) ?_
    refine lv_sipush (v := 2001) hx hb dX11_ask_31 (by decide) ?_
    refine lv_icmp_ge (tgt := 94) hx hb dX11_ask_34 (by decide) (fun hc => ?_) (fun hc => ?_)
    · replace hf := (if_pos hc).symm.trans hf
      exact Kx _ (gm_si hf) _ _ _ (lv_sub hl [0, 1] rfl) hw
    · replace hf := (if_neg hc).symm.trans hf
      refine gm_aload_n (G := GM) (r := 1) C rfl dX11_ask_37 rfl (lv_at hl 0 rfl) ?_
      refine lv_iload_n hx hb dX11_ask_38 rfl (lv_at hl 2 rfl) ?_
      obtain ⟨r_10, hc_11, hf⟩ := gm_bnd hf
      refine gm_callV (G := GM) (u := u_7) (u' := u_7) (r := 1) (ci := 10) (As := [.int v2_9]) (rest := []) (res := (some (.int r_10))) C hw hl (ok_X11_isAsSaid l Z v2_9 u_7 r_10 hc_11) cw_X11_426 im_X11_isAsSaid rfl se_X11_isAsSaid rfl rfl rfl ⟨Nat.le_trans (Nat.le_of_ble_eq_true rfl) hRf, Nat.le_trans (Nat.le_of_ble_eq_true rfl) hRl⟩ rfl rfl (Nat.le_of_ble_eq_true rfl) dX11_ask_39 (fun H locs hw => ?_)
      refine lv_if_ne (tgt := 48) hx hb dX11_ask_42 (by decide) (fun hc => ?_) (fun hc => ?_)
      · replace hf := (if_neg hc).symm.trans hf
        refine lv_iinc (v := v1_8 + (1 : Int32)) (lv' := [(1, .int (v1_8 + (1 : Int32))), (0, rv Z 1), (2, .int v2_9)]) hx hb dX11_ask_48 hl (k := 1) rfl rfl (by decide) rfl (fun ls hl => ?_)
        refine lv_iconst (v := 0) hx hb dX11_ask_51 (by decide) ?_
        refine lv_istore_n (i := 3) (lv' := [(3, .int (0 : Int32)), (1, .int (v1_8 + (1 : Int32))), (0, rv Z 1), (2, .int v2_9)]) hx hb dX11_ask_52 rfl hl (by decide) rfl (fun ls hl => ?_)
        obtain ⟨v1_13, e_v1_13, hf⟩ := gm_le hf
        rw [← e_v1_13] at hl
        obtain ⟨o3, hlp, hf⟩ := gm_bnd hf
        have L53_3 := gm_loop (b_X11_ask_53 v1_13 v2_9) (fun x : (Int32 × gm_M) => ∀ (H : Heap) (locs : List Loc) (ls : Array Slot), lv_has ls 6 [(0, rv Z 1), (1, .int v1_13), (2, .int v2_9), (3, .int x.1)] → wd GM Z x.2 A s.heap H locs → W p l e R s m args below meth c H locs 0 0 Q (F0 m 53 ls [])) (fun z : gm_M => ∀ (H : Heap) (locs : List Loc) (ls : Array Slot), lv_has ls 6 [(0, rv Z 1), (1, .int v1_13), (2, .int v2_9)] → wd GM Z z A s.heap H locs → W p l e R s m args below meth c H locs 0 0 Q (F0 m 88 ls [])) (by
          intro x o3 hf Kc Kx
          obtain ⟨v3_14, u_12⟩ := x
          intro H locs ls hl hw
          unfold b_X11_ask_53 at hf
          try dsimp only at hf
          have J80 : ∀ (v3_16 : Int32) (t_17 : Int32) (t_18 : Int32) (t_19 : Int32) (u_15 : gm_M) (H : Heap) (locs : List Loc) (ls : Array Slot), j_X11_ask_80 v1_13 v2_9 v3_16 t_17 t_18 t_19 u_15 = some o3 → lv_has ls 6 [(0, rv Z 1), (1, .int v1_13), (2, .int v2_9), (3, .int v3_16)] → wd GM Z u_15 A s.heap H locs → W p l e R s m args below meth c H locs 0 0 Q (F0 m 80 ls [.int t_19, .int t_18, .int t_17, rv Z 39]) := by
            intro v3_16 t_17 t_18 t_19 u_15 H locs ls hf  hl hw
            unfold j_X11_ask_80 at hf
            refine lv_iadd hx hb dX11_ask_80 ?_
            obtain ⟨g_20, hf⟩ := gm_grd hf
            refine gm_iast (G := GM) (u := u_15) (r := 39) (n := 41) (i := t_17) (x := t_18 + t_19) C hw rfl g_20 rfl dX11_ask_81 (fun H locs hw => ?_)
            obtain ⟨u_21, e_u_21, hf⟩ := gm_le hf
            rw [← e_u_21] at hw
            refine lv_iinc (v := v3_16 + (1 : Int32)) (lv' := [(3, .int (v3_16 + (1 : Int32))), (0, rv Z 1), (1, .int v1_13), (2, .int v2_9)]) hx hb dX11_ask_82 hl (k := 3) rfl rfl (by decide) rfl (fun ls hl => ?_)
            refine lv_goto (tgt := 53) hx hb dX11_ask_85 (by decide) ?_
            exact Kc _ (gm_si hf) _ _ _ (lv_sub hl [1, 2, 3, 0] rfl) hw
          refine lv_iload_n hx hb dX11_ask_53 rfl (lv_at hl 3 rfl) ?_
          refine lv_bipush (v := 41) hx hb dX11_ask_54 (by decide) ?_
          refine lv_icmp_ge (tgt := 88) hx hb dX11_ask_56 (by decide) (fun hc => ?_) (fun hc => ?_)
          · replace hf := (if_pos hc).symm.trans hf
            exact Kx _ (gm_si hf) _ _ _ (lv_sub hl [0, 1, 2] rfl) hw
          · replace hf := (if_neg hc).symm.trans hf
            refine gm_aload_n (G := GM) (r := 1) C rfl dX11_ask_59 rfl (lv_at hl 0 rfl) ?_
            refine gm_getS (G := GM) (u := u_12) (r := 1) (ci := 10) (k := 55) C hw rfl fl_X11_127 dX11_ask_60 rfl (q := 39) rfl ?_
            refine lv_iload_n hx hb dX11_ask_63 rfl (lv_at hl 3 rfl) ?_
            refine lv_dup2_11 hx hb dX11_ask_64 rfl (gm_cat _ _) ?_
            obtain ⟨g_22, hf⟩ := gm_grd hf
            refine gm_iald (G := GM) (u := u_12) (r := 39) (n := 41) (i := v3_14) C hw rfl g_22 rfl dX11_ask_65 ?_
            refine lv_iload_n hx hb dX11_ask_66 rfl (lv_at hl 2 rfl) ?_
            refine lv_iload_n hx hb dX11_ask_67 rfl (lv_at hl 3 rfl) ?_
            refine lv_iadd hx hb dX11_ask_68 ?_
            obtain ⟨r_23, e_r_23, hf⟩ := gm_le hf
            refine gm_callS (G := GM) (u := u_12) (u' := u_12) (As := [.int (v2_9 + v3_14)]) (rest := [.int (gI u_12 39 (ix v3_14)), .int v3_14, rv Z 39]) (res := (some (.int (f_X11_isLeap (v2_9 + v3_14))))) C hw hl (ok_X11_isLeap l Z (v2_9 + v3_14) u_12) cw_X11_321 st_X11_isLeap rfl rfl ⟨Nat.le_trans (Nat.le_of_ble_eq_true rfl) hRf, Nat.le_trans (Nat.le_of_ble_eq_true rfl) hRl⟩ rfl rfl (Nat.le_of_ble_eq_true rfl) dX11_ask_69 (fun H locs hw => ?_)
            refine gm_topI e_r_23 ?_
            refine lv_if_eq (tgt := 79) hx hb dX11_ask_72 (by decide) (fun hc => ?_) (fun hc => ?_)
            · replace hf := (if_pos hc).symm.trans hf
              refine lv_iconst (v := 0) hx hb dX11_ask_79 (by decide) ?_
              exact J80 v3_14 v3_14 (gI u_12 39 (ix v3_14)) (0 : Int32) u_12 _ _ _ hf  (lv_sub hl [0, 1, 2, 3] rfl) hw
            · replace hf := (if_neg hc).symm.trans hf
              refine lv_iconst (v := 1) hx hb dX11_ask_75 (by decide) ?_
              refine lv_goto (tgt := 80) hx hb dX11_ask_76 (by decide) ?_
              exact J80 v3_14 v3_14 (gI u_12 39 (ix v3_14)) (1 : Int32) u_12 _ _ _ hf  (lv_sub hl [0, 1, 2, 3] rfl) hw)
        refine L53_3 _ _ _ hlp ?_ _ _ _ (lv_sub hl [2, 1, 3, 0] rfl) hw
        obtain ⟨u_24, rfl⟩ : ∃ y, y = o3 := ⟨_, rfl⟩
        intro H locs ls hl hw
        try dsimp only at hf
        refine lv_iinc (v := v2_9 + (1 : Int32)) (lv' := [(2, .int (v2_9 + (1 : Int32))), (0, rv Z 1), (1, .int v1_13)]) hx hb dX11_ask_88 hl (k := 2) rfl rfl (by decide) rfl (fun ls hl => ?_)
        refine lv_goto (tgt := 30) hx hb dX11_ask_91 (by decide) ?_
        exact Kc _ (gm_si hf) _ _ _ (lv_sub hl [1, 2, 0] rfl) hw
      · replace hf := (if_pos hc).symm.trans hf
        refine lv_goto (tgt := 88) hx hb dX11_ask_45 (by decide) ?_
        refine lv_iinc (v := v2_9 + (1 : Int32)) (lv' := [(2, .int (v2_9 + (1 : Int32))), (0, rv Z 1), (1, .int v1_8)]) hx hb dX11_ask_88 hl (k := 2) rfl rfl (by decide) rfl (fun ls hl => ?_)
        refine lv_goto (tgt := 30) hx hb dX11_ask_91 (by decide) ?_
        exact Kc _ (gm_si hf) _ _ _ (lv_sub hl [1, 2, 0] rfl) hw)
  refine L30_3 _ _ _ hlp ?_ _ _ _ (lv_sub hl [2, 1, 0] rfl) hw
  obtain ⟨w1_25, u_26⟩ := o2
  intro H locs ls hl hw
  try dsimp only at hf
  refine lv_iload_n hx hb dX11_ask_94 rfl (lv_at hl 1 rfl) ?_
  refine lv_istore_n (i := 2) (lv' := [(2, .int w1_25), (0, rv Z 1), (1, .int w1_25)]) hx hb dX11_ask_95 rfl hl (by decide) rfl (fun ls hl => ?_)
  refine lv_iconst (v := -1) hx hb dX11_ask_96 (by decide) ?_
  refine lv_istore_n (i := 3) (lv' := [(3, .int (-1 : Int32)), (2, .int w1_25), (0, rv Z 1), (1, .int w1_25)]) hx hb dX11_ask_97 rfl hl (by decide) rfl (fun ls hl => ?_)
  refine lv_iconst (v := 0) hx hb dX11_ask_98 (by decide) ?_
  refine lv_istore (i := 4) (lv' := [(4, .int (0 : Int32)), (3, .int (-1 : Int32)), (2, .int w1_25), (0, rv Z 1), (1, .int w1_25)]) hx hb dX11_ask_99 hl (by decide) rfl (fun ls hl => ?_)
  obtain ⟨o4, hlp, hf⟩ := gm_bnd hf
  have L101_4 := gm_loop (b_X11_ask_101 w1_25 u_26) (fun x : (Int32 × Int32 × Int32) => ∀ (H : Heap) (locs : List Loc) (ls : Array Slot), lv_has ls 6 [(0, rv Z 1), (1, .int w1_25), (2, .int x.1), (3, .int x.2.1), (4, .int x.2.2)] → wd GM Z u_26 A s.heap H locs → W p l e R s m args below meth c H locs 0 0 Q (F0 m 101 ls [])) (fun z : Int32 => ∀ (H : Heap) (locs : List Loc) (ls : Array Slot), lv_has ls 6 [(3, .int z)] → wd GM Z u_26 A s.heap H locs → W p l e R s m args below meth c H locs 0 0 Q (F0 m 150 ls [])) (by
    intro x o4 hf Kc Kx
    obtain ⟨v2_27, v3_28, v4_29⟩ := x
    intro H locs ls hl hw
    unfold b_X11_ask_101 at hf
    try dsimp only at hf
    refine lv_iload hx hb dX11_ask_101 (lv_at hl 4 rfl) ?_
    refine lv_bipush (v := 41) hx hb dX11_ask_103 (by decide) ?_
    refine lv_icmp_ge (tgt := 150) hx hb dX11_ask_105 (by decide) (fun hc => ?_) (fun hc => ?_)
    · replace hf := (if_pos hc).symm.trans hf
      exact Kx _ (gm_si hf) _ _ _ (lv_sub hl [3] rfl) hw
    · replace hf := (if_neg hc).symm.trans hf
      refine gm_aload_n (G := GM) (r := 1) C rfl dX11_ask_108 rfl (lv_at hl 0 rfl) ?_
      refine gm_getS (G := GM) (u := u_26) (r := 1) (ci := 10) (k := 55) C hw rfl fl_X11_127 dX11_ask_109 rfl (q := 39) rfl ?_
      refine lv_iload hx hb dX11_ask_112 (lv_at hl 4 rfl) ?_
      obtain ⟨g_30, hf⟩ := gm_grd hf
      refine gm_iald (G := GM) (u := u_26) (r := 39) (n := 41) (i := v4_29) C hw rfl g_30 rfl dX11_ask_114 ?_
      refine lv_iload_n hx hb dX11_ask_115 rfl (lv_at hl 1 rfl) ?_
      refine gm_aload_n (G := GM) (r := 1) C rfl dX11_ask_116 rfl (lv_at hl 0 rfl) ?_
      refine gm_getS (G := GM) (u := u_26) (r := 1) (ci := 10) (k := 55) C hw rfl fl_X11_127 dX11_ask_117 rfl (q := 39) rfl ?_
      refine lv_iload hx hb dX11_ask_120 (lv_at hl 4 rfl) ?_
      refine gm_iald (G := GM) (u := u_26) (r := 39) (n := 41) (i := v4_29) C hw rfl g_30 rfl dX11_ask_122 ?_
      refine lv_isub hx hb dX11_ask_123 ?_
      refine gm_max C hl mw_X11_342 (Nat.le_trans (Nat.le_of_ble_eq_true rfl) hRf) (Nat.le_trans (Nat.le_of_ble_eq_true rfl) hRl) (Nat.le_of_ble_eq_true rfl) dX11_ask_124 ?_
      obtain ⟨v_31, e_v_31, hf⟩ := gm_le hf
      refine gm_topI e_v_31 ?_
      refine lv_istore (i := 5) (lv' := [(5, .int v_31), (0, rv Z 1), (1, .int w1_25), (2, .int v2_27), (3, .int v3_28), (4, .int v4_29)]) hx hb dX11_ask_127 hl (by decide) rfl (fun ls hl => ?_)
      refine lv_iload hx hb dX11_ask_129 (lv_at hl 0 rfl) ?_
      refine lv_iload_n hx hb dX11_ask_131 rfl (lv_at hl 3 rfl) ?_
      refine lv_icmp_lt (tgt := 138) hx hb dX11_ask_132 (by decide) (fun hc => ?_) (fun hc => ?_)
      · replace hf := (if_pos hc).symm.trans hf
        refine lv_iload hx hb dX11_ask_138 (lv_at hl 0 rfl) ?_
        refine lv_istore_n (i := 2) (lv' := [(2, .int v_31), (5, .int v_31), (0, rv Z 1), (1, .int w1_25), (3, .int v3_28), (4, .int v4_29)]) hx hb dX11_ask_140 rfl hl (by decide) rfl (fun ls hl => ?_)
        refine lv_iload hx hb dX11_ask_141 (lv_at hl 5 rfl) ?_
        refine lv_istore_n (i := 3) (lv' := [(3, .int v4_29), (2, .int v_31), (5, .int v_31), (0, rv Z 1), (1, .int w1_25), (4, .int v4_29)]) hx hb dX11_ask_143 rfl hl (by decide) rfl (fun ls hl => ?_)
        refine lv_iinc (v := v4_29 + (1 : Int32)) (lv' := [(4, .int (v4_29 + (1 : Int32))), (3, .int v4_29), (2, .int v_31), (5, .int v_31), (0, rv Z 1), (1, .int w1_25)]) hx hb dX11_ask_144 hl (k := 5) rfl rfl (by decide) rfl (fun ls hl => ?_)
        refine lv_goto (tgt := 101) hx hb dX11_ask_147 (by decide) ?_
        exact Kc _ (gm_si hf) _ _ _ (lv_sub hl [4, 5, 2, 1, 0] rfl) hw
      · replace hf := (if_neg hc).symm.trans hf
        refine lv_goto (tgt := 144) hx hb dX11_ask_135 (by decide) ?_
        refine lv_iinc (v := v4_29 + (1 : Int32)) (lv' := [(4, .int (v4_29 + (1 : Int32))), (5, .int v_31), (0, rv Z 1), (1, .int w1_25), (2, .int v2_27), (3, .int v3_28)]) hx hb dX11_ask_144 hl (k := 5) rfl rfl (by decide) rfl (fun ls hl => ?_)
        refine lv_goto (tgt := 101) hx hb dX11_ask_147 (by decide) ?_
        exact Kc _ (gm_si hf) _ _ _ (lv_sub hl [2, 3, 4, 5, 0] rfl) hw)
  refine L101_4 _ _ _ hlp ?_ _ _ _ (lv_sub hl [3, 4, 2, 1, 0] rfl) hw
  obtain ⟨w3_32, rfl⟩ : ∃ y, y = o4 := ⟨_, rfl⟩
  intro H locs ls hl hw
  try dsimp only at hf
  refine lv_iload_n hx hb dX11_ask_150 rfl (lv_at hl 0 rfl) ?_
  exact gm_iret C E hw rfl ((congrArg (fun z => some (Value.int z)) (gm_sp hf).1).symm) (gm_sp hf).2.symm dX11_ask_151
/-! LeapCapitalModel.chance -/
def b_X11_chance_63 (a1 : Int32) (a2 : Int32) (v3_9 : Int32) (u_6 : gm_M) : (Int64 × Int32) → Option ((Int64 × Int32) ⊕ Int64) := fun x => match x with | (v6_10, v8_11) => (f_X11_bits v3_9).bind fun r_12 => if r_12 ≤ v8_11 then some (.inr v6_10) else gm_let (v6_10 * (10 : Int64)) fun v6_14 => some (.inl (v6_14, v8_11 + (1 : Int32)))
def j_X11_chance_223 (a1 : Int32) (a2 : Int32) (v3_9 : Int32) (w6_15 : Int64) (v4_22 : Int64) (v8_23 : Int32) (u_21 : gm_M) : Option ((Int64 × Int32 × gm_M) ⊕ ((Int64 × gm_M))) := (f_X11_copies 31 22 (0 : Int32) 29 22 (0 : Int32) u_21).bind fun u_24 => some (.inl (v4_22, v8_23 + (1 : Int32), u_24))
def j_X11_chance_184 (a1 : Int32) (a2 : Int32) (v3_9 : Int32) (v4_19 : Int64) (w6_15 : Int64) (v8_20 : Int32) (v11_30 : Int32) (v12_31 : Int32) (t_32 : Int64) (t_33 : Int64) (u_29 : gm_M) : Option ((Int64 × Int32 × gm_M) ⊕ ((Int64 × gm_M))) := gm_let (t_32 * t_33) fun v9_34 => if v12_31 = 0 then (f_X11_leaves v11_30 u_29).bind fun u_35 => some (.inl (v9_34, v11_30 + (1 : Int32), u_35)) else some (.inl (v9_34, v11_30 + (1 : Int32), u_29))
def j_X11_chance_165 (a1 : Int32) (a2 : Int32) (v3_9 : Int32) (v4_19 : Int64) (w6_15 : Int64) (v8_20 : Int32) (v9_38 : Int64) (v11_39 : Int32) (t_40 : Int32) (u_37 : gm_M) : Option ((Int64 × Int32 × gm_M) ⊕ ((Int64 × gm_M))) := if t_40 = 0 then j_X11_chance_184 a1 a2 v3_9 v4_19 w6_15 v8_20 v11_39 t_40 v9_38 (((10 : Int32) - a2).toInt64) u_37 else j_X11_chance_184 a1 a2 v3_9 v4_19 w6_15 v8_20 v11_39 t_40 v9_38 a2.toInt64 u_37
def b_X11_chance_126 (a1 : Int32) (a2 : Int32) (v3_9 : Int32) (v4_19 : Int64) (w6_15 : Int64) (v8_20 : Int32) : (Int64 × Int32 × gm_M) → Option ((Int64 × Int32 × gm_M) ⊕ ((Int64 × gm_M))) := fun x => match x with | (v9_27, v11_28, u_26) => if (gI u_26 3 0) ≤ v11_28 then some (.inr (v9_27, u_26)) else if ((v3_9 >>> (v11_28 &&& 31)) &&& (1 : Int32)) = 0 then some (.inl (v9_27, v11_28 + (1 : Int32), u_26)) else if ((v8_20 >>> (v11_28 &&& 31)) &&& (1 : Int32)) = (1 : Int32) then j_X11_chance_165 a1 a2 v3_9 v4_19 w6_15 v8_20 v9_27 v11_28 (1 : Int32) u_26 else j_X11_chance_165 a1 a2 v3_9 v4_19 w6_15 v8_20 v9_27 v11_28 (0 : Int32) u_26
def b_X11_chance_102 (a1 : Int32) (a2 : Int32) (v3_9 : Int32) (w6_15 : Int64) : (Int64 × Int32 × gm_M) → Option ((Int64 × Int32 × gm_M) ⊕ ((Int64 × gm_M))) := fun x => match x with | (v4_19, v8_20, u_18) => if v3_9 < v8_20 then some (.inr (v4_19, u_18)) else if (v8_20 &&& (v3_9 ^^^ (-1 : Int32))) = 0 then ((gm_lp (b_X11_chance_126 a1 a2 v3_9 v4_19 w6_15 v8_20) gm_FU ((1 : Int64), (0 : Int32), u_18)).bind fun o => match o with | (w9_41, u_42) => (f_X11_rides u_42).bind fun u_43 => gm_let (f_X11_isHeard a1 u_43) fun r_45 => if r_45 = 0 then j_X11_chance_223 a1 a2 v3_9 w6_15 v4_19 v8_20 u_43 else gm_let (v4_19 + w9_41) fun v4_46 => j_X11_chance_223 a1 a2 v3_9 w6_15 v4_46 v8_20 u_43) else some (.inl (v4_19, v8_20 + (1 : Int32), u_18))
def f_X11_chance (a1 : Int32) (a2 : Int32) (u : gm_M) : Option (Int32 × gm_M) := gm_let (sI u 1 0 (0 : Int32)) fun u_1 => gm_let (f_X11_isPerson a1 u_1) fun r_2 => if r_2 = 0 then some ((-1 : Int32), u_1) else (f_X11_placeOf a1 u_1).bind fun r_3 => if r_3 < 0 then some ((-1 : Int32), u_1) else gm_let (f_X11_within a2 (0 : Int32) (10 : Int32)) fun r_5 => if r_5 = 0 then some ((-1 : Int32), u_1) else gm_let (sI u_1 1 49 (gI u_1 3 2)) fun u_6 => (f_X11_inQueue u_6).bind fun r_7 => gm_let (r_7 &&& (((1 : Int32) <<< (a1 &&& 31)) ^^^ (-1 : Int32))) fun v3_9 => ((gm_lp (b_X11_chance_63 a1 a2 v3_9 u_6) gm_FU ((1 : Int64), (0 : Int32))).bind fun o => match o with | w6_15 => (f_X11_copies 29 22 (0 : Int32) 31 22 (0 : Int32) u_6).bind fun u_16 => ((gm_lp (b_X11_chance_102 a1 a2 v3_9 w6_15) gm_FU ((0 : Int64), (0 : Int32), u_16)).bind fun o => match o with | (w4_47, u_48) => if ¬ w6_15 = 0 then some (((w4_47 * (1000000 : Int64)) / w6_15).toInt32, u_48) else none))
set_option maxRecDepth 100000 in
set_option maxHeartbeats 4000000 in
theorem ok_X11_chance (l : Launch) (Z : gm_Z) (a1 : Int32) (a2 : Int32) (u : gm_M)  (r : Int32) (u' : gm_M) (hf : f_X11_chance a1 a2 u = some (r, u')) : gm_Met l GM Z yX11_chance cX11_chance 13 (some .int) ({ frames := 8, cells := 0, slots := 0, locals := 181 }) [rv Z 1, .int a1, .int a2] u (some (.int r)) u' := by
  unfold f_X11_chance at hf
  refine gm_ofW (by decide +kernel) (Nat.le_of_ble_eq_true rfl) ?_
  intro p e s m args below meth c A ls Q R hRf hRl C E hl hw
  obtain ⟨hx, hb, -⟩ := id C
  have hl : lv_has ls 13 [(0, rv Z 1), (1, .int a1), (2, .int a2)] := hl
  refine gm_aload_n (G := GM) (r := 1) C rfl dX11_chance_0 rfl (lv_at hl 0 rfl) ?_
  refine lv_iconst (v := 0) hx hb dX11_chance_1 (by decide) ?_
  refine gm_putI (G := GM) (u := u) (r := 1) (ci := 10) (k := 0) (v := (0 : Int32)) C hw rfl fl_X11_137 fp_10_0 dX11_chance_2 rfl (fun H locs hw => ?_)
  obtain ⟨u_1, e_u_1, hf⟩ := gm_le hf
  rw [← e_u_1] at hw
  refine gm_aload_n (G := GM) (r := 1) C rfl dX11_chance_5 rfl (lv_at hl 0 rfl) ?_
  refine lv_iload_n hx hb dX11_chance_6 rfl (lv_at hl 1 rfl) ?_
  obtain ⟨r_2, e_r_2, hf⟩ := gm_le hf
  refine gm_callV (G := GM) (u := u_1) (u' := u_1) (r := 1) (ci := 10) (As := [.int a1]) (rest := []) (res := (some (.int (f_X11_isPerson a1 u_1)))) C hw hl (ok_X11_isPerson l Z a1 u_1) cw_X11_373 im_X11_isPerson rfl se_X11_isPerson rfl rfl rfl ⟨Nat.le_trans (Nat.le_of_ble_eq_true rfl) hRf, Nat.le_trans (Nat.le_of_ble_eq_true rfl) hRl⟩ rfl rfl (Nat.le_of_ble_eq_true rfl) dX11_chance_7 (fun H locs hw => ?_)
  refine gm_topI e_r_2 ?_
  refine lv_if_eq (tgt := 31) hx hb dX11_chance_10 (by decide) (fun hc => ?_) (fun hc => ?_)
  · replace hf := (if_pos hc).symm.trans hf
    refine lv_iconst (v := -1) hx hb dX11_chance_31 (by decide) ?_
    exact gm_iret C E hw rfl ((congrArg (fun z => some (Value.int z)) (gm_sp hf).1).symm) (gm_sp hf).2.symm dX11_chance_32
  · replace hf := (if_neg hc).symm.trans hf
    refine gm_aload_n (G := GM) (r := 1) C rfl dX11_chance_13 rfl (lv_at hl 0 rfl) ?_
    refine lv_iload_n hx hb dX11_chance_14 rfl (lv_at hl 1 rfl) ?_
    obtain ⟨r_3, hc_4, hf⟩ := gm_bnd hf
    refine gm_callV (G := GM) (u := u_1) (u' := u_1) (r := 1) (ci := 10) (As := [.int a1]) (rest := []) (res := (some (.int r_3))) C hw hl (ok_X11_placeOf l Z a1 u_1 r_3 hc_4) cw_X11_324 im_X11_placeOf rfl se_X11_placeOf rfl rfl rfl ⟨Nat.le_trans (Nat.le_of_ble_eq_true rfl) hRf, Nat.le_trans (Nat.le_of_ble_eq_true rfl) hRl⟩ rfl rfl (Nat.le_of_ble_eq_true rfl) dX11_chance_15 (fun H locs hw => ?_)
    refine lv_if_lt (tgt := 31) hx hb dX11_chance_18 (by decide) (fun hc => ?_) (fun hc => ?_)
    · replace hf := (if_pos hc).symm.trans hf
      refine lv_iconst (v := -1) hx hb dX11_chance_31 (by decide) ?_
      exact gm_iret C E hw rfl ((congrArg (fun z => some (Value.int z)) (gm_sp hf).1).symm) (gm_sp hf).2.symm dX11_chance_32
    · replace hf := (if_neg hc).symm.trans hf
      refine lv_iload_n hx hb dX11_chance_21 rfl (lv_at hl 2 rfl) ?_
      refine lv_iconst (v := 0) hx hb dX11_chance_22 (by decide) ?_
      refine lv_bipush (v := 10) hx hb dX11_chance_23 (by decide) ?_
      obtain ⟨r_5, e_r_5, hf⟩ := gm_le hf
      refine gm_callS (G := GM) (u := u_1) (u' := u_1) (As := [.int a2, .int (0 : Int32), .int (10 : Int32)]) (rest := []) (res := (some (.int (f_X11_within a2 (0 : Int32) (10 : Int32))))) C hw hl (ok_X11_within l Z a2 (0 : Int32) (10 : Int32) u_1) cw_X11_254 st_X11_within rfl rfl ⟨Nat.le_trans (Nat.le_of_ble_eq_true rfl) hRf, Nat.le_trans (Nat.le_of_ble_eq_true rfl) hRl⟩ rfl rfl (Nat.le_of_ble_eq_true rfl) dX11_chance_25 (fun H locs hw => ?_)
      refine gm_topI e_r_5 ?_
      refine lv_if_ne (tgt := 33) hx hb dX11_chance_28 (by decide) (fun hc => ?_) (fun hc => ?_)
      · replace hf := (if_neg hc).symm.trans hf
        refine gm_aload_n (G := GM) (r := 1) C rfl dX11_chance_33 rfl (lv_at hl 0 rfl) ?_
        refine gm_aload_n (G := GM) (r := 1) C rfl dX11_chance_34 rfl (lv_at hl 0 rfl) ?_
        refine gm_getS (G := GM) (u := u_1) (r := 1) (ci := 10) (k := 10) C hw rfl fl_X11_13 dX11_chance_35 rfl (q := 3) rfl ?_
        refine lv_iconst (v := 2) hx hb dX11_chance_38 (by decide) ?_
        refine gm_iald (G := GM) (u := u_1) (r := 3) (n := 8) (i := (2 : Int32)) C hw rfl (by decide) (j := 2) (by decide) dX11_chance_39 ?_
        refine gm_putI (G := GM) (u := u_1) (r := 1) (ci := 10) (k := 49) (v := gI u_1 3 2) C hw rfl fl_X11_117 fp_10_49 dX11_chance_40 rfl (fun H locs hw => ?_)
        obtain ⟨u_6, e_u_6, hf⟩ := gm_le hf
        rw [← e_u_6] at hw
        refine gm_aload_n (G := GM) (r := 1) C rfl dX11_chance_43 rfl (lv_at hl 0 rfl) ?_
        obtain ⟨r_7, hc_8, hf⟩ := gm_bnd hf
        refine gm_callV (G := GM) (u := u_6) (u' := u_6) (r := 1) (ci := 10) (As := []) (rest := []) (res := (some (.int r_7))) C hw hl (ok_X11_inQueue l Z u_6 r_7 hc_8) cw_X11_423 im_X11_inQueue rfl se_X11_inQueue rfl rfl rfl ⟨Nat.le_trans (Nat.le_of_ble_eq_true rfl) hRf, Nat.le_trans (Nat.le_of_ble_eq_true rfl) hRl⟩ rfl rfl (Nat.le_of_ble_eq_true rfl) dX11_chance_44 (fun H locs hw => ?_)
        refine lv_iconst (v := 1) hx hb dX11_chance_47 (by decide) ?_
        refine lv_iload_n hx hb dX11_chance_48 rfl (lv_at hl 1 rfl) ?_
        refine lv_ishl hx hb dX11_chance_49 ?_
        refine lv_iconst (v := -1) hx hb dX11_chance_50 (by decide) ?_
        refine lv_ixor hx hb dX11_chance_51 ?_
        refine lv_iand hx hb dX11_chance_52 ?_
        obtain ⟨v3_9, e_v3_9, hf⟩ := gm_le hf
        refine gm_topI e_v3_9 ?_
        refine lv_istore_n (i := 3) (lv' := [(3, .int v3_9), (0, rv Z 1), (1, .int a1), (2, .int a2)]) hx hb dX11_chance_53 rfl hl (by decide) rfl (fun ls hl => ?_)
        refine lv_lconst (v := 0) hx hb dX11_chance_54 (by decide) ?_
        refine lv_lstore (i := 4) (lv' := [(4, .long (0 : Int64)), (3, .int v3_9), (0, rv Z 1), (1, .int a1), (2, .int a2)]) hx hb dX11_chance_55 hl (by decide) rfl (fun ls hl => ?_)
        refine lv_lconst (v := 1) hx hb dX11_chance_57 (by decide) ?_
        refine lv_lstore (i := 6) (lv' := [(6, .long (1 : Int64)), (4, .long (0 : Int64)), (3, .int v3_9), (0, rv Z 1), (1, .int a1), (2, .int a2)]) hx hb dX11_chance_58 hl (by decide) rfl (fun ls hl => ?_)
        refine lv_iconst (v := 0) hx hb dX11_chance_60 (by decide) ?_
        refine lv_istore (i := 8) (lv' := [(8, .int (0 : Int32)), (6, .long (1 : Int64)), (4, .long (0 : Int64)), (3, .int v3_9), (0, rv Z 1), (1, .int a1), (2, .int a2)]) hx hb dX11_chance_61 hl (by decide) rfl (fun ls hl => ?_)
        obtain ⟨o1, hlp, hf⟩ := gm_bnd hf
        have L63_1 := gm_loop (b_X11_chance_63 a1 a2 v3_9 u_6) (fun x : (Int64 × Int32) => ∀ (H : Heap) (locs : List Loc) (ls : Array Slot), lv_has ls 13 [(0, rv Z 1), (1, .int a1), (2, .int a2), (3, .int v3_9), (4, .long (0 : Int64)), (6, .long x.1), (8, .int x.2)] → wd GM Z u_6 A s.heap H locs → W p l e R s m args below meth c H locs 0 0 Q (F0 m 63 ls [])) (fun z : Int64 => ∀ (H : Heap) (locs : List Loc) (ls : Array Slot), lv_has ls 13 [(0, rv Z 1), (1, .int a1), (2, .int a2), (3, .int v3_9), (4, .long (0 : Int64)), (6, .long z)] → wd GM Z u_6 A s.heap H locs → W p l e R s m args below meth c H locs 0 0 Q (F0 m 86 ls [])) (by
          intro x o1 hf Kc Kx
          obtain ⟨v6_10, v8_11⟩ := x
          intro H locs ls hl hw
          unfold b_X11_chance_63 at hf
          try dsimp only at hf
          refine lv_iload hx hb dX11_chance_63 (lv_at hl 6 rfl) ?_
          refine lv_iload_n hx hb dX11_chance_65 rfl (lv_at hl 3 rfl) ?_
          obtain ⟨r_12, hc_13, hf⟩ := gm_bnd hf
          refine gm_callS (G := GM) (u := u_6) (u' := u_6) (As := [.int v3_9]) (rest := [.int v8_11]) (res := (some (.int r_12))) C hw hl (ok_X11_bits l Z v3_9 u_6 r_12 hc_13) cw_X11_398 st_X11_bits rfl rfl ⟨Nat.le_trans (Nat.le_of_ble_eq_true rfl) hRf, Nat.le_trans (Nat.le_of_ble_eq_true rfl) hRl⟩ rfl rfl (Nat.le_of_ble_eq_true rfl) dX11_chance_66 (fun H locs hw => ?_)
          refine lv_icmp_ge (tgt := 86) hx hb dX11_chance_69 (by decide) (fun hc => ?_) (fun hc => ?_)
          · replace hf := (if_pos hc).symm.trans hf
            exact Kx _ (gm_si hf) _ _ _ (lv_sub hl [0, 1, 2, 3, 4, 5] rfl) hw
          · replace hf := (if_neg hc).symm.trans hf
            refine lv_lload hx hb dX11_chance_72 (lv_at hl 5 rfl) ?_
            refine lv_ldc2 hx hb C.2.2.2.1 (C.2.2.2.2.1 _ kn_X11_429) dX11_chance_74 ?_
            refine lv_lmul hx hb dX11_chance_77 ?_
            obtain ⟨v6_14, e_v6_14, hf⟩ := gm_le hf
            refine gm_topJ e_v6_14 ?_
            refine lv_lstore (i := 6) (lv' := [(6, .long v6_14), (0, rv Z 1), (1, .int a1), (2, .int a2), (3, .int v3_9), (4, .long (0 : Int64)), (8, .int v8_11)]) hx hb dX11_chance_78 hl (by decide) rfl (fun ls hl => ?_)
            refine lv_iinc (v := v8_11 + (1 : Int32)) (lv' := [(8, .int (v8_11 + (1 : Int32))), (6, .long v6_14), (0, rv Z 1), (1, .int a1), (2, .int a2), (3, .int v3_9), (4, .long (0 : Int64))]) hx hb dX11_chance_80 hl (k := 6) rfl rfl (by decide) rfl (fun ls hl => ?_)
            refine lv_goto (tgt := 63) hx hb dX11_chance_83 (by decide) ?_
            exact Kc _ (gm_si hf) _ _ _ (lv_sub hl [2, 3, 4, 5, 6, 1, 0] rfl) hw)
        refine L63_1 _ _ _ hlp ?_ _ _ _ (lv_sub hl [4, 5, 6, 3, 2, 1, 0] rfl) hw
        obtain ⟨w6_15, rfl⟩ : ∃ y, y = o1 := ⟨_, rfl⟩
        intro H locs ls hl hw
        try dsimp only at hf
        refine gm_aload_n (G := GM) (r := 1) C rfl dX11_chance_86 rfl (lv_at hl 0 rfl) ?_
        refine gm_getS (G := GM) (u := u_6) (r := 1) (ci := 10) (k := 39) C hw rfl fl_X11_93 dX11_chance_87 rfl (q := 29) rfl ?_
        refine lv_iconst (v := 0) hx hb dX11_chance_90 (by decide) ?_
        refine gm_aload_n (G := GM) (r := 1) C rfl dX11_chance_91 rfl (lv_at hl 0 rfl) ?_
        refine gm_getS (G := GM) (u := u_6) (r := 1) (ci := 10) (k := 41) C hw rfl fl_X11_99 dX11_chance_92 rfl (q := 31) rfl ?_
        refine lv_iconst (v := 0) hx hb dX11_chance_95 (by decide) ?_
        obtain ⟨u_16, hc_17, hf⟩ := gm_bnd hf
        refine gm_callS (G := GM) (u := u_6) (u' := u_16) (As := [rv Z 29, .int (0 : Int32), rv Z 31, .int (0 : Int32)]) (rest := []) (res := none) C hw hl (ok_X11_copies l Z 29 22 (0 : Int32) 31 22 (0 : Int32) u_6 rfl rfl u_16 hc_17) cw_X11_376 st_X11_copies rfl rfl ⟨Nat.le_trans (Nat.le_of_ble_eq_true rfl) hRf, Nat.le_trans (Nat.le_of_ble_eq_true rfl) hRl⟩ rfl rfl (Nat.le_of_ble_eq_true rfl) dX11_chance_96 (fun H locs hw => ?_)
        refine lv_iconst (v := 0) hx hb dX11_chance_99 (by decide) ?_
        refine lv_istore (i := 8) (lv' := [(8, .int (0 : Int32)), (0, rv Z 1), (1, .int a1), (2, .int a2), (3, .int v3_9), (4, .long (0 : Int64)), (6, .long w6_15)]) hx hb dX11_chance_100 hl (by decide) rfl (fun ls hl => ?_)
        obtain ⟨o2, hlp, hf⟩ := gm_bnd hf
        have L102_3 := gm_loop (b_X11_chance_102 a1 a2 v3_9 w6_15) (fun x : (Int64 × Int32 × gm_M) => ∀ (H : Heap) (locs : List Loc) (ls : Array Slot), lv_has ls 13 [(0, rv Z 1), (1, .int a1), (2, .int a2), (3, .int v3_9), (4, .long x.1), (6, .long w6_15), (8, .int x.2.1)] → wd GM Z x.2.2 A s.heap H locs → W p l e R s m args below meth c H locs 0 0 Q (F0 m 102 ls [])) (fun z : ((Int64 × gm_M)) => ∀ (H : Heap) (locs : List Loc) (ls : Array Slot), lv_has ls 13 [(4, .long z.1), (6, .long w6_15)] → wd GM Z z.2 A s.heap H locs → W p l e R s m args below meth c H locs 0 0 Q (F0 m 242 ls [])) (by
          intro x o2 hf Kc Kx
          obtain ⟨v4_19, v8_20, u_18⟩ := x
          intro H locs ls hl hw
          unfold b_X11_chance_102 at hf
          try dsimp only at hf
          have J223 : ∀ (v4_22 : Int64) (v8_23 : Int32) (u_21 : gm_M) (H : Heap) (locs : List Loc) (ls : Array Slot), j_X11_chance_223 a1 a2 v3_9 w6_15 v4_22 v8_23 u_21 = some o2 → lv_has ls 13 [(0, rv Z 1), (1, .int a1), (2, .int a2), (3, .int v3_9), (4, .long v4_22), (6, .long w6_15), (8, .int v8_23)] → wd GM Z u_21 A s.heap H locs → W p l e R s m args below meth c H locs 0 0 Q (F0 m 223 ls []) := by
            intro v4_22 v8_23 u_21 H locs ls hf  hl hw
            unfold j_X11_chance_223 at hf
            refine gm_aload_n (G := GM) (r := 1) C rfl dX11_chance_223 rfl (lv_at hl 0 rfl) ?_
            refine gm_getS (G := GM) (u := u_21) (r := 1) (ci := 10) (k := 41) C hw rfl fl_X11_99 dX11_chance_224 rfl (q := 31) rfl ?_
            refine lv_iconst (v := 0) hx hb dX11_chance_227 (by decide) ?_
            refine gm_aload_n (G := GM) (r := 1) C rfl dX11_chance_228 rfl (lv_at hl 0 rfl) ?_
            refine gm_getS (G := GM) (u := u_21) (r := 1) (ci := 10) (k := 39) C hw rfl fl_X11_93 dX11_chance_229 rfl (q := 29) rfl ?_
            refine lv_iconst (v := 0) hx hb dX11_chance_232 (by decide) ?_
            obtain ⟨u_24, hc_25, hf⟩ := gm_bnd hf
            refine gm_callS (G := GM) (u := u_21) (u' := u_24) (As := [rv Z 31, .int (0 : Int32), rv Z 29, .int (0 : Int32)]) (rest := []) (res := none) C hw hl (ok_X11_copies l Z 31 22 (0 : Int32) 29 22 (0 : Int32) u_21 rfl rfl u_24 hc_25) cw_X11_376 st_X11_copies rfl rfl ⟨Nat.le_trans (Nat.le_of_ble_eq_true rfl) hRf, Nat.le_trans (Nat.le_of_ble_eq_true rfl) hRl⟩ rfl rfl (Nat.le_of_ble_eq_true rfl) dX11_chance_233 (fun H locs hw => ?_)
            refine lv_iinc (v := v8_23 + (1 : Int32)) (lv' := [(8, .int (v8_23 + (1 : Int32))), (0, rv Z 1), (1, .int a1), (2, .int a2), (3, .int v3_9), (4, .long v4_22), (6, .long w6_15)]) hx hb dX11_chance_236 hl (k := 6) rfl rfl (by decide) rfl (fun ls hl => ?_)
            refine lv_goto (tgt := 102) hx hb dX11_chance_239 (by decide) ?_
            exact Kc _ (gm_si hf) _ _ _ (lv_sub hl [1, 2, 3, 4, 5, 6, 0] rfl) hw
          refine lv_iload hx hb dX11_chance_102 (lv_at hl 6 rfl) ?_
          refine lv_iload_n hx hb dX11_chance_104 rfl (lv_at hl 3 rfl) ?_
          refine lv_icmp_gt (tgt := 242) hx hb dX11_chance_105 (by decide) (fun hc => ?_) (fun hc => ?_)
          · replace hf := (if_pos hc).symm.trans hf
            exact Kx _ (gm_si hf) _ _ _ (lv_sub hl [4, 5] rfl) hw
          · replace hf := (if_neg hc).symm.trans hf
            refine lv_iload hx hb dX11_chance_108 (lv_at hl 6 rfl) ?_
            refine lv_iload_n hx hb dX11_chance_110 rfl (lv_at hl 3 rfl) ?_
            refine lv_iconst (v := -1) hx hb dX11_chance_111 (by decide) ?_
            refine lv_ixor hx hb dX11_chance_112 ?_
            refine lv_iand hx hb dX11_chance_113 ?_
            refine lv_if_eq (tgt := 120) hx hb dX11_chance_114 (by decide) (fun hc => ?_) (fun hc => ?_)
            · replace hf := (if_pos hc).symm.trans hf
              refine lv_lconst (v := 1) hx hb dX11_chance_120 (by decide) ?_
              refine lv_lstore (i := 9) (lv' := [(9, .long (1 : Int64)), (0, rv Z 1), (1, .int a1), (2, .int a2), (3, .int v3_9), (4, .long v4_19), (6, .long w6_15), (8, .int v8_20)]) hx hb dX11_chance_121 hl (by decide) rfl (fun ls hl => ?_)
              refine lv_iconst (v := 0) hx hb dX11_chance_123 (by decide) ?_
              refine lv_istore (i := 11) (lv' := [(11, .int (0 : Int32)), (9, .long (1 : Int64)), (0, rv Z 1), (1, .int a1), (2, .int a2), (3, .int v3_9), (4, .long v4_19), (6, .long w6_15), (8, .int v8_20)]) hx hb dX11_chance_124 hl (by decide) rfl (fun ls hl => ?_)
              obtain ⟨o3, hlp, hf⟩ := gm_bnd hf
              have L126_3 := gm_loop (b_X11_chance_126 a1 a2 v3_9 v4_19 w6_15 v8_20) (fun x : (Int64 × Int32 × gm_M) => ∀ (H : Heap) (locs : List Loc) (ls : Array Slot), lv_has ls 13 [(0, rv Z 1), (1, .int a1), (2, .int a2), (3, .int v3_9), (4, .long v4_19), (6, .long w6_15), (8, .int v8_20), (9, .long x.1), (11, .int x.2.1)] → wd GM Z x.2.2 A s.heap H locs → W p l e R s m args below meth c H locs 0 0 Q (F0 m 126 ls [])) (fun z : ((Int64 × gm_M)) => ∀ (H : Heap) (locs : List Loc) (ls : Array Slot), lv_has ls 13 [(0, rv Z 1), (1, .int a1), (2, .int a2), (3, .int v3_9), (4, .long v4_19), (6, .long w6_15), (8, .int v8_20), (9, .long z.1)] → wd GM Z z.2 A s.heap H locs → W p l e R s m args below meth c H locs 0 0 Q (F0 m 204 ls [])) (by
                intro x o3 hf Kc Kx
                obtain ⟨v9_27, v11_28, u_26⟩ := x
                intro H locs ls hl hw
                unfold b_X11_chance_126 at hf
                try dsimp only at hf
                have J184 : ∀ (v11_30 : Int32) (v12_31 : Int32) (t_32 : Int64) (t_33 : Int64) (u_29 : gm_M) (H : Heap) (locs : List Loc) (ls : Array Slot), j_X11_chance_184 a1 a2 v3_9 v4_19 w6_15 v8_20 v11_30 v12_31 t_32 t_33 u_29 = some o3 → lv_has ls 13 [(0, rv Z 1), (1, .int a1), (2, .int a2), (3, .int v3_9), (4, .long v4_19), (6, .long w6_15), (8, .int v8_20), (11, .int v11_30), (12, .int v12_31)] → wd GM Z u_29 A s.heap H locs → W p l e R s m args below meth c H locs 0 0 Q (F0 m 184 ls [.long t_33, .long t_32]) := by
                  intro v11_30 v12_31 t_32 t_33 u_29 H locs ls hf  hl hw
                  unfold j_X11_chance_184 at hf
                  refine lv_lmul hx hb dX11_chance_184 ?_
                  obtain ⟨v9_34, e_v9_34, hf⟩ := gm_le hf
                  refine gm_topJ e_v9_34 ?_
                  refine lv_lstore (i := 9) (lv' := [(9, .long v9_34), (0, rv Z 1), (1, .int a1), (2, .int a2), (3, .int v3_9), (4, .long v4_19), (6, .long w6_15), (8, .int v8_20), (11, .int v11_30), (12, .int v12_31)]) hx hb dX11_chance_185 hl (by decide) rfl (fun ls hl => ?_)
                  refine lv_iload hx hb dX11_chance_187 (lv_at hl 9 rfl) ?_
                  refine lv_if_ne (tgt := 198) hx hb dX11_chance_189 (by decide) (fun hc => ?_) (fun hc => ?_)
                  · replace hf := (if_neg hc).symm.trans hf
                    refine lv_iinc (v := v11_30 + (1 : Int32)) (lv' := [(11, .int (v11_30 + (1 : Int32))), (9, .long v9_34), (0, rv Z 1), (1, .int a1), (2, .int a2), (3, .int v3_9), (4, .long v4_19), (6, .long w6_15), (8, .int v8_20), (12, .int v12_31)]) hx hb dX11_chance_198 hl (k := 8) rfl rfl (by decide) rfl (fun ls hl => ?_)
                    refine lv_goto (tgt := 126) hx hb dX11_chance_201 (by decide) ?_
                    exact Kc _ (gm_si hf) _ _ _ (lv_sub hl [2, 3, 4, 5, 6, 7, 8, 1, 0] rfl) hw
                  · replace hf := (if_pos hc).symm.trans hf
                    refine gm_aload_n (G := GM) (r := 1) C rfl dX11_chance_192 rfl (lv_at hl 1 rfl) ?_
                    refine lv_iload hx hb dX11_chance_193 (lv_at hl 8 rfl) ?_
                    obtain ⟨u_35, hc_36, hf⟩ := gm_bnd hf
                    refine gm_callV (G := GM) (u := u_29) (u' := u_35) (r := 1) (ci := 10) (As := [.int v11_30]) (rest := []) (res := none) C hw hl (ok_X11_leaves l Z v11_30 u_29 u_35 hc_36) cw_X11_361 im_X11_leaves rfl se_X11_leaves rfl rfl rfl ⟨Nat.le_trans (Nat.le_of_ble_eq_true rfl) hRf, Nat.le_trans (Nat.le_of_ble_eq_true rfl) hRl⟩ rfl rfl (Nat.le_of_ble_eq_true rfl) dX11_chance_195 (fun H locs hw => ?_)
                    refine lv_iinc (v := v11_30 + (1 : Int32)) (lv' := [(11, .int (v11_30 + (1 : Int32))), (9, .long v9_34), (0, rv Z 1), (1, .int a1), (2, .int a2), (3, .int v3_9), (4, .long v4_19), (6, .long w6_15), (8, .int v8_20), (12, .int v12_31)]) hx hb dX11_chance_198 hl (k := 8) rfl rfl (by decide) rfl (fun ls hl => ?_)
                    refine lv_goto (tgt := 126) hx hb dX11_chance_201 (by decide) ?_
                    exact Kc _ (gm_si hf) _ _ _ (lv_sub hl [2, 3, 4, 5, 6, 7, 8, 1, 0] rfl) hw
                have J165 : ∀ (v9_38 : Int64) (v11_39 : Int32) (t_40 : Int32) (u_37 : gm_M) (H : Heap) (locs : List Loc) (ls : Array Slot), j_X11_chance_165 a1 a2 v3_9 v4_19 w6_15 v8_20 v9_38 v11_39 t_40 u_37 = some o3 → lv_has ls 13 [(0, rv Z 1), (1, .int a1), (2, .int a2), (3, .int v3_9), (4, .long v4_19), (6, .long w6_15), (8, .int v8_20), (9, .long v9_38), (11, .int v11_39)] → wd GM Z u_37 A s.heap H locs → W p l e R s m args below meth c H locs 0 0 Q (F0 m 165 ls [.int t_40]) := by
                  intro v9_38 v11_39 t_40 u_37 H locs ls hf  hl hw
                  unfold j_X11_chance_165 at hf
                  refine lv_istore (i := 12) (lv' := [(12, .int t_40), (0, rv Z 1), (1, .int a1), (2, .int a2), (3, .int v3_9), (4, .long v4_19), (6, .long w6_15), (8, .int v8_20), (9, .long v9_38), (11, .int v11_39)]) hx hb dX11_chance_165 hl (by decide) rfl (fun ls hl => ?_)
                  refine lv_lload hx hb dX11_chance_167 (lv_at hl 8 rfl) ?_
                  refine lv_iload hx hb dX11_chance_169 (lv_at hl 0 rfl) ?_
                  refine lv_if_eq (tgt := 179) hx hb dX11_chance_171 (by decide) (fun hc => ?_) (fun hc => ?_)
                  · replace hf := (if_pos hc).symm.trans hf
                    refine lv_bipush (v := 10) hx hb dX11_chance_179 (by decide) ?_
                    refine lv_iload_n hx hb dX11_chance_181 rfl (lv_at hl 3 rfl) ?_
                    refine lv_isub hx hb dX11_chance_182 ?_
                    refine lv_i2l hx hb dX11_chance_183 rfl ?_
                    exact J184 v11_39 t_40 v9_38 (((10 : Int32) - a2).toInt64) u_37 _ _ _ hf  (lv_sub hl [1, 2, 3, 4, 5, 6, 7, 9, 0] rfl) hw
                  · replace hf := (if_neg hc).symm.trans hf
                    refine lv_iload_n hx hb dX11_chance_174 rfl (lv_at hl 3 rfl) ?_
                    refine lv_i2l hx hb dX11_chance_175 rfl ?_
                    refine lv_goto (tgt := 184) hx hb dX11_chance_176 (by decide) ?_
                    exact J184 v11_39 t_40 v9_38 a2.toInt64 u_37 _ _ _ hf  (lv_sub hl [1, 2, 3, 4, 5, 6, 7, 9, 0] rfl) hw
                refine lv_iload hx hb dX11_chance_126 (lv_at hl 8 rfl) ?_
                refine gm_aload_n (G := GM) (r := 1) C rfl dX11_chance_128 rfl (lv_at hl 0 rfl) ?_
                refine gm_getS (G := GM) (u := u_26) (r := 1) (ci := 10) (k := 10) C hw rfl fl_X11_13 dX11_chance_129 rfl (q := 3) rfl ?_
                refine lv_iconst (v := 0) hx hb dX11_chance_132 (by decide) ?_
                refine gm_iald (G := GM) (u := u_26) (r := 3) (n := 8) (i := (0 : Int32)) C hw rfl (by decide) (j := 0) (by decide) dX11_chance_133 ?_
                refine lv_icmp_ge (tgt := 204) hx hb dX11_chance_134 (by decide) (fun hc => ?_) (fun hc => ?_)
                · replace hf := (if_pos hc).symm.trans hf
                  exact Kx _ (gm_si hf) _ _ _ (lv_sub hl [0, 1, 2, 3, 4, 5, 6, 7] rfl) hw
                · replace hf := (if_neg hc).symm.trans hf
                  refine lv_iload_n hx hb dX11_chance_137 rfl (lv_at hl 3 rfl) ?_
                  refine lv_iload hx hb dX11_chance_138 (lv_at hl 8 rfl) ?_
                  refine lv_ishr hx hb dX11_chance_140 ?_
                  refine lv_iconst (v := 1) hx hb dX11_chance_141 (by decide) ?_
                  refine lv_iand hx hb dX11_chance_142 ?_
                  refine lv_if_ne (tgt := 149) hx hb dX11_chance_143 (by decide) (fun hc => ?_) (fun hc => ?_)
                  · replace hf := (if_neg hc).symm.trans hf
                    refine lv_iload hx hb dX11_chance_149 (lv_at hl 6 rfl) ?_
                    refine lv_iload hx hb dX11_chance_151 (lv_at hl 8 rfl) ?_
                    refine lv_ishr hx hb dX11_chance_153 ?_
                    refine lv_iconst (v := 1) hx hb dX11_chance_154 (by decide) ?_
                    refine lv_iand hx hb dX11_chance_155 ?_
                    refine lv_iconst (v := 1) hx hb dX11_chance_156 (by decide) ?_
                    refine lv_icmp_ne (tgt := 164) hx hb dX11_chance_157 (by decide) (fun hc => ?_) (fun hc => ?_)
                    · replace hf := (if_neg hc).symm.trans hf
                      refine lv_iconst (v := 0) hx hb dX11_chance_164 (by decide) ?_
                      exact J165 v9_27 v11_28 (0 : Int32) u_26 _ _ _ hf  (lv_sub hl [0, 1, 2, 3, 4, 5, 6, 7, 8] rfl) hw
                    · replace hf := (if_pos hc).symm.trans hf
                      refine lv_iconst (v := 1) hx hb dX11_chance_160 (by decide) ?_
                      refine lv_goto (tgt := 165) hx hb dX11_chance_161 (by decide) ?_
                      exact J165 v9_27 v11_28 (1 : Int32) u_26 _ _ _ hf  (lv_sub hl [0, 1, 2, 3, 4, 5, 6, 7, 8] rfl) hw
                  · replace hf := (if_pos hc).symm.trans hf
                    refine lv_goto (tgt := 198) hx hb dX11_chance_146 (by decide) ?_
                    refine lv_iinc (v := v11_28 + (1 : Int32)) (lv' := [(11, .int (v11_28 + (1 : Int32))), (0, rv Z 1), (1, .int a1), (2, .int a2), (3, .int v3_9), (4, .long v4_19), (6, .long w6_15), (8, .int v8_20), (9, .long v9_27)]) hx hb dX11_chance_198 hl (k := 8) rfl rfl (by decide) rfl (fun ls hl => ?_)
                    refine lv_goto (tgt := 126) hx hb dX11_chance_201 (by decide) ?_
                    exact Kc _ (gm_si hf) _ _ _ (lv_sub hl [1, 2, 3, 4, 5, 6, 7, 8, 0] rfl) hw)
              refine L126_3 _ _ _ hlp ?_ _ _ _ (lv_sub hl [2, 3, 4, 5, 6, 7, 8, 1, 0] rfl) hw
              obtain ⟨w9_41, u_42⟩ := o3
              intro H locs ls hl hw
              try dsimp only at hf
              refine gm_aload_n (G := GM) (r := 1) C rfl dX11_chance_204 rfl (lv_at hl 0 rfl) ?_
              obtain ⟨u_43, hc_44, hf⟩ := gm_bnd hf
              refine gm_callV (G := GM) (u := u_42) (u' := u_43) (r := 1) (ci := 10) (As := []) (rest := []) (res := none) C hw hl (ok_X11_rides l Z u_42 u_43 hc_44) cw_X11_392 im_X11_rides rfl se_X11_rides rfl rfl rfl ⟨Nat.le_trans (Nat.le_of_ble_eq_true rfl) hRf, Nat.le_trans (Nat.le_of_ble_eq_true rfl) hRl⟩ rfl rfl (Nat.le_of_ble_eq_true rfl) dX11_chance_205 (fun H locs hw => ?_)
              refine gm_aload_n (G := GM) (r := 1) C rfl dX11_chance_208 rfl (lv_at hl 0 rfl) ?_
              refine lv_iload_n hx hb dX11_chance_209 rfl (lv_at hl 1 rfl) ?_
              obtain ⟨r_45, e_r_45, hf⟩ := gm_le hf
              refine gm_callV (G := GM) (u := u_43) (u' := u_43) (r := 1) (ci := 10) (As := [.int a1]) (rest := []) (res := (some (.int (f_X11_isHeard a1 u_43)))) C hw hl (ok_X11_isHeard l Z a1 u_43) cw_X11_327 im_X11_isHeard rfl se_X11_isHeard rfl rfl rfl ⟨Nat.le_trans (Nat.le_of_ble_eq_true rfl) hRf, Nat.le_trans (Nat.le_of_ble_eq_true rfl) hRl⟩ rfl rfl (Nat.le_of_ble_eq_true rfl) dX11_chance_210 (fun H locs hw => ?_)
              refine gm_topI e_r_45 ?_
              refine lv_if_eq (tgt := 223) hx hb dX11_chance_213 (by decide) (fun hc => ?_) (fun hc => ?_)
              · replace hf := (if_pos hc).symm.trans hf
                exact J223 v4_19 v8_20 u_43 _ _ _ hf  (lv_sub hl [0, 1, 2, 3, 4, 5, 6] rfl) hw
              · replace hf := (if_neg hc).symm.trans hf
                refine lv_lload hx hb dX11_chance_216 (lv_at hl 4 rfl) ?_
                refine lv_lload hx hb dX11_chance_218 (lv_at hl 7 rfl) ?_
                refine lv_ladd hx hb dX11_chance_220 ?_
                obtain ⟨v4_46, e_v4_46, hf⟩ := gm_le hf
                refine gm_topJ e_v4_46 ?_
                refine lv_lstore (i := 4) (lv' := [(4, .long v4_46), (0, rv Z 1), (1, .int a1), (2, .int a2), (3, .int v3_9), (6, .long w6_15), (8, .int v8_20), (9, .long w9_41)]) hx hb dX11_chance_221 hl (by decide) rfl (fun ls hl => ?_)
                exact J223 v4_46 v8_20 u_43 _ _ _ hf  (lv_sub hl [1, 2, 3, 4, 0, 5, 6] rfl) hw
            · replace hf := (if_neg hc).symm.trans hf
              refine lv_goto (tgt := 236) hx hb dX11_chance_117 (by decide) ?_
              refine lv_iinc (v := v8_20 + (1 : Int32)) (lv' := [(8, .int (v8_20 + (1 : Int32))), (0, rv Z 1), (1, .int a1), (2, .int a2), (3, .int v3_9), (4, .long v4_19), (6, .long w6_15)]) hx hb dX11_chance_236 hl (k := 6) rfl rfl (by decide) rfl (fun ls hl => ?_)
              refine lv_goto (tgt := 102) hx hb dX11_chance_239 (by decide) ?_
              exact Kc _ (gm_si hf) _ _ _ (lv_sub hl [1, 2, 3, 4, 5, 6, 0] rfl) hw)
        refine L102_3 _ _ _ hlp ?_ _ _ _ (lv_sub hl [1, 2, 3, 4, 5, 6, 0] rfl) hw
        obtain ⟨w4_47, u_48⟩ := o2
        intro H locs ls hl hw
        try dsimp only at hf
        refine lv_lload hx hb dX11_chance_242 (lv_at hl 0 rfl) ?_
        refine lv_ldc2 hx hb C.2.2.2.1 (C.2.2.2.2.1 _ kn_X11_431) dX11_chance_244 ?_
        refine lv_lmul hx hb dX11_chance_247 ?_
        refine lv_lload hx hb dX11_chance_248 (lv_at hl 1 rfl) ?_
        obtain ⟨g_49, hf⟩ := gm_grd hf
        refine lv_ldiv hx hb dX11_chance_250 g_49 ?_
        refine lv_l2i hx hb dX11_chance_251 rfl ?_
        exact gm_iret C E hw rfl ((congrArg (fun z => some (Value.int z)) (gm_sp hf).1).symm) (gm_sp hf).2.symm dX11_chance_252
      · replace hf := (if_pos hc).symm.trans hf
        refine lv_iconst (v := -1) hx hb dX11_chance_31 (by decide) ?_
        exact gm_iret C E hw rfl ((congrArg (fun z => some (Value.int z)) (gm_sp hf).1).symm) (gm_sp hf).2.symm dX11_chance_32
/-! LeapCapitalModel.getsBy -/
def f_X11_getsBy (a0 : Int32) (a1 : Int32) (a2 : Int32) (a3 : Int32) (a4 : Int32) : Int32 := if a3 = (1 : Int32) then if a4 = (1 : Int32) then -a0 else a1 else if a4 = (1 : Int32) then a2 else (0 : Int32)
set_option maxRecDepth 100000 in
set_option maxHeartbeats 4000000 in
theorem ok_X11_getsBy (l : Launch) (Z : gm_Z) (a0 : Int32) (a1 : Int32) (a2 : Int32) (a3 : Int32) (a4 : Int32) (u : gm_M)  : gm_Met l GM Z yX11_getsBy cX11_getsBy 5 (some .int) ({ frames := 0, cells := 0, slots := 0, locals := 0 }) [.int a0, .int a1, .int a2, .int a3, .int a4] u (some (.int (f_X11_getsBy a0 a1 a2 a3 a4))) u := by
  obtain ⟨r, hf⟩ : ∃ r, f_X11_getsBy a0 a1 a2 a3 a4 = r := ⟨_, rfl⟩
  rw [hf]
  unfold f_X11_getsBy at hf
  refine gm_ofW (by decide +kernel) (Nat.le_of_ble_eq_true rfl) ?_
  intro p e s m args below meth c A ls Q R hRf hRl C E hl hw
  obtain ⟨hx, hb, -⟩ := id C
  have hl : lv_has ls 5 [(0, .int a0), (1, .int a1), (2, .int a2), (3, .int a3), (4, .int a4)] := hl
  refine lv_iload_n hx hb dX11_getsBy_0 rfl (lv_at hl 3 rfl) ?_
  refine lv_iconst (v := 1) hx hb dX11_getsBy_1 (by decide) ?_
  refine lv_icmp_ne (tgt := 20) hx hb dX11_getsBy_2 (by decide) (fun hc => ?_) (fun hc => ?_)
  · replace hf := (if_neg hc).symm.trans hf
    refine lv_iload hx hb dX11_getsBy_20 (lv_at hl 4 rfl) ?_
    refine lv_iconst (v := 1) hx hb dX11_getsBy_22 (by decide) ?_
    refine lv_icmp_ne (tgt := 30) hx hb dX11_getsBy_23 (by decide) (fun hc => ?_) (fun hc => ?_)
    · replace hf := (if_neg hc).symm.trans hf
      refine lv_iconst (v := 0) hx hb dX11_getsBy_30 (by decide) ?_
      exact gm_iret C E hw rfl ((congrArg (fun z => some (Value.int z)) hf).symm) rfl dX11_getsBy_31
    · replace hf := (if_pos hc).symm.trans hf
      refine lv_iload_n hx hb dX11_getsBy_26 rfl (lv_at hl 2 rfl) ?_
      refine lv_goto (tgt := 31) hx hb dX11_getsBy_27 (by decide) ?_
      exact gm_iret C E hw rfl ((congrArg (fun z => some (Value.int z)) hf).symm) rfl dX11_getsBy_31
  · replace hf := (if_pos hc).symm.trans hf
    refine lv_iload hx hb dX11_getsBy_5 (lv_at hl 4 rfl) ?_
    refine lv_iconst (v := 1) hx hb dX11_getsBy_7 (by decide) ?_
    refine lv_icmp_ne (tgt := 16) hx hb dX11_getsBy_8 (by decide) (fun hc => ?_) (fun hc => ?_)
    · replace hf := (if_neg hc).symm.trans hf
      refine lv_iload_n hx hb dX11_getsBy_16 rfl (lv_at hl 1 rfl) ?_
      refine lv_goto (tgt := 31) hx hb dX11_getsBy_17 (by decide) ?_
      exact gm_iret C E hw rfl ((congrArg (fun z => some (Value.int z)) hf).symm) rfl dX11_getsBy_31
    · replace hf := (if_pos hc).symm.trans hf
      refine lv_iload_n hx hb dX11_getsBy_11 rfl (lv_at hl 0 rfl) ?_
      refine lv_ineg hx hb dX11_getsBy_12 ?_
      refine lv_goto (tgt := 31) hx hb dX11_getsBy_13 (by decide) ?_
      exact gm_iret C E hw rfl ((congrArg (fun z => some (Value.int z)) hf).symm) rfl dX11_getsBy_31
/-! LeapCapitalModel.rests -/
def j_X11_rests_163 (a1 : Int32) (a2 : Int32) (a3 : Int32) (a4 : Int32) (v5_2 : Int32) (t_3 : Int32) (u_1 : gm_M) : Option (Int32 × gm_M) := gm_let (sI u_1 1 0 t_3) fun u_4 => if a4 = (-1 : Int32) then some (v5_2, u_4) else some ((0 : Int32), u_4)
def b_X11_rests_61 (a1 : Int32) (a2 : Int32) (a3 : Int32) (a4 : Int32) (u_7 : gm_M) : (Int32 × Int32) → Option ((Int32 × Int32) ⊕ (Int32 ⊕ Int32)) := fun x => match x with | (v5_8, v6_9) => if (4 : Int32) ≤ v6_9 then some (.inr (.inr v5_8)) else gm_let (v6_9 / (2 : Int32)) fun v7_10 => gm_let (iRem v6_9 (2 : Int32)) fun v8_11 => gm_let (f_X11_getsBy a1 a2 a3 ((1 : Int32) - v7_10) v8_11) fun r_12 => gm_let (f_X11_getsBy a1 a2 a3 v7_10 v8_11) fun r_13 => if r_13 < r_12 then some (.inl (v5_8, v6_9 + (1 : Int32))) else gm_let (f_X11_getsBy a1 a2 a3 ((1 : Int32) - v8_11) v7_10) fun r_14 => gm_let (f_X11_getsBy a1 a2 a3 v8_11 v7_10) fun r_15 => if r_14 ≤ r_15 then if v5_8 = a4 then some (.inr (.inl v6_9)) else some (.inl (v5_8 + (1 : Int32), v6_9 + (1 : Int32))) else some (.inl (v5_8, v6_9 + (1 : Int32)))
def j_X11_rests_42 (a1 : Int32) (a2 : Int32) (a3 : Int32) (a4 : Int32) (t_6 : Int32) (u_5 : gm_M) : Option (Int32 × gm_M) := gm_let (sI u_5 1 0 t_6) fun u_7 => if (gI u_7 1 0) = (1 : Int32) then some ((0 : Int32), u_7) else ((gm_lp (b_X11_rests_61 a1 a2 a3 a4 u_7) gm_FU ((0 : Int32), (0 : Int32))).bind fun o => match o with | .inl w6_16 => (some (w6_16, u_7)) | .inr (w5_17) => (if a4 = (-1 : Int32) then j_X11_rests_163 a1 a2 a3 a4 w5_17 (0 : Int32) u_7 else j_X11_rests_163 a1 a2 a3 a4 w5_17 (1 : Int32) u_7))
def j_X11_rests_41 (a1 : Int32) (a2 : Int32) (a3 : Int32) (a4 : Int32) (u_19 : gm_M) : Option (Int32 × gm_M) := j_X11_rests_42 a1 a2 a3 a4 (1 : Int32) u_19
def f_X11_rests (a1 : Int32) (a2 : Int32) (a3 : Int32) (a4 : Int32) (u : gm_M) : Option (Int32 × gm_M) := gm_let (f_X11_within a1 (0 : Int32) (9 : Int32)) fun r_20 => if r_20 = 0 then j_X11_rests_41 a1 a2 a3 a4 u else gm_let (f_X11_within a2 (0 : Int32) (9 : Int32)) fun r_21 => if r_21 = 0 then j_X11_rests_41 a1 a2 a3 a4 u else gm_let (f_X11_within a3 (0 : Int32) (9 : Int32)) fun r_22 => if r_22 = 0 then j_X11_rests_41 a1 a2 a3 a4 u else if a4 < (-1 : Int32) then j_X11_rests_41 a1 a2 a3 a4 u else j_X11_rests_42 a1 a2 a3 a4 (0 : Int32) u
set_option maxRecDepth 100000 in
set_option maxHeartbeats 4000000 in
theorem ok_X11_rests (l : Launch) (Z : gm_Z) (a1 : Int32) (a2 : Int32) (a3 : Int32) (a4 : Int32) (u : gm_M)  (r : Int32) (u' : gm_M) (hf : f_X11_rests a1 a2 a3 a4 u = some (r, u')) : gm_Met l GM Z yX11_rests cX11_rests 9 (some .int) ({ frames := 1, cells := 0, slots := 0, locals := 24 }) [rv Z 1, .int a1, .int a2, .int a3, .int a4] u (some (.int r)) u' := by
  unfold f_X11_rests at hf
  refine gm_ofW (by decide +kernel) (Nat.le_of_ble_eq_true rfl) ?_
  intro p e s m args below meth c A ls Q R hRf hRl C E hl hw
  obtain ⟨hx, hb, -⟩ := id C
  have hl : lv_has ls 9 [(0, rv Z 1), (1, .int a1), (2, .int a2), (3, .int a3), (4, .int a4)] := hl
  have J163 : ∀ (v5_2 : Int32) (t_3 : Int32) (u_1 : gm_M) (H : Heap) (locs : List Loc) (ls : Array Slot), j_X11_rests_163 a1 a2 a3 a4 v5_2 t_3 u_1 = some (r, u') → lv_has ls 9 [(4, .int a4), (5, .int v5_2)] → wd GM Z u_1 A s.heap H locs → W p l e R s m args below meth c H locs 0 0 Q (F0 m 163 ls [.int t_3, rv Z 1]) := by
    intro v5_2 t_3 u_1 H locs ls hf  hl hw
    unfold j_X11_rests_163 at hf
    refine gm_putI (G := GM) (u := u_1) (r := 1) (ci := 10) (k := 0) (v := t_3) C hw rfl fl_X11_137 fp_10_0 dX11_rests_163 rfl (fun H locs hw => ?_)
    obtain ⟨u_4, e_u_4, hf⟩ := gm_le hf
    rw [← e_u_4] at hw
    refine lv_iload hx hb dX11_rests_166 (lv_at hl 0 rfl) ?_
    refine lv_iconst (v := -1) hx hb dX11_rests_168 (by decide) ?_
    refine lv_icmp_ne (tgt := 177) hx hb dX11_rests_169 (by decide) (fun hc => ?_) (fun hc => ?_)
    · replace hf := (if_neg hc).symm.trans hf
      refine lv_iconst (v := 0) hx hb dX11_rests_177 (by decide) ?_
      exact gm_iret C E hw rfl ((congrArg (fun z => some (Value.int z)) (gm_sp hf).1).symm) (gm_sp hf).2.symm dX11_rests_178
    · replace hf := (if_pos hc).symm.trans hf
      refine lv_iload hx hb dX11_rests_172 (lv_at hl 1 rfl) ?_
      refine lv_goto (tgt := 178) hx hb dX11_rests_174 (by decide) ?_
      exact gm_iret C E hw rfl ((congrArg (fun z => some (Value.int z)) (gm_sp hf).1).symm) (gm_sp hf).2.symm dX11_rests_178
  have J42 : ∀ (t_6 : Int32) (u_5 : gm_M) (H : Heap) (locs : List Loc) (ls : Array Slot), j_X11_rests_42 a1 a2 a3 a4 t_6 u_5 = some (r, u') → lv_has ls 9 [(0, rv Z 1), (1, .int a1), (2, .int a2), (3, .int a3), (4, .int a4)] → wd GM Z u_5 A s.heap H locs → W p l e R s m args below meth c H locs 0 0 Q (F0 m 42 ls [.int t_6, rv Z 1]) := by
    intro t_6 u_5 H locs ls hf  hl hw
    unfold j_X11_rests_42 at hf
    refine gm_putI (G := GM) (u := u_5) (r := 1) (ci := 10) (k := 0) (v := t_6) C hw rfl fl_X11_137 fp_10_0 dX11_rests_42 rfl (fun H locs hw => ?_)
    obtain ⟨u_7, e_u_7, hf⟩ := gm_le hf
    rw [← e_u_7] at hw
    refine gm_aload_n (G := GM) (r := 1) C rfl dX11_rests_45 rfl (lv_at hl 0 rfl) ?_
    refine gm_getI (G := GM) (u := u_7) (r := 1) (ci := 10) (k := 0) C hw rfl fl_X11_137 dX11_rests_46 rfl ?_
    refine lv_iconst (v := 1) hx hb dX11_rests_49 (by decide) ?_
    refine lv_icmp_ne (tgt := 55) hx hb dX11_rests_50 (by decide) (fun hc => ?_) (fun hc => ?_)
    · replace hf := (if_neg hc).symm.trans hf
      refine lv_iconst (v := 0) hx hb dX11_rests_55 (by decide) ?_
      refine lv_istore (i := 5) (lv' := [(5, .int (0 : Int32)), (0, rv Z 1), (1, .int a1), (2, .int a2), (3, .int a3), (4, .int a4)]) hx hb dX11_rests_56 hl (by decide) rfl (fun ls hl => ?_)
      refine lv_iconst (v := 0) hx hb dX11_rests_58 (by decide) ?_
      refine lv_istore (i := 6) (lv' := [(6, .int (0 : Int32)), (5, .int (0 : Int32)), (0, rv Z 1), (1, .int a1), (2, .int a2), (3, .int a3), (4, .int a4)]) hx hb dX11_rests_59 hl (by decide) rfl (fun ls hl => ?_)
      obtain ⟨o1, hlp, hf⟩ := gm_bnd hf
      have L61_1 := gm_loop (b_X11_rests_61 a1 a2 a3 a4 u_7) (fun x : (Int32 × Int32) => ∀ (H : Heap) (locs : List Loc) (ls : Array Slot), lv_has ls 9 [(0, rv Z 1), (1, .int a1), (2, .int a2), (3, .int a3), (4, .int a4), (5, .int x.1), (6, .int x.2)] → wd GM Z u_7 A s.heap H locs → W p l e R s m args below meth c H locs 0 0 Q (F0 m 61 ls [])) (fun z : (Int32 ⊕ Int32) => match z with | .inl q0 => ∀ (H : Heap) (locs : List Loc) (ls : Array Slot), lv_has ls 9 [(6, .int q0)] → wd GM Z u_7 A s.heap H locs → W p l e R s m args below meth c H locs 0 0 Q (F0 m 139 ls []) | .inr p0 => ∀ (H : Heap) (locs : List Loc) (ls : Array Slot), lv_has ls 9 [(0, rv Z 1), (4, .int a4), (5, .int p0)] → wd GM Z u_7 A s.heap H locs → W p l e R s m args below meth c H locs 0 0 Q (F0 m 151 ls [])) (by
        intro x o1 hf Kc Kx
        obtain ⟨v5_8, v6_9⟩ := x
        intro H locs ls hl hw
        unfold b_X11_rests_61 at hf
        try dsimp only at hf
        refine lv_iload hx hb dX11_rests_61 (lv_at hl 6 rfl) ?_
        refine lv_iconst (v := 4) hx hb dX11_rests_63 (by decide) ?_
        refine lv_icmp_ge (tgt := 151) hx hb dX11_rests_64 (by decide) (fun hc => ?_) (fun hc => ?_)
        · replace hf := (if_pos hc).symm.trans hf
          exact Kx _ (gm_si hf) _ _ _ (lv_sub hl [0, 4, 5] rfl) hw
        · replace hf := (if_neg hc).symm.trans hf
          refine lv_iload hx hb dX11_rests_67 (lv_at hl 6 rfl) ?_
          refine lv_iconst (v := 2) hx hb dX11_rests_69 (by decide) ?_
          refine lv_idiv hx hb dX11_rests_70 (by decide) ?_
          obtain ⟨v7_10, e_v7_10, hf⟩ := gm_le hf
          refine gm_topI e_v7_10 ?_
          refine lv_istore (i := 7) (lv' := [(7, .int v7_10), (0, rv Z 1), (1, .int a1), (2, .int a2), (3, .int a3), (4, .int a4), (5, .int v5_8), (6, .int v6_9)]) hx hb dX11_rests_71 hl (by decide) rfl (fun ls hl => ?_)
          refine lv_iload hx hb dX11_rests_73 (lv_at hl 7 rfl) ?_
          refine lv_iconst (v := 2) hx hb dX11_rests_75 (by decide) ?_
          refine lv_irem hx hb dX11_rests_76 (by decide) ?_
          obtain ⟨v8_11, e_v8_11, hf⟩ := gm_le hf
          refine gm_topI e_v8_11 ?_
          refine lv_istore (i := 8) (lv' := [(8, .int v8_11), (7, .int v7_10), (0, rv Z 1), (1, .int a1), (2, .int a2), (3, .int a3), (4, .int a4), (5, .int v5_8), (6, .int v6_9)]) hx hb dX11_rests_77 hl (by decide) rfl (fun ls hl => ?_)
          refine lv_iload_n hx hb dX11_rests_79 rfl (lv_at hl 3 rfl) ?_
          refine lv_iload_n hx hb dX11_rests_80 rfl (lv_at hl 4 rfl) ?_
          refine lv_iload_n hx hb dX11_rests_81 rfl (lv_at hl 5 rfl) ?_
          refine lv_iconst (v := 1) hx hb dX11_rests_82 (by decide) ?_
          refine lv_iload hx hb dX11_rests_83 (lv_at hl 1 rfl) ?_
          refine lv_isub hx hb dX11_rests_85 ?_
          refine lv_iload hx hb dX11_rests_86 (lv_at hl 0 rfl) ?_
          obtain ⟨r_12, e_r_12, hf⟩ := gm_le hf
          refine gm_callS (G := GM) (u := u_7) (u' := u_7) (As := [.int a1, .int a2, .int a3, .int ((1 : Int32) - v7_10), .int v8_11]) (rest := []) (res := (some (.int (f_X11_getsBy a1 a2 a3 ((1 : Int32) - v7_10) v8_11)))) C hw hl (ok_X11_getsBy l Z a1 a2 a3 ((1 : Int32) - v7_10) v8_11 u_7) cw_X11_433 st_X11_getsBy rfl rfl ⟨Nat.le_trans (Nat.le_of_ble_eq_true rfl) hRf, Nat.le_trans (Nat.le_of_ble_eq_true rfl) hRl⟩ rfl rfl (Nat.le_of_ble_eq_true rfl) dX11_rests_88 (fun H locs hw => ?_)
          refine gm_topI e_r_12 ?_
          refine lv_iload_n hx hb dX11_rests_91 rfl (lv_at hl 3 rfl) ?_
          refine lv_iload_n hx hb dX11_rests_92 rfl (lv_at hl 4 rfl) ?_
          refine lv_iload_n hx hb dX11_rests_93 rfl (lv_at hl 5 rfl) ?_
          refine lv_iload hx hb dX11_rests_94 (lv_at hl 1 rfl) ?_
          refine lv_iload hx hb dX11_rests_96 (lv_at hl 0 rfl) ?_
          obtain ⟨r_13, e_r_13, hf⟩ := gm_le hf
          refine gm_callS (G := GM) (u := u_7) (u' := u_7) (As := [.int a1, .int a2, .int a3, .int v7_10, .int v8_11]) (rest := [.int r_12]) (res := (some (.int (f_X11_getsBy a1 a2 a3 v7_10 v8_11)))) C hw hl (ok_X11_getsBy l Z a1 a2 a3 v7_10 v8_11 u_7) cw_X11_433 st_X11_getsBy rfl rfl ⟨Nat.le_trans (Nat.le_of_ble_eq_true rfl) hRf, Nat.le_trans (Nat.le_of_ble_eq_true rfl) hRl⟩ rfl rfl (Nat.le_of_ble_eq_true rfl) dX11_rests_98 (fun H locs hw => ?_)
          refine gm_topI e_r_13 ?_
          refine lv_icmp_gt (tgt := 145) hx hb dX11_rests_101 (by decide) (fun hc => ?_) (fun hc => ?_)
          · replace hf := (if_pos hc).symm.trans hf
            refine lv_iinc (v := v6_9 + (1 : Int32)) (lv' := [(6, .int (v6_9 + (1 : Int32))), (8, .int v8_11), (7, .int v7_10), (0, rv Z 1), (1, .int a1), (2, .int a2), (3, .int a3), (4, .int a4), (5, .int v5_8)]) hx hb dX11_rests_145 hl (k := 8) rfl rfl (by decide) rfl (fun ls hl => ?_)
            refine lv_goto (tgt := 61) hx hb dX11_rests_148 (by decide) ?_
            exact Kc _ (gm_si hf) _ _ _ (lv_sub hl [3, 4, 5, 6, 7, 8, 0] rfl) hw
          · replace hf := (if_neg hc).symm.trans hf
            refine lv_iload_n hx hb dX11_rests_104 rfl (lv_at hl 3 rfl) ?_
            refine lv_iload_n hx hb dX11_rests_105 rfl (lv_at hl 4 rfl) ?_
            refine lv_iload_n hx hb dX11_rests_106 rfl (lv_at hl 5 rfl) ?_
            refine lv_iconst (v := 1) hx hb dX11_rests_107 (by decide) ?_
            refine lv_iload hx hb dX11_rests_108 (lv_at hl 0 rfl) ?_
            refine lv_isub hx hb dX11_rests_110 ?_
            refine lv_iload hx hb dX11_rests_111 (lv_at hl 1 rfl) ?_
            obtain ⟨r_14, e_r_14, hf⟩ := gm_le hf
            refine gm_callS (G := GM) (u := u_7) (u' := u_7) (As := [.int a1, .int a2, .int a3, .int ((1 : Int32) - v8_11), .int v7_10]) (rest := []) (res := (some (.int (f_X11_getsBy a1 a2 a3 ((1 : Int32) - v8_11) v7_10)))) C hw hl (ok_X11_getsBy l Z a1 a2 a3 ((1 : Int32) - v8_11) v7_10 u_7) cw_X11_433 st_X11_getsBy rfl rfl ⟨Nat.le_trans (Nat.le_of_ble_eq_true rfl) hRf, Nat.le_trans (Nat.le_of_ble_eq_true rfl) hRl⟩ rfl rfl (Nat.le_of_ble_eq_true rfl) dX11_rests_113 (fun H locs hw => ?_)
            refine gm_topI e_r_14 ?_
            refine lv_iload_n hx hb dX11_rests_116 rfl (lv_at hl 3 rfl) ?_
            refine lv_iload_n hx hb dX11_rests_117 rfl (lv_at hl 4 rfl) ?_
            refine lv_iload_n hx hb dX11_rests_118 rfl (lv_at hl 5 rfl) ?_
            refine lv_iload hx hb dX11_rests_119 (lv_at hl 0 rfl) ?_
            refine lv_iload hx hb dX11_rests_121 (lv_at hl 1 rfl) ?_
            obtain ⟨r_15, e_r_15, hf⟩ := gm_le hf
            refine gm_callS (G := GM) (u := u_7) (u' := u_7) (As := [.int a1, .int a2, .int a3, .int v8_11, .int v7_10]) (rest := [.int r_14]) (res := (some (.int (f_X11_getsBy a1 a2 a3 v8_11 v7_10)))) C hw hl (ok_X11_getsBy l Z a1 a2 a3 v8_11 v7_10 u_7) cw_X11_433 st_X11_getsBy rfl rfl ⟨Nat.le_trans (Nat.le_of_ble_eq_true rfl) hRf, Nat.le_trans (Nat.le_of_ble_eq_true rfl) hRl⟩ rfl rfl (Nat.le_of_ble_eq_true rfl) dX11_rests_123 (fun H locs hw => ?_)
            refine gm_topI e_r_15 ?_
            refine lv_icmp_le (tgt := 132) hx hb dX11_rests_126 (by decide) (fun hc => ?_) (fun hc => ?_)
            · replace hf := (if_pos hc).symm.trans hf
              refine lv_iload hx hb dX11_rests_132 (lv_at hl 7 rfl) ?_
              refine lv_iload hx hb dX11_rests_134 (lv_at hl 6 rfl) ?_
              refine lv_icmp_ne (tgt := 142) hx hb dX11_rests_136 (by decide) (fun hc => ?_) (fun hc => ?_)
              · replace hf := (if_neg hc).symm.trans hf
                refine lv_iinc (v := v5_8 + (1 : Int32)) (lv' := [(5, .int (v5_8 + (1 : Int32))), (8, .int v8_11), (7, .int v7_10), (0, rv Z 1), (1, .int a1), (2, .int a2), (3, .int a3), (4, .int a4), (6, .int v6_9)]) hx hb dX11_rests_142 hl (k := 7) rfl rfl (by decide) rfl (fun ls hl => ?_)
                refine lv_iinc (v := v6_9 + (1 : Int32)) (lv' := [(6, .int (v6_9 + (1 : Int32))), (5, .int (v5_8 + (1 : Int32))), (8, .int v8_11), (7, .int v7_10), (0, rv Z 1), (1, .int a1), (2, .int a2), (3, .int a3), (4, .int a4)]) hx hb dX11_rests_145 hl (k := 8) rfl rfl (by decide) rfl (fun ls hl => ?_)
                refine lv_goto (tgt := 61) hx hb dX11_rests_148 (by decide) ?_
                exact Kc _ (gm_si hf) _ _ _ (lv_sub hl [4, 5, 6, 7, 8, 1, 0] rfl) hw
              · replace hf := (if_pos hc).symm.trans hf
                exact Kx _ (gm_si hf) _ _ _ (lv_sub hl [8] rfl) hw
            · replace hf := (if_neg hc).symm.trans hf
              refine lv_goto (tgt := 145) hx hb dX11_rests_129 (by decide) ?_
              refine lv_iinc (v := v6_9 + (1 : Int32)) (lv' := [(6, .int (v6_9 + (1 : Int32))), (8, .int v8_11), (7, .int v7_10), (0, rv Z 1), (1, .int a1), (2, .int a2), (3, .int a3), (4, .int a4), (5, .int v5_8)]) hx hb dX11_rests_145 hl (k := 8) rfl rfl (by decide) rfl (fun ls hl => ?_)
              refine lv_goto (tgt := 61) hx hb dX11_rests_148 (by decide) ?_
              exact Kc _ (gm_si hf) _ _ _ (lv_sub hl [3, 4, 5, 6, 7, 8, 0] rfl) hw)
      refine L61_1 _ _ _ hlp ?_ _ _ _ (lv_sub hl [2, 3, 4, 5, 6, 1, 0] rfl) hw
      cases o1 with
      | inl q0_z_18 =>
        obtain ⟨w6_16, rfl⟩ : ∃ y, y = q0_z_18 := ⟨_, rfl⟩
        intro H locs ls hl hw
        try dsimp only at hf
        refine lv_iload hx hb dX11_rests_139 (lv_at hl 0 rfl) ?_
        exact gm_iret C E hw rfl ((congrArg (fun z => some (Value.int z)) (gm_sp hf).1).symm) (gm_sp hf).2.symm dX11_rests_141
      | inr p0_z_18 =>
        obtain ⟨w5_17, rfl⟩ : ∃ y, y = p0_z_18 := ⟨_, rfl⟩
        intro H locs ls hl hw
        try dsimp only at hf
        refine gm_aload_n (G := GM) (r := 1) C rfl dX11_rests_151 rfl (lv_at hl 0 rfl) ?_
        refine lv_iload hx hb dX11_rests_152 (lv_at hl 1 rfl) ?_
        refine lv_iconst (v := -1) hx hb dX11_rests_154 (by decide) ?_
        refine lv_icmp_ne (tgt := 162) hx hb dX11_rests_155 (by decide) (fun hc => ?_) (fun hc => ?_)
        · replace hf := (if_neg hc).symm.trans hf
          refine lv_iconst (v := 1) hx hb dX11_rests_162 (by decide) ?_
          exact J163 w5_17 (1 : Int32) u_7 _ _ _ hf  (lv_sub hl [1, 2] rfl) hw
        · replace hf := (if_pos hc).symm.trans hf
          refine lv_iconst (v := 0) hx hb dX11_rests_158 (by decide) ?_
          refine lv_goto (tgt := 163) hx hb dX11_rests_159 (by decide) ?_
          exact J163 w5_17 (0 : Int32) u_7 _ _ _ hf  (lv_sub hl [1, 2] rfl) hw
    · replace hf := (if_pos hc).symm.trans hf
      refine lv_iconst (v := 0) hx hb dX11_rests_53 (by decide) ?_
      exact gm_iret C E hw rfl ((congrArg (fun z => some (Value.int z)) (gm_sp hf).1).symm) (gm_sp hf).2.symm dX11_rests_54
  have J41 : ∀  (u_19 : gm_M) (H : Heap) (locs : List Loc) (ls : Array Slot), j_X11_rests_41 a1 a2 a3 a4 u_19 = some (r, u') → lv_has ls 9 [(0, rv Z 1), (1, .int a1), (2, .int a2), (3, .int a3), (4, .int a4)] → wd GM Z u_19 A s.heap H locs → W p l e R s m args below meth c H locs 0 0 Q (F0 m 41 ls [rv Z 1]) := by
    intro  u_19 H locs ls hf  hl hw
    unfold j_X11_rests_41 at hf
    refine lv_iconst (v := 1) hx hb dX11_rests_41 (by decide) ?_
    exact J42 (1 : Int32) u_19 _ _ _ hf  (lv_sub hl [0, 1, 2, 3, 4] rfl) hw
  refine gm_aload_n (G := GM) (r := 1) C rfl dX11_rests_0 rfl (lv_at hl 0 rfl) ?_
  refine lv_iload_n hx hb dX11_rests_1 rfl (lv_at hl 1 rfl) ?_
  refine lv_iconst (v := 0) hx hb dX11_rests_2 (by decide) ?_
  refine lv_bipush (v := 9) hx hb dX11_rests_3 (by decide) ?_
  obtain ⟨r_20, e_r_20, hf⟩ := gm_le hf
  refine gm_callS (G := GM) (u := u) (u' := u) (As := [.int a1, .int (0 : Int32), .int (9 : Int32)]) (rest := [rv Z 1]) (res := (some (.int (f_X11_within a1 (0 : Int32) (9 : Int32))))) C hw hl (ok_X11_within l Z a1 (0 : Int32) (9 : Int32) u) cw_X11_254 st_X11_within rfl rfl ⟨Nat.le_trans (Nat.le_of_ble_eq_true rfl) hRf, Nat.le_trans (Nat.le_of_ble_eq_true rfl) hRl⟩ rfl rfl (Nat.le_of_ble_eq_true rfl) dX11_rests_5 (fun H locs hw => ?_)
  refine gm_topI e_r_20 ?_
  refine lv_if_eq (tgt := 41) hx hb dX11_rests_8 (by decide) (fun hc => ?_) (fun hc => ?_)
  · replace hf := (if_pos hc).symm.trans hf
    exact J41 u _ _ _ hf  (lv_sub hl [0, 1, 2, 3, 4] rfl) hw
  · replace hf := (if_neg hc).symm.trans hf
    refine lv_iload_n hx hb dX11_rests_11 rfl (lv_at hl 2 rfl) ?_
    refine lv_iconst (v := 0) hx hb dX11_rests_12 (by decide) ?_
    refine lv_bipush (v := 9) hx hb dX11_rests_13 (by decide) ?_
    obtain ⟨r_21, e_r_21, hf⟩ := gm_le hf
    refine gm_callS (G := GM) (u := u) (u' := u) (As := [.int a2, .int (0 : Int32), .int (9 : Int32)]) (rest := [rv Z 1]) (res := (some (.int (f_X11_within a2 (0 : Int32) (9 : Int32))))) C hw hl (ok_X11_within l Z a2 (0 : Int32) (9 : Int32) u) cw_X11_254 st_X11_within rfl rfl ⟨Nat.le_trans (Nat.le_of_ble_eq_true rfl) hRf, Nat.le_trans (Nat.le_of_ble_eq_true rfl) hRl⟩ rfl rfl (Nat.le_of_ble_eq_true rfl) dX11_rests_15 (fun H locs hw => ?_)
    refine gm_topI e_r_21 ?_
    refine lv_if_eq (tgt := 41) hx hb dX11_rests_18 (by decide) (fun hc => ?_) (fun hc => ?_)
    · replace hf := (if_pos hc).symm.trans hf
      exact J41 u _ _ _ hf  (lv_sub hl [0, 1, 2, 3, 4] rfl) hw
    · replace hf := (if_neg hc).symm.trans hf
      refine lv_iload_n hx hb dX11_rests_21 rfl (lv_at hl 3 rfl) ?_
      refine lv_iconst (v := 0) hx hb dX11_rests_22 (by decide) ?_
      refine lv_bipush (v := 9) hx hb dX11_rests_23 (by decide) ?_
      obtain ⟨r_22, e_r_22, hf⟩ := gm_le hf
      refine gm_callS (G := GM) (u := u) (u' := u) (As := [.int a3, .int (0 : Int32), .int (9 : Int32)]) (rest := [rv Z 1]) (res := (some (.int (f_X11_within a3 (0 : Int32) (9 : Int32))))) C hw hl (ok_X11_within l Z a3 (0 : Int32) (9 : Int32) u) cw_X11_254 st_X11_within rfl rfl ⟨Nat.le_trans (Nat.le_of_ble_eq_true rfl) hRf, Nat.le_trans (Nat.le_of_ble_eq_true rfl) hRl⟩ rfl rfl (Nat.le_of_ble_eq_true rfl) dX11_rests_25 (fun H locs hw => ?_)
      refine gm_topI e_r_22 ?_
      refine lv_if_eq (tgt := 41) hx hb dX11_rests_28 (by decide) (fun hc => ?_) (fun hc => ?_)
      · replace hf := (if_pos hc).symm.trans hf
        exact J41 u _ _ _ hf  (lv_sub hl [0, 1, 2, 3, 4] rfl) hw
      · replace hf := (if_neg hc).symm.trans hf
        refine lv_iload hx hb dX11_rests_31 (lv_at hl 4 rfl) ?_
        refine lv_iconst (v := -1) hx hb dX11_rests_33 (by decide) ?_
        refine lv_icmp_lt (tgt := 41) hx hb dX11_rests_34 (by decide) (fun hc => ?_) (fun hc => ?_)
        · replace hf := (if_pos hc).symm.trans hf
          exact J41 u _ _ _ hf  (lv_sub hl [0, 1, 2, 3, 4] rfl) hw
        · replace hf := (if_neg hc).symm.trans hf
          refine lv_iconst (v := 0) hx hb dX11_rests_37 (by decide) ?_
          refine lv_goto (tgt := 42) hx hb dX11_rests_38 (by decide) ?_
          exact J42 (0 : Int32) u _ _ _ hf  (lv_sub hl [0, 1, 2, 3, 4] rfl) hw
/-! LeapCapitalModel.draws -/
def f_X11_draws (a1 : Int32) (u : gm_M) : Option (Int32 × gm_M) := gm_let (sJ u 1 56 (lRem (((gJ u 1 56) * (1103515245 : Int64)) + (12345 : Int64)) (2147483648 : Int64))) fun u_1 => if ¬ a1.toInt64 = 0 then some ((lRem ((gJ u_1 1 56) / (65536 : Int64)) a1.toInt64).toInt32, u_1) else none
set_option maxRecDepth 100000 in
set_option maxHeartbeats 4000000 in
theorem ok_X11_draws (l : Launch) (Z : gm_Z) (a1 : Int32) (u : gm_M)  (r : Int32) (u' : gm_M) (hf : f_X11_draws a1 u = some (r, u')) : gm_Met l GM Z yX11_draws cX11_draws 2 (some .int) ({ frames := 0, cells := 0, slots := 0, locals := 0 }) [rv Z 1, .int a1] u (some (.int r)) u' := by
  unfold f_X11_draws at hf
  refine gm_ofW (by decide +kernel) (Nat.le_of_ble_eq_true rfl) ?_
  intro p e s m args below meth c A ls Q R hRf hRl C E hl hw
  obtain ⟨hx, hb, -⟩ := id C
  have hl : lv_has ls 2 [(0, rv Z 1), (1, .int a1)] := hl
  refine gm_aload_n (G := GM) (r := 1) C rfl dX11_draws_0 rfl (lv_at hl 0 rfl) ?_
  refine gm_aload_n (G := GM) (r := 1) C rfl dX11_draws_1 rfl (lv_at hl 0 rfl) ?_
  refine gm_getJ (G := GM) (u := u) (r := 1) (ci := 10) (k := 56) C hw rfl fl_X11_437 dX11_draws_2 rfl ?_
  refine lv_ldc2 hx hb C.2.2.2.1 (C.2.2.2.2.1 _ kn_X11_440) dX11_draws_5 ?_
  refine lv_lmul hx hb dX11_draws_8 ?_
  refine lv_ldc2 hx hb C.2.2.2.1 (C.2.2.2.2.1 _ kn_X11_442) dX11_draws_9 ?_
  refine lv_ladd hx hb dX11_draws_12 ?_
  refine lv_ldc2 hx hb C.2.2.2.1 (C.2.2.2.2.1 _ kn_X11_444) dX11_draws_13 ?_
  refine lv_lrem hx hb dX11_draws_16 (by decide) ?_
  refine gm_putJ (G := GM) (u := u) (r := 1) (ci := 10) (k := 56) (v := lRem (((gJ u 1 56) * (1103515245 : Int64)) + (12345 : Int64)) (2147483648 : Int64)) C hw rfl fl_X11_437 fp_10_56 dX11_draws_17 rfl (fun H locs hw => ?_)
  obtain ⟨u_1, e_u_1, hf⟩ := gm_le hf
  rw [← e_u_1] at hw
  refine gm_aload_n (G := GM) (r := 1) C rfl dX11_draws_20 rfl (lv_at hl 0 rfl) ?_
  refine gm_getJ (G := GM) (u := u_1) (r := 1) (ci := 10) (k := 56) C hw rfl fl_X11_437 dX11_draws_21 rfl ?_
  refine lv_ldc2 hx hb C.2.2.2.1 (C.2.2.2.2.1 _ kn_X11_446) dX11_draws_24 ?_
  refine lv_ldiv hx hb dX11_draws_27 (by decide) ?_
  refine lv_iload_n hx hb dX11_draws_28 rfl (lv_at hl 1 rfl) ?_
  refine lv_i2l hx hb dX11_draws_29 rfl ?_
  obtain ⟨g_2, hf⟩ := gm_grd hf
  refine lv_lrem hx hb dX11_draws_30 g_2 ?_
  refine lv_l2i hx hb dX11_draws_31 rfl ?_
  exact gm_iret C E hw rfl ((congrArg (fun z => some (Value.int z)) (gm_sp hf).1).symm) (gm_sp hf).2.symm dX11_draws_32
/-! LeapCapitalModel.livesYear -/
def j_X11_livesYear_93 (u_1 : gm_M) : Option gm_M := (f_X11_passes u_1).bind fun o => match o with | (r_2, u_3) => some u_3
def j_X11_livesYear_58 (u_6 : gm_M) : Option gm_M := (f_X11_draws (6 : Int32) u_6).bind fun o => match o with | (r_7, u_8) => if r_7 = 0 then (f_X11_draws (20 : Int32) u_8).bind fun o => match o with | (r_11, u_12) => gm_let (if (((gI u_8 29 1) + r_11) + (1 : Int32)) < (60 : Int32) then (((gI u_8 29 1) + r_11) + (1 : Int32)) else (60 : Int32)) fun v_15 => gm_let (sI u_12 29 1 v_15) fun u_16 => j_X11_livesYear_93 u_16 else j_X11_livesYear_93 u_8
def f_X11_livesYear  (u : gm_M) : Option gm_M := if (gI u 3 0) ≤ 0 then j_X11_livesYear_58 u else (f_X11_draws (gI u 3 0) u).bind fun o => match o with | (r_17, u_18) => (f_X11_canCome r_17 u_18).bind fun r_21 => if r_21 = 0 then (f_X11_placeOf r_17 u_18).bind fun r_23 => if r_23 < 0 then j_X11_livesYear_58 u_18 else (f_X11_draws (8 : Int32) u_18).bind fun o => match o with | (r_25, u_26) => if r_25 = 0 then (f_X11_leaves r_17 u_26).bind fun u_29 => j_X11_livesYear_58 u_29 else j_X11_livesYear_58 u_26 else (f_X11_comes r_17 u_18).bind fun u_31 => j_X11_livesYear_58 u_31
set_option maxRecDepth 100000 in
set_option maxHeartbeats 4000000 in
theorem ok_X11_livesYear (l : Launch) (Z : gm_Z)  (u : gm_M)  (u' : gm_M) (hf : f_X11_livesYear u = some (u')) : gm_Met l GM Z yX11_livesYear cX11_livesYear 2 none ({ frames := 7, cells := 0, slots := 0, locals := 160 }) [rv Z 1] u none u' := by
  unfold f_X11_livesYear at hf
  refine gm_ofW (by decide +kernel) (Nat.le_of_ble_eq_true rfl) ?_
  intro p e s m args below meth c A ls Q R hRf hRl C E hl hw
  obtain ⟨hx, hb, -⟩ := id C
  have hl : lv_has ls 2 [(0, rv Z 1)] := hl
  have J93 : ∀  (u_1 : gm_M) (H : Heap) (locs : List Loc) (ls : Array Slot), j_X11_livesYear_93 u_1 = some (u') → lv_has ls 2 [(0, rv Z 1)] → wd GM Z u_1 A s.heap H locs → W p l e R s m args below meth c H locs 0 0 Q (F0 m 93 ls []) := by
    intro  u_1 H locs ls hf  hl hw
    unfold j_X11_livesYear_93 at hf
    refine gm_aload_n (G := GM) (r := 1) C rfl dX11_livesYear_93 rfl (lv_at hl 0 rfl) ?_
    obtain ⟨⟨r_2, u_3⟩, hc_4, hf⟩ := gm_bnd hf
    try dsimp only at hf
    refine gm_callV (G := GM) (u := u_1) (u' := u_3) (r := 1) (ci := 10) (As := []) (rest := []) (res := (some (.int r_2))) C hw hl (ok_X11_passes l Z u_1 r_2 u_3 hc_4) cw_X11_370 im_X11_passes rfl se_X11_passes rfl rfl rfl ⟨Nat.le_trans (Nat.le_of_ble_eq_true rfl) hRf, Nat.le_trans (Nat.le_of_ble_eq_true rfl) hRl⟩ rfl rfl (Nat.le_of_ble_eq_true rfl) dX11_livesYear_94 (fun H locs hw => ?_)
    refine lv_pop hx hb dX11_livesYear_97 rfl ?_
    exact gm_vret C E hw rfl rfl (Option.some.inj hf).symm dX11_livesYear_98
  have J58 : ∀  (u_6 : gm_M) (H : Heap) (locs : List Loc) (ls : Array Slot), j_X11_livesYear_58 u_6 = some (u') → lv_has ls 2 [(0, rv Z 1)] → wd GM Z u_6 A s.heap H locs → W p l e R s m args below meth c H locs 0 0 Q (F0 m 58 ls []) := by
    intro  u_6 H locs ls hf  hl hw
    unfold j_X11_livesYear_58 at hf
    refine gm_aload_n (G := GM) (r := 1) C rfl dX11_livesYear_58 rfl (lv_at hl 0 rfl) ?_
    refine lv_bipush (v := 6) hx hb dX11_livesYear_59 (by decide) ?_
    obtain ⟨⟨r_7, u_8⟩, hc_9, hf⟩ := gm_bnd hf
    try dsimp only at hf
    refine gm_callV (G := GM) (u := u_6) (u' := u_8) (r := 1) (ci := 10) (As := [.int (6 : Int32)]) (rest := []) (res := (some (.int r_7))) C hw hl (ok_X11_draws l Z (6 : Int32) u_6 r_7 u_8 hc_9) cw_X11_448 im_X11_draws rfl se_X11_draws rfl rfl rfl ⟨Nat.le_trans (Nat.le_of_ble_eq_true rfl) hRf, Nat.le_trans (Nat.le_of_ble_eq_true rfl) hRl⟩ rfl rfl (Nat.le_of_ble_eq_true rfl) dX11_livesYear_61 (fun H locs hw => ?_)
    refine lv_if_ne (tgt := 93) hx hb dX11_livesYear_64 (by decide) (fun hc => ?_) (fun hc => ?_)
    · replace hf := (if_neg hc).symm.trans hf
      exact J93 u_8 _ _ _ hf  (lv_sub hl [0] rfl) hw
    · replace hf := (if_pos hc).symm.trans hf
      refine gm_aload_n (G := GM) (r := 1) C rfl dX11_livesYear_67 rfl (lv_at hl 0 rfl) ?_
      refine gm_getS (G := GM) (u := u_8) (r := 1) (ci := 10) (k := 39) C hw rfl fl_X11_93 dX11_livesYear_68 rfl (q := 29) rfl ?_
      refine lv_iconst (v := 1) hx hb dX11_livesYear_71 (by decide) ?_
      refine lv_bipush (v := 60) hx hb dX11_livesYear_72 (by decide) ?_
      refine gm_aload_n (G := GM) (r := 1) C rfl dX11_livesYear_74 rfl (lv_at hl 0 rfl) ?_
      refine gm_getS (G := GM) (u := u_8) (r := 1) (ci := 10) (k := 39) C hw rfl fl_X11_93 dX11_livesYear_75 rfl (q := 29) rfl ?_
      refine lv_iconst (v := 1) hx hb dX11_livesYear_78 (by decide) ?_
      refine gm_iald (G := GM) (u := u_8) (r := 29) (n := 22) (i := (1 : Int32)) C hw rfl (by decide) (j := 1) (by decide) dX11_livesYear_79 ?_
      refine gm_aload_n (G := GM) (r := 1) C rfl dX11_livesYear_80 rfl (lv_at hl 0 rfl) ?_
      refine lv_bipush (v := 20) hx hb dX11_livesYear_81 (by decide) ?_
      obtain ⟨⟨r_11, u_12⟩, hc_13, hf⟩ := gm_bnd hf
      try dsimp only at hf
      refine gm_callV (G := GM) (u := u_8) (u' := u_12) (r := 1) (ci := 10) (As := [.int (20 : Int32)]) (rest := [.int (gI u_8 29 1), .int (60 : Int32), .int (1 : Int32), rv Z 29]) (res := (some (.int r_11))) C hw hl (ok_X11_draws l Z (20 : Int32) u_8 r_11 u_12 hc_13) cw_X11_448 im_X11_draws rfl se_X11_draws rfl rfl rfl ⟨Nat.le_trans (Nat.le_of_ble_eq_true rfl) hRf, Nat.le_trans (Nat.le_of_ble_eq_true rfl) hRl⟩ rfl rfl (Nat.le_of_ble_eq_true rfl) dX11_livesYear_83 (fun H locs hw => ?_)
      refine lv_iadd hx hb dX11_livesYear_86 ?_
      refine lv_iconst (v := 1) hx hb dX11_livesYear_87 (by decide) ?_
      refine lv_iadd hx hb dX11_livesYear_88 ?_
      refine gm_min C hl mw_X11_389 (Nat.le_trans (Nat.le_of_ble_eq_true rfl) hRf) (Nat.le_trans (Nat.le_of_ble_eq_true rfl) hRl) (Nat.le_of_ble_eq_true rfl) dX11_livesYear_89 ?_
      obtain ⟨v_15, e_v_15, hf⟩ := gm_le hf
      refine gm_topI e_v_15 ?_
      refine gm_iast (G := GM) (u := u_12) (r := 29) (n := 22) (i := (1 : Int32)) (x := v_15) C hw rfl (by decide) (j := 1) (by decide) dX11_livesYear_92 (fun H locs hw => ?_)
      obtain ⟨u_16, e_u_16, hf⟩ := gm_le hf
      rw [← e_u_16] at hw
      exact J93 u_16 _ _ _ hf  (lv_sub hl [0] rfl) hw
  refine gm_aload_n (G := GM) (r := 1) C rfl dX11_livesYear_0 rfl (lv_at hl 0 rfl) ?_
  refine gm_getS (G := GM) (u := u) (r := 1) (ci := 10) (k := 10) C hw rfl fl_X11_13 dX11_livesYear_1 rfl (q := 3) rfl ?_
  refine lv_iconst (v := 0) hx hb dX11_livesYear_4 (by decide) ?_
  refine gm_iald (G := GM) (u := u) (r := 3) (n := 8) (i := (0 : Int32)) C hw rfl (by decide) (j := 0) (by decide) dX11_livesYear_5 ?_
  refine lv_if_le (tgt := 58) hx hb dX11_livesYear_6 (by decide) (fun hc => ?_) (fun hc => ?_)
  · replace hf := (if_pos hc).symm.trans hf
    exact J58 u _ _ _ hf  (lv_sub hl [0] rfl) hw
  · replace hf := (if_neg hc).symm.trans hf
    refine gm_aload_n (G := GM) (r := 1) C rfl dX11_livesYear_9 rfl (lv_at hl 0 rfl) ?_
    refine gm_aload_n (G := GM) (r := 1) C rfl dX11_livesYear_10 rfl (lv_at hl 0 rfl) ?_
    refine gm_getS (G := GM) (u := u) (r := 1) (ci := 10) (k := 10) C hw rfl fl_X11_13 dX11_livesYear_11 rfl (q := 3) rfl ?_
    refine lv_iconst (v := 0) hx hb dX11_livesYear_14 (by decide) ?_
    refine gm_iald (G := GM) (u := u) (r := 3) (n := 8) (i := (0 : Int32)) C hw rfl (by decide) (j := 0) (by decide) dX11_livesYear_15 ?_
    obtain ⟨⟨r_17, u_18⟩, hc_19, hf⟩ := gm_bnd hf
    try dsimp only at hf
    refine gm_callV (G := GM) (u := u) (u' := u_18) (r := 1) (ci := 10) (As := [.int (gI u 3 0)]) (rest := []) (res := (some (.int r_17))) C hw hl (ok_X11_draws l Z (gI u 3 0) u r_17 u_18 hc_19) cw_X11_448 im_X11_draws rfl se_X11_draws rfl rfl rfl ⟨Nat.le_trans (Nat.le_of_ble_eq_true rfl) hRf, Nat.le_trans (Nat.le_of_ble_eq_true rfl) hRl⟩ rfl rfl (Nat.le_of_ble_eq_true rfl) dX11_livesYear_16 (fun H locs hw => ?_)
    refine lv_istore_n (i := 1) (lv' := [(1, .int r_17), (0, rv Z 1)]) hx hb dX11_livesYear_19 rfl hl (by decide) rfl (fun ls hl => ?_)
    refine gm_aload_n (G := GM) (r := 1) C rfl dX11_livesYear_20 rfl (lv_at hl 1 rfl) ?_
    refine lv_iload_n hx hb dX11_livesYear_21 rfl (lv_at hl 0 rfl) ?_
    obtain ⟨r_21, hc_22, hf⟩ := gm_bnd hf
    refine gm_callV (G := GM) (u := u_18) (u' := u_18) (r := 1) (ci := 10) (As := [.int r_17]) (rest := []) (res := (some (.int r_21))) C hw hl (ok_X11_canCome l Z r_17 u_18 r_21 hc_22) cw_X11_380 im_X11_canCome rfl se_X11_canCome rfl rfl rfl ⟨Nat.le_trans (Nat.le_of_ble_eq_true rfl) hRf, Nat.le_trans (Nat.le_of_ble_eq_true rfl) hRl⟩ rfl rfl (Nat.le_of_ble_eq_true rfl) dX11_livesYear_22 (fun H locs hw => ?_)
    refine lv_if_eq (tgt := 36) hx hb dX11_livesYear_25 (by decide) (fun hc => ?_) (fun hc => ?_)
    · replace hf := (if_pos hc).symm.trans hf
      refine gm_aload_n (G := GM) (r := 1) C rfl dX11_livesYear_36 rfl (lv_at hl 1 rfl) ?_
      refine lv_iload_n hx hb dX11_livesYear_37 rfl (lv_at hl 0 rfl) ?_
      obtain ⟨r_23, hc_24, hf⟩ := gm_bnd hf
      refine gm_callV (G := GM) (u := u_18) (u' := u_18) (r := 1) (ci := 10) (As := [.int r_17]) (rest := []) (res := (some (.int r_23))) C hw hl (ok_X11_placeOf l Z r_17 u_18 r_23 hc_24) cw_X11_324 im_X11_placeOf rfl se_X11_placeOf rfl rfl rfl ⟨Nat.le_trans (Nat.le_of_ble_eq_true rfl) hRf, Nat.le_trans (Nat.le_of_ble_eq_true rfl) hRl⟩ rfl rfl (Nat.le_of_ble_eq_true rfl) dX11_livesYear_38 (fun H locs hw => ?_)
      refine lv_if_lt (tgt := 58) hx hb dX11_livesYear_41 (by decide) (fun hc => ?_) (fun hc => ?_)
      · replace hf := (if_pos hc).symm.trans hf
        exact J58 u_18 _ _ _ hf  (lv_sub hl [1] rfl) hw
      · replace hf := (if_neg hc).symm.trans hf
        refine gm_aload_n (G := GM) (r := 1) C rfl dX11_livesYear_44 rfl (lv_at hl 1 rfl) ?_
        refine lv_bipush (v := 8) hx hb dX11_livesYear_45 (by decide) ?_
        obtain ⟨⟨r_25, u_26⟩, hc_27, hf⟩ := gm_bnd hf
        try dsimp only at hf
        refine gm_callV (G := GM) (u := u_18) (u' := u_26) (r := 1) (ci := 10) (As := [.int (8 : Int32)]) (rest := []) (res := (some (.int r_25))) C hw hl (ok_X11_draws l Z (8 : Int32) u_18 r_25 u_26 hc_27) cw_X11_448 im_X11_draws rfl se_X11_draws rfl rfl rfl ⟨Nat.le_trans (Nat.le_of_ble_eq_true rfl) hRf, Nat.le_trans (Nat.le_of_ble_eq_true rfl) hRl⟩ rfl rfl (Nat.le_of_ble_eq_true rfl) dX11_livesYear_47 (fun H locs hw => ?_)
        refine lv_if_ne (tgt := 58) hx hb dX11_livesYear_50 (by decide) (fun hc => ?_) (fun hc => ?_)
        · replace hf := (if_neg hc).symm.trans hf
          exact J58 u_26 _ _ _ hf  (lv_sub hl [1] rfl) hw
        · replace hf := (if_pos hc).symm.trans hf
          refine gm_aload_n (G := GM) (r := 1) C rfl dX11_livesYear_53 rfl (lv_at hl 1 rfl) ?_
          refine lv_iload_n hx hb dX11_livesYear_54 rfl (lv_at hl 0 rfl) ?_
          obtain ⟨u_29, hc_30, hf⟩ := gm_bnd hf
          refine gm_callV (G := GM) (u := u_26) (u' := u_29) (r := 1) (ci := 10) (As := [.int r_17]) (rest := []) (res := none) C hw hl (ok_X11_leaves l Z r_17 u_26 u_29 hc_30) cw_X11_361 im_X11_leaves rfl se_X11_leaves rfl rfl rfl ⟨Nat.le_trans (Nat.le_of_ble_eq_true rfl) hRf, Nat.le_trans (Nat.le_of_ble_eq_true rfl) hRl⟩ rfl rfl (Nat.le_of_ble_eq_true rfl) dX11_livesYear_55 (fun H locs hw => ?_)
          exact J58 u_29 _ _ _ hf  (lv_sub hl [1] rfl) hw
    · replace hf := (if_neg hc).symm.trans hf
      refine gm_aload_n (G := GM) (r := 1) C rfl dX11_livesYear_28 rfl (lv_at hl 1 rfl) ?_
      refine lv_iload_n hx hb dX11_livesYear_29 rfl (lv_at hl 0 rfl) ?_
      obtain ⟨u_31, hc_32, hf⟩ := gm_bnd hf
      refine gm_callV (G := GM) (u := u_18) (u' := u_31) (r := 1) (ci := 10) (As := [.int r_17]) (rest := []) (res := none) C hw hl (ok_X11_comes l Z r_17 u_18 u_31 hc_32) cw_X11_386 im_X11_comes rfl se_X11_comes rfl rfl rfl ⟨Nat.le_trans (Nat.le_of_ble_eq_true rfl) hRf, Nat.le_trans (Nat.le_of_ble_eq_true rfl) hRl⟩ rfl rfl (Nat.le_of_ble_eq_true rfl) dX11_livesYear_30 (fun H locs hw => ?_)
      refine lv_goto (tgt := 58) hx hb dX11_livesYear_33 (by decide) ?_
      exact J58 u_31 _ _ _ hf  (lv_sub hl [1] rfl) hw
