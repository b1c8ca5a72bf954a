/-! LeapCapitalModel.ages -/
def b_X11_ages_69 (a1 : Int32) (a2 : Int32) (a3 : Int32) : (Int32 × gm_M) → Option ((Int32 × gm_M) ⊕ gm_M) := fun x => match x with | (v4_10, u_9) => if a2 ≤ v4_10 then some (.inr u_9) else (f_X11_livesYear u_9).bind fun u_11 => some (.inl (v4_10 + (1 : Int32), u_11))
def f_X11_ages (a1 : Int32) (a2 : Int32) (a3 : Int32) (u : gm_M) : Option (Int32 × gm_M) := gm_let (sI u 1 0 (0 : Int32)) fun u_1 => gm_let (f_X11_within a1 (0 : Int32) (9999 : Int32)) fun r_2 => if r_2 = 0 then some ((-1 : Int32), u_1) else gm_let (f_X11_within a2 (1 : Int32) (99 : Int32)) fun r_3 => if r_3 = 0 then some ((-1 : Int32), u_1) else gm_let (f_X11_within a3 (0 : Int32) (2 : Int32)) fun r_4 => if r_4 = 0 then some ((-1 : Int32), u_1) else gm_let (sJ u_1 1 56 a1.toInt64) fun u_5 => gm_let (sI u_5 1 49 (gI u_5 3 2)) fun u_6 => (f_X11_copies 29 22 (0 : Int32) 30 22 (0 : Int32) u_6).bind fun u_7 => ((gm_lp (b_X11_ages_69 a1 a2 a3) gm_FU ((0 : Int32), u_7)).bind fun o => match o with | u_13 => (f_X11_bits (gI u_13 29 3)).bind fun r_14 => (f_X11_inQueue u_13).bind fun r_16 => gm_let (gI u_13 29 0) fun v6_18 => (f_X11_copies 30 22 (0 : Int32) 29 22 (0 : Int32) u_13).bind fun u_19 => if a3 = 0 then (f_X11_bits (gI u_19 29 3)).bind fun r_21 => some (r_14 - r_21, u_19) else if a3 = (1 : Int32) then some (r_16, u_19) else some (v6_18, u_19))
set_option maxRecDepth 100000 in
set_option maxHeartbeats 4000000 in
theorem ok_X11_ages (l : Launch) (Z : gm_Z) (a1 : Int32) (a2 : Int32) (a3 : Int32) (u : gm_M)  (r : Int32) (u' : gm_M) (hf : f_X11_ages a1 a2 a3 u = some (r, u')) : gm_Met l GM Z yX11_ages cX11_ages 7 (some .int) ({ frames := 8, cells := 0, slots := 0, locals := 181 }) [rv Z 1, .int a1, .int a2, .int a3] u (some (.int r)) u' := by
  unfold f_X11_ages at hf
  refine gm_ofW (by decide +kernel) (Nat.le_of_ble_eq_true rfl) ?_
  intro p e s m args below meth c A ls Q R hRf hRl C E hl hw
  obtain ⟨hx, hb, -⟩ := id C
  have hl : lv_has ls 7 [(0, rv Z 1), (1, .int a1), (2, .int a2), (3, .int a3)] := hl
  refine gm_aload_n (G := GM) (r := 1) C rfl dX11_ages_0 rfl (lv_at hl 0 rfl) ?_
  refine lv_iconst (v := 0) hx hb dX11_ages_1 (by decide) ?_
  refine gm_putI (G := GM) (u := u) (r := 1) (ci := 10) (k := 0) (v := (0 : Int32)) C hw rfl fl_X11_137 fp_10_0 dX11_ages_2 rfl (fun H locs hw => ?_)
  obtain ⟨u_1, e_u_1, hf⟩ := gm_le hf
  rw [← e_u_1] at hw
  refine lv_iload_n hx hb dX11_ages_5 rfl (lv_at hl 1 rfl) ?_
  refine lv_iconst (v := 0) hx hb dX11_ages_6 (by decide) ?_
  refine lv_sipush (v := 9999) hx hb dX11_ages_7 (by decide) ?_
  obtain ⟨r_2, e_r_2, hf⟩ := gm_le hf
  refine gm_callS (G := GM) (u := u_1) (u' := u_1) (As := [.int a1, .int (0 : Int32), .int (9999 : Int32)]) (rest := []) (res := (some (.int (f_X11_within a1 (0 : Int32) (9999 : Int32))))) C hw hl (ok_X11_within l Z a1 (0 : Int32) (9999 : Int32) u_1) cw_X11_254 st_X11_within rfl rfl ⟨Nat.le_trans (Nat.le_of_ble_eq_true rfl) hRf, Nat.le_trans (Nat.le_of_ble_eq_true rfl) hRl⟩ rfl rfl (Nat.le_of_ble_eq_true rfl) dX11_ages_10 (fun H locs hw => ?_)
  refine gm_topI e_r_2 ?_
  refine lv_if_eq (tgt := 35) hx hb dX11_ages_13 (by decide) (fun hc => ?_) (fun hc => ?_)
  · replace hf := (if_pos hc).symm.trans hf
    refine lv_iconst (v := -1) hx hb dX11_ages_35 (by decide) ?_
    exact gm_iret C E hw rfl ((congrArg (fun z => some (Value.int z)) (gm_sp hf).1).symm) (gm_sp hf).2.symm dX11_ages_36
  · replace hf := (if_neg hc).symm.trans hf
    refine lv_iload_n hx hb dX11_ages_16 rfl (lv_at hl 2 rfl) ?_
    refine lv_iconst (v := 1) hx hb dX11_ages_17 (by decide) ?_
    refine lv_bipush (v := 99) hx hb dX11_ages_18 (by decide) ?_
    obtain ⟨r_3, e_r_3, hf⟩ := gm_le hf
    refine gm_callS (G := GM) (u := u_1) (u' := u_1) (As := [.int a2, .int (1 : Int32), .int (99 : Int32)]) (rest := []) (res := (some (.int (f_X11_within a2 (1 : Int32) (99 : Int32))))) C hw hl (ok_X11_within l Z a2 (1 : Int32) (99 : Int32) u_1) cw_X11_254 st_X11_within rfl rfl ⟨Nat.le_trans (Nat.le_of_ble_eq_true rfl) hRf, Nat.le_trans (Nat.le_of_ble_eq_true rfl) hRl⟩ rfl rfl (Nat.le_of_ble_eq_true rfl) dX11_ages_20 (fun H locs hw => ?_)
    refine gm_topI e_r_3 ?_
    refine lv_if_eq (tgt := 35) hx hb dX11_ages_23 (by decide) (fun hc => ?_) (fun hc => ?_)
    · replace hf := (if_pos hc).symm.trans hf
      refine lv_iconst (v := -1) hx hb dX11_ages_35 (by decide) ?_
      exact gm_iret C E hw rfl ((congrArg (fun z => some (Value.int z)) (gm_sp hf).1).symm) (gm_sp hf).2.symm dX11_ages_36
    · replace hf := (if_neg hc).symm.trans hf
      refine lv_iload_n hx hb dX11_ages_26 rfl (lv_at hl 3 rfl) ?_
      refine lv_iconst (v := 0) hx hb dX11_ages_27 (by decide) ?_
      refine lv_iconst (v := 2) hx hb dX11_ages_28 (by decide) ?_
      obtain ⟨r_4, e_r_4, hf⟩ := gm_le hf
      refine gm_callS (G := GM) (u := u_1) (u' := u_1) (As := [.int a3, .int (0 : Int32), .int (2 : Int32)]) (rest := []) (res := (some (.int (f_X11_within a3 (0 : Int32) (2 : Int32))))) C hw hl (ok_X11_within l Z a3 (0 : Int32) (2 : Int32) u_1) cw_X11_254 st_X11_within rfl rfl ⟨Nat.le_trans (Nat.le_of_ble_eq_true rfl) hRf, Nat.le_trans (Nat.le_of_ble_eq_true rfl) hRl⟩ rfl rfl (Nat.le_of_ble_eq_true rfl) dX11_ages_29 (fun H locs hw => ?_)
      refine gm_topI e_r_4 ?_
      refine lv_if_ne (tgt := 37) hx hb dX11_ages_32 (by decide) (fun hc => ?_) (fun hc => ?_)
      · replace hf := (if_neg hc).symm.trans hf
        refine gm_aload_n (G := GM) (r := 1) C rfl dX11_ages_37 rfl (lv_at hl 0 rfl) ?_
        refine lv_iload_n hx hb dX11_ages_38 rfl (lv_at hl 1 rfl) ?_
        refine lv_i2l hx hb dX11_ages_39 rfl ?_
        refine gm_putJ (G := GM) (u := u_1) (r := 1) (ci := 10) (k := 56) (v := a1.toInt64) C hw rfl fl_X11_437 fp_10_56 dX11_ages_40 rfl (fun H locs hw => ?_)
        obtain ⟨u_5, e_u_5, hf⟩ := gm_le hf
        rw [← e_u_5] at hw
        refine gm_aload_n (G := GM) (r := 1) C rfl dX11_ages_43 rfl (lv_at hl 0 rfl) ?_
        refine gm_aload_n (G := GM) (r := 1) C rfl dX11_ages_44 rfl (lv_at hl 0 rfl) ?_
        refine gm_getS (G := GM) (u := u_5) (r := 1) (ci := 10) (k := 10) C hw rfl fl_X11_13 dX11_ages_45 rfl (q := 3) rfl ?_
        refine lv_iconst (v := 2) hx hb dX11_ages_48 (by decide) ?_
        refine gm_iald (G := GM) (u := u_5) (r := 3) (n := 8) (i := (2 : Int32)) C hw rfl (by decide) (j := 2) (by decide) dX11_ages_49 ?_
        refine gm_putI (G := GM) (u := u_5) (r := 1) (ci := 10) (k := 49) (v := gI u_5 3 2) C hw rfl fl_X11_117 fp_10_49 dX11_ages_50 rfl (fun H locs hw => ?_)
        obtain ⟨u_6, e_u_6, hf⟩ := gm_le hf
        rw [← e_u_6] at hw
        refine gm_aload_n (G := GM) (r := 1) C rfl dX11_ages_53 rfl (lv_at hl 0 rfl) ?_
        refine gm_getS (G := GM) (u := u_6) (r := 1) (ci := 10) (k := 39) C hw rfl fl_X11_93 dX11_ages_54 rfl (q := 29) rfl ?_
        refine lv_iconst (v := 0) hx hb dX11_ages_57 (by decide) ?_
        refine gm_aload_n (G := GM) (r := 1) C rfl dX11_ages_58 rfl (lv_at hl 0 rfl) ?_
        refine gm_getS (G := GM) (u := u_6) (r := 1) (ci := 10) (k := 40) C hw rfl fl_X11_96 dX11_ages_59 rfl (q := 30) rfl ?_
        refine lv_iconst (v := 0) hx hb dX11_ages_62 (by decide) ?_
        obtain ⟨u_7, hc_8, hf⟩ := gm_bnd hf
        refine gm_callS (G := GM) (u := u_6) (u' := u_7) (As := [rv Z 29, .int (0 : Int32), rv Z 30, .int (0 : Int32)]) (rest := []) (res := none) C hw hl (ok_X11_copies l Z 29 22 (0 : Int32) 30 22 (0 : Int32) u_6 rfl rfl u_7 hc_8) cw_X11_376 st_X11_copies rfl rfl ⟨Nat.le_trans (Nat.le_of_ble_eq_true rfl) hRf, Nat.le_trans (Nat.le_of_ble_eq_true rfl) hRl⟩ rfl rfl (Nat.le_of_ble_eq_true rfl) dX11_ages_63 (fun H locs hw => ?_)
        refine lv_iconst (v := 0) hx hb dX11_ages_66 (by decide) ?_
        refine lv_istore (i := 4) (lv' := [(4, .int (0 : Int32)), (0, rv Z 1), (1, .int a1), (2, .int a2), (3, .int a3)]) hx hb dX11_ages_67 hl (by decide) rfl (fun ls hl => ?_)
        obtain ⟨o1, hlp, hf⟩ := gm_bnd hf
        have L69_1 := gm_loop (b_X11_ages_69 a1 a2 a3) (fun x : (Int32 × gm_M) => ∀ (H : Heap) (locs : List Loc) (ls : Array Slot), lv_has ls 7 [(0, rv Z 1), (2, .int a2), (3, .int a3), (4, .int x.1)] → wd GM Z x.2 A s.heap H locs → W p l e R s m args below meth c H locs 0 0 Q (F0 m 69 ls [])) (fun z : gm_M => ∀ (H : Heap) (locs : List Loc) (ls : Array Slot), lv_has ls 7 [(0, rv Z 1), (3, .int a3)] → wd GM Z z A s.heap H locs → W p l e R s m args below meth c H locs 0 0 Q (F0 m 85 ls [])) (by
          intro x o1 hf Kc Kx
          obtain ⟨v4_10, u_9⟩ := x
          intro H locs ls hl hw
          unfold b_X11_ages_69 at hf
          try dsimp only at hf
          refine lv_iload hx hb dX11_ages_69 (lv_at hl 3 rfl) ?_
          refine lv_iload_n hx hb dX11_ages_71 rfl (lv_at hl 1 rfl) ?_
          refine lv_icmp_ge (tgt := 85) hx hb dX11_ages_72 (by decide) (fun hc => ?_) (fun hc => ?_)
          · replace hf := (if_pos hc).symm.trans hf
            exact Kx _ (gm_si hf) _ _ _ (lv_sub hl [0, 2] rfl) hw
          · replace hf := (if_neg hc).symm.trans hf
            refine gm_aload_n (G := GM) (r := 1) C rfl dX11_ages_75 rfl (lv_at hl 0 rfl) ?_
            obtain ⟨u_11, hc_12, hf⟩ := gm_bnd hf
            refine gm_callV (G := GM) (u := u_9) (u' := u_11) (r := 1) (ci := 10) (As := []) (rest := []) (res := none) C hw hl (ok_X11_livesYear l Z u_9 u_11 hc_12) cw_X11_451 im_X11_livesYear rfl se_X11_livesYear rfl rfl rfl ⟨Nat.le_trans (Nat.le_of_ble_eq_true rfl) hRf, Nat.le_trans (Nat.le_of_ble_eq_true rfl) hRl⟩ rfl rfl (Nat.le_of_ble_eq_true rfl) dX11_ages_76 (fun H locs hw => ?_)
            refine lv_iinc (v := v4_10 + (1 : Int32)) (lv' := [(4, .int (v4_10 + (1 : Int32))), (0, rv Z 1), (2, .int a2), (3, .int a3)]) hx hb dX11_ages_79 hl (k := 3) rfl rfl (by decide) rfl (fun ls hl => ?_)
            refine lv_goto (tgt := 69) hx hb dX11_ages_82 (by decide) ?_
            exact Kc _ (gm_si hf) _ _ _ (lv_sub hl [1, 2, 3, 0] rfl) hw)
        refine L69_1 _ _ _ hlp ?_ _ _ _ (lv_sub hl [1, 3, 4, 0] rfl) hw
        obtain ⟨u_13, rfl⟩ : ∃ y, y = o1 := ⟨_, rfl⟩
        intro H locs ls hl hw
        try dsimp only at hf
        refine gm_aload_n (G := GM) (r := 1) C rfl dX11_ages_85 rfl (lv_at hl 0 rfl) ?_
        refine gm_getS (G := GM) (u := u_13) (r := 1) (ci := 10) (k := 39) C hw rfl fl_X11_93 dX11_ages_86 rfl (q := 29) rfl ?_
        refine lv_iconst (v := 3) hx hb dX11_ages_89 (by decide) ?_
        refine gm_iald (G := GM) (u := u_13) (r := 29) (n := 22) (i := (3 : Int32)) C hw rfl (by decide) (j := 3) (by decide) dX11_ages_90 ?_
        obtain ⟨r_14, hc_15, hf⟩ := gm_bnd hf
        refine gm_callS (G := GM) (u := u_13) (u' := u_13) (As := [.int (gI u_13 29 3)]) (rest := []) (res := (some (.int r_14))) C hw hl (ok_X11_bits l Z (gI u_13 29 3) u_13 r_14 hc_15) cw_X11_398 st_X11_bits rfl rfl ⟨Nat.le_trans (Nat.le_of_ble_eq_true rfl) hRf, Nat.le_trans (Nat.le_of_ble_eq_true rfl) hRl⟩ rfl rfl (Nat.le_of_ble_eq_true rfl) dX11_ages_91 (fun H locs hw => ?_)
        refine lv_istore (i := 4) (lv' := [(4, .int r_14), (0, rv Z 1), (3, .int a3)]) hx hb dX11_ages_94 hl (by decide) rfl (fun ls hl => ?_)
        refine gm_aload_n (G := GM) (r := 1) C rfl dX11_ages_96 rfl (lv_at hl 1 rfl) ?_
        obtain ⟨r_16, hc_17, hf⟩ := gm_bnd hf
        refine gm_callV (G := GM) (u := u_13) (u' := u_13) (r := 1) (ci := 10) (As := []) (rest := []) (res := (some (.int r_16))) C hw hl (ok_X11_inQueue l Z u_13 r_16 hc_17) cw_X11_423 im_X11_inQueue rfl se_X11_inQueue rfl rfl rfl ⟨Nat.le_trans (Nat.le_of_ble_eq_true rfl) hRf, Nat.le_trans (Nat.le_of_ble_eq_true rfl) hRl⟩ rfl rfl (Nat.le_of_ble_eq_true rfl) dX11_ages_97 (fun H locs hw => ?_)
        refine lv_istore (i := 5) (lv' := [(5, .int r_16), (4, .int r_14), (0, rv Z 1), (3, .int a3)]) hx hb dX11_ages_100 hl (by decide) rfl (fun ls hl => ?_)
        refine gm_aload_n (G := GM) (r := 1) C rfl dX11_ages_102 rfl (lv_at hl 2 rfl) ?_
        refine gm_getS (G := GM) (u := u_13) (r := 1) (ci := 10) (k := 39) C hw rfl fl_X11_93 dX11_ages_103 rfl (q := 29) rfl ?_
        refine lv_iconst (v := 0) hx hb dX11_ages_106 (by decide) ?_
        refine gm_iald (G := GM) (u := u_13) (r := 29) (n := 22) (i := (0 : Int32)) C hw rfl (by decide) (j := 0) (by decide) dX11_ages_107 ?_
        obtain ⟨v6_18, e_v6_18, hf⟩ := gm_le hf
        refine gm_topI e_v6_18 ?_
        refine lv_istore (i := 6) (lv' := [(6, .int v6_18), (5, .int r_16), (4, .int r_14), (0, rv Z 1), (3, .int a3)]) hx hb dX11_ages_108 hl (by decide) rfl (fun ls hl => ?_)
        refine gm_aload_n (G := GM) (r := 1) C rfl dX11_ages_110 rfl (lv_at hl 3 rfl) ?_
        refine gm_getS (G := GM) (u := u_13) (r := 1) (ci := 10) (k := 40) C hw rfl fl_X11_96 dX11_ages_111 rfl (q := 30) rfl ?_
        refine lv_iconst (v := 0) hx hb dX11_ages_114 (by decide) ?_
        refine gm_aload_n (G := GM) (r := 1) C rfl dX11_ages_115 rfl (lv_at hl 3 rfl) ?_
        refine gm_getS (G := GM) (u := u_13) (r := 1) (ci := 10) (k := 39) C hw rfl fl_X11_93 dX11_ages_116 rfl (q := 29) rfl ?_
        refine lv_iconst (v := 0) hx hb dX11_ages_119 (by decide) ?_
        obtain ⟨u_19, hc_20, hf⟩ := gm_bnd hf
        refine gm_callS (G := GM) (u := u_13) (u' := u_19) (As := [rv Z 30, .int (0 : Int32), rv Z 29, .int (0 : Int32)]) (rest := []) (res := none) C hw hl (ok_X11_copies l Z 30 22 (0 : Int32) 29 22 (0 : Int32) u_13 rfl rfl u_19 hc_20) cw_X11_376 st_X11_copies rfl rfl ⟨Nat.le_trans (Nat.le_of_ble_eq_true rfl) hRf, Nat.le_trans (Nat.le_of_ble_eq_true rfl) hRl⟩ rfl rfl (Nat.le_of_ble_eq_true rfl) dX11_ages_120 (fun H locs hw => ?_)
        refine lv_iload_n hx hb dX11_ages_123 rfl (lv_at hl 4 rfl) ?_
        refine lv_if_ne (tgt := 142) hx hb dX11_ages_124 (by decide) (fun hc => ?_) (fun hc => ?_)
        · replace hf := (if_neg hc).symm.trans hf
          refine lv_iload_n hx hb dX11_ages_142 rfl (lv_at hl 4 rfl) ?_
          refine lv_iconst (v := 1) hx hb dX11_ages_143 (by decide) ?_
          refine lv_icmp_ne (tgt := 152) hx hb dX11_ages_144 (by decide) (fun hc => ?_) (fun hc => ?_)
          · replace hf := (if_neg hc).symm.trans hf
            refine lv_iload hx hb dX11_ages_152 (lv_at hl 0 rfl) ?_
            exact gm_iret C E hw rfl ((congrArg (fun z => some (Value.int z)) (gm_sp hf).1).symm) (gm_sp hf).2.symm dX11_ages_154
          · replace hf := (if_pos hc).symm.trans hf
            refine lv_iload hx hb dX11_ages_147 (lv_at hl 1 rfl) ?_
            refine lv_goto (tgt := 154) hx hb dX11_ages_149 (by decide) ?_
            exact gm_iret C E hw rfl ((congrArg (fun z => some (Value.int z)) (gm_sp hf).1).symm) (gm_sp hf).2.symm dX11_ages_154
        · replace hf := (if_pos hc).symm.trans hf
          refine lv_iload hx hb dX11_ages_127 (lv_at hl 2 rfl) ?_
          refine gm_aload_n (G := GM) (r := 1) C rfl dX11_ages_129 rfl (lv_at hl 3 rfl) ?_
          refine gm_getS (G := GM) (u := u_19) (r := 1) (ci := 10) (k := 39) C hw rfl fl_X11_93 dX11_ages_130 rfl (q := 29) rfl ?_
          refine lv_iconst (v := 3) hx hb dX11_ages_133 (by decide) ?_
          refine gm_iald (G := GM) (u := u_19) (r := 29) (n := 22) (i := (3 : Int32)) C hw rfl (by decide) (j := 3) (by decide) dX11_ages_134 ?_
          obtain ⟨r_21, hc_22, hf⟩ := gm_bnd hf
          refine gm_callS (G := GM) (u := u_19) (u' := u_19) (As := [.int (gI u_19 29 3)]) (rest := [.int r_14]) (res := (some (.int r_21))) C hw hl (ok_X11_bits l Z (gI u_19 29 3) u_19 r_21 hc_22) cw_X11_398 st_X11_bits rfl rfl ⟨Nat.le_trans (Nat.le_of_ble_eq_true rfl) hRf, Nat.le_trans (Nat.le_of_ble_eq_true rfl) hRl⟩ rfl rfl (Nat.le_of_ble_eq_true rfl) dX11_ages_135 (fun H locs hw => ?_)
          refine lv_isub hx hb dX11_ages_138 ?_
          refine lv_goto (tgt := 154) hx hb dX11_ages_139 (by decide) ?_
          exact gm_iret C E hw rfl ((congrArg (fun z => some (Value.int z)) (gm_sp hf).1).symm) (gm_sp hf).2.symm dX11_ages_154
      · replace hf := (if_pos hc).symm.trans hf
        refine lv_iconst (v := -1) hx hb dX11_ages_35 (by decide) ?_
        exact gm_iret C E hw rfl ((congrArg (fun z => some (Value.int z)) (gm_sp hf).1).symm) (gm_sp hf).2.symm dX11_ages_36
/-! LeapCapitalModel.mark -/
def j_X11_mark_59 (a1 : Int32) (a2 : Int32) (v3_2 : Int32) (t_3 : Int32) (u_1 : gm_M) : Option (Int32 × gm_M) := (f_X11_laysLines v3_2 t_3 u_1).bind fun u_4 => (f_X11_laysSaid v3_2 t_3 u_4).bind fun u_6 => if a2 = 0 then (f_X11_copies 29 22 (0 : Int32) 32 88 ((22 : Int32) * a1) u_6).bind fun u_8 => some ((1 : Int32), u_8) else (f_X11_copies 32 88 ((22 : Int32) * a1) 29 22 (0 : Int32) u_6).bind fun u_10 => gm_let (sI u_10 1 45 (0 : Int32)) fun u_12 => some ((1 : Int32), u_12)
def j_X11_mark_47 (a1 : Int32) (a2 : Int32) (t_14 : Int32) (u_13 : gm_M) : Option (Int32 × gm_M) := if a2 = 0 then j_X11_mark_59 a1 a2 t_14 ((1 : Int32) + a1) u_13 else j_X11_mark_59 a1 a2 t_14 (0 : Int32) u_13
def j_X11_mark_29 (a1 : Int32) (a2 : Int32) (u_15 : gm_M) : Option (Int32 × gm_M) := if ib a1 4 = true then gm_let (sI u_15 34 (ix a1) ((1 : Int32) &&& 1)) fun u_17 => if a2 = 0 then j_X11_mark_47 a1 a2 (0 : Int32) u_17 else j_X11_mark_47 a1 a2 ((1 : Int32) + a1) u_17 else none
def f_X11_mark (a1 : Int32) (a2 : Int32) (u : gm_M) : Option (Int32 × gm_M) := gm_let (sI u 1 0 (0 : Int32)) fun u_18 => gm_let (f_X11_within a1 (0 : Int32) (3 : Int32)) fun r_19 => if r_19 = 0 then some ((0 : Int32), u_18) else if a2 = 0 then j_X11_mark_29 a1 a2 u_18 else if ib a1 4 = true then if (gI u_18 34 (ix a1)) = 0 then some ((0 : Int32), u_18) else j_X11_mark_29 a1 a2 u_18 else none
set_option maxRecDepth 100000 in
set_option maxHeartbeats 4000000 in
theorem ok_X11_mark (l : Launch) (Z : gm_Z) (a1 : Int32) (a2 : Int32) (u : gm_M)  (r : Int32) (u' : gm_M) (hf : f_X11_mark a1 a2 u = some (r, u')) : gm_Met l GM Z yX11_mark cX11_mark 5 (some .boolean) ({ frames := 1, cells := 0, slots := 0, locals := 24 }) [rv Z 1, .int a1, .int a2] u (some (.int r)) u' := by
  unfold f_X11_mark at hf
  refine gm_ofW (by decide +kernel) (Nat.le_of_ble_eq_true rfl) ?_
  intro p e s m args below meth c A ls Q R hRf hRl C E hl hw
  obtain ⟨hx, hb, -⟩ := id C
  have hl : lv_has ls 5 [(0, rv Z 1), (1, .int a1), (2, .int a2)] := hl
  have J59 : ∀ (v3_2 : Int32) (t_3 : Int32) (u_1 : gm_M) (H : Heap) (locs : List Loc) (ls : Array Slot), j_X11_mark_59 a1 a2 v3_2 t_3 u_1 = some (r, u') → lv_has ls 5 [(0, rv Z 1), (1, .int a1), (2, .int a2), (3, .int v3_2)] → wd GM Z u_1 A s.heap H locs → W p l e R s m args below meth c H locs 0 0 Q (F0 m 59 ls [.int t_3]) := by
    intro v3_2 t_3 u_1 H locs ls hf  hl hw
    unfold j_X11_mark_59 at hf
    refine lv_istore (i := 4) (lv' := [(4, .int t_3), (0, rv Z 1), (1, .int a1), (2, .int a2), (3, .int v3_2)]) hx hb dX11_mark_59 hl (by decide) rfl (fun ls hl => ?_)
    refine gm_aload_n (G := GM) (r := 1) C rfl dX11_mark_61 rfl (lv_at hl 1 rfl) ?_
    refine lv_iload_n hx hb dX11_mark_62 rfl (lv_at hl 4 rfl) ?_
    refine lv_iload hx hb dX11_mark_63 (lv_at hl 0 rfl) ?_
    obtain ⟨u_4, hc_5, hf⟩ := gm_bnd hf
    refine gm_callV (G := GM) (u := u_1) (u' := u_4) (r := 1) (ci := 10) (As := [.int v3_2, .int t_3]) (rest := []) (res := none) C hw hl (ok_X11_laysLines l Z v3_2 t_3 u_1 u_4 hc_5) cw_X11_313 im_X11_laysLines rfl se_X11_laysLines rfl rfl rfl ⟨Nat.le_trans (Nat.le_of_ble_eq_true rfl) hRf, Nat.le_trans (Nat.le_of_ble_eq_true rfl) hRl⟩ rfl rfl (Nat.le_of_ble_eq_true rfl) dX11_mark_65 (fun H locs hw => ?_)
    refine gm_aload_n (G := GM) (r := 1) C rfl dX11_mark_68 rfl (lv_at hl 1 rfl) ?_
    refine lv_iload_n hx hb dX11_mark_69 rfl (lv_at hl 4 rfl) ?_
    refine lv_iload hx hb dX11_mark_70 (lv_at hl 0 rfl) ?_
    obtain ⟨u_6, hc_7, hf⟩ := gm_bnd hf
    refine gm_callV (G := GM) (u := u_4) (u' := u_6) (r := 1) (ci := 10) (As := [.int v3_2, .int t_3]) (rest := []) (res := none) C hw hl (ok_X11_laysSaid l Z v3_2 t_3 u_4 u_6 hc_7) cw_X11_454 im_X11_laysSaid rfl se_X11_laysSaid rfl rfl rfl ⟨Nat.le_trans (Nat.le_of_ble_eq_true rfl) hRf, Nat.le_trans (Nat.le_of_ble_eq_true rfl) hRl⟩ rfl rfl (Nat.le_of_ble_eq_true rfl) dX11_mark_72 (fun H locs hw => ?_)
    refine lv_iload_n hx hb dX11_mark_75 rfl (lv_at hl 3 rfl) ?_
    refine lv_if_eq (tgt := 103) hx hb dX11_mark_76 (by decide) (fun hc => ?_) (fun hc => ?_)
    · replace hf := (if_pos hc).symm.trans hf
      refine gm_aload_n (G := GM) (r := 1) C rfl dX11_mark_103 rfl (lv_at hl 1 rfl) ?_
      refine gm_getS (G := GM) (u := u_6) (r := 1) (ci := 10) (k := 39) C hw rfl fl_X11_93 dX11_mark_104 rfl (q := 29) rfl ?_
      refine lv_iconst (v := 0) hx hb dX11_mark_107 (by decide) ?_
      refine gm_aload_n (G := GM) (r := 1) C rfl dX11_mark_108 rfl (lv_at hl 1 rfl) ?_
      refine gm_getS (G := GM) (u := u_6) (r := 1) (ci := 10) (k := 42) C hw rfl fl_X11_102 dX11_mark_109 rfl (q := 32) rfl ?_
      refine lv_bipush (v := 22) hx hb dX11_mark_112 (by decide) ?_
      refine lv_iload_n hx hb dX11_mark_114 rfl (lv_at hl 2 rfl) ?_
      refine lv_imul hx hb dX11_mark_115 ?_
      obtain ⟨u_8, hc_9, hf⟩ := gm_bnd hf
      refine gm_callS (G := GM) (u := u_6) (u' := u_8) (As := [rv Z 29, .int (0 : Int32), rv Z 32, .int ((22 : Int32) * a1)]) (rest := []) (res := none) C hw hl (ok_X11_copies l Z 29 22 (0 : Int32) 32 88 ((22 : Int32) * a1) u_6 rfl rfl u_8 hc_9) cw_X11_376 st_X11_copies rfl rfl ⟨Nat.le_trans (Nat.le_of_ble_eq_true rfl) hRf, Nat.le_trans (Nat.le_of_ble_eq_true rfl) hRl⟩ rfl rfl (Nat.le_of_ble_eq_true rfl) dX11_mark_116 (fun H locs hw => ?_)
      refine lv_iconst (v := 1) hx hb dX11_mark_119 (by decide) ?_
      exact gm_zret C E hw rfl rfl ((congrArg (fun z => some (Value.int z)) (gm_sp hf).1).symm) (gm_sp hf).2.symm dX11_mark_120
    · replace hf := (if_neg hc).symm.trans hf
      refine gm_aload_n (G := GM) (r := 1) C rfl dX11_mark_79 rfl (lv_at hl 1 rfl) ?_
      refine gm_getS (G := GM) (u := u_6) (r := 1) (ci := 10) (k := 42) C hw rfl fl_X11_102 dX11_mark_80 rfl (q := 32) rfl ?_
      refine lv_bipush (v := 22) hx hb dX11_mark_83 (by decide) ?_
      refine lv_iload_n hx hb dX11_mark_85 rfl (lv_at hl 2 rfl) ?_
      refine lv_imul hx hb dX11_mark_86 ?_
      refine gm_aload_n (G := GM) (r := 1) C rfl dX11_mark_87 rfl (lv_at hl 1 rfl) ?_
      refine gm_getS (G := GM) (u := u_6) (r := 1) (ci := 10) (k := 39) C hw rfl fl_X11_93 dX11_mark_88 rfl (q := 29) rfl ?_
      refine lv_iconst (v := 0) hx hb dX11_mark_91 (by decide) ?_
      obtain ⟨u_10, hc_11, hf⟩ := gm_bnd hf
      refine gm_callS (G := GM) (u := u_6) (u' := u_10) (As := [rv Z 32, .int ((22 : Int32) * a1), rv Z 29, .int (0 : Int32)]) (rest := []) (res := none) C hw hl (ok_X11_copies l Z 32 88 ((22 : Int32) * a1) 29 22 (0 : Int32) u_6 rfl rfl u_10 hc_11) cw_X11_376 st_X11_copies rfl rfl ⟨Nat.le_trans (Nat.le_of_ble_eq_true rfl) hRf, Nat.le_trans (Nat.le_of_ble_eq_true rfl) hRl⟩ rfl rfl (Nat.le_of_ble_eq_true rfl) dX11_mark_92 (fun H locs hw => ?_)
      refine gm_aload_n (G := GM) (r := 1) C rfl dX11_mark_95 rfl (lv_at hl 1 rfl) ?_
      refine lv_iconst (v := 0) hx hb dX11_mark_96 (by decide) ?_
      refine gm_putI (G := GM) (u := u_10) (r := 1) (ci := 10) (k := 45) (v := (0 : Int32)) C hw rfl fl_X11_307 fp_10_45 dX11_mark_97 rfl (fun H locs hw => ?_)
      obtain ⟨u_12, e_u_12, hf⟩ := gm_le hf
      rw [← e_u_12] at hw
      refine lv_goto (tgt := 119) hx hb dX11_mark_100 (by decide) ?_
      refine lv_iconst (v := 1) hx hb dX11_mark_119 (by decide) ?_
      exact gm_zret C E hw rfl rfl ((congrArg (fun z => some (Value.int z)) (gm_sp hf).1).symm) (gm_sp hf).2.symm dX11_mark_120
  have J47 : ∀ (t_14 : Int32) (u_13 : gm_M) (H : Heap) (locs : List Loc) (ls : Array Slot), j_X11_mark_47 a1 a2 t_14 u_13 = some (r, u') → lv_has ls 5 [(0, rv Z 1), (1, .int a1), (2, .int a2)] → wd GM Z u_13 A s.heap H locs → W p l e R s m args below meth c H locs 0 0 Q (F0 m 47 ls [.int t_14]) := by
    intro t_14 u_13 H locs ls hf  hl hw
    unfold j_X11_mark_47 at hf
    refine lv_istore_n (i := 3) (lv' := [(3, .int t_14), (0, rv Z 1), (1, .int a1), (2, .int a2)]) hx hb dX11_mark_47 rfl hl (by decide) rfl (fun ls hl => ?_)
    refine lv_iload_n hx hb dX11_mark_48 rfl (lv_at hl 3 rfl) ?_
    refine lv_if_eq (tgt := 56) hx hb dX11_mark_49 (by decide) (fun hc => ?_) (fun hc => ?_)
    · replace hf := (if_pos hc).symm.trans hf
      refine lv_iconst (v := 1) hx hb dX11_mark_56 (by decide) ?_
      refine lv_iload_n hx hb dX11_mark_57 rfl (lv_at hl 2 rfl) ?_
      refine lv_iadd hx hb dX11_mark_58 ?_
      exact J59 t_14 ((1 : Int32) + a1) u_13 _ _ _ hf  (lv_sub hl [1, 2, 3, 0] rfl) hw
    · replace hf := (if_neg hc).symm.trans hf
      refine lv_iconst (v := 0) hx hb dX11_mark_52 (by decide) ?_
      refine lv_goto (tgt := 59) hx hb dX11_mark_53 (by decide) ?_
      exact J59 t_14 (0 : Int32) u_13 _ _ _ hf  (lv_sub hl [1, 2, 3, 0] rfl) hw
  have J29 : ∀  (u_15 : gm_M) (H : Heap) (locs : List Loc) (ls : Array Slot), j_X11_mark_29 a1 a2 u_15 = some (r, u') → lv_has ls 5 [(0, rv Z 1), (1, .int a1), (2, .int a2)] → wd GM Z u_15 A s.heap H locs → W p l e R s m args below meth c H locs 0 0 Q (F0 m 29 ls []) := by
    intro  u_15 H locs ls hf  hl hw
    unfold j_X11_mark_29 at hf
    refine gm_aload_n (G := GM) (r := 1) C rfl dX11_mark_29 rfl (lv_at hl 0 rfl) ?_
    refine gm_getS (G := GM) (u := u_15) (r := 1) (ci := 10) (k := 44) C hw rfl fl_X11_108 dX11_mark_30 rfl (q := 34) rfl ?_
    refine lv_iload_n hx hb dX11_mark_33 rfl (lv_at hl 1 rfl) ?_
    refine lv_iconst (v := 1) hx hb dX11_mark_34 (by decide) ?_
    obtain ⟨g_16, hf⟩ := gm_grd hf
    refine gm_zast (G := GM) (u := u_15) (r := 34) (n := 4) (i := a1) (x := (1 : Int32)) C hw rfl g_16 rfl dX11_mark_35 (fun H locs hw => ?_)
    obtain ⟨u_17, e_u_17, hf⟩ := gm_le hf
    rw [← e_u_17] at hw
    refine lv_iload_n hx hb dX11_mark_36 rfl (lv_at hl 2 rfl) ?_
    refine lv_if_eq (tgt := 46) hx hb dX11_mark_37 (by decide) (fun hc => ?_) (fun hc => ?_)
    · replace hf := (if_pos hc).symm.trans hf
      refine lv_iconst (v := 0) hx hb dX11_mark_46 (by decide) ?_
      exact J47 (0 : Int32) u_17 _ _ _ hf  (lv_sub hl [0, 1, 2] rfl) hw
    · replace hf := (if_neg hc).symm.trans hf
      refine lv_iconst (v := 1) hx hb dX11_mark_40 (by decide) ?_
      refine lv_iload_n hx hb dX11_mark_41 rfl (lv_at hl 1 rfl) ?_
      refine lv_iadd hx hb dX11_mark_42 ?_
      refine lv_goto (tgt := 47) hx hb dX11_mark_43 (by decide) ?_
      exact J47 ((1 : Int32) + a1) u_17 _ _ _ hf  (lv_sub hl [0, 1, 2] rfl) hw
  refine gm_aload_n (G := GM) (r := 1) C rfl dX11_mark_0 rfl (lv_at hl 0 rfl) ?_
  refine lv_iconst (v := 0) hx hb dX11_mark_1 (by decide) ?_
  refine gm_putI (G := GM) (u := u) (r := 1) (ci := 10) (k := 0) (v := (0 : Int32)) C hw rfl fl_X11_137 fp_10_0 dX11_mark_2 rfl (fun H locs hw => ?_)
  obtain ⟨u_18, e_u_18, hf⟩ := gm_le hf
  rw [← e_u_18] at hw
  refine lv_iload_n hx hb dX11_mark_5 rfl (lv_at hl 1 rfl) ?_
  refine lv_iconst (v := 0) hx hb dX11_mark_6 (by decide) ?_
  refine lv_iconst (v := 3) hx hb dX11_mark_7 (by decide) ?_
  obtain ⟨r_19, e_r_19, hf⟩ := gm_le hf
  refine gm_callS (G := GM) (u := u_18) (u' := u_18) (As := [.int a1, .int (0 : Int32), .int (3 : Int32)]) (rest := []) (res := (some (.int (f_X11_within a1 (0 : Int32) (3 : Int32))))) C hw hl (ok_X11_within l Z a1 (0 : Int32) (3 : Int32) u_18) cw_X11_254 st_X11_within rfl rfl ⟨Nat.le_trans (Nat.le_of_ble_eq_true rfl) hRf, Nat.le_trans (Nat.le_of_ble_eq_true rfl) hRl⟩ rfl rfl (Nat.le_of_ble_eq_true rfl) dX11_mark_8 (fun H locs hw => ?_)
  refine gm_topI e_r_19 ?_
  refine lv_if_eq (tgt := 27) hx hb dX11_mark_11 (by decide) (fun hc => ?_) (fun hc => ?_)
  · replace hf := (if_pos hc).symm.trans hf
    refine lv_iconst (v := 0) hx hb dX11_mark_27 (by decide) ?_
    exact gm_zret C E hw rfl rfl ((congrArg (fun z => some (Value.int z)) (gm_sp hf).1).symm) (gm_sp hf).2.symm dX11_mark_28
  · replace hf := (if_neg hc).symm.trans hf
    refine lv_iload_n hx hb dX11_mark_14 rfl (lv_at hl 2 rfl) ?_
    refine lv_if_eq (tgt := 29) hx hb dX11_mark_15 (by decide) (fun hc => ?_) (fun hc => ?_)
    · replace hf := (if_pos hc).symm.trans hf
      exact J29 u_18 _ _ _ hf  (lv_sub hl [0, 1, 2] rfl) hw
    · replace hf := (if_neg hc).symm.trans hf
      refine gm_aload_n (G := GM) (r := 1) C rfl dX11_mark_18 rfl (lv_at hl 0 rfl) ?_
      refine gm_getS (G := GM) (u := u_18) (r := 1) (ci := 10) (k := 44) C hw rfl fl_X11_108 dX11_mark_19 rfl (q := 34) rfl ?_
      refine lv_iload_n hx hb dX11_mark_22 rfl (lv_at hl 1 rfl) ?_
      obtain ⟨g_20, hf⟩ := gm_grd hf
      refine gm_zald (G := GM) (u := u_18) (r := 34) (n := 4) (i := a1) C hw rfl g_20 rfl dX11_mark_23 ?_
      refine lv_if_ne (tgt := 29) hx hb dX11_mark_24 (by decide) (fun hc => ?_) (fun hc => ?_)
      · replace hf := (if_neg hc).symm.trans hf
        exact J29 u_18 _ _ _ hf  (lv_sub hl [0, 1, 2] rfl) hw
      · replace hf := (if_pos hc).symm.trans hf
        refine lv_iconst (v := 0) hx hb dX11_mark_27 (by decide) ?_
        exact gm_zret C E hw rfl rfl ((congrArg (fun z => some (Value.int z)) (gm_sp hf).1).symm) (gm_sp hf).2.symm dX11_mark_28
/-! LeapCapitalModel.count -/
def f_X11_count (a1 : Int32) (u : gm_M) : Option (Int32 × gm_M) := gm_let (sI u 1 0 (0 : Int32)) fun u_1 => gm_let (f_X11_within a1 (0 : Int32) (12 : Int32)) fun r_2 => if r_2 = 0 then some ((-1 : Int32), u_1) else if (4 : Int32) ≤ a1 then if (7 : Int32) ≤ a1 then if (9 : Int32) ≤ a1 then if (11 : Int32) ≤ a1 then if a1 = (11 : Int32) then some (gI u_1 1 45, u_1) else some (gI u_1 1 1, u_1) else if a1 = (9 : Int32) then some (gI u_1 23 0, u_1) else some (gI u_1 26 0, u_1) else if a1 = (7 : Int32) then some (gI u_1 29 3, u_1) else (f_X11_deads u_1).bind fun r_3 => some (r_3, u_1) else if a1 = (4 : Int32) then some (gI u_1 29 1, u_1) else if a1 = (5 : Int32) then some (gI u_1 29 2, u_1) else (f_X11_inQueue u_1).bind fun r_5 => some (r_5, u_1) else if a1 = (1 : Int32) then some (gI u_1 29 0, u_1) else if ib a1 8 = true then some (gI u_1 3 (ix a1), u_1) else none
set_option maxRecDepth 100000 in
set_option maxHeartbeats 4000000 in
theorem ok_X11_count (l : Launch) (Z : gm_Z) (a1 : Int32) (u : gm_M)  (r : Int32) (u' : gm_M) (hf : f_X11_count a1 u = some (r, u')) : gm_Met l GM Z yX11_count cX11_count 2 (some .int) ({ frames := 2, cells := 0, slots := 0, locals := 43 }) [rv Z 1, .int a1] u (some (.int r)) u' := by
  unfold f_X11_count at hf
  refine gm_ofW (by decide +kernel) (Nat.le_of_ble_eq_true rfl) ?_
  intro p e s m args below meth c A ls Q R hRf hRl C E hl hw
  obtain ⟨hx, hb, -⟩ := id C
  have hl : lv_has ls 2 [(0, rv Z 1), (1, .int a1)] := hl
  refine gm_aload_n (G := GM) (r := 1) C rfl dX11_count_0 rfl (lv_at hl 0 rfl) ?_
  refine lv_iconst (v := 0) hx hb dX11_count_1 (by decide) ?_
  refine gm_putI (G := GM) (u := u) (r := 1) (ci := 10) (k := 0) (v := (0 : Int32)) C hw rfl fl_X11_137 fp_10_0 dX11_count_2 rfl (fun H locs hw => ?_)
  obtain ⟨u_1, e_u_1, hf⟩ := gm_le hf
  rw [← e_u_1] at hw
  refine lv_iload_n hx hb dX11_count_5 rfl (lv_at hl 1 rfl) ?_
  refine lv_iconst (v := 0) hx hb dX11_count_6 (by decide) ?_
  refine lv_bipush (v := 12) hx hb dX11_count_7 (by decide) ?_
  obtain ⟨r_2, e_r_2, hf⟩ := gm_le hf
  refine gm_callS (G := GM) (u := u_1) (u' := u_1) (As := [.int a1, .int (0 : Int32), .int (12 : Int32)]) (rest := []) (res := (some (.int (f_X11_within a1 (0 : Int32) (12 : Int32))))) C hw hl (ok_X11_within l Z a1 (0 : Int32) (12 : Int32) u_1) cw_X11_254 st_X11_within rfl rfl ⟨Nat.le_trans (Nat.le_of_ble_eq_true rfl) hRf, Nat.le_trans (Nat.le_of_ble_eq_true rfl) hRl⟩ rfl rfl (Nat.le_of_ble_eq_true rfl) dX11_count_9 (fun H locs hw => ?_)
  refine gm_topI e_r_2 ?_
  refine lv_if_ne (tgt := 17) hx hb dX11_count_12 (by decide) (fun hc => ?_) (fun hc => ?_)
  · replace hf := (if_neg hc).symm.trans hf
    refine lv_iload_n hx hb dX11_count_17 rfl (lv_at hl 1 rfl) ?_
    refine lv_iconst (v := 4) hx hb dX11_count_18 (by decide) ?_
    refine lv_icmp_ge (tgt := 43) hx hb dX11_count_19 (by decide) (fun hc => ?_) (fun hc => ?_)
    · replace hf := (if_pos hc).symm.trans hf
      refine lv_iload_n hx hb dX11_count_43 rfl (lv_at hl 1 rfl) ?_
      refine lv_bipush (v := 7) hx hb dX11_count_44 (by decide) ?_
      refine lv_icmp_ge (tgt := 82) hx hb dX11_count_46 (by decide) (fun hc => ?_) (fun hc => ?_)
      · replace hf := (if_pos hc).symm.trans hf
        refine lv_iload_n hx hb dX11_count_82 rfl (lv_at hl 1 rfl) ?_
        refine lv_bipush (v := 9) hx hb dX11_count_83 (by decide) ?_
        refine lv_icmp_ge (tgt := 108) hx hb dX11_count_85 (by decide) (fun hc => ?_) (fun hc => ?_)
        · replace hf := (if_pos hc).symm.trans hf
          refine lv_iload_n hx hb dX11_count_108 rfl (lv_at hl 1 rfl) ?_
          refine lv_bipush (v := 11) hx hb dX11_count_109 (by decide) ?_
          refine lv_icmp_ge (tgt := 136) hx hb dX11_count_111 (by decide) (fun hc => ?_) (fun hc => ?_)
          · replace hf := (if_pos hc).symm.trans hf
            refine lv_iload_n hx hb dX11_count_136 rfl (lv_at hl 1 rfl) ?_
            refine lv_bipush (v := 11) hx hb dX11_count_137 (by decide) ?_
            refine lv_icmp_ne (tgt := 149) hx hb dX11_count_139 (by decide) (fun hc => ?_) (fun hc => ?_)
            · replace hf := (if_neg hc).symm.trans hf
              refine gm_aload_n (G := GM) (r := 1) C rfl dX11_count_149 rfl (lv_at hl 0 rfl) ?_
              refine gm_getI (G := GM) (u := u_1) (r := 1) (ci := 10) (k := 1) C hw rfl fl_X11_142 dX11_count_150 rfl ?_
              exact gm_iret C E hw rfl ((congrArg (fun z => some (Value.int z)) (gm_sp hf).1).symm) (gm_sp hf).2.symm dX11_count_153
            · replace hf := (if_pos hc).symm.trans hf
              refine gm_aload_n (G := GM) (r := 1) C rfl dX11_count_142 rfl (lv_at hl 0 rfl) ?_
              refine gm_getI (G := GM) (u := u_1) (r := 1) (ci := 10) (k := 45) C hw rfl fl_X11_307 dX11_count_143 rfl ?_
              refine lv_goto (tgt := 153) hx hb dX11_count_146 (by decide) ?_
              exact gm_iret C E hw rfl ((congrArg (fun z => some (Value.int z)) (gm_sp hf).1).symm) (gm_sp hf).2.symm dX11_count_153
          · replace hf := (if_neg hc).symm.trans hf
            refine lv_iload_n hx hb dX11_count_114 rfl (lv_at hl 1 rfl) ?_
            refine lv_bipush (v := 9) hx hb dX11_count_115 (by decide) ?_
            refine lv_icmp_ne (tgt := 129) hx hb dX11_count_117 (by decide) (fun hc => ?_) (fun hc => ?_)
            · replace hf := (if_neg hc).symm.trans hf
              refine gm_aload_n (G := GM) (r := 1) C rfl dX11_count_129 rfl (lv_at hl 0 rfl) ?_
              refine gm_getS (G := GM) (u := u_1) (r := 1) (ci := 10) (k := 36) C hw rfl fl_X11_84 dX11_count_130 rfl (q := 26) rfl ?_
              refine lv_iconst (v := 0) hx hb dX11_count_133 (by decide) ?_
              refine gm_iald (G := GM) (u := u_1) (r := 26) (n := 5) (i := (0 : Int32)) C hw rfl (by decide) (j := 0) (by decide) dX11_count_134 ?_
              exact gm_iret C E hw rfl ((congrArg (fun z => some (Value.int z)) (gm_sp hf).1).symm) (gm_sp hf).2.symm dX11_count_135
            · replace hf := (if_pos hc).symm.trans hf
              refine gm_aload_n (G := GM) (r := 1) C rfl dX11_count_120 rfl (lv_at hl 0 rfl) ?_
              refine gm_getS (G := GM) (u := u_1) (r := 1) (ci := 10) (k := 33) C hw rfl fl_X11_75 dX11_count_121 rfl (q := 23) rfl ?_
              refine lv_iconst (v := 0) hx hb dX11_count_124 (by decide) ?_
              refine gm_iald (G := GM) (u := u_1) (r := 23) (n := 6) (i := (0 : Int32)) C hw rfl (by decide) (j := 0) (by decide) dX11_count_125 ?_
              refine lv_goto (tgt := 135) hx hb dX11_count_126 (by decide) ?_
              exact gm_iret C E hw rfl ((congrArg (fun z => some (Value.int z)) (gm_sp hf).1).symm) (gm_sp hf).2.symm dX11_count_135
        · replace hf := (if_neg hc).symm.trans hf
          refine lv_iload_n hx hb dX11_count_88 rfl (lv_at hl 1 rfl) ?_
          refine lv_bipush (v := 7) hx hb dX11_count_89 (by decide) ?_
          refine lv_icmp_ne (tgt := 103) hx hb dX11_count_91 (by decide) (fun hc => ?_) (fun hc => ?_)
          · replace hf := (if_neg hc).symm.trans hf
            refine gm_aload_n (G := GM) (r := 1) C rfl dX11_count_103 rfl (lv_at hl 0 rfl) ?_
            obtain ⟨r_3, hc_4, hf⟩ := gm_bnd hf
            refine gm_callV (G := GM) (u := u_1) (u' := u_1) (r := 1) (ci := 10) (As := []) (rest := []) (res := (some (.int r_3))) C hw hl (ok_X11_deads l Z u_1 r_3 hc_4) cw_X11_457 im_X11_deads rfl se_X11_deads rfl rfl rfl ⟨Nat.le_trans (Nat.le_of_ble_eq_true rfl) hRf, Nat.le_trans (Nat.le_of_ble_eq_true rfl) hRl⟩ rfl rfl (Nat.le_of_ble_eq_true rfl) dX11_count_104 (fun H locs hw => ?_)
            exact gm_iret C E hw rfl ((congrArg (fun z => some (Value.int z)) (gm_sp hf).1).symm) (gm_sp hf).2.symm dX11_count_107
          · replace hf := (if_pos hc).symm.trans hf
            refine gm_aload_n (G := GM) (r := 1) C rfl dX11_count_94 rfl (lv_at hl 0 rfl) ?_
            refine gm_getS (G := GM) (u := u_1) (r := 1) (ci := 10) (k := 39) C hw rfl fl_X11_93 dX11_count_95 rfl (q := 29) rfl ?_
            refine lv_iconst (v := 3) hx hb dX11_count_98 (by decide) ?_
            refine gm_iald (G := GM) (u := u_1) (r := 29) (n := 22) (i := (3 : Int32)) C hw rfl (by decide) (j := 3) (by decide) dX11_count_99 ?_
            refine lv_goto (tgt := 107) hx hb dX11_count_100 (by decide) ?_
            exact gm_iret C E hw rfl ((congrArg (fun z => some (Value.int z)) (gm_sp hf).1).symm) (gm_sp hf).2.symm dX11_count_107
      · replace hf := (if_neg hc).symm.trans hf
        refine lv_iload_n hx hb dX11_count_49 rfl (lv_at hl 1 rfl) ?_
        refine lv_iconst (v := 4) hx hb dX11_count_50 (by decide) ?_
        refine lv_icmp_ne (tgt := 63) hx hb dX11_count_51 (by decide) (fun hc => ?_) (fun hc => ?_)
        · replace hf := (if_neg hc).symm.trans hf
          refine lv_iload_n hx hb dX11_count_63 rfl (lv_at hl 1 rfl) ?_
          refine lv_iconst (v := 5) hx hb dX11_count_64 (by decide) ?_
          refine lv_icmp_ne (tgt := 77) hx hb dX11_count_65 (by decide) (fun hc => ?_) (fun hc => ?_)
          · replace hf := (if_neg hc).symm.trans hf
            refine gm_aload_n (G := GM) (r := 1) C rfl dX11_count_77 rfl (lv_at hl 0 rfl) ?_
            obtain ⟨r_5, hc_6, hf⟩ := gm_bnd hf
            refine gm_callV (G := GM) (u := u_1) (u' := u_1) (r := 1) (ci := 10) (As := []) (rest := []) (res := (some (.int r_5))) C hw hl (ok_X11_inQueue l Z u_1 r_5 hc_6) cw_X11_423 im_X11_inQueue rfl se_X11_inQueue rfl rfl rfl ⟨Nat.le_trans (Nat.le_of_ble_eq_true rfl) hRf, Nat.le_trans (Nat.le_of_ble_eq_true rfl) hRl⟩ rfl rfl (Nat.le_of_ble_eq_true rfl) dX11_count_78 (fun H locs hw => ?_)
            exact gm_iret C E hw rfl ((congrArg (fun z => some (Value.int z)) (gm_sp hf).1).symm) (gm_sp hf).2.symm dX11_count_81
          · replace hf := (if_pos hc).symm.trans hf
            refine gm_aload_n (G := GM) (r := 1) C rfl dX11_count_68 rfl (lv_at hl 0 rfl) ?_
            refine gm_getS (G := GM) (u := u_1) (r := 1) (ci := 10) (k := 39) C hw rfl fl_X11_93 dX11_count_69 rfl (q := 29) rfl ?_
            refine lv_iconst (v := 2) hx hb dX11_count_72 (by decide) ?_
            refine gm_iald (G := GM) (u := u_1) (r := 29) (n := 22) (i := (2 : Int32)) C hw rfl (by decide) (j := 2) (by decide) dX11_count_73 ?_
            refine lv_goto (tgt := 81) hx hb dX11_count_74 (by decide) ?_
            exact gm_iret C E hw rfl ((congrArg (fun z => some (Value.int z)) (gm_sp hf).1).symm) (gm_sp hf).2.symm dX11_count_81
        · replace hf := (if_pos hc).symm.trans hf
          refine gm_aload_n (G := GM) (r := 1) C rfl dX11_count_54 rfl (lv_at hl 0 rfl) ?_
          refine gm_getS (G := GM) (u := u_1) (r := 1) (ci := 10) (k := 39) C hw rfl fl_X11_93 dX11_count_55 rfl (q := 29) rfl ?_
          refine lv_iconst (v := 1) hx hb dX11_count_58 (by decide) ?_
          refine gm_iald (G := GM) (u := u_1) (r := 29) (n := 22) (i := (1 : Int32)) C hw rfl (by decide) (j := 1) (by decide) dX11_count_59 ?_
          refine lv_goto (tgt := 81) hx hb dX11_count_60 (by decide) ?_
          exact gm_iret C E hw rfl ((congrArg (fun z => some (Value.int z)) (gm_sp hf).1).symm) (gm_sp hf).2.symm dX11_count_81
    · replace hf := (if_neg hc).symm.trans hf
      refine lv_iload_n hx hb dX11_count_22 rfl (lv_at hl 1 rfl) ?_
      refine lv_iconst (v := 1) hx hb dX11_count_23 (by decide) ?_
      refine lv_icmp_ne (tgt := 36) hx hb dX11_count_24 (by decide) (fun hc => ?_) (fun hc => ?_)
      · replace hf := (if_neg hc).symm.trans hf
        refine gm_aload_n (G := GM) (r := 1) C rfl dX11_count_36 rfl (lv_at hl 0 rfl) ?_
        refine gm_getS (G := GM) (u := u_1) (r := 1) (ci := 10) (k := 10) C hw rfl fl_X11_13 dX11_count_37 rfl (q := 3) rfl ?_
        refine lv_iload_n hx hb dX11_count_40 rfl (lv_at hl 1 rfl) ?_
        obtain ⟨g_7, hf⟩ := gm_grd hf
        refine gm_iald (G := GM) (u := u_1) (r := 3) (n := 8) (i := a1) C hw rfl g_7 rfl dX11_count_41 ?_
        exact gm_iret C E hw rfl ((congrArg (fun z => some (Value.int z)) (gm_sp hf).1).symm) (gm_sp hf).2.symm dX11_count_42
      · replace hf := (if_pos hc).symm.trans hf
        refine gm_aload_n (G := GM) (r := 1) C rfl dX11_count_27 rfl (lv_at hl 0 rfl) ?_
        refine gm_getS (G := GM) (u := u_1) (r := 1) (ci := 10) (k := 39) C hw rfl fl_X11_93 dX11_count_28 rfl (q := 29) rfl ?_
        refine lv_iconst (v := 0) hx hb dX11_count_31 (by decide) ?_
        refine gm_iald (G := GM) (u := u_1) (r := 29) (n := 22) (i := (0 : Int32)) C hw rfl (by decide) (j := 0) (by decide) dX11_count_32 ?_
        refine lv_goto (tgt := 42) hx hb dX11_count_33 (by decide) ?_
        exact gm_iret C E hw rfl ((congrArg (fun z => some (Value.int z)) (gm_sp hf).1).symm) (gm_sp hf).2.symm dX11_count_42
  · replace hf := (if_pos hc).symm.trans hf
    refine lv_iconst (v := -1) hx hb dX11_count_15 (by decide) ?_
    exact gm_iret C E hw rfl ((congrArg (fun z => some (Value.int z)) (gm_sp hf).1).symm) (gm_sp hf).2.symm dX11_count_16
