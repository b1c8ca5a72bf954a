/-! LeapCapital$Sayings.bestQuestion -/
def b_X7_bestQuestion_12 (a0 : Nat) (r_2 : Int32) (u_3 : gm_M) : (Int32 × Int32 × Int32) → Option ((Int32 × Int32 × Int32) ⊕ Int32) := fun x => match x with | (v2_6, v3_7, v4_8) => if (41 : Int32) ≤ v4_8 then some (.inr v2_6) else if ib v4_8 41 = true then gm_let (if (gI u_3 (a0 + 3) (ix v4_8)) < (r_2 - (gI u_3 (a0 + 3) (ix v4_8))) then (r_2 - (gI u_3 (a0 + 3) (ix v4_8))) else (gI u_3 (a0 + 3) (ix v4_8))) fun v_10 => if v3_7 ≤ v_10 then some (.inl (v2_6, v3_7, v4_8 + (1 : Int32))) else some (.inl (v4_8, v_10, v4_8 + (1 : Int32))) else none
def f_X7_bestQuestion (a0 : Nat) (u : gm_M) : Option (Int32 × gm_M) := (f_X7_countLeapsThen a0 u).bind fun o => match o with | (r_2, u_3) => ((gm_lp (b_X7_bestQuestion_12 a0 r_2 u_3) gm_FU ((-1 : Int32), r_2, (0 : Int32))).bind fun o => match o with | w2_11 => some (w2_11, u_3))
set_option maxRecDepth 100000 in
set_option maxHeartbeats 4000000 in
theorem ok_X7_bestQuestion (l : Launch) (Z : gm_Z) (a0 : Nat) (u : gm_M) (h0 : isSayings a0 = true) (r : Int32) (u' : gm_M) (hf : f_X7_bestQuestion a0 u = some (r, u')) : gm_Met l GC Z yX7_bestQuestion cX7_bestQuestion 6 (some .int) ({ frames := 3, cells := 0, slots := 0, locals := 65 }) [rv Z a0] u (some (.int r)) u' := by
  unfold f_X7_bestQuestion at hf
  refine gm_ofW (by decide +kernel) (by simp [lg_sl, gm_cat, gm_catI, gm_catJ]) ?_
  intro p e s m args below meth c A ls Q R hRf hRl C E hl hw
  obtain ⟨hx, hb, -⟩ := id C
  have hl : lv_has ls 6 [(0, rv Z a0)] := by simpa [lv_args, gm_cat, gm_catI, gm_catJ] using hl
  obtain ⟨k_1_0, k_1_1, k_1_2, k_1_3, k_1_4, k_1_5, k_1_6⟩ := fc_Sayings h0
  refine gm_aload_n (G := GC) (r := a0) C k_1_0 dX7_bestQuestion_0 rfl (lv_at hl 0 rfl) ?_
  obtain ⟨⟨r_2, u_3⟩, hc_4, hf⟩ := gm_bnd hf
  try dsimp only at hf
  refine gm_callV (G := GC) (u := u) (u' := u_3) (r := a0) (ci := 6) (As := []) (rest := []) (res := (some (.int r_2))) C hw hl (ok_X7_countLeapsThen l Z a0 u h0 r_2 u_3 hc_4) cw_X7_32 im_X7_countLeapsThen rfl se_X7_countLeapsThen k_1_0 rfl rfl ⟨Nat.le_trans (Nat.le_of_ble_eq_true rfl) hRf, Nat.le_trans (Nat.le_of_ble_eq_true rfl) hRl⟩ rfl rfl (Nat.le_of_ble_eq_true rfl) dX7_bestQuestion_1 (fun H locs hw => ?_)
  refine lv_istore_n (i := 1) (lv' := [(1, .int r_2), (0, rv Z a0)]) hx hb dX7_bestQuestion_4 rfl hl (by decide) (by simp [gm_cat, gm_catI, gm_catJ]) (fun ls hl => ?_)
  refine lv_iconst (v := -1) hx hb dX7_bestQuestion_5 (by decide) ?_
  refine lv_istore_n (i := 2) (lv' := [(2, .int (-1 : Int32)), (1, .int r_2), (0, rv Z a0)]) hx hb dX7_bestQuestion_6 rfl hl (by decide) rfl (fun ls hl => ?_)
  refine lv_iload_n hx hb dX7_bestQuestion_7 rfl (lv_at hl 1 rfl) ?_
  refine lv_istore_n (i := 3) (lv' := [(3, .int r_2), (2, .int (-1 : Int32)), (1, .int r_2), (0, rv Z a0)]) hx hb dX7_bestQuestion_8 rfl hl (by decide) rfl (fun ls hl => ?_)
  refine lv_iconst (v := 0) hx hb dX7_bestQuestion_9 (by decide) ?_
  refine lv_istore (i := 4) (lv' := [(4, .int (0 : Int32)), (3, .int r_2), (2, .int (-1 : Int32)), (1, .int r_2), (0, rv Z a0)]) hx hb dX7_bestQuestion_10 hl (by decide) rfl (fun ls hl => ?_)
  obtain ⟨o1, hlp, hf⟩ := gm_bnd hf
  have L12_1 := gm_loop (b_X7_bestQuestion_12 a0 r_2 u_3) (fun x : (Int32 × Int32 × Int32) => ∀ (H : Heap) (locs : List Loc) (ls : Array Slot), lv_has ls 6 [(0, rv Z a0), (1, .int r_2), (2, .int x.1), (3, .int x.2.1), (4, .int x.2.2)] → wd GC Z u_3 A s.heap H locs → W p l e R s m args below meth c H locs 0 0 Q (F0 m 12 ls [])) (fun z : Int32 => ∀ (H : Heap) (locs : List Loc) (ls : Array Slot), lv_has ls 6 [(2, .int z)] → wd GC Z u_3 A s.heap H locs → W p l e R s m args below meth c H locs 0 0 Q (F0 m 61 ls [])) (by
    intro x o1 hf Kc Kx
    obtain ⟨v2_6, v3_7, v4_8⟩ := x
    intro H locs ls hl hw
    unfold b_X7_bestQuestion_12 at hf
    try dsimp only at hf
    refine lv_iload hx hb dX7_bestQuestion_12 (lv_at hl 4 rfl) ?_
    refine gm_aload_n (G := GC) (r := a0) C k_1_0 dX7_bestQuestion_14 rfl (lv_at hl 0 rfl) ?_
    refine gm_getS (G := GC) (u := u_3) (r := a0) (ci := 6) (k := 3) C hw k_1_0 fl_X7_23 dX7_bestQuestion_15 rfl (q := a0 + 3) k_1_5 ?_
    refine gm_alen (G := GC) (u := u_3) (r := (a0 + 3)) (t := 0) (n := 41) (v := 41) C hw k_1_6 (by decide) (by decide) dX7_bestQuestion_18 ?_
    refine lv_icmp_ge (tgt := 61) hx hb dX7_bestQuestion_19 (by decide) (fun hc => ?_) (fun hc => ?_)
    · replace hf := (if_pos hc).symm.trans hf
      exact Kx _ (gm_si hf) _ _ _ (lv_sub hl [2] rfl) hw
    · replace hf := (if_neg hc).symm.trans hf
      refine gm_aload_n (G := GC) (r := a0) C k_1_0 dX7_bestQuestion_22 rfl (lv_at hl 0 rfl) ?_
      refine gm_getS (G := GC) (u := u_3) (r := a0) (ci := 6) (k := 3) C hw k_1_0 fl_X7_23 dX7_bestQuestion_23 rfl (q := a0 + 3) k_1_5 ?_
      refine lv_iload hx hb dX7_bestQuestion_26 (lv_at hl 4 rfl) ?_
      obtain ⟨g_9, hf⟩ := gm_grd hf
      refine gm_iald (G := GC) (u := u_3) (r := (a0 + 3)) (n := 41) (i := v4_8) C hw k_1_6 g_9 rfl dX7_bestQuestion_28 ?_
      refine lv_iload_n hx hb dX7_bestQuestion_29 rfl (lv_at hl 1 rfl) ?_
      refine gm_aload_n (G := GC) (r := a0) C k_1_0 dX7_bestQuestion_30 rfl (lv_at hl 0 rfl) ?_
      refine gm_getS (G := GC) (u := u_3) (r := a0) (ci := 6) (k := 3) C hw k_1_0 fl_X7_23 dX7_bestQuestion_31 rfl (q := a0 + 3) k_1_5 ?_
      refine lv_iload hx hb dX7_bestQuestion_34 (lv_at hl 4 rfl) ?_
      refine gm_iald (G := GC) (u := u_3) (r := (a0 + 3)) (n := 41) (i := v4_8) C hw k_1_6 g_9 rfl dX7_bestQuestion_36 ?_
      refine lv_isub hx hb dX7_bestQuestion_37 ?_
      refine gm_max C hl mw_X7_36 (Nat.le_trans (Nat.le_of_ble_eq_true rfl) hRf) (Nat.le_trans (Nat.le_of_ble_eq_true rfl) hRl) (Nat.le_of_ble_eq_true rfl) dX7_bestQuestion_38 ?_
      obtain ⟨v_10, e_v_10, hf⟩ := gm_le hf
      refine gm_topI e_v_10 ?_
      refine lv_istore (i := 5) (lv' := [(5, .int v_10), (0, rv Z a0), (1, .int r_2), (2, .int v2_6), (3, .int v3_7), (4, .int v4_8)]) hx hb dX7_bestQuestion_41 hl (by decide) rfl (fun ls hl => ?_)
      refine lv_iload hx hb dX7_bestQuestion_43 (lv_at hl 0 rfl) ?_
      refine lv_iload_n hx hb dX7_bestQuestion_45 rfl (lv_at hl 4 rfl) ?_
      refine lv_icmp_ge (tgt := 55) hx hb dX7_bestQuestion_46 (by decide) (fun hc => ?_) (fun hc => ?_)
      · replace hf := (if_pos hc).symm.trans hf
        refine lv_iinc (v := v4_8 + (1 : Int32)) (lv' := [(4, .int (v4_8 + (1 : Int32))), (5, .int v_10), (0, rv Z a0), (1, .int r_2), (2, .int v2_6), (3, .int v3_7)]) hx hb dX7_bestQuestion_55 hl (k := 5) rfl rfl (by decide) rfl (fun ls hl => ?_)
        refine lv_goto (tgt := 12) hx hb dX7_bestQuestion_58 (by decide) ?_
        exact Kc _ (gm_si hf) _ _ _ (lv_sub hl [2, 3, 4, 5, 0] rfl) hw
      · replace hf := (if_neg hc).symm.trans hf
        refine lv_iload hx hb dX7_bestQuestion_49 (lv_at hl 0 rfl) ?_
        refine lv_istore_n (i := 3) (lv' := [(3, .int v_10), (5, .int v_10), (0, rv Z a0), (1, .int r_2), (2, .int v2_6), (4, .int v4_8)]) hx hb dX7_bestQuestion_51 rfl hl (by decide) rfl (fun ls hl => ?_)
        refine lv_iload hx hb dX7_bestQuestion_52 (lv_at hl 5 rfl) ?_
        refine lv_istore_n (i := 2) (lv' := [(2, .int v4_8), (3, .int v_10), (5, .int v_10), (0, rv Z a0), (1, .int r_2), (4, .int v4_8)]) hx hb dX7_bestQuestion_54 rfl hl (by decide) rfl (fun ls hl => ?_)
        refine lv_iinc (v := v4_8 + (1 : Int32)) (lv' := [(4, .int (v4_8 + (1 : Int32))), (2, .int v4_8), (3, .int v_10), (5, .int v_10), (0, rv Z a0), (1, .int r_2)]) hx hb dX7_bestQuestion_55 hl (k := 5) rfl rfl (by decide) rfl (fun ls hl => ?_)
        refine lv_goto (tgt := 12) hx hb dX7_bestQuestion_58 (by decide) ?_
        exact Kc _ (gm_si hf) _ _ _ (lv_sub hl [4, 5, 1, 2, 0] rfl) hw)
  refine L12_1 _ _ _ hlp ?_ _ _ _ (lv_sub hl [4, 3, 2, 1, 0] rfl) hw
  obtain ⟨w2_11, rfl⟩ : ∃ y, y = o1 := ⟨_, rfl⟩
  intro H locs ls hl hw
  try dsimp only at hf
  refine lv_iload_n hx hb dX7_bestQuestion_61 rfl (lv_at hl 0 rfl) ?_
  exact gm_iret C E hw rfl ((congrArg (fun z => some (Value.int z)) (gm_sp hf).1).symm) (gm_sp hf).2.symm dX7_bestQuestion_62
/-! LeapCapital$Scribe.refuse -/
def f_X8_refuse (a1 : Int32) (u : gm_M) : Option gm_M := if (gI u 2 1) = 0 then gm_let (sI u 2 1 (a1 + ((16 : Int32) * (gI u 3 2)))) fun u_1 => some u_1 else some u
set_option maxRecDepth 100000 in
set_option maxHeartbeats 4000000 in
theorem ok_X8_refuse (l : Launch) (Z : gm_Z) (a1 : Int32) (u : gm_M)  (u' : gm_M) (hf : f_X8_refuse a1 u = some (u')) : gm_Met l GC Z yX8_refuse cX8_refuse 2 none ({ frames := 0, cells := 0, slots := 0, locals := 0 }) [rv Z 2, .int a1] u none u' := by
  unfold f_X8_refuse at hf
  refine gm_ofW (by decide +kernel) (Nat.le_of_ble_eq_true rfl) ?_
  intro p e s m args below meth c A ls Q R hRf hRl C E hl hw
  obtain ⟨hx, hb, -⟩ := id C
  have hl : lv_has ls 2 [(0, rv Z 2), (1, .int a1)] := hl
  refine gm_aload_n (G := GC) (r := 2) C rfl dX8_refuse_0 rfl (lv_at hl 0 rfl) ?_
  refine gm_getI (G := GC) (u := u) (r := 2) (ci := 7) (k := 1) C hw rfl fl_X8_18 dX8_refuse_1 rfl ?_
  refine lv_if_ne (tgt := 23) hx hb dX8_refuse_4 (by decide) (fun hc => ?_) (fun hc => ?_)
  · replace hf := (if_neg hc).symm.trans hf
    exact gm_vret C E hw rfl rfl (Option.some.inj hf).symm dX8_refuse_23
  · replace hf := (if_pos hc).symm.trans hf
    refine gm_aload_n (G := GC) (r := 2) C rfl dX8_refuse_7 rfl (lv_at hl 0 rfl) ?_
    refine lv_iload_n hx hb dX8_refuse_8 rfl (lv_at hl 1 rfl) ?_
    refine lv_bipush (v := 16) hx hb dX8_refuse_9 (by decide) ?_
    refine gm_aload_n (G := GC) (r := 2) C rfl dX8_refuse_11 rfl (lv_at hl 0 rfl) ?_
    refine gm_getS (G := GC) (u := u) (r := 2) (ci := 7) (k := 0) C hw rfl fl_X8_12 dX8_refuse_12 rfl (q := 3) rfl ?_
    refine gm_getI (G := GC) (u := u) (r := 3) (ci := 8) (k := 2) C hw rfl fl_X8_153 dX8_refuse_15 rfl ?_
    refine lv_imul hx hb dX8_refuse_18 ?_
    refine lv_iadd hx hb dX8_refuse_19 ?_
    refine gm_putI (G := GC) (u := u) (r := 2) (ci := 7) (k := 1) (v := a1 + ((16 : Int32) * (gI u 3 2))) C hw rfl fl_X8_18 fp_7_1 dX8_refuse_20 rfl (fun H locs hw => ?_)
    obtain ⟨u_1, e_u_1, hf⟩ := gm_le hf
    rw [← e_u_1] at hw
    exact gm_vret C E hw rfl rfl (Option.some.inj hf).symm dX8_refuse_23
/-! LeapCapital$Tape.isWord -/
def f_X9_isWord (a1 : Int32) (u : gm_M) : Int32 := if (gI u 3 4) = (1 : Int32) then if (gI u 3 5) = a1 then (1 : Int32) else (0 : Int32) else (0 : Int32)
set_option maxRecDepth 100000 in
set_option maxHeartbeats 4000000 in
theorem ok_X9_isWord (l : Launch) (Z : gm_Z) (a1 : Int32) (u : gm_M)  : gm_Met l GC Z yX9_isWord cX9_isWord 2 (some .boolean) ({ frames := 0, cells := 0, slots := 0, locals := 0 }) [rv Z 3, .int a1] u (some (.int (f_X9_isWord a1 u))) u := by
  obtain ⟨r, hf⟩ : ∃ r, f_X9_isWord a1 u = r := ⟨_, rfl⟩
  rw [hf]
  unfold f_X9_isWord at hf
  refine gm_ofW (by decide +kernel) (Nat.le_of_ble_eq_true rfl) ?_
  intro p e s m args below meth c A ls Q R hRf hRl C E hl hw
  obtain ⟨hx, hb, -⟩ := id C
  have hl : lv_has ls 2 [(0, rv Z 3), (1, .int a1)] := hl
  refine gm_aload_n (G := GC) (r := 3) C rfl dX9_isWord_0 rfl (lv_at hl 0 rfl) ?_
  refine gm_getI (G := GC) (u := u) (r := 3) (ci := 8) (k := 4) C hw rfl fl_X9_25 dX9_isWord_1 rfl ?_
  refine lv_iconst (v := 1) hx hb dX9_isWord_4 (by decide) ?_
  refine lv_icmp_ne (tgt := 20) hx hb dX9_isWord_5 (by decide) (fun hc => ?_) (fun hc => ?_)
  · replace hf := (if_neg hc).symm.trans hf
    refine lv_iconst (v := 0) hx hb dX9_isWord_20 (by decide) ?_
    exact gm_zret C E hw rfl rfl ((congrArg (fun z => some (Value.int z)) hf).symm) rfl dX9_isWord_21
  · replace hf := (if_pos hc).symm.trans hf
    refine gm_aload_n (G := GC) (r := 3) C rfl dX9_isWord_8 rfl (lv_at hl 0 rfl) ?_
    refine gm_getI (G := GC) (u := u) (r := 3) (ci := 8) (k := 5) C hw rfl fl_X9_28 dX9_isWord_9 rfl ?_
    refine lv_iload_n hx hb dX9_isWord_12 rfl (lv_at hl 1 rfl) ?_
    refine lv_icmp_ne (tgt := 20) hx hb dX9_isWord_13 (by decide) (fun hc => ?_) (fun hc => ?_)
    · replace hf := (if_neg hc).symm.trans hf
      refine lv_iconst (v := 0) hx hb dX9_isWord_20 (by decide) ?_
      exact gm_zret C E hw rfl rfl ((congrArg (fun z => some (Value.int z)) hf).symm) rfl dX9_isWord_21
    · replace hf := (if_pos hc).symm.trans hf
      refine lv_iconst (v := 1) hx hb dX9_isWord_16 (by decide) ?_
      refine lv_goto (tgt := 21) hx hb dX9_isWord_17 (by decide) ?_
      exact gm_zret C E hw rfl rfl ((congrArg (fun z => some (Value.int z)) hf).symm) rfl dX9_isWord_21
/-! LeapCapital$Tape.signAt -/
def f_X9_signAt (a1 : Int32) (u : gm_M) : Option Int32 := if a1 < 0 then some (gm_ch (0 : Int32)) else if (gI u 3 1) ≤ a1 then some (gm_ch (0 : Int32)) else if (1000 : Int32) ≤ a1 then some (gm_ch (0 : Int32)) else if ib a1 1000 = true then some (gm_ch (gI u 4 (ix a1))) else none
set_option maxRecDepth 100000 in
set_option maxHeartbeats 4000000 in
theorem ok_X9_signAt (l : Launch) (Z : gm_Z) (a1 : Int32) (u : gm_M)  (r : Int32) (hf : f_X9_signAt a1 u = some r) : gm_Met l GC Z yX9_signAt cX9_signAt 2 (some .char) ({ frames := 0, cells := 0, slots := 0, locals := 0 }) [rv Z 3, .int a1] u (some (.int r)) u := by
  unfold f_X9_signAt at hf
  refine gm_ofW (by decide +kernel) (Nat.le_of_ble_eq_true rfl) ?_
  intro p e s m args below meth c A ls Q R hRf hRl C E hl hw
  obtain ⟨hx, hb, -⟩ := id C
  have hl : lv_has ls 2 [(0, rv Z 3), (1, .int a1)] := hl
  refine lv_iload_n hx hb dX9_signAt_0 rfl (lv_at hl 1 rfl) ?_
  refine lv_if_lt (tgt := 30) hx hb dX9_signAt_1 (by decide) (fun hc => ?_) (fun hc => ?_)
  · replace hf := (if_pos hc).symm.trans hf
    refine lv_iconst (v := 0) hx hb dX9_signAt_30 (by decide) ?_
    exact gm_zret C E hw rfl rfl ((congrArg (fun z => some (Value.int z)) (Option.some.inj hf)).symm) rfl dX9_signAt_31
  · replace hf := (if_neg hc).symm.trans hf
    refine lv_iload_n hx hb dX9_signAt_4 rfl (lv_at hl 1 rfl) ?_
    refine gm_aload_n (G := GC) (r := 3) C rfl dX9_signAt_5 rfl (lv_at hl 0 rfl) ?_
    refine gm_getI (G := GC) (u := u) (r := 3) (ci := 8) (k := 1) C hw rfl fl_X9_15 dX9_signAt_6 rfl ?_
    refine lv_icmp_ge (tgt := 30) hx hb dX9_signAt_9 (by decide) (fun hc => ?_) (fun hc => ?_)
    · replace hf := (if_pos hc).symm.trans hf
      refine lv_iconst (v := 0) hx hb dX9_signAt_30 (by decide) ?_
      exact gm_zret C E hw rfl rfl ((congrArg (fun z => some (Value.int z)) (Option.some.inj hf)).symm) rfl dX9_signAt_31
    · replace hf := (if_neg hc).symm.trans hf
      refine lv_iload_n hx hb dX9_signAt_12 rfl (lv_at hl 1 rfl) ?_
      refine gm_aload_n (G := GC) (r := 3) C rfl dX9_signAt_13 rfl (lv_at hl 0 rfl) ?_
      refine gm_getS (G := GC) (u := u) (r := 3) (ci := 8) (k := 0) C hw rfl fl_X9_9 dX9_signAt_14 rfl (q := 4) rfl ?_
      refine gm_alen (G := GC) (u := u) (r := 4) (t := 3) (n := 1000) (v := 1000) C hw rfl (by decide) (by decide) dX9_signAt_17 ?_
      refine lv_icmp_ge (tgt := 30) hx hb dX9_signAt_18 (by decide) (fun hc => ?_) (fun hc => ?_)
      · replace hf := (if_pos hc).symm.trans hf
        refine lv_iconst (v := 0) hx hb dX9_signAt_30 (by decide) ?_
        exact gm_zret C E hw rfl rfl ((congrArg (fun z => some (Value.int z)) (Option.some.inj hf)).symm) rfl dX9_signAt_31
      · replace hf := (if_neg hc).symm.trans hf
        refine gm_aload_n (G := GC) (r := 3) C rfl dX9_signAt_21 rfl (lv_at hl 0 rfl) ?_
        refine gm_getS (G := GC) (u := u) (r := 3) (ci := 8) (k := 0) C hw rfl fl_X9_9 dX9_signAt_22 rfl (q := 4) rfl ?_
        refine lv_iload_n hx hb dX9_signAt_25 rfl (lv_at hl 1 rfl) ?_
        obtain ⟨g_1, hf⟩ := gm_grd hf
        refine gm_cald (G := GC) (u := u) (r := 4) (n := 1000) (i := a1) C hw rfl g_1 rfl dX9_signAt_26 ?_
        refine lv_goto (tgt := 31) hx hb dX9_signAt_27 (by decide) ?_
        exact gm_zret C E hw rfl rfl ((congrArg (fun z => some (Value.int z)) (Option.some.inj hf)).symm) rfl dX9_signAt_31
/-! LeapCapital$Tape.isBlank -/
def f_X9_isBlank (a0 : Int32) : Int32 := if a0 = (10 : Int32) then (1 : Int32) else if a0 = (32 : Int32) then (1 : Int32) else (0 : Int32)
set_option maxRecDepth 100000 in
set_option maxHeartbeats 4000000 in
theorem ok_X9_isBlank (l : Launch) (Z : gm_Z) (a0 : Int32) (u : gm_M)  : gm_Met l GC Z yX9_isBlank cX9_isBlank 1 (some .boolean) ({ frames := 0, cells := 0, slots := 0, locals := 0 }) [.int a0] u (some (.int (f_X9_isBlank a0))) u := by
  obtain ⟨r, hf⟩ : ∃ r, f_X9_isBlank a0 = r := ⟨_, rfl⟩
  rw [hf]
  unfold f_X9_isBlank at hf
  refine gm_ofW (by decide +kernel) (Nat.le_of_ble_eq_true rfl) ?_
  intro p e s m args below meth c A ls Q R hRf hRl C E hl hw
  obtain ⟨hx, hb, -⟩ := id C
  have hl : lv_has ls 1 [(0, .int a0)] := hl
  refine lv_iload_n hx hb dX9_isBlank_0 rfl (lv_at hl 0 rfl) ?_
  refine lv_bipush (v := 10) hx hb dX9_isBlank_1 (by decide) ?_
  refine lv_icmp_eq (tgt := 12) hx hb dX9_isBlank_3 (by decide) (fun hc => ?_) (fun hc => ?_)
  · replace hf := (if_pos hc).symm.trans hf
    refine lv_iconst (v := 1) hx hb dX9_isBlank_12 (by decide) ?_
    refine lv_goto (tgt := 17) hx hb dX9_isBlank_13 (by decide) ?_
    exact gm_zret C E hw rfl rfl ((congrArg (fun z => some (Value.int z)) hf).symm) rfl dX9_isBlank_17
  · replace hf := (if_neg hc).symm.trans hf
    refine lv_iload_n hx hb dX9_isBlank_6 rfl (lv_at hl 0 rfl) ?_
    refine lv_bipush (v := 32) hx hb dX9_isBlank_7 (by decide) ?_
    refine lv_icmp_ne (tgt := 16) hx hb dX9_isBlank_9 (by decide) (fun hc => ?_) (fun hc => ?_)
    · replace hf := (if_neg hc).symm.trans hf
      refine lv_iconst (v := 0) hx hb dX9_isBlank_16 (by decide) ?_
      exact gm_zret C E hw rfl rfl ((congrArg (fun z => some (Value.int z)) hf).symm) rfl dX9_isBlank_17
    · replace hf := (if_pos hc).symm.trans hf
      refine lv_iconst (v := 1) hx hb dX9_isBlank_12 (by decide) ?_
      refine lv_goto (tgt := 17) hx hb dX9_isBlank_13 (by decide) ?_
      exact gm_zret C E hw rfl rfl ((congrArg (fun z => some (Value.int z)) hf).symm) rfl dX9_isBlank_17
/-! LeapCapital$Tape.isLetter -/
def f_X9_isLetter (a0 : Int32) : Int32 := if a0 < (97 : Int32) then (0 : Int32) else if (122 : Int32) < a0 then (0 : Int32) else (1 : Int32)
set_option maxRecDepth 100000 in
set_option maxHeartbeats 4000000 in
theorem ok_X9_isLetter (l : Launch) (Z : gm_Z) (a0 : Int32) (u : gm_M)  : gm_Met l GC Z yX9_isLetter cX9_isLetter 1 (some .boolean) ({ frames := 0, cells := 0, slots := 0, locals := 0 }) [.int a0] u (some (.int (f_X9_isLetter a0))) u := by
  obtain ⟨r, hf⟩ : ∃ r, f_X9_isLetter a0 = r := ⟨_, rfl⟩
  rw [hf]
  unfold f_X9_isLetter at hf
  refine gm_ofW (by decide +kernel) (Nat.le_of_ble_eq_true rfl) ?_
  intro p e s m args below meth c A ls Q R hRf hRl C E hl hw
  obtain ⟨hx, hb, -⟩ := id C
  have hl : lv_has ls 1 [(0, .int a0)] := hl
  refine lv_iload_n hx hb dX9_isLetter_0 rfl (lv_at hl 0 rfl) ?_
  refine lv_bipush (v := 97) hx hb dX9_isLetter_1 (by decide) ?_
  refine lv_icmp_lt (tgt := 16) hx hb dX9_isLetter_3 (by decide) (fun hc => ?_) (fun hc => ?_)
  · replace hf := (if_pos hc).symm.trans hf
    refine lv_iconst (v := 0) hx hb dX9_isLetter_16 (by decide) ?_
    exact gm_zret C E hw rfl rfl ((congrArg (fun z => some (Value.int z)) hf).symm) rfl dX9_isLetter_17
  · replace hf := (if_neg hc).symm.trans hf
    refine lv_iload_n hx hb dX9_isLetter_6 rfl (lv_at hl 0 rfl) ?_
    refine lv_bipush (v := 122) hx hb dX9_isLetter_7 (by decide) ?_
    refine lv_icmp_gt (tgt := 16) hx hb dX9_isLetter_9 (by decide) (fun hc => ?_) (fun hc => ?_)
    · replace hf := (if_pos hc).symm.trans hf
      refine lv_iconst (v := 0) hx hb dX9_isLetter_16 (by decide) ?_
      exact gm_zret C E hw rfl rfl ((congrArg (fun z => some (Value.int z)) hf).symm) rfl dX9_isLetter_17
    · replace hf := (if_neg hc).symm.trans hf
      refine lv_iconst (v := 1) hx hb dX9_isLetter_12 (by decide) ?_
      refine lv_goto (tgt := 17) hx hb dX9_isLetter_13 (by decide) ?_
      exact gm_zret C E hw rfl rfl ((congrArg (fun z => some (Value.int z)) hf).symm) rfl dX9_isLetter_17
/-! LeapCapital$Tape.readWord -/
def j_X9_readWord_82 (t_2 : Int32) (u_1 : gm_M) : Option gm_M := gm_let (sI u_1 3 4 t_2) fun u_3 => gm_let (pIW (gJ u_3 3 6)) fun r_4 => gm_let (sI u_3 3 5 r_4) fun u_5 => some u_5
def j_X9_readWord_60 (v1_7 : Int32) (u_6 : gm_M) : Option gm_M := gm_let (sI u_6 3 3 v1_7) fun u_8 => if (v1_7 - (gI u_8 3 2)) ≤ (8 : Int32) then j_X9_readWord_82 (1 : Int32) u_8 else j_X9_readWord_82 (4 : Int32) u_8
def b_X9_readWord_10 : (Int32 × gm_M) → Option ((Int32 × gm_M) ⊕ ((Int32 × gm_M))) := fun x => match x with | (v1_12, u_11) => if (gI u_11 3 1) ≤ v1_12 then some (.inr (v1_12, u_11)) else (f_X9_signAt v1_12 u_11).bind fun r_13 => gm_let (f_X9_isLetter r_13) fun r_15 => if r_15 = 0 then some (.inr (v1_12, u_11)) else (f_X9_signAt v1_12 u_11).bind fun r_16 => gm_let (sJ u_11 3 6 (((((gJ u_11 3 6) * (32 : Int64)) + r_16.toInt64) - (97 : Int64)) + (1 : Int64))) fun u_18 => some (.inl (v1_12 + (1 : Int32), u_18))
def f_X9_readWord  (u : gm_M) : Option gm_M := gm_let (sJ u 3 6 (0 : Int64)) fun u_9 => gm_let (gI u_9 3 2) fun v1_10 => ((gm_lp (b_X9_readWord_10) gm_FU (v1_10, u_9)).bind fun o => match o with | (w1_19, u_20) => j_X9_readWord_60 w1_19 u_20)
set_option maxRecDepth 100000 in
set_option maxHeartbeats 4000000 in
theorem ok_X9_readWord (l : Launch) (Z : gm_Z)  (u : gm_M)  (u' : gm_M) (hf : f_X9_readWord u = some (u')) : gm_Met l GC Z yX9_readWord cX9_readWord 2 none ({ frames := 5, cells := 0, slots := 0, locals := 111 }) [rv Z 3] u none u' := by
  unfold f_X9_readWord at hf
  refine gm_ofW (by decide +kernel) (Nat.le_of_ble_eq_true rfl) ?_
  intro p e s m args below meth c A ls Q R hRf hRl C E hl hw
  obtain ⟨hx, hb, -⟩ := id C
  have hl : lv_has ls 2 [(0, rv Z 3)] := hl
  have J82 : ∀ (t_2 : Int32) (u_1 : gm_M) (H : Heap) (locs : List Loc) (ls : Array Slot), j_X9_readWord_82 t_2 u_1 = some (u') → lv_has ls 2 [(0, rv Z 3)] → wd GC Z u_1 A s.heap H locs → W p l e R s m args below meth c H locs 0 0 Q (F0 m 82 ls [.int t_2, rv Z 3]) := by
    intro t_2 u_1 H locs ls hf  hl hw
    unfold j_X9_readWord_82 at hf
    refine gm_putI (G := GC) (u := u_1) (r := 3) (ci := 8) (k := 4) (v := t_2) C hw rfl fl_X9_25 fp_8_4 dX9_readWord_82 rfl (fun H locs hw => ?_)
    obtain ⟨u_3, e_u_3, hf⟩ := gm_le hf
    rw [← e_u_3] at hw
    refine gm_aload_n (G := GC) (r := 3) C rfl dX9_readWord_85 rfl (lv_at hl 0 rfl) ?_
    refine gm_aload_n (G := GC) (r := 3) C rfl dX9_readWord_86 rfl (lv_at hl 0 rfl) ?_
    refine gm_getJ (G := GC) (u := u_3) (r := 3) (ci := 8) (k := 6) C hw rfl fl_X9_31 dX9_readWord_87 rfl ?_
    obtain ⟨r_4, e_r_4, hf⟩ := gm_le hf
    refine gm_callS (G := GC) (u := u_3) (u' := u_3) (As := [.long (gJ u_3 3 6)]) (rest := [rv Z 3]) (res := (some (.int (pIW (gJ u_3 3 6))))) C hw hl (ok_X9_placeInWords l Z (gJ u_3 3 6) u_3) cw_X9_67 st_X9_placeInWords rfl rfl ⟨Nat.le_trans (Nat.le_of_ble_eq_true rfl) hRf, Nat.le_trans (Nat.le_of_ble_eq_true rfl) hRl⟩ rfl rfl (Nat.le_of_ble_eq_true rfl) dX9_readWord_90 (fun H locs hw => ?_)
    refine gm_topI e_r_4 ?_
    refine gm_putI (G := GC) (u := u_3) (r := 3) (ci := 8) (k := 5) (v := r_4) C hw rfl fl_X9_28 fp_8_5 dX9_readWord_93 rfl (fun H locs hw => ?_)
    obtain ⟨u_5, e_u_5, hf⟩ := gm_le hf
    rw [← e_u_5] at hw
    exact gm_vret C E hw rfl rfl (Option.some.inj hf).symm dX9_readWord_96
  have J60 : ∀ (v1_7 : Int32) (u_6 : gm_M) (H : Heap) (locs : List Loc) (ls : Array Slot), j_X9_readWord_60 v1_7 u_6 = some (u') → lv_has ls 2 [(0, rv Z 3), (1, .int v1_7)] → wd GC Z u_6 A s.heap H locs → W p l e R s m args below meth c H locs 0 0 Q (F0 m 60 ls []) := by
    intro v1_7 u_6 H locs ls hf  hl hw
    unfold j_X9_readWord_60 at hf
    refine gm_aload_n (G := GC) (r := 3) C rfl dX9_readWord_60 rfl (lv_at hl 0 rfl) ?_
    refine lv_iload_n hx hb dX9_readWord_61 rfl (lv_at hl 1 rfl) ?_
    refine gm_putI (G := GC) (u := u_6) (r := 3) (ci := 8) (k := 3) (v := v1_7) C hw rfl fl_X9_22 fp_8_3 dX9_readWord_62 rfl (fun H locs hw => ?_)
    obtain ⟨u_8, e_u_8, hf⟩ := gm_le hf
    rw [← e_u_8] at hw
    refine gm_aload_n (G := GC) (r := 3) C rfl dX9_readWord_65 rfl (lv_at hl 0 rfl) ?_
    refine lv_iload_n hx hb dX9_readWord_66 rfl (lv_at hl 1 rfl) ?_
    refine gm_aload_n (G := GC) (r := 3) C rfl dX9_readWord_67 rfl (lv_at hl 0 rfl) ?_
    refine gm_getI (G := GC) (u := u_8) (r := 3) (ci := 8) (k := 2) C hw rfl fl_X9_19 dX9_readWord_68 rfl ?_
    refine lv_isub hx hb dX9_readWord_71 ?_
    refine lv_bipush (v := 8) hx hb dX9_readWord_72 (by decide) ?_
    refine lv_icmp_le (tgt := 81) hx hb dX9_readWord_74 (by decide) (fun hc => ?_) (fun hc => ?_)
    · replace hf := (if_pos hc).symm.trans hf
      refine lv_iconst (v := 1) hx hb dX9_readWord_81 (by decide) ?_
      exact J82 (1 : Int32) u_8 _ _ _ hf  (lv_sub hl [0] rfl) hw
    · replace hf := (if_neg hc).symm.trans hf
      refine lv_iconst (v := 4) hx hb dX9_readWord_77 (by decide) ?_
      refine lv_goto (tgt := 82) hx hb dX9_readWord_78 (by decide) ?_
      exact J82 (4 : Int32) u_8 _ _ _ hf  (lv_sub hl [0] rfl) hw
  refine gm_aload_n (G := GC) (r := 3) C rfl dX9_readWord_0 rfl (lv_at hl 0 rfl) ?_
  refine lv_lconst (v := 0) hx hb dX9_readWord_1 (by decide) ?_
  refine gm_putJ (G := GC) (u := u) (r := 3) (ci := 8) (k := 6) (v := (0 : Int64)) C hw rfl fl_X9_31 fp_8_6 dX9_readWord_2 rfl (fun H locs hw => ?_)
  obtain ⟨u_9, e_u_9, hf⟩ := gm_le hf
  rw [← e_u_9] at hw
  refine gm_aload_n (G := GC) (r := 3) C rfl dX9_readWord_5 rfl (lv_at hl 0 rfl) ?_
  refine gm_getI (G := GC) (u := u_9) (r := 3) (ci := 8) (k := 2) C hw rfl fl_X9_19 dX9_readWord_6 rfl ?_
  obtain ⟨v1_10, e_v1_10, hf⟩ := gm_le hf
  refine gm_topI e_v1_10 ?_
  refine lv_istore_n (i := 1) (lv' := [(1, .int v1_10), (0, rv Z 3)]) hx hb dX9_readWord_9 rfl hl (by decide) rfl (fun ls hl => ?_)
  obtain ⟨o1, hlp, hf⟩ := gm_bnd hf
  have L10_1 := gm_loop (b_X9_readWord_10) (fun x : (Int32 × gm_M) => ∀ (H : Heap) (locs : List Loc) (ls : Array Slot), lv_has ls 2 [(0, rv Z 3), (1, .int x.1)] → wd GC Z x.2 A s.heap H locs → W p l e R s m args below meth c H locs 0 0 Q (F0 m 10 ls [])) (fun z : ((Int32 × gm_M)) => ∀ (H : Heap) (locs : List Loc) (ls : Array Slot), lv_has ls 2 [(0, rv Z 3), (1, .int z.1)] → wd GC Z z.2 A s.heap H locs → W p l e R s m args below meth c H locs 0 0 Q (F0 m 60 ls [])) (by
    intro x o1 hf Kc Kx
    obtain ⟨v1_12, u_11⟩ := x
    intro H locs ls hl hw
    unfold b_X9_readWord_10 at hf
    try dsimp only at hf
    refine lv_iload_n hx hb dX9_readWord_10 rfl (lv_at hl 1 rfl) ?_
    refine gm_aload_n (G := GC) (r := 3) C rfl dX9_readWord_11 rfl (lv_at hl 0 rfl) ?_
    refine gm_getI (G := GC) (u := u_11) (r := 3) (ci := 8) (k := 1) C hw rfl fl_X9_15 dX9_readWord_12 rfl ?_
    refine lv_icmp_ge (tgt := 60) hx hb dX9_readWord_15 (by decide) (fun hc => ?_) (fun hc => ?_)
    · replace hf := (if_pos hc).symm.trans hf
      exact Kx _ (gm_si hf) _ _ _ (lv_sub hl [0, 1] rfl) hw
    · replace hf := (if_neg hc).symm.trans hf
      refine gm_aload_n (G := GC) (r := 3) C rfl dX9_readWord_18 rfl (lv_at hl 0 rfl) ?_
      refine lv_iload_n hx hb dX9_readWord_19 rfl (lv_at hl 1 rfl) ?_
      obtain ⟨r_13, hc_14, hf⟩ := gm_bnd hf
      refine gm_callV (G := GC) (u := u_11) (u' := u_11) (r := 3) (ci := 8) (As := [.int v1_12]) (rest := []) (res := (some (.int r_13))) C hw hl (ok_X9_signAt l Z v1_12 u_11 r_13 hc_14) cw_X9_40 im_X9_signAt rfl se_X9_signAt rfl rfl rfl ⟨Nat.le_trans (Nat.le_of_ble_eq_true rfl) hRf, Nat.le_trans (Nat.le_of_ble_eq_true rfl) hRl⟩ rfl rfl (Nat.le_of_ble_eq_true rfl) dX9_readWord_20 (fun H locs hw => ?_)
      obtain ⟨r_15, e_r_15, hf⟩ := gm_le hf
      refine gm_callS (G := GC) (u := u_11) (u' := u_11) (As := [.int r_13]) (rest := []) (res := (some (.int (f_X9_isLetter r_13)))) C hw hl (ok_X9_isLetter l Z r_13 u_11) cw_X9_48 st_X9_isLetter rfl rfl ⟨Nat.le_trans (Nat.le_of_ble_eq_true rfl) hRf, Nat.le_trans (Nat.le_of_ble_eq_true rfl) hRl⟩ rfl rfl (Nat.le_of_ble_eq_true rfl) dX9_readWord_23 (fun H locs hw => ?_)
      refine gm_topI e_r_15 ?_
      refine lv_if_eq (tgt := 60) hx hb dX9_readWord_26 (by decide) (fun hc => ?_) (fun hc => ?_)
      · replace hf := (if_pos hc).symm.trans hf
        exact Kx _ (gm_si hf) _ _ _ (lv_sub hl [0, 1] rfl) hw
      · replace hf := (if_neg hc).symm.trans hf
        refine gm_aload_n (G := GC) (r := 3) C rfl dX9_readWord_29 rfl (lv_at hl 0 rfl) ?_
        refine gm_aload_n (G := GC) (r := 3) C rfl dX9_readWord_30 rfl (lv_at hl 0 rfl) ?_
        refine gm_getJ (G := GC) (u := u_11) (r := 3) (ci := 8) (k := 6) C hw rfl fl_X9_31 dX9_readWord_31 rfl ?_
        refine lv_ldc2 hx hb C.2.2.2.1 (C.2.2.2.2.1 _ kn_X9_63) dX9_readWord_34 ?_
        refine lv_lmul hx hb dX9_readWord_37 ?_
        refine gm_aload_n (G := GC) (r := 3) C rfl dX9_readWord_38 rfl (lv_at hl 0 rfl) ?_
        refine lv_iload_n hx hb dX9_readWord_39 rfl (lv_at hl 1 rfl) ?_
        obtain ⟨r_16, hc_17, hf⟩ := gm_bnd hf
        refine gm_callV (G := GC) (u := u_11) (u' := u_11) (r := 3) (ci := 8) (As := [.int v1_12]) (rest := [.long ((gJ u_11 3 6) * (32 : Int64)), rv Z 3]) (res := (some (.int r_16))) C hw hl (ok_X9_signAt l Z v1_12 u_11 r_16 hc_17) cw_X9_40 im_X9_signAt rfl se_X9_signAt rfl rfl rfl ⟨Nat.le_trans (Nat.le_of_ble_eq_true rfl) hRf, Nat.le_trans (Nat.le_of_ble_eq_true rfl) hRl⟩ rfl rfl (Nat.le_of_ble_eq_true rfl) dX9_readWord_40 (fun H locs hw => ?_)
        refine lv_i2l hx hb dX9_readWord_43 rfl ?_
        refine lv_ladd hx hb dX9_readWord_44 ?_
        refine lv_ldc2 hx hb C.2.2.2.1 (C.2.2.2.2.1 _ kn_X9_65) dX9_readWord_45 ?_
        refine lv_lsub hx hb dX9_readWord_48 ?_
        refine lv_lconst (v := 1) hx hb dX9_readWord_49 (by decide) ?_
        refine lv_ladd hx hb dX9_readWord_50 ?_
        refine gm_putJ (G := GC) (u := u_11) (r := 3) (ci := 8) (k := 6) (v := ((((gJ u_11 3 6) * (32 : Int64)) + r_16.toInt64) - (97 : Int64)) + (1 : Int64)) C hw rfl fl_X9_31 fp_8_6 dX9_readWord_51 rfl (fun H locs hw => ?_)
        obtain ⟨u_18, e_u_18, hf⟩ := gm_le hf
        rw [← e_u_18] at hw
        refine lv_iinc (v := v1_12 + (1 : Int32)) (lv' := [(1, .int (v1_12 + (1 : Int32))), (0, rv Z 3)]) hx hb dX9_readWord_54 hl (k := 1) rfl rfl (by decide) rfl (fun ls hl => ?_)
        refine lv_goto (tgt := 10) hx hb dX9_readWord_57 (by decide) ?_
        exact Kc _ (gm_si hf) _ _ _ (lv_sub hl [1, 0] rfl) hw)
  refine L10_1 _ _ _ hlp ?_ _ _ _ (lv_sub hl [1, 0] rfl) hw
  obtain ⟨w1_19, u_20⟩ := o1
  intro H locs ls hl hw
  try dsimp only at hf
  exact J60 w1_19 u_20 _ _ _ hf  (lv_sub hl [0, 1] rfl) hw
/-! LeapCapital$Tape.isDigit -/
def f_X9_isDigit (a0 : Int32) : Int32 := if a0 < (48 : Int32) then (0 : Int32) else if (57 : Int32) < a0 then (0 : Int32) else (1 : Int32)
set_option maxRecDepth 100000 in
set_option maxHeartbeats 4000000 in
theorem ok_X9_isDigit (l : Launch) (Z : gm_Z) (a0 : Int32) (u : gm_M)  : gm_Met l GC Z yX9_isDigit cX9_isDigit 1 (some .boolean) ({ frames := 0, cells := 0, slots := 0, locals := 0 }) [.int a0] u (some (.int (f_X9_isDigit a0))) u := by
  obtain ⟨r, hf⟩ : ∃ r, f_X9_isDigit a0 = r := ⟨_, rfl⟩
  rw [hf]
  unfold f_X9_isDigit at hf
  refine gm_ofW (by decide +kernel) (Nat.le_of_ble_eq_true rfl) ?_
  intro p e s m args below meth c A ls Q R hRf hRl C E hl hw
  obtain ⟨hx, hb, -⟩ := id C
  have hl : lv_has ls 1 [(0, .int a0)] := hl
  refine lv_iload_n hx hb dX9_isDigit_0 rfl (lv_at hl 0 rfl) ?_
  refine lv_bipush (v := 48) hx hb dX9_isDigit_1 (by decide) ?_
  refine lv_icmp_lt (tgt := 16) hx hb dX9_isDigit_3 (by decide) (fun hc => ?_) (fun hc => ?_)
  · replace hf := (if_pos hc).symm.trans hf
    refine lv_iconst (v := 0) hx hb dX9_isDigit_16 (by decide) ?_
    exact gm_zret C E hw rfl rfl ((congrArg (fun z => some (Value.int z)) hf).symm) rfl dX9_isDigit_17
  · replace hf := (if_neg hc).symm.trans hf
    refine lv_iload_n hx hb dX9_isDigit_6 rfl (lv_at hl 0 rfl) ?_
    refine lv_bipush (v := 57) hx hb dX9_isDigit_7 (by decide) ?_
    refine lv_icmp_gt (tgt := 16) hx hb dX9_isDigit_9 (by decide) (fun hc => ?_) (fun hc => ?_)
    · replace hf := (if_pos hc).symm.trans hf
      refine lv_iconst (v := 0) hx hb dX9_isDigit_16 (by decide) ?_
      exact gm_zret C E hw rfl rfl ((congrArg (fun z => some (Value.int z)) hf).symm) rfl dX9_isDigit_17
    · replace hf := (if_neg hc).symm.trans hf
      refine lv_iconst (v := 1) hx hb dX9_isDigit_12 (by decide) ?_
      refine lv_goto (tgt := 17) hx hb dX9_isDigit_13 (by decide) ?_
      exact gm_zret C E hw rfl rfl ((congrArg (fun z => some (Value.int z)) hf).symm) rfl dX9_isDigit_17
/-! LeapCapital$Tape.readNumber -/
def j_X9_readNumber_76 (t_2 : Int32) (u_1 : gm_M) : Option gm_M := gm_let (sI u_1 3 4 t_2) fun u_3 => some u_3
def j_X9_readNumber_55 (v1_5 : Int32) (u_4 : gm_M) : Option gm_M := gm_let (sI u_4 3 3 v1_5) fun u_6 => if (v1_5 - (gI u_6 3 2)) ≤ (4 : Int32) then j_X9_readNumber_76 (2 : Int32) u_6 else j_X9_readNumber_76 (4 : Int32) u_6
def b_X9_readNumber_10 : (Int32 × gm_M) → Option ((Int32 × gm_M) ⊕ ((Int32 × gm_M))) := fun x => match x with | (v1_10, u_9) => if (gI u_9 3 1) ≤ v1_10 then some (.inr (v1_10, u_9)) else (f_X9_signAt v1_10 u_9).bind fun r_11 => gm_let (f_X9_isDigit r_11) fun r_13 => if r_13 = 0 then some (.inr (v1_10, u_9)) else (f_X9_signAt v1_10 u_9).bind fun r_14 => gm_let (sI u_9 3 5 ((((gI u_9 3 5) * (10 : Int32)) + r_14) - (48 : Int32))) fun u_16 => some (.inl (v1_10 + (1 : Int32), u_16))
def f_X9_readNumber  (u : gm_M) : Option gm_M := gm_let (sI u 3 5 (0 : Int32)) fun u_7 => gm_let (gI u_7 3 2) fun v1_8 => ((gm_lp (b_X9_readNumber_10) gm_FU (v1_8, u_7)).bind fun o => match o with | (w1_17, u_18) => j_X9_readNumber_55 w1_17 u_18)
set_option maxRecDepth 100000 in
set_option maxHeartbeats 4000000 in
theorem ok_X9_readNumber (l : Launch) (Z : gm_Z)  (u : gm_M)  (u' : gm_M) (hf : f_X9_readNumber u = some (u')) : gm_Met l GC Z yX9_readNumber cX9_readNumber 2 none ({ frames := 1, cells := 0, slots := 0, locals := 21 }) [rv Z 3] u none u' := by
  unfold f_X9_readNumber at hf
  refine gm_ofW (by decide +kernel) (Nat.le_of_ble_eq_true rfl) ?_
  intro p e s m args below meth c A ls Q R hRf hRl C E hl hw
  obtain ⟨hx, hb, -⟩ := id C
  have hl : lv_has ls 2 [(0, rv Z 3)] := hl
  have J76 : ∀ (t_2 : Int32) (u_1 : gm_M) (H : Heap) (locs : List Loc) (ls : Array Slot), j_X9_readNumber_76 t_2 u_1 = some (u') → lv_has ls 2 [] → wd GC Z u_1 A s.heap H locs → W p l e R s m args below meth c H locs 0 0 Q (F0 m 76 ls [.int t_2, rv Z 3]) := by
    intro t_2 u_1 H locs ls hf  hl hw
    unfold j_X9_readNumber_76 at hf
    refine gm_putI (G := GC) (u := u_1) (r := 3) (ci := 8) (k := 4) (v := t_2) C hw rfl fl_X9_25 fp_8_4 dX9_readNumber_76 rfl (fun H locs hw => ?_)
    obtain ⟨u_3, e_u_3, hf⟩ := gm_le hf
    rw [← e_u_3] at hw
    exact gm_vret C E hw rfl rfl (Option.some.inj hf).symm dX9_readNumber_79
  have J55 : ∀ (v1_5 : Int32) (u_4 : gm_M) (H : Heap) (locs : List Loc) (ls : Array Slot), j_X9_readNumber_55 v1_5 u_4 = some (u') → lv_has ls 2 [(0, rv Z 3), (1, .int v1_5)] → wd GC Z u_4 A s.heap H locs → W p l e R s m args below meth c H locs 0 0 Q (F0 m 55 ls []) := by
    intro v1_5 u_4 H locs ls hf  hl hw
    unfold j_X9_readNumber_55 at hf
    refine gm_aload_n (G := GC) (r := 3) C rfl dX9_readNumber_55 rfl (lv_at hl 0 rfl) ?_
    refine lv_iload_n hx hb dX9_readNumber_56 rfl (lv_at hl 1 rfl) ?_
    refine gm_putI (G := GC) (u := u_4) (r := 3) (ci := 8) (k := 3) (v := v1_5) C hw rfl fl_X9_22 fp_8_3 dX9_readNumber_57 rfl (fun H locs hw => ?_)
    obtain ⟨u_6, e_u_6, hf⟩ := gm_le hf
    rw [← e_u_6] at hw
    refine gm_aload_n (G := GC) (r := 3) C rfl dX9_readNumber_60 rfl (lv_at hl 0 rfl) ?_
    refine lv_iload_n hx hb dX9_readNumber_61 rfl (lv_at hl 1 rfl) ?_
    refine gm_aload_n (G := GC) (r := 3) C rfl dX9_readNumber_62 rfl (lv_at hl 0 rfl) ?_
    refine gm_getI (G := GC) (u := u_6) (r := 3) (ci := 8) (k := 2) C hw rfl fl_X9_19 dX9_readNumber_63 rfl ?_
    refine lv_isub hx hb dX9_readNumber_66 ?_
    refine lv_iconst (v := 4) hx hb dX9_readNumber_67 (by decide) ?_
    refine lv_icmp_le (tgt := 75) hx hb dX9_readNumber_68 (by decide) (fun hc => ?_) (fun hc => ?_)
    · replace hf := (if_pos hc).symm.trans hf
      refine lv_iconst (v := 2) hx hb dX9_readNumber_75 (by decide) ?_
      exact J76 (2 : Int32) u_6 _ _ _ hf  (lv_sub hl [] rfl) hw
    · replace hf := (if_neg hc).symm.trans hf
      refine lv_iconst (v := 4) hx hb dX9_readNumber_71 (by decide) ?_
      refine lv_goto (tgt := 76) hx hb dX9_readNumber_72 (by decide) ?_
      exact J76 (4 : Int32) u_6 _ _ _ hf  (lv_sub hl [] rfl) hw
  refine gm_aload_n (G := GC) (r := 3) C rfl dX9_readNumber_0 rfl (lv_at hl 0 rfl) ?_
  refine lv_iconst (v := 0) hx hb dX9_readNumber_1 (by decide) ?_
  refine gm_putI (G := GC) (u := u) (r := 3) (ci := 8) (k := 5) (v := (0 : Int32)) C hw rfl fl_X9_28 fp_8_5 dX9_readNumber_2 rfl (fun H locs hw => ?_)
  obtain ⟨u_7, e_u_7, hf⟩ := gm_le hf
  rw [← e_u_7] at hw
  refine gm_aload_n (G := GC) (r := 3) C rfl dX9_readNumber_5 rfl (lv_at hl 0 rfl) ?_
  refine gm_getI (G := GC) (u := u_7) (r := 3) (ci := 8) (k := 2) C hw rfl fl_X9_19 dX9_readNumber_6 rfl ?_
  obtain ⟨v1_8, e_v1_8, hf⟩ := gm_le hf
  refine gm_topI e_v1_8 ?_
  refine lv_istore_n (i := 1) (lv' := [(1, .int v1_8), (0, rv Z 3)]) hx hb dX9_readNumber_9 rfl hl (by decide) rfl (fun ls hl => ?_)
  obtain ⟨o1, hlp, hf⟩ := gm_bnd hf
  have L10_1 := gm_loop (b_X9_readNumber_10) (fun x : (Int32 × gm_M) => ∀ (H : Heap) (locs : List Loc) (ls : Array Slot), lv_has ls 2 [(0, rv Z 3), (1, .int x.1)] → wd GC Z x.2 A s.heap H locs → W p l e R s m args below meth c H locs 0 0 Q (F0 m 10 ls [])) (fun z : ((Int32 × gm_M)) => ∀ (H : Heap) (locs : List Loc) (ls : Array Slot), lv_has ls 2 [(0, rv Z 3), (1, .int z.1)] → wd GC Z z.2 A s.heap H locs → W p l e R s m args below meth c H locs 0 0 Q (F0 m 55 ls [])) (by
    intro x o1 hf Kc Kx
    obtain ⟨v1_10, u_9⟩ := x
    intro H locs ls hl hw
    unfold b_X9_readNumber_10 at hf
    try dsimp only at hf
    refine lv_iload_n hx hb dX9_readNumber_10 rfl (lv_at hl 1 rfl) ?_
    refine gm_aload_n (G := GC) (r := 3) C rfl dX9_readNumber_11 rfl (lv_at hl 0 rfl) ?_
    refine gm_getI (G := GC) (u := u_9) (r := 3) (ci := 8) (k := 1) C hw rfl fl_X9_15 dX9_readNumber_12 rfl ?_
    refine lv_icmp_ge (tgt := 55) hx hb dX9_readNumber_15 (by decide) (fun hc => ?_) (fun hc => ?_)
    · replace hf := (if_pos hc).symm.trans hf
      exact Kx _ (gm_si hf) _ _ _ (lv_sub hl [0, 1] rfl) hw
    · replace hf := (if_neg hc).symm.trans hf
      refine gm_aload_n (G := GC) (r := 3) C rfl dX9_readNumber_18 rfl (lv_at hl 0 rfl) ?_
      refine lv_iload_n hx hb dX9_readNumber_19 rfl (lv_at hl 1 rfl) ?_
      obtain ⟨r_11, hc_12, hf⟩ := gm_bnd hf
      refine gm_callV (G := GC) (u := u_9) (u' := u_9) (r := 3) (ci := 8) (As := [.int v1_10]) (rest := []) (res := (some (.int r_11))) C hw hl (ok_X9_signAt l Z v1_10 u_9 r_11 hc_12) cw_X9_40 im_X9_signAt rfl se_X9_signAt rfl rfl rfl ⟨Nat.le_trans (Nat.le_of_ble_eq_true rfl) hRf, Nat.le_trans (Nat.le_of_ble_eq_true rfl) hRl⟩ rfl rfl (Nat.le_of_ble_eq_true rfl) dX9_readNumber_20 (fun H locs hw => ?_)
      obtain ⟨r_13, e_r_13, hf⟩ := gm_le hf
      refine gm_callS (G := GC) (u := u_9) (u' := u_9) (As := [.int r_11]) (rest := []) (res := (some (.int (f_X9_isDigit r_11)))) C hw hl (ok_X9_isDigit l Z r_11 u_9) cw_X9_54 st_X9_isDigit rfl rfl ⟨Nat.le_trans (Nat.le_of_ble_eq_true rfl) hRf, Nat.le_trans (Nat.le_of_ble_eq_true rfl) hRl⟩ rfl rfl (Nat.le_of_ble_eq_true rfl) dX9_readNumber_23 (fun H locs hw => ?_)
      refine gm_topI e_r_13 ?_
      refine lv_if_eq (tgt := 55) hx hb dX9_readNumber_26 (by decide) (fun hc => ?_) (fun hc => ?_)
      · replace hf := (if_pos hc).symm.trans hf
        exact Kx _ (gm_si hf) _ _ _ (lv_sub hl [0, 1] rfl) hw
      · replace hf := (if_neg hc).symm.trans hf
        refine gm_aload_n (G := GC) (r := 3) C rfl dX9_readNumber_29 rfl (lv_at hl 0 rfl) ?_
        refine gm_aload_n (G := GC) (r := 3) C rfl dX9_readNumber_30 rfl (lv_at hl 0 rfl) ?_
        refine gm_getI (G := GC) (u := u_9) (r := 3) (ci := 8) (k := 5) C hw rfl fl_X9_28 dX9_readNumber_31 rfl ?_
        refine lv_bipush (v := 10) hx hb dX9_readNumber_34 (by decide) ?_
        refine lv_imul hx hb dX9_readNumber_36 ?_
        refine gm_aload_n (G := GC) (r := 3) C rfl dX9_readNumber_37 rfl (lv_at hl 0 rfl) ?_
        refine lv_iload_n hx hb dX9_readNumber_38 rfl (lv_at hl 1 rfl) ?_
        obtain ⟨r_14, hc_15, hf⟩ := gm_bnd hf
        refine gm_callV (G := GC) (u := u_9) (u' := u_9) (r := 3) (ci := 8) (As := [.int v1_10]) (rest := [.int ((gI u_9 3 5) * (10 : Int32)), rv Z 3]) (res := (some (.int r_14))) C hw hl (ok_X9_signAt l Z v1_10 u_9 r_14 hc_15) cw_X9_40 im_X9_signAt rfl se_X9_signAt rfl rfl rfl ⟨Nat.le_trans (Nat.le_of_ble_eq_true rfl) hRf, Nat.le_trans (Nat.le_of_ble_eq_true rfl) hRl⟩ rfl rfl (Nat.le_of_ble_eq_true rfl) dX9_readNumber_39 (fun H locs hw => ?_)
        refine lv_iadd hx hb dX9_readNumber_42 ?_
        refine lv_bipush (v := 48) hx hb dX9_readNumber_43 (by decide) ?_
        refine lv_isub hx hb dX9_readNumber_45 ?_
        refine gm_putI (G := GC) (u := u_9) (r := 3) (ci := 8) (k := 5) (v := (((gI u_9 3 5) * (10 : Int32)) + r_14) - (48 : Int32)) C hw rfl fl_X9_28 fp_8_5 dX9_readNumber_46 rfl (fun H locs hw => ?_)
        obtain ⟨u_16, e_u_16, hf⟩ := gm_le hf
        rw [← e_u_16] at hw
        refine lv_iinc (v := v1_10 + (1 : Int32)) (lv' := [(1, .int (v1_10 + (1 : Int32))), (0, rv Z 3)]) hx hb dX9_readNumber_49 hl (k := 1) rfl rfl (by decide) rfl (fun ls hl => ?_)
        refine lv_goto (tgt := 10) hx hb dX9_readNumber_52 (by decide) ?_
        exact Kc _ (gm_si hf) _ _ _ (lv_sub hl [1, 0] rfl) hw)
  refine L10_1 _ _ _ hlp ?_ _ _ _ (lv_sub hl [1, 0] rfl) hw
  obtain ⟨w1_17, u_18⟩ := o1
  intro H locs ls hl hw
  try dsimp only at hf
  exact J55 w1_17 u_18 _ _ _ hf  (lv_sub hl [0, 1] rfl) hw
/-! LeapCapital$Tape.isSign -/
def f_X9_isSign (a0 : Int32) : Int32 := if a0 = (40 : Int32) then (1 : Int32) else if a0 = (41 : Int32) then (1 : Int32) else if a0 = (60 : Int32) then (1 : Int32) else if a0 = (61 : Int32) then (1 : Int32) else if a0 = (43 : Int32) then (1 : Int32) else if a0 = (45 : Int32) then (1 : Int32) else if a0 = (42 : Int32) then (1 : Int32) else if a0 = (59 : Int32) then (1 : Int32) else (0 : Int32)
set_option maxRecDepth 100000 in
set_option maxHeartbeats 4000000 in
theorem ok_X9_isSign (l : Launch) (Z : gm_Z) (a0 : Int32) (u : gm_M)  : gm_Met l GC Z yX9_isSign cX9_isSign 1 (some .boolean) ({ frames := 0, cells := 0, slots := 0, locals := 0 }) [.int a0] u (some (.int (f_X9_isSign a0))) u := by
  obtain ⟨r, hf⟩ : ∃ r, f_X9_isSign a0 = r := ⟨_, rfl⟩
  rw [hf]
  unfold f_X9_isSign at hf
  refine gm_ofW (by decide +kernel) (Nat.le_of_ble_eq_true rfl) ?_
  intro p e s m args below meth c A ls Q R hRf hRl C E hl hw
  obtain ⟨hx, hb, -⟩ := id C
  have hl : lv_has ls 1 [(0, .int a0)] := hl
  refine lv_iload_n hx hb dX9_isSign_0 rfl (lv_at hl 0 rfl) ?_
  refine lv_bipush (v := 40) hx hb dX9_isSign_1 (by decide) ?_
  refine lv_icmp_eq (tgt := 48) hx hb dX9_isSign_3 (by decide) (fun hc => ?_) (fun hc => ?_)
  · replace hf := (if_pos hc).symm.trans hf
    refine lv_iconst (v := 1) hx hb dX9_isSign_48 (by decide) ?_
    refine lv_goto (tgt := 53) hx hb dX9_isSign_49 (by decide) ?_
    exact gm_zret C E hw rfl rfl ((congrArg (fun z => some (Value.int z)) hf).symm) rfl dX9_isSign_53
  · replace hf := (if_neg hc).symm.trans hf
    refine lv_iload_n hx hb dX9_isSign_6 rfl (lv_at hl 0 rfl) ?_
    refine lv_bipush (v := 41) hx hb dX9_isSign_7 (by decide) ?_
    refine lv_icmp_eq (tgt := 48) hx hb dX9_isSign_9 (by decide) (fun hc => ?_) (fun hc => ?_)
    · replace hf := (if_pos hc).symm.trans hf
      refine lv_iconst (v := 1) hx hb dX9_isSign_48 (by decide) ?_
      refine lv_goto (tgt := 53) hx hb dX9_isSign_49 (by decide) ?_
      exact gm_zret C E hw rfl rfl ((congrArg (fun z => some (Value.int z)) hf).symm) rfl dX9_isSign_53
    · replace hf := (if_neg hc).symm.trans hf
      refine lv_iload_n hx hb dX9_isSign_12 rfl (lv_at hl 0 rfl) ?_
      refine lv_bipush (v := 60) hx hb dX9_isSign_13 (by decide) ?_
      refine lv_icmp_eq (tgt := 48) hx hb dX9_isSign_15 (by decide) (fun hc => ?_) (fun hc => ?_)
      · replace hf := (if_pos hc).symm.trans hf
        refine lv_iconst (v := 1) hx hb dX9_isSign_48 (by decide) ?_
        refine lv_goto (tgt := 53) hx hb dX9_isSign_49 (by decide) ?_
        exact gm_zret C E hw rfl rfl ((congrArg (fun z => some (Value.int z)) hf).symm) rfl dX9_isSign_53
      · replace hf := (if_neg hc).symm.trans hf
        refine lv_iload_n hx hb dX9_isSign_18 rfl (lv_at hl 0 rfl) ?_
        refine lv_bipush (v := 61) hx hb dX9_isSign_19 (by decide) ?_
        refine lv_icmp_eq (tgt := 48) hx hb dX9_isSign_21 (by decide) (fun hc => ?_) (fun hc => ?_)
        · replace hf := (if_pos hc).symm.trans hf
          refine lv_iconst (v := 1) hx hb dX9_isSign_48 (by decide) ?_
          refine lv_goto (tgt := 53) hx hb dX9_isSign_49 (by decide) ?_
          exact gm_zret C E hw rfl rfl ((congrArg (fun z => some (Value.int z)) hf).symm) rfl dX9_isSign_53
        · replace hf := (if_neg hc).symm.trans hf
          refine lv_iload_n hx hb dX9_isSign_24 rfl (lv_at hl 0 rfl) ?_
          refine lv_bipush (v := 43) hx hb dX9_isSign_25 (by decide) ?_
          refine lv_icmp_eq (tgt := 48) hx hb dX9_isSign_27 (by decide) (fun hc => ?_) (fun hc => ?_)
          · replace hf := (if_pos hc).symm.trans hf
            refine lv_iconst (v := 1) hx hb dX9_isSign_48 (by decide) ?_
            refine lv_goto (tgt := 53) hx hb dX9_isSign_49 (by decide) ?_
            exact gm_zret C E hw rfl rfl ((congrArg (fun z => some (Value.int z)) hf).symm) rfl dX9_isSign_53
          · replace hf := (if_neg hc).symm.trans hf
            refine lv_iload_n hx hb dX9_isSign_30 rfl (lv_at hl 0 rfl) ?_
            refine lv_bipush (v := 45) hx hb dX9_isSign_31 (by decide) ?_
            refine lv_icmp_eq (tgt := 48) hx hb dX9_isSign_33 (by decide) (fun hc => ?_) (fun hc => ?_)
            · replace hf := (if_pos hc).symm.trans hf
              refine lv_iconst (v := 1) hx hb dX9_isSign_48 (by decide) ?_
              refine lv_goto (tgt := 53) hx hb dX9_isSign_49 (by decide) ?_
              exact gm_zret C E hw rfl rfl ((congrArg (fun z => some (Value.int z)) hf).symm) rfl dX9_isSign_53
            · replace hf := (if_neg hc).symm.trans hf
              refine lv_iload_n hx hb dX9_isSign_36 rfl (lv_at hl 0 rfl) ?_
              refine lv_bipush (v := 42) hx hb dX9_isSign_37 (by decide) ?_
              refine lv_icmp_eq (tgt := 48) hx hb dX9_isSign_39 (by decide) (fun hc => ?_) (fun hc => ?_)
              · replace hf := (if_pos hc).symm.trans hf
                refine lv_iconst (v := 1) hx hb dX9_isSign_48 (by decide) ?_
                refine lv_goto (tgt := 53) hx hb dX9_isSign_49 (by decide) ?_
                exact gm_zret C E hw rfl rfl ((congrArg (fun z => some (Value.int z)) hf).symm) rfl dX9_isSign_53
              · replace hf := (if_neg hc).symm.trans hf
                refine lv_iload_n hx hb dX9_isSign_42 rfl (lv_at hl 0 rfl) ?_
                refine lv_bipush (v := 59) hx hb dX9_isSign_43 (by decide) ?_
                refine lv_icmp_ne (tgt := 52) hx hb dX9_isSign_45 (by decide) (fun hc => ?_) (fun hc => ?_)
                · replace hf := (if_neg hc).symm.trans hf
                  refine lv_iconst (v := 0) hx hb dX9_isSign_52 (by decide) ?_
                  exact gm_zret C E hw rfl rfl ((congrArg (fun z => some (Value.int z)) hf).symm) rfl dX9_isSign_53
                · replace hf := (if_pos hc).symm.trans hf
                  refine lv_iconst (v := 1) hx hb dX9_isSign_48 (by decide) ?_
                  refine lv_goto (tgt := 53) hx hb dX9_isSign_49 (by decide) ?_
                  exact gm_zret C E hw rfl rfl ((congrArg (fun z => some (Value.int z)) hf).symm) rfl dX9_isSign_53
/-! LeapCapital$Tape.advance -/
def j_X9_advance_98 (v1_2 : Int32) (v2_3 : Int32) (t_4 : Int32) (u_1 : gm_M) : Option gm_M := gm_let (sI u_1 3 4 t_4) fun u_5 => gm_let (sI u_5 3 5 v2_3) fun u_6 => gm_let (sI u_6 3 3 (v1_2 + (1 : Int32))) fun u_7 => some u_7
def j_X9_advance_30 (v1_9 : Int32) (u_8 : gm_M) : Option gm_M := gm_let (sI u_8 3 2 v1_9) fun u_10 => (f_X9_signAt v1_9 u_10).bind fun r_11 => if v1_9 < (gI u_10 3 1) then gm_let (f_X9_isLetter r_11) fun r_13 => if r_13 = 0 then gm_let (f_X9_isDigit r_11) fun r_14 => if r_14 = 0 then gm_let (f_X9_isSign r_11) fun r_15 => if r_15 = 0 then j_X9_advance_98 v1_9 r_11 (4 : Int32) u_10 else j_X9_advance_98 v1_9 r_11 (3 : Int32) u_10 else (f_X9_readNumber u_10).bind fun u_16 => some u_16 else (f_X9_readWord u_10).bind fun u_18 => some u_18 else gm_let (sI u_10 3 4 (0 : Int32)) fun u_20 => some u_20
def b_X9_advance_5 (u : gm_M) : Int32 → Option (Int32 ⊕ Int32) := fun x => match x with | v1_22 => if (gI u 3 1) ≤ v1_22 then some (.inr v1_22) else (f_X9_signAt v1_22 u).bind fun r_23 => gm_let (f_X9_isBlank r_23) fun r_25 => if r_25 = 0 then some (.inr v1_22) else some (.inl (v1_22 + (1 : Int32)))
def f_X9_advance  (u : gm_M) : Option gm_M := gm_let (gI u 3 3) fun v1_21 => ((gm_lp (b_X9_advance_5 u) gm_FU v1_21).bind fun o => match o with | w1_26 => j_X9_advance_30 w1_26 u)
set_option maxRecDepth 100000 in
set_option maxHeartbeats 4000000 in
theorem ok_X9_advance (l : Launch) (Z : gm_Z)  (u : gm_M)  (u' : gm_M) (hf : f_X9_advance u = some (u')) : gm_Met l GC Z yX9_advance cX9_advance 3 none ({ frames := 6, cells := 0, slots := 0, locals := 132 }) [rv Z 3] u none u' := by
  unfold f_X9_advance at hf
  refine gm_ofW (by decide +kernel) (Nat.le_of_ble_eq_true rfl) ?_
  intro p e s m args below meth c A ls Q R hRf hRl C E hl hw
  obtain ⟨hx, hb, -⟩ := id C
  have hl : lv_has ls 3 [(0, rv Z 3)] := hl
  have J98 : ∀ (v1_2 : Int32) (v2_3 : Int32) (t_4 : Int32) (u_1 : gm_M) (H : Heap) (locs : List Loc) (ls : Array Slot), j_X9_advance_98 v1_2 v2_3 t_4 u_1 = some (u') → lv_has ls 3 [(0, rv Z 3), (1, .int v1_2), (2, .int v2_3)] → wd GC Z u_1 A s.heap H locs → W p l e R s m args below meth c H locs 0 0 Q (F0 m 98 ls [.int t_4, rv Z 3]) := by
    intro v1_2 v2_3 t_4 u_1 H locs ls hf  hl hw
    unfold j_X9_advance_98 at hf
    refine gm_putI (G := GC) (u := u_1) (r := 3) (ci := 8) (k := 4) (v := t_4) C hw rfl fl_X9_25 fp_8_4 dX9_advance_98 rfl (fun H locs hw => ?_)
    obtain ⟨u_5, e_u_5, hf⟩ := gm_le hf
    rw [← e_u_5] at hw
    refine gm_aload_n (G := GC) (r := 3) C rfl dX9_advance_101 rfl (lv_at hl 0 rfl) ?_
    refine lv_iload_n hx hb dX9_advance_102 rfl (lv_at hl 2 rfl) ?_
    refine gm_putI (G := GC) (u := u_5) (r := 3) (ci := 8) (k := 5) (v := v2_3) C hw rfl fl_X9_28 fp_8_5 dX9_advance_103 rfl (fun H locs hw => ?_)
    obtain ⟨u_6, e_u_6, hf⟩ := gm_le hf
    rw [← e_u_6] at hw
    refine gm_aload_n (G := GC) (r := 3) C rfl dX9_advance_106 rfl (lv_at hl 0 rfl) ?_
    refine lv_iload_n hx hb dX9_advance_107 rfl (lv_at hl 1 rfl) ?_
    refine lv_iconst (v := 1) hx hb dX9_advance_108 (by decide) ?_
    refine lv_iadd hx hb dX9_advance_109 ?_
    refine gm_putI (G := GC) (u := u_6) (r := 3) (ci := 8) (k := 3) (v := v1_2 + (1 : Int32)) C hw rfl fl_X9_22 fp_8_3 dX9_advance_110 rfl (fun H locs hw => ?_)
    obtain ⟨u_7, e_u_7, hf⟩ := gm_le hf
    rw [← e_u_7] at hw
    exact gm_vret C E hw rfl rfl (Option.some.inj hf).symm dX9_advance_113
  have J30 : ∀ (v1_9 : Int32) (u_8 : gm_M) (H : Heap) (locs : List Loc) (ls : Array Slot), j_X9_advance_30 v1_9 u_8 = some (u') → lv_has ls 3 [(0, rv Z 3), (1, .int v1_9)] → wd GC Z u_8 A s.heap H locs → W p l e R s m args below meth c H locs 0 0 Q (F0 m 30 ls []) := by
    intro v1_9 u_8 H locs ls hf  hl hw
    unfold j_X9_advance_30 at hf
    refine gm_aload_n (G := GC) (r := 3) C rfl dX9_advance_30 rfl (lv_at hl 0 rfl) ?_
    refine lv_iload_n hx hb dX9_advance_31 rfl (lv_at hl 1 rfl) ?_
    refine gm_putI (G := GC) (u := u_8) (r := 3) (ci := 8) (k := 2) (v := v1_9) C hw rfl fl_X9_19 fp_8_2 dX9_advance_32 rfl (fun H locs hw => ?_)
    obtain ⟨u_10, e_u_10, hf⟩ := gm_le hf
    rw [← e_u_10] at hw
    refine gm_aload_n (G := GC) (r := 3) C rfl dX9_advance_35 rfl (lv_at hl 0 rfl) ?_
    refine lv_iload_n hx hb dX9_advance_36 rfl (lv_at hl 1 rfl) ?_
    obtain ⟨r_11, hc_12, hf⟩ := gm_bnd hf
    refine gm_callV (G := GC) (u := u_10) (u' := u_10) (r := 3) (ci := 8) (As := [.int v1_9]) (rest := []) (res := (some (.int r_11))) C hw hl (ok_X9_signAt l Z v1_9 u_10 r_11 hc_12) cw_X9_40 im_X9_signAt rfl se_X9_signAt rfl rfl rfl ⟨Nat.le_trans (Nat.le_of_ble_eq_true rfl) hRf, Nat.le_trans (Nat.le_of_ble_eq_true rfl) hRl⟩ rfl rfl (Nat.le_of_ble_eq_true rfl) dX9_advance_37 (fun H locs hw => ?_)
    refine lv_istore_n (i := 2) (lv' := [(2, .int r_11), (0, rv Z 3), (1, .int v1_9)]) hx hb dX9_advance_40 rfl hl (by decide) rfl (fun ls hl => ?_)
    refine lv_iload_n hx hb dX9_advance_41 rfl (lv_at hl 2 rfl) ?_
    refine gm_aload_n (G := GC) (r := 3) C rfl dX9_advance_42 rfl (lv_at hl 1 rfl) ?_
    refine gm_getI (G := GC) (u := u_10) (r := 3) (ci := 8) (k := 1) C hw rfl fl_X9_15 dX9_advance_43 rfl ?_
    refine lv_icmp_lt (tgt := 57) hx hb dX9_advance_46 (by decide) (fun hc => ?_) (fun hc => ?_)
    · replace hf := (if_pos hc).symm.trans hf
      refine lv_iload_n hx hb dX9_advance_57 rfl (lv_at hl 0 rfl) ?_
      obtain ⟨r_13, e_r_13, hf⟩ := gm_le hf
      refine gm_callS (G := GC) (u := u_10) (u' := u_10) (As := [.int r_11]) (rest := []) (res := (some (.int (f_X9_isLetter r_11)))) C hw hl (ok_X9_isLetter l Z r_11 u_10) cw_X9_48 st_X9_isLetter rfl rfl ⟨Nat.le_trans (Nat.le_of_ble_eq_true rfl) hRf, Nat.le_trans (Nat.le_of_ble_eq_true rfl) hRl⟩ rfl rfl (Nat.le_of_ble_eq_true rfl) dX9_advance_58 (fun H locs hw => ?_)
      refine gm_topI e_r_13 ?_
      refine lv_if_eq (tgt := 71) hx hb dX9_advance_61 (by decide) (fun hc => ?_) (fun hc => ?_)
      · replace hf := (if_pos hc).symm.trans hf
        refine lv_iload_n hx hb dX9_advance_71 rfl (lv_at hl 0 rfl) ?_
        obtain ⟨r_14, e_r_14, hf⟩ := gm_le hf
        refine gm_callS (G := GC) (u := u_10) (u' := u_10) (As := [.int r_11]) (rest := []) (res := (some (.int (f_X9_isDigit r_11)))) C hw hl (ok_X9_isDigit l Z r_11 u_10) cw_X9_54 st_X9_isDigit rfl rfl ⟨Nat.le_trans (Nat.le_of_ble_eq_true rfl) hRf, Nat.le_trans (Nat.le_of_ble_eq_true rfl) hRl⟩ rfl rfl (Nat.le_of_ble_eq_true rfl) dX9_advance_72 (fun H locs hw => ?_)
        refine gm_topI e_r_14 ?_
        refine lv_if_eq (tgt := 85) hx hb dX9_advance_75 (by decide) (fun hc => ?_) (fun hc => ?_)
        · replace hf := (if_pos hc).symm.trans hf
          refine gm_aload_n (G := GC) (r := 3) C rfl dX9_advance_85 rfl (lv_at hl 1 rfl) ?_
          refine lv_iload_n hx hb dX9_advance_86 rfl (lv_at hl 0 rfl) ?_
          obtain ⟨r_15, e_r_15, hf⟩ := gm_le hf
          refine gm_callS (G := GC) (u := u_10) (u' := u_10) (As := [.int r_11]) (rest := [rv Z 3]) (res := (some (.int (f_X9_isSign r_11)))) C hw hl (ok_X9_isSign l Z r_11 u_10) cw_X9_60 st_X9_isSign rfl rfl ⟨Nat.le_trans (Nat.le_of_ble_eq_true rfl) hRf, Nat.le_trans (Nat.le_of_ble_eq_true rfl) hRl⟩ rfl rfl (Nat.le_of_ble_eq_true rfl) dX9_advance_87 (fun H locs hw => ?_)
          refine gm_topI e_r_15 ?_
          refine lv_if_eq (tgt := 97) hx hb dX9_advance_90 (by decide) (fun hc => ?_) (fun hc => ?_)
          · replace hf := (if_pos hc).symm.trans hf
            refine lv_iconst (v := 4) hx hb dX9_advance_97 (by decide) ?_
            exact J98 v1_9 r_11 (4 : Int32) u_10 _ _ _ hf  (lv_sub hl [1, 2, 0] rfl) hw
          · replace hf := (if_neg hc).symm.trans hf
            refine lv_iconst (v := 3) hx hb dX9_advance_93 (by decide) ?_
            refine lv_goto (tgt := 98) hx hb dX9_advance_94 (by decide) ?_
            exact J98 v1_9 r_11 (3 : Int32) u_10 _ _ _ hf  (lv_sub hl [1, 2, 0] rfl) hw
        · replace hf := (if_neg hc).symm.trans hf
          refine gm_aload_n (G := GC) (r := 3) C rfl dX9_advance_78 rfl (lv_at hl 1 rfl) ?_
          obtain ⟨u_16, hc_17, hf⟩ := gm_bnd hf
          refine gm_callV (G := GC) (u := u_10) (u' := u_16) (r := 3) (ci := 8) (As := []) (rest := []) (res := none) C hw hl (ok_X9_readNumber l Z u_10 u_16 hc_17) cw_X9_57 im_X9_readNumber rfl se_X9_readNumber rfl rfl rfl ⟨Nat.le_trans (Nat.le_of_ble_eq_true rfl) hRf, Nat.le_trans (Nat.le_of_ble_eq_true rfl) hRl⟩ rfl rfl (Nat.le_of_ble_eq_true rfl) dX9_advance_79 (fun H locs hw => ?_)
          refine lv_goto (tgt := 113) hx hb dX9_advance_82 (by decide) ?_
          exact gm_vret C E hw rfl rfl (Option.some.inj hf).symm dX9_advance_113
      · replace hf := (if_neg hc).symm.trans hf
        refine gm_aload_n (G := GC) (r := 3) C rfl dX9_advance_64 rfl (lv_at hl 1 rfl) ?_
        obtain ⟨u_18, hc_19, hf⟩ := gm_bnd hf
        refine gm_callV (G := GC) (u := u_10) (u' := u_18) (r := 3) (ci := 8) (As := []) (rest := []) (res := none) C hw hl (ok_X9_readWord l Z u_10 u_18 hc_19) cw_X9_51 im_X9_readWord rfl se_X9_readWord rfl rfl rfl ⟨Nat.le_trans (Nat.le_of_ble_eq_true rfl) hRf, Nat.le_trans (Nat.le_of_ble_eq_true rfl) hRl⟩ rfl rfl (Nat.le_of_ble_eq_true rfl) dX9_advance_65 (fun H locs hw => ?_)
        refine lv_goto (tgt := 113) hx hb dX9_advance_68 (by decide) ?_
        exact gm_vret C E hw rfl rfl (Option.some.inj hf).symm dX9_advance_113
    · replace hf := (if_neg hc).symm.trans hf
      refine gm_aload_n (G := GC) (r := 3) C rfl dX9_advance_49 rfl (lv_at hl 1 rfl) ?_
      refine lv_iconst (v := 0) hx hb dX9_advance_50 (by decide) ?_
      refine gm_putI (G := GC) (u := u_10) (r := 3) (ci := 8) (k := 4) (v := (0 : Int32)) C hw rfl fl_X9_25 fp_8_4 dX9_advance_51 rfl (fun H locs hw => ?_)
      obtain ⟨u_20, e_u_20, hf⟩ := gm_le hf
      rw [← e_u_20] at hw
      refine lv_goto (tgt := 113) hx hb dX9_advance_54 (by decide) ?_
      exact gm_vret C E hw rfl rfl (Option.some.inj hf).symm dX9_advance_113
  refine gm_aload_n (G := GC) (r := 3) C rfl dX9_advance_0 rfl (lv_at hl 0 rfl) ?_
  refine gm_getI (G := GC) (u := u) (r := 3) (ci := 8) (k := 3) C hw rfl fl_X9_22 dX9_advance_1 rfl ?_
  obtain ⟨v1_21, e_v1_21, hf⟩ := gm_le hf
  refine gm_topI e_v1_21 ?_
  refine lv_istore_n (i := 1) (lv' := [(1, .int v1_21), (0, rv Z 3)]) hx hb dX9_advance_4 rfl hl (by decide) rfl (fun ls hl => ?_)
  obtain ⟨o1, hlp, hf⟩ := gm_bnd hf
  have L5_1 := gm_loop (b_X9_advance_5 u) (fun x : Int32 => ∀ (H : Heap) (locs : List Loc) (ls : Array Slot), lv_has ls 3 [(0, rv Z 3), (1, .int x)] → wd GC Z u A s.heap H locs → W p l e R s m args below meth c H locs 0 0 Q (F0 m 5 ls [])) (fun z : Int32 => ∀ (H : Heap) (locs : List Loc) (ls : Array Slot), lv_has ls 3 [(0, rv Z 3), (1, .int z)] → wd GC Z u A s.heap H locs → W p l e R s m args below meth c H locs 0 0 Q (F0 m 30 ls [])) (by
    intro x o1 hf Kc Kx
    obtain ⟨v1_22, rfl⟩ : ∃ y, y = x := ⟨_, rfl⟩
    intro H locs ls hl hw
    unfold b_X9_advance_5 at hf
    try dsimp only at hf
    refine lv_iload_n hx hb dX9_advance_5 rfl (lv_at hl 1 rfl) ?_
    refine gm_aload_n (G := GC) (r := 3) C rfl dX9_advance_6 rfl (lv_at hl 0 rfl) ?_
    refine gm_getI (G := GC) (u := u) (r := 3) (ci := 8) (k := 1) C hw rfl fl_X9_15 dX9_advance_7 rfl ?_
    refine lv_icmp_ge (tgt := 30) hx hb dX9_advance_10 (by decide) (fun hc => ?_) (fun hc => ?_)
    · replace hf := (if_pos hc).symm.trans hf
      exact Kx _ (gm_si hf) _ _ _ (lv_sub hl [0, 1] rfl) hw
    · replace hf := (if_neg hc).symm.trans hf
      refine gm_aload_n (G := GC) (r := 3) C rfl dX9_advance_13 rfl (lv_at hl 0 rfl) ?_
      refine lv_iload_n hx hb dX9_advance_14 rfl (lv_at hl 1 rfl) ?_
      obtain ⟨r_23, hc_24, hf⟩ := gm_bnd hf
      refine gm_callV (G := GC) (u := u) (u' := u) (r := 3) (ci := 8) (As := [.int v1_22]) (rest := []) (res := (some (.int r_23))) C hw hl (ok_X9_signAt l Z v1_22 u r_23 hc_24) cw_X9_40 im_X9_signAt rfl se_X9_signAt rfl rfl rfl ⟨Nat.le_trans (Nat.le_of_ble_eq_true rfl) hRf, Nat.le_trans (Nat.le_of_ble_eq_true rfl) hRl⟩ rfl rfl (Nat.le_of_ble_eq_true rfl) dX9_advance_15 (fun H locs hw => ?_)
      obtain ⟨r_25, e_r_25, hf⟩ := gm_le hf
      refine gm_callS (G := GC) (u := u) (u' := u) (As := [.int r_23]) (rest := []) (res := (some (.int (f_X9_isBlank r_23)))) C hw hl (ok_X9_isBlank l Z r_23 u) cw_X9_44 st_X9_isBlank rfl rfl ⟨Nat.le_trans (Nat.le_of_ble_eq_true rfl) hRf, Nat.le_trans (Nat.le_of_ble_eq_true rfl) hRl⟩ rfl rfl (Nat.le_of_ble_eq_true rfl) dX9_advance_18 (fun H locs hw => ?_)
      refine gm_topI e_r_25 ?_
      refine lv_if_eq (tgt := 30) hx hb dX9_advance_21 (by decide) (fun hc => ?_) (fun hc => ?_)
      · replace hf := (if_pos hc).symm.trans hf
        exact Kx _ (gm_si hf) _ _ _ (lv_sub hl [0, 1] rfl) hw
      · replace hf := (if_neg hc).symm.trans hf
        refine lv_iinc (v := v1_22 + (1 : Int32)) (lv' := [(1, .int (v1_22 + (1 : Int32))), (0, rv Z 3)]) hx hb dX9_advance_24 hl (k := 1) rfl rfl (by decide) rfl (fun ls hl => ?_)
        refine lv_goto (tgt := 5) hx hb dX9_advance_27 (by decide) ?_
        exact Kc _ (gm_si hf) _ _ _ (lv_sub hl [1, 0] rfl) hw)
  refine L5_1 _ _ _ hlp ?_ _ _ _ (lv_sub hl [1, 0] rfl) hw
  obtain ⟨w1_26, rfl⟩ : ∃ y, y = o1 := ⟨_, rfl⟩
  intro H locs ls hl hw
  try dsimp only at hf
  exact J30 w1_26 u _ _ _ hf  (lv_sub hl [0, 1] rfl) hw
/-! LeapCapital$Scribe.take -/
def j_X8_take_9 (a1 : Int32) (u_1 : gm_M) : Option gm_M := if (gI u_1 2 1) = 0 then (f_X9_advance u_1).bind fun u_2 => some u_2 else some u_1
def f_X8_take (a1 : Int32) (u : gm_M) : Option gm_M := if a1 = 0 then (f_X8_refuse (1 : Int32) u).bind fun u_4 => j_X8_take_9 a1 u_4 else j_X8_take_9 a1 u
set_option maxRecDepth 100000 in
set_option maxHeartbeats 4000000 in
theorem ok_X8_take (l : Launch) (Z : gm_Z) (a1 : Int32) (u : gm_M)  (u' : gm_M) (hf : f_X8_take a1 u = some (u')) : gm_Met l GC Z yX8_take cX8_take 2 none ({ frames := 7, cells := 0, slots := 0, locals := 154 }) [rv Z 2, .int a1] u none u' := by
  unfold f_X8_take at hf
  refine gm_ofW (by decide +kernel) (Nat.le_of_ble_eq_true rfl) ?_
  intro p e s m args below meth c A ls Q R hRf hRl C E hl hw
  obtain ⟨hx, hb, -⟩ := id C
  have hl : lv_has ls 2 [(0, rv Z 2), (1, .int a1)] := hl
  have J9 : ∀  (u_1 : gm_M) (H : Heap) (locs : List Loc) (ls : Array Slot), j_X8_take_9 a1 u_1 = some (u') → lv_has ls 2 [(0, rv Z 2)] → wd GC Z u_1 A s.heap H locs → W p l e R s m args below meth c H locs 0 0 Q (F0 m 9 ls []) := by
    intro  u_1 H locs ls hf  hl hw
    unfold j_X8_take_9 at hf
    refine gm_aload_n (G := GC) (r := 2) C rfl dX8_take_9 rfl (lv_at hl 0 rfl) ?_
    refine gm_getI (G := GC) (u := u_1) (r := 2) (ci := 7) (k := 1) C hw rfl fl_X8_18 dX8_take_10 rfl ?_
    refine lv_if_ne (tgt := 23) hx hb dX8_take_13 (by decide) (fun hc => ?_) (fun hc => ?_)
    · replace hf := (if_neg hc).symm.trans hf
      exact gm_vret C E hw rfl rfl (Option.some.inj hf).symm dX8_take_23
    · replace hf := (if_pos hc).symm.trans hf
      refine gm_aload_n (G := GC) (r := 2) C rfl dX8_take_16 rfl (lv_at hl 0 rfl) ?_
      refine gm_getS (G := GC) (u := u_1) (r := 2) (ci := 7) (k := 0) C hw rfl fl_X8_12 dX8_take_17 rfl (q := 3) rfl ?_
      obtain ⟨u_2, hc_3, hf⟩ := gm_bnd hf
      refine gm_callV (G := GC) (u := u_1) (u' := u_2) (r := 3) (ci := 8) (As := []) (rest := []) (res := none) C hw hl (ok_X9_advance l Z u_1 u_2 hc_3) cw_X8_129 im_X9_advance rfl se_X9_advance rfl rfl rfl ⟨Nat.le_trans (Nat.le_of_ble_eq_true rfl) hRf, Nat.le_trans (Nat.le_of_ble_eq_true rfl) hRl⟩ rfl rfl (Nat.le_of_ble_eq_true rfl) dX8_take_20 (fun H locs hw => ?_)
      exact gm_vret C E hw rfl rfl (Option.some.inj hf).symm dX8_take_23
  refine lv_iload_n hx hb dX8_take_0 rfl (lv_at hl 1 rfl) ?_
  refine lv_if_ne (tgt := 9) hx hb dX8_take_1 (by decide) (fun hc => ?_) (fun hc => ?_)
  · replace hf := (if_neg hc).symm.trans hf
    exact J9 u _ _ _ hf  (lv_sub hl [0] rfl) hw
  · replace hf := (if_pos hc).symm.trans hf
    refine gm_aload_n (G := GC) (r := 2) C rfl dX8_take_4 rfl (lv_at hl 0 rfl) ?_
    refine lv_iconst (v := 1) hx hb dX8_take_5 (by decide) ?_
    obtain ⟨u_4, hc_5, hf⟩ := gm_bnd hf
    refine gm_callV (G := GC) (u := u) (u' := u_4) (r := 2) (ci := 7) (As := [.int (1 : Int32)]) (rest := []) (res := none) C hw hl (ok_X8_refuse l Z (1 : Int32) u u_4 hc_5) cw_X8_71 im_X8_refuse rfl se_X8_refuse rfl rfl rfl ⟨Nat.le_trans (Nat.le_of_ble_eq_true rfl) hRf, Nat.le_trans (Nat.le_of_ble_eq_true rfl) hRl⟩ rfl rfl (Nat.le_of_ble_eq_true rfl) dX8_take_6 (fun H locs hw => ?_)
    exact J9 u_4 _ _ _ hf  (lv_sub hl [0] rfl) hw
/-! LeapCapital$Scribe.takeWord -/
def f_X8_takeWord (a1 : Int32) (u : gm_M) : Option gm_M := gm_let (f_X9_isWord a1 u) fun r_1 => (f_X8_take r_1 u).bind fun u_2 => some u_2
set_option maxRecDepth 100000 in
set_option maxHeartbeats 4000000 in
theorem ok_X8_takeWord (l : Launch) (Z : gm_Z) (a1 : Int32) (u : gm_M)  (u' : gm_M) (hf : f_X8_takeWord a1 u = some (u')) : gm_Met l GC Z yX8_takeWord cX8_takeWord 2 none ({ frames := 8, cells := 0, slots := 0, locals := 175 }) [rv Z 2, .int a1] u none u' := by
  unfold f_X8_takeWord at hf
  refine gm_ofW (by decide +kernel) (Nat.le_of_ble_eq_true rfl) ?_
  intro p e s m args below meth c A ls Q R hRf hRl C E hl hw
  obtain ⟨hx, hb, -⟩ := id C
  have hl : lv_has ls 2 [(0, rv Z 2), (1, .int a1)] := hl
  refine gm_aload_n (G := GC) (r := 2) C rfl dX8_takeWord_0 rfl (lv_at hl 0 rfl) ?_
  refine gm_aload_n (G := GC) (r := 2) C rfl dX8_takeWord_1 rfl (lv_at hl 0 rfl) ?_
  refine gm_getS (G := GC) (u := u) (r := 2) (ci := 7) (k := 0) C hw rfl fl_X8_12 dX8_takeWord_2 rfl (q := 3) rfl ?_
  refine lv_iload_n hx hb dX8_takeWord_5 rfl (lv_at hl 1 rfl) ?_
  obtain ⟨r_1, e_r_1, hf⟩ := gm_le hf
  refine gm_callV (G := GC) (u := u) (u' := u) (r := 3) (ci := 8) (As := [.int a1]) (rest := [rv Z 2]) (res := (some (.int (f_X9_isWord a1 u)))) C hw hl (ok_X9_isWord l Z a1 u) cw_X8_125 im_X9_isWord rfl se_X9_isWord rfl rfl rfl ⟨Nat.le_trans (Nat.le_of_ble_eq_true rfl) hRf, Nat.le_trans (Nat.le_of_ble_eq_true rfl) hRl⟩ rfl rfl (Nat.le_of_ble_eq_true rfl) dX8_takeWord_6 (fun H locs hw => ?_)
  refine gm_topI e_r_1 ?_
  obtain ⟨u_2, hc_3, hf⟩ := gm_bnd hf
  refine gm_callV (G := GC) (u := u) (u' := u_2) (r := 2) (ci := 7) (As := [.int r_1]) (rest := []) (res := none) C hw hl (ok_X8_take l Z r_1 u u_2 hc_3) cw_X8_156 im_X8_take rfl se_X8_take rfl rfl rfl ⟨Nat.le_trans (Nat.le_of_ble_eq_true rfl) hRf, Nat.le_trans (Nat.le_of_ble_eq_true rfl) hRl⟩ rfl rfl (Nat.le_of_ble_eq_true rfl) dX8_takeWord_9 (fun H locs hw => ?_)
  exact gm_vret C E hw rfl rfl (Option.some.inj hf).symm dX8_takeWord_12
/-! LeapCapital$Tape.isName -/
def f_X9_isName  (u : gm_M) : Int32 := if (gI u 3 4) = (1 : Int32) then if (gI u 3 5) = (-1 : Int32) then (1 : Int32) else if (gI u 3 5) ≤ (18 : Int32) then (0 : Int32) else (1 : Int32) else (0 : Int32)
set_option maxRecDepth 100000 in
set_option maxHeartbeats 4000000 in
theorem ok_X9_isName (l : Launch) (Z : gm_Z)  (u : gm_M)  : gm_Met l GC Z yX9_isName cX9_isName 1 (some .boolean) ({ frames := 0, cells := 0, slots := 0, locals := 0 }) [rv Z 3] u (some (.int (f_X9_isName u))) u := by
  obtain ⟨r, hf⟩ : ∃ r, f_X9_isName u = r := ⟨_, rfl⟩
  rw [hf]
  unfold f_X9_isName at hf
  refine gm_ofW (by decide +kernel) (Nat.le_of_ble_eq_true rfl) ?_
  intro p e s m args below meth c A ls Q R hRf hRl C E hl hw
  obtain ⟨hx, hb, -⟩ := id C
  have hl : lv_has ls 1 [(0, rv Z 3)] := hl
  refine gm_aload_n (G := GC) (r := 3) C rfl dX9_isName_0 rfl (lv_at hl 0 rfl) ?_
  refine gm_getI (G := GC) (u := u) (r := 3) (ci := 8) (k := 4) C hw rfl fl_X9_25 dX9_isName_1 rfl ?_
  refine lv_iconst (v := 1) hx hb dX9_isName_4 (by decide) ?_
  refine lv_icmp_ne (tgt := 29) hx hb dX9_isName_5 (by decide) (fun hc => ?_) (fun hc => ?_)
  · replace hf := (if_neg hc).symm.trans hf
    refine lv_iconst (v := 0) hx hb dX9_isName_29 (by decide) ?_
    exact gm_zret C E hw rfl rfl ((congrArg (fun z => some (Value.int z)) hf).symm) rfl dX9_isName_30
  · replace hf := (if_pos hc).symm.trans hf
    refine gm_aload_n (G := GC) (r := 3) C rfl dX9_isName_8 rfl (lv_at hl 0 rfl) ?_
    refine gm_getI (G := GC) (u := u) (r := 3) (ci := 8) (k := 5) C hw rfl fl_X9_28 dX9_isName_9 rfl ?_
    refine lv_iconst (v := -1) hx hb dX9_isName_12 (by decide) ?_
    refine lv_icmp_eq (tgt := 25) hx hb dX9_isName_13 (by decide) (fun hc => ?_) (fun hc => ?_)
    · replace hf := (if_pos hc).symm.trans hf
      refine lv_iconst (v := 1) hx hb dX9_isName_25 (by decide) ?_
      refine lv_goto (tgt := 30) hx hb dX9_isName_26 (by decide) ?_
      exact gm_zret C E hw rfl rfl ((congrArg (fun z => some (Value.int z)) hf).symm) rfl dX9_isName_30
    · replace hf := (if_neg hc).symm.trans hf
      refine gm_aload_n (G := GC) (r := 3) C rfl dX9_isName_16 rfl (lv_at hl 0 rfl) ?_
      refine gm_getI (G := GC) (u := u) (r := 3) (ci := 8) (k := 5) C hw rfl fl_X9_28 dX9_isName_17 rfl ?_
      refine lv_bipush (v := 18) hx hb dX9_isName_20 (by decide) ?_
      refine lv_icmp_le (tgt := 29) hx hb dX9_isName_22 (by decide) (fun hc => ?_) (fun hc => ?_)
      · replace hf := (if_pos hc).symm.trans hf
        refine lv_iconst (v := 0) hx hb dX9_isName_29 (by decide) ?_
        exact gm_zret C E hw rfl rfl ((congrArg (fun z => some (Value.int z)) hf).symm) rfl dX9_isName_30
      · replace hf := (if_neg hc).symm.trans hf
        refine lv_iconst (v := 1) hx hb dX9_isName_25 (by decide) ?_
        refine lv_goto (tgt := 30) hx hb dX9_isName_26 (by decide) ?_
        exact gm_zret C E hw rfl rfl ((congrArg (fun z => some (Value.int z)) hf).symm) rfl dX9_isName_30
/-! LeapCapital$Scribe.takeName -/
def f_X8_takeName  (u : gm_M) : Option (Int64 × gm_M) := gm_let (gJ u 3 6) fun v1_1 => gm_let (f_X9_isName u) fun r_2 => (f_X8_take r_2 u).bind fun u_3 => some (v1_1, u_3)
set_option maxRecDepth 100000 in
set_option maxHeartbeats 4000000 in
theorem ok_X8_takeName (l : Launch) (Z : gm_Z)  (u : gm_M)  (r : Int64) (u' : gm_M) (hf : f_X8_takeName u = some (r, u')) : gm_Met l GC Z yX8_takeName cX8_takeName 3 (some .long) ({ frames := 8, cells := 0, slots := 0, locals := 175 }) [rv Z 2] u (some (.long r)) u' := by
  unfold f_X8_takeName at hf
  refine gm_ofW (by decide +kernel) (Nat.le_of_ble_eq_true rfl) ?_
  intro p e s m args below meth c A ls Q R hRf hRl C E hl hw
  obtain ⟨hx, hb, -⟩ := id C
  have hl : lv_has ls 3 [(0, rv Z 2)] := hl
  refine gm_aload_n (G := GC) (r := 2) C rfl dX8_takeName_0 rfl (lv_at hl 0 rfl) ?_
  refine gm_getS (G := GC) (u := u) (r := 2) (ci := 7) (k := 0) C hw rfl fl_X8_12 dX8_takeName_1 rfl (q := 3) rfl ?_
  refine gm_getJ (G := GC) (u := u) (r := 3) (ci := 8) (k := 6) C hw rfl fl_X8_89 dX8_takeName_4 rfl ?_
  obtain ⟨v1_1, e_v1_1, hf⟩ := gm_le hf
  refine gm_topJ e_v1_1 ?_
  refine lv_lstore_n (i := 1) (lv' := [(1, .long v1_1), (0, rv Z 2)]) hx hb dX8_takeName_7 rfl hl (by decide) rfl (fun ls hl => ?_)
  refine gm_aload_n (G := GC) (r := 2) C rfl dX8_takeName_8 rfl (lv_at hl 1 rfl) ?_
  refine gm_aload_n (G := GC) (r := 2) C rfl dX8_takeName_9 rfl (lv_at hl 1 rfl) ?_
  refine gm_getS (G := GC) (u := u) (r := 2) (ci := 7) (k := 0) C hw rfl fl_X8_12 dX8_takeName_10 rfl (q := 3) rfl ?_
  obtain ⟨r_2, e_r_2, hf⟩ := gm_le hf
  refine gm_callV (G := GC) (u := u) (u' := u) (r := 3) (ci := 8) (As := []) (rest := [rv Z 2]) (res := (some (.int (f_X9_isName u)))) C hw hl (ok_X9_isName l Z u) cw_X8_85 im_X9_isName rfl se_X9_isName rfl rfl rfl ⟨Nat.le_trans (Nat.le_of_ble_eq_true rfl) hRf, Nat.le_trans (Nat.le_of_ble_eq_true rfl) hRl⟩ rfl rfl (Nat.le_of_ble_eq_true rfl) dX8_takeName_13 (fun H locs hw => ?_)
  refine gm_topI e_r_2 ?_
  obtain ⟨u_3, hc_4, hf⟩ := gm_bnd hf
  refine gm_callV (G := GC) (u := u) (u' := u_3) (r := 2) (ci := 7) (As := [.int r_2]) (rest := []) (res := none) C hw hl (ok_X8_take l Z r_2 u u_3 hc_4) cw_X8_156 im_X8_take rfl se_X8_take rfl rfl rfl ⟨Nat.le_trans (Nat.le_of_ble_eq_true rfl) hRf, Nat.le_trans (Nat.le_of_ble_eq_true rfl) hRl⟩ rfl rfl (Nat.le_of_ble_eq_true rfl) dX8_takeName_16 (fun H locs hw => ?_)
  refine lv_lload_n hx hb dX8_takeName_19 rfl (lv_at hl 0 rfl) ?_
  exact gm_lret C E hw rfl ((congrArg (fun z => some (Value.long z)) (gm_sp hf).1).symm) (gm_sp hf).2.symm dX8_takeName_20
/-! LeapCapital$Scribe.takeKind -/
def j_X8_takeKind_37 (v1_2 : Int32) (t_3 : Int32) (u_1 : gm_M) : Option (Int32 × gm_M) := (f_X8_take t_3 u_1).bind fun u_4 => some (v1_2, u_4)
def j_X8_takeKind_36 (v1_7 : Int32) (u_6 : gm_M) : Option (Int32 × gm_M) := j_X8_takeKind_37 v1_7 (0 : Int32) u_6
def f_X8_takeKind  (u : gm_M) : Option (Int32 × gm_M) := gm_let ((gI u 3 5) - (12 : Int32)) fun v1_8 => if (gI u 3 4) = (1 : Int32) then if v1_8 < 0 then j_X8_takeKind_36 v1_8 u else if (3 : Int32) < v1_8 then j_X8_takeKind_36 v1_8 u else j_X8_takeKind_37 v1_8 (1 : Int32) u else j_X8_takeKind_36 v1_8 u
set_option maxRecDepth 100000 in
set_option maxHeartbeats 4000000 in
theorem ok_X8_takeKind (l : Launch) (Z : gm_Z)  (u : gm_M)  (r : Int32) (u' : gm_M) (hf : f_X8_takeKind u = some (r, u')) : gm_Met l GC Z yX8_takeKind cX8_takeKind 2 (some .int) ({ frames := 8, cells := 0, slots := 0, locals := 175 }) [rv Z 2] u (some (.int r)) u' := by
  unfold f_X8_takeKind at hf
  refine gm_ofW (by decide +kernel) (Nat.le_of_ble_eq_true rfl) ?_
  intro p e s m args below meth c A ls Q R hRf hRl C E hl hw
  obtain ⟨hx, hb, -⟩ := id C
  have hl : lv_has ls 2 [(0, rv Z 2)] := hl
  have J37 : ∀ (v1_2 : Int32) (t_3 : Int32) (u_1 : gm_M) (H : Heap) (locs : List Loc) (ls : Array Slot), j_X8_takeKind_37 v1_2 t_3 u_1 = some (r, u') → lv_has ls 2 [(1, .int v1_2)] → wd GC Z u_1 A s.heap H locs → W p l e R s m args below meth c H locs 0 0 Q (F0 m 37 ls [.int t_3, rv Z 2]) := by
    intro v1_2 t_3 u_1 H locs ls hf  hl hw
    unfold j_X8_takeKind_37 at hf
    obtain ⟨u_4, hc_5, hf⟩ := gm_bnd hf
    refine gm_callV (G := GC) (u := u_1) (u' := u_4) (r := 2) (ci := 7) (As := [.int t_3]) (rest := []) (res := none) C hw hl (ok_X8_take l Z t_3 u_1 u_4 hc_5) cw_X8_156 im_X8_take rfl se_X8_take rfl rfl rfl ⟨Nat.le_trans (Nat.le_of_ble_eq_true rfl) hRf, Nat.le_trans (Nat.le_of_ble_eq_true rfl) hRl⟩ rfl rfl (Nat.le_of_ble_eq_true rfl) dX8_takeKind_37 (fun H locs hw => ?_)
    refine lv_iload_n hx hb dX8_takeKind_40 rfl (lv_at hl 0 rfl) ?_
    exact gm_iret C E hw rfl ((congrArg (fun z => some (Value.int z)) (gm_sp hf).1).symm) (gm_sp hf).2.symm dX8_takeKind_41
  have J36 : ∀ (v1_7 : Int32) (u_6 : gm_M) (H : Heap) (locs : List Loc) (ls : Array Slot), j_X8_takeKind_36 v1_7 u_6 = some (r, u') → lv_has ls 2 [(1, .int v1_7)] → wd GC Z u_6 A s.heap H locs → W p l e R s m args below meth c H locs 0 0 Q (F0 m 36 ls [rv Z 2]) := by
    intro v1_7 u_6 H locs ls hf  hl hw
    unfold j_X8_takeKind_36 at hf
    refine lv_iconst (v := 0) hx hb dX8_takeKind_36 (by decide) ?_
    exact J37 v1_7 (0 : Int32) u_6 _ _ _ hf  (lv_sub hl [0] rfl) hw
  refine gm_aload_n (G := GC) (r := 2) C rfl dX8_takeKind_0 rfl (lv_at hl 0 rfl) ?_
  refine gm_getS (G := GC) (u := u) (r := 2) (ci := 7) (k := 0) C hw rfl fl_X8_12 dX8_takeKind_1 rfl (q := 3) rfl ?_
  refine gm_getI (G := GC) (u := u) (r := 3) (ci := 8) (k := 5) C hw rfl fl_X8_150 dX8_takeKind_4 rfl ?_
  refine lv_bipush (v := 12) hx hb dX8_takeKind_7 (by decide) ?_
  refine lv_isub hx hb dX8_takeKind_9 ?_
  obtain ⟨v1_8, e_v1_8, hf⟩ := gm_le hf
  refine gm_topI e_v1_8 ?_
  refine lv_istore_n (i := 1) (lv' := [(1, .int v1_8), (0, rv Z 2)]) hx hb dX8_takeKind_10 rfl hl (by decide) rfl (fun ls hl => ?_)
  refine gm_aload_n (G := GC) (r := 2) C rfl dX8_takeKind_11 rfl (lv_at hl 1 rfl) ?_
  refine gm_aload_n (G := GC) (r := 2) C rfl dX8_takeKind_12 rfl (lv_at hl 1 rfl) ?_
  refine gm_getS (G := GC) (u := u) (r := 2) (ci := 7) (k := 0) C hw rfl fl_X8_12 dX8_takeKind_13 rfl (q := 3) rfl ?_
  refine gm_getI (G := GC) (u := u) (r := 3) (ci := 8) (k := 4) C hw rfl fl_X8_33 dX8_takeKind_16 rfl ?_
  refine lv_iconst (v := 1) hx hb dX8_takeKind_19 (by decide) ?_
  refine lv_icmp_ne (tgt := 36) hx hb dX8_takeKind_20 (by decide) (fun hc => ?_) (fun hc => ?_)
  · replace hf := (if_neg hc).symm.trans hf
    exact J36 v1_8 u _ _ _ hf  (lv_sub hl [0] rfl) hw
  · replace hf := (if_pos hc).symm.trans hf
    refine lv_iload_n hx hb dX8_takeKind_23 rfl (lv_at hl 0 rfl) ?_
    refine lv_if_lt (tgt := 36) hx hb dX8_takeKind_24 (by decide) (fun hc => ?_) (fun hc => ?_)
    · replace hf := (if_pos hc).symm.trans hf
      exact J36 v1_8 u _ _ _ hf  (lv_sub hl [0] rfl) hw
    · replace hf := (if_neg hc).symm.trans hf
      refine lv_iload_n hx hb dX8_takeKind_27 rfl (lv_at hl 0 rfl) ?_
      refine lv_iconst (v := 3) hx hb dX8_takeKind_28 (by decide) ?_
      refine lv_icmp_gt (tgt := 36) hx hb dX8_takeKind_29 (by decide) (fun hc => ?_) (fun hc => ?_)
      · replace hf := (if_pos hc).symm.trans hf
        exact J36 v1_8 u _ _ _ hf  (lv_sub hl [0] rfl) hw
      · replace hf := (if_neg hc).symm.trans hf
        refine lv_iconst (v := 1) hx hb dX8_takeKind_32 (by decide) ?_
        refine lv_goto (tgt := 37) hx hb dX8_takeKind_33 (by decide) ?_
        exact J37 v1_8 (1 : Int32) u _ _ _ hf  (lv_sub hl [0] rfl) hw
/-! LeapCapital$Scribe.takeNumber -/
def j_X8_takeNumber_46 (a1 : Int32) (a2 : Int32) (v3_2 : Int32) (v4_3 : Int32) (u_1 : gm_M) : Option (Int32 × gm_M) := (f_X8_take v4_3 u_1).bind fun u_4 => some (v3_2, u_4)
def j_X8_takeNumber_41 (a1 : Int32) (a2 : Int32) (v3_7 : Int32) (v4_8 : Int32) (u_6 : gm_M) : Option (Int32 × gm_M) := (f_X8_refuse (4 : Int32) u_6).bind fun u_9 => j_X8_takeNumber_46 a1 a2 v3_7 v4_8 u_9
def j_X8_takeNumber_24 (a1 : Int32) (a2 : Int32) (v3_12 : Int32) (t_13 : Int32) (u_11 : gm_M) : Option (Int32 × gm_M) := if t_13 = 0 then j_X8_takeNumber_46 a1 a2 v3_12 t_13 u_11 else if v3_12 < a1 then j_X8_takeNumber_41 a1 a2 v3_12 t_13 u_11 else if v3_12 ≤ a2 then j_X8_takeNumber_46 a1 a2 v3_12 t_13 u_11 else j_X8_takeNumber_41 a1 a2 v3_12 t_13 u_11
def f_X8_takeNumber (a1 : Int32) (a2 : Int32) (u : gm_M) : Option (Int32 × gm_M) := gm_let (gI u 3 5) fun v3_14 => if (gI u 3 4) = (2 : Int32) then j_X8_takeNumber_24 a1 a2 v3_14 (1 : Int32) u else j_X8_takeNumber_24 a1 a2 v3_14 (0 : Int32) u
set_option maxRecDepth 100000 in
set_option maxHeartbeats 4000000 in
theorem ok_X8_takeNumber (l : Launch) (Z : gm_Z) (a1 : Int32) (a2 : Int32) (u : gm_M)  (r : Int32) (u' : gm_M) (hf : f_X8_takeNumber a1 a2 u = some (r, u')) : gm_Met l GC Z yX8_takeNumber cX8_takeNumber 5 (some .int) ({ frames := 8, cells := 0, slots := 0, locals := 175 }) [rv Z 2, .int a1, .int a2] u (some (.int r)) u' := by
  unfold f_X8_takeNumber at hf
  refine gm_ofW (by decide +kernel) (Nat.le_of_ble_eq_true rfl) ?_
  intro p e s m args below meth c A ls Q R hRf hRl C E hl hw
  obtain ⟨hx, hb, -⟩ := id C
  have hl : lv_has ls 5 [(0, rv Z 2), (1, .int a1), (2, .int a2)] := hl
  have J46 : ∀ (v3_2 : Int32) (v4_3 : Int32) (u_1 : gm_M) (H : Heap) (locs : List Loc) (ls : Array Slot), j_X8_takeNumber_46 a1 a2 v3_2 v4_3 u_1 = some (r, u') → lv_has ls 5 [(0, rv Z 2), (3, .int v3_2), (4, .int v4_3)] → wd GC Z u_1 A s.heap H locs → W p l e R s m args below meth c H locs 0 0 Q (F0 m 46 ls []) := by
    intro v3_2 v4_3 u_1 H locs ls hf  hl hw
    unfold j_X8_takeNumber_46 at hf
    refine gm_aload_n (G := GC) (r := 2) C rfl dX8_takeNumber_46 rfl (lv_at hl 0 rfl) ?_
    refine lv_iload hx hb dX8_takeNumber_47 (lv_at hl 2 rfl) ?_
    obtain ⟨u_4, hc_5, hf⟩ := gm_bnd hf
    refine gm_callV (G := GC) (u := u_1) (u' := u_4) (r := 2) (ci := 7) (As := [.int v4_3]) (rest := []) (res := none) C hw hl (ok_X8_take l Z v4_3 u_1 u_4 hc_5) cw_X8_156 im_X8_take rfl se_X8_take rfl rfl rfl ⟨Nat.le_trans (Nat.le_of_ble_eq_true rfl) hRf, Nat.le_trans (Nat.le_of_ble_eq_true rfl) hRl⟩ rfl rfl (Nat.le_of_ble_eq_true rfl) dX8_takeNumber_49 (fun H locs hw => ?_)
    refine lv_iload_n hx hb dX8_takeNumber_52 rfl (lv_at hl 1 rfl) ?_
    exact gm_iret C E hw rfl ((congrArg (fun z => some (Value.int z)) (gm_sp hf).1).symm) (gm_sp hf).2.symm dX8_takeNumber_53
  have J41 : ∀ (v3_7 : Int32) (v4_8 : Int32) (u_6 : gm_M) (H : Heap) (locs : List Loc) (ls : Array Slot), j_X8_takeNumber_41 a1 a2 v3_7 v4_8 u_6 = some (r, u') → lv_has ls 5 [(0, rv Z 2), (3, .int v3_7), (4, .int v4_8)] → wd GC Z u_6 A s.heap H locs → W p l e R s m args below meth c H locs 0 0 Q (F0 m 41 ls []) := by
    intro v3_7 v4_8 u_6 H locs ls hf  hl hw
    unfold j_X8_takeNumber_41 at hf
    refine gm_aload_n (G := GC) (r := 2) C rfl dX8_takeNumber_41 rfl (lv_at hl 0 rfl) ?_
    refine lv_iconst (v := 4) hx hb dX8_takeNumber_42 (by decide) ?_
    obtain ⟨u_9, hc_10, hf⟩ := gm_bnd hf
    refine gm_callV (G := GC) (u := u_6) (u' := u_9) (r := 2) (ci := 7) (As := [.int (4 : Int32)]) (rest := []) (res := none) C hw hl (ok_X8_refuse l Z (4 : Int32) u_6 u_9 hc_10) cw_X8_71 im_X8_refuse rfl se_X8_refuse rfl rfl rfl ⟨Nat.le_trans (Nat.le_of_ble_eq_true rfl) hRf, Nat.le_trans (Nat.le_of_ble_eq_true rfl) hRl⟩ rfl rfl (Nat.le_of_ble_eq_true rfl) dX8_takeNumber_43 (fun H locs hw => ?_)
    exact J46 v3_7 v4_8 u_9 _ _ _ hf  (lv_sub hl [0, 1, 2] rfl) hw
  have J24 : ∀ (v3_12 : Int32) (t_13 : Int32) (u_11 : gm_M) (H : Heap) (locs : List Loc) (ls : Array Slot), j_X8_takeNumber_24 a1 a2 v3_12 t_13 u_11 = some (r, u') → lv_has ls 5 [(0, rv Z 2), (1, .int a1), (2, .int a2), (3, .int v3_12)] → wd GC Z u_11 A s.heap H locs → W p l e R s m args below meth c H locs 0 0 Q (F0 m 24 ls [.int t_13]) := by
    intro v3_12 t_13 u_11 H locs ls hf  hl hw
    unfold j_X8_takeNumber_24 at hf
    refine lv_istore (i := 4) (lv' := [(4, .int t_13), (0, rv Z 2), (1, .int a1), (2, .int a2), (3, .int v3_12)]) hx hb dX8_takeNumber_24 hl (by decide) rfl (fun ls hl => ?_)
    refine lv_iload hx hb dX8_takeNumber_26 (lv_at hl 0 rfl) ?_
    refine lv_if_eq (tgt := 46) hx hb dX8_takeNumber_28 (by decide) (fun hc => ?_) (fun hc => ?_)
    · replace hf := (if_pos hc).symm.trans hf
      exact J46 v3_12 t_13 u_11 _ _ _ hf  (lv_sub hl [1, 4, 0] rfl) hw
    · replace hf := (if_neg hc).symm.trans hf
      refine lv_iload_n hx hb dX8_takeNumber_31 rfl (lv_at hl 4 rfl) ?_
      refine lv_iload_n hx hb dX8_takeNumber_32 rfl (lv_at hl 2 rfl) ?_
      refine lv_icmp_lt (tgt := 41) hx hb dX8_takeNumber_33 (by decide) (fun hc => ?_) (fun hc => ?_)
      · replace hf := (if_pos hc).symm.trans hf
        exact J41 v3_12 t_13 u_11 _ _ _ hf  (lv_sub hl [1, 4, 0] rfl) hw
      · replace hf := (if_neg hc).symm.trans hf
        refine lv_iload_n hx hb dX8_takeNumber_36 rfl (lv_at hl 4 rfl) ?_
        refine lv_iload_n hx hb dX8_takeNumber_37 rfl (lv_at hl 3 rfl) ?_
        refine lv_icmp_le (tgt := 46) hx hb dX8_takeNumber_38 (by decide) (fun hc => ?_) (fun hc => ?_)
        · replace hf := (if_pos hc).symm.trans hf
          exact J46 v3_12 t_13 u_11 _ _ _ hf  (lv_sub hl [1, 4, 0] rfl) hw
        · replace hf := (if_neg hc).symm.trans hf
          exact J41 v3_12 t_13 u_11 _ _ _ hf  (lv_sub hl [1, 4, 0] rfl) hw
  refine gm_aload_n (G := GC) (r := 2) C rfl dX8_takeNumber_0 rfl (lv_at hl 0 rfl) ?_
  refine gm_getS (G := GC) (u := u) (r := 2) (ci := 7) (k := 0) C hw rfl fl_X8_12 dX8_takeNumber_1 rfl (q := 3) rfl ?_
  refine gm_getI (G := GC) (u := u) (r := 3) (ci := 8) (k := 5) C hw rfl fl_X8_150 dX8_takeNumber_4 rfl ?_
  obtain ⟨v3_14, e_v3_14, hf⟩ := gm_le hf
  refine gm_topI e_v3_14 ?_
  refine lv_istore_n (i := 3) (lv' := [(3, .int v3_14), (0, rv Z 2), (1, .int a1), (2, .int a2)]) hx hb dX8_takeNumber_7 rfl hl (by decide) rfl (fun ls hl => ?_)
  refine gm_aload_n (G := GC) (r := 2) C rfl dX8_takeNumber_8 rfl (lv_at hl 1 rfl) ?_
  refine gm_getS (G := GC) (u := u) (r := 2) (ci := 7) (k := 0) C hw rfl fl_X8_12 dX8_takeNumber_9 rfl (q := 3) rfl ?_
  refine gm_getI (G := GC) (u := u) (r := 3) (ci := 8) (k := 4) C hw rfl fl_X8_33 dX8_takeNumber_12 rfl ?_
  refine lv_iconst (v := 2) hx hb dX8_takeNumber_15 (by decide) ?_
  refine lv_icmp_ne (tgt := 23) hx hb dX8_takeNumber_16 (by decide) (fun hc => ?_) (fun hc => ?_)
  · replace hf := (if_neg hc).symm.trans hf
    refine lv_iconst (v := 0) hx hb dX8_takeNumber_23 (by decide) ?_
    exact J24 v3_14 (0 : Int32) u _ _ _ hf  (lv_sub hl [1, 2, 3, 0] rfl) hw
  · replace hf := (if_pos hc).symm.trans hf
    refine lv_iconst (v := 1) hx hb dX8_takeNumber_19 (by decide) ?_
    refine lv_goto (tgt := 24) hx hb dX8_takeNumber_20 (by decide) ?_
    exact J24 v3_14 (1 : Int32) u _ _ _ hf  (lv_sub hl [1, 2, 3, 0] rfl) hw
/-! LeapCapital$Scribe.readPerson -/
def j_X8_readPerson_49 (a1 : Nat) (u_2 : gm_M) : Option gm_M := (f_X8_takeName u_2).bind fun o => match o with | (r_3, u_4) => (f_X8_takeKind u_4).bind fun o => match o with | (r_7, u_8) => (f_X8_takeWord (1 : Int32) u_8).bind fun u_11 => (f_X8_takeNumber (1 : Int32) (3000 : Int32) u_11).bind fun o => match o with | (r_13, u_14) => (f_X8_takeWord (2 : Int32) u_14).bind fun u_17 => (f_X8_takeNumber (1 : Int32) (20 : Int32) u_17).bind fun o => match o with | (r_19, u_20) => (f_X5_addPerson a1 r_3 r_7 r_13 r_19 u_20).bind fun u_23 => some u_23
def j_X8_readPerson_14 (a1 : Nat) (u_25 : gm_M) : Option gm_M := (f_X8_takeWord (0 : Int32) u_25).bind fun u_26 => gm_let (f_X9_isName u_26) fun r_28 => if r_28 = 0 then j_X8_readPerson_49 a1 u_26 else (f_X5_find a1 (gJ u_26 3 6) u_26).bind fun r_29 => if r_29 = (-1 : Int32) then j_X8_readPerson_49 a1 u_26 else (f_X8_refuse (3 : Int32) u_26).bind fun u_31 => j_X8_readPerson_49 a1 u_31
def f_X8_readPerson (a1 : Nat) (u : gm_M) : Option gm_M := if (gI u a1 0) < (6 : Int32) then j_X8_readPerson_14 a1 u else (f_X8_refuse (5 : Int32) u).bind fun u_33 => j_X8_readPerson_14 a1 u_33
set_option maxRecDepth 100000 in
set_option maxHeartbeats 4000000 in
theorem ok_X8_readPerson (l : Launch) (Z : gm_Z) (a1 : Nat) (u : gm_M) (h1 : isRealm a1 = true) (u' : gm_M) (hf : f_X8_readPerson a1 u = some (u')) : gm_Met l GC Z yX8_readPerson cX8_readPerson 7 none ({ frames := 9, cells := 0, slots := 0, locals := 199 }) [rv Z 2, rv Z a1] u none u' := by
  unfold f_X8_readPerson at hf
  refine gm_ofW (by decide +kernel) (by simp [lg_sl, gm_cat, gm_catI, gm_catJ]) ?_
  intro p e s m args below meth c A ls Q R hRf hRl C E hl hw
  obtain ⟨hx, hb, -⟩ := id C
  have hl : lv_has ls 7 [(0, rv Z 2), (1, rv Z a1)] := by simpa [lv_args, gm_cat, gm_catI, gm_catJ] using hl
  obtain ⟨k_1_0, k_1_1, k_1_2, k_1_3, k_1_4, k_1_5, k_1_6, k_1_7, k_1_8, k_1_9, k_1_10, k_1_11⟩ := fc_Realm h1
  have J49 : ∀  (u_2 : gm_M) (H : Heap) (locs : List Loc) (ls : Array Slot), j_X8_readPerson_49 a1 u_2 = some (u') → lv_has ls 7 [(0, rv Z 2), (1, rv Z a1)] → wd GC Z u_2 A s.heap H locs → W p l e R s m args below meth c H locs 0 0 Q (F0 m 49 ls []) := by
    intro  u_2 H locs ls hf  hl hw
    unfold j_X8_readPerson_49 at hf
    refine gm_aload_n (G := GC) (r := 2) C rfl dX8_readPerson_49 rfl (lv_at hl 0 rfl) ?_
    obtain ⟨⟨r_3, u_4⟩, hc_5, hf⟩ := gm_bnd hf
    try dsimp only at hf
    refine gm_callV (G := GC) (u := u_2) (u' := u_4) (r := 2) (ci := 7) (As := []) (rest := []) (res := (some (.long r_3))) C hw hl (ok_X8_takeName l Z u_2 r_3 u_4 hc_5) cw_X8_97 im_X8_takeName rfl se_X8_takeName rfl rfl rfl ⟨Nat.le_trans (Nat.le_of_ble_eq_true rfl) hRf, Nat.le_trans (Nat.le_of_ble_eq_true rfl) hRl⟩ rfl rfl (Nat.le_of_ble_eq_true rfl) dX8_readPerson_50 (fun H locs hw => ?_)
    refine lv_lstore_n (i := 2) (lv' := [(2, .long r_3), (0, rv Z 2), (1, rv Z a1)]) hx hb dX8_readPerson_53 rfl hl (by decide) (by simp [gm_cat, gm_catI, gm_catJ]) (fun ls hl => ?_)
    refine gm_aload_n (G := GC) (r := 2) C rfl dX8_readPerson_54 rfl (lv_at hl 1 rfl) ?_
    obtain ⟨⟨r_7, u_8⟩, hc_9, hf⟩ := gm_bnd hf
    try dsimp only at hf
    refine gm_callV (G := GC) (u := u_4) (u' := u_8) (r := 2) (ci := 7) (As := []) (rest := []) (res := (some (.int r_7))) C hw hl (ok_X8_takeKind l Z u_4 r_7 u_8 hc_9) cw_X8_101 im_X8_takeKind rfl se_X8_takeKind rfl rfl rfl ⟨Nat.le_trans (Nat.le_of_ble_eq_true rfl) hRf, Nat.le_trans (Nat.le_of_ble_eq_true rfl) hRl⟩ rfl rfl (Nat.le_of_ble_eq_true rfl) dX8_readPerson_55 (fun H locs hw => ?_)
    refine lv_istore (i := 4) (lv' := [(4, .int r_7), (2, .long r_3), (0, rv Z 2), (1, rv Z a1)]) hx hb dX8_readPerson_58 hl (by decide) rfl (fun ls hl => ?_)
    refine gm_aload_n (G := GC) (r := 2) C rfl dX8_readPerson_60 rfl (lv_at hl 2 rfl) ?_
    refine lv_iconst (v := 1) hx hb dX8_readPerson_61 (by decide) ?_
    obtain ⟨u_11, hc_12, hf⟩ := gm_bnd hf
    refine gm_callV (G := GC) (u := u_8) (u' := u_11) (r := 2) (ci := 7) (As := [.int (1 : Int32)]) (rest := []) (res := none) C hw hl (ok_X8_takeWord l Z (1 : Int32) u_8 u_11 hc_12) cw_X8_82 im_X8_takeWord rfl se_X8_takeWord rfl rfl rfl ⟨Nat.le_trans (Nat.le_of_ble_eq_true rfl) hRf, Nat.le_trans (Nat.le_of_ble_eq_true rfl) hRl⟩ rfl rfl (Nat.le_of_ble_eq_true rfl) dX8_readPerson_62 (fun H locs hw => ?_)
    refine gm_aload_n (G := GC) (r := 2) C rfl dX8_readPerson_65 rfl (lv_at hl 2 rfl) ?_
    refine lv_iconst (v := 1) hx hb dX8_readPerson_66 (by decide) ?_
    refine lv_sipush (v := 3000) hx hb dX8_readPerson_67 (by decide) ?_
    obtain ⟨⟨r_13, u_14⟩, hc_15, hf⟩ := gm_bnd hf
    try dsimp only at hf
    refine gm_callV (G := GC) (u := u_11) (u' := u_14) (r := 2) (ci := 7) (As := [.int (1 : Int32), .int (3000 : Int32)]) (rest := []) (res := (some (.int r_13))) C hw hl (ok_X8_takeNumber l Z (1 : Int32) (3000 : Int32) u_11 r_13 u_14 hc_15) cw_X8_47 im_X8_takeNumber rfl se_X8_takeNumber rfl rfl rfl ⟨Nat.le_trans (Nat.le_of_ble_eq_true rfl) hRf, Nat.le_trans (Nat.le_of_ble_eq_true rfl) hRl⟩ rfl rfl (Nat.le_of_ble_eq_true rfl) dX8_readPerson_70 (fun H locs hw => ?_)
    refine lv_istore (i := 5) (lv' := [(5, .int r_13), (4, .int r_7), (2, .long r_3), (0, rv Z 2), (1, rv Z a1)]) hx hb dX8_readPerson_73 hl (by decide) rfl (fun ls hl => ?_)
    refine gm_aload_n (G := GC) (r := 2) C rfl dX8_readPerson_75 rfl (lv_at hl 3 rfl) ?_
    refine lv_iconst (v := 2) hx hb dX8_readPerson_76 (by decide) ?_
    obtain ⟨u_17, hc_18, hf⟩ := gm_bnd hf
    refine gm_callV (G := GC) (u := u_14) (u' := u_17) (r := 2) (ci := 7) (As := [.int (2 : Int32)]) (rest := []) (res := none) C hw hl (ok_X8_takeWord l Z (2 : Int32) u_14 u_17 hc_18) cw_X8_82 im_X8_takeWord rfl se_X8_takeWord rfl rfl rfl ⟨Nat.le_trans (Nat.le_of_ble_eq_true rfl) hRf, Nat.le_trans (Nat.le_of_ble_eq_true rfl) hRl⟩ rfl rfl (Nat.le_of_ble_eq_true rfl) dX8_readPerson_77 (fun H locs hw => ?_)
    refine gm_aload_n (G := GC) (r := 2) C rfl dX8_readPerson_80 rfl (lv_at hl 3 rfl) ?_
    refine lv_iconst (v := 1) hx hb dX8_readPerson_81 (by decide) ?_
    refine lv_bipush (v := 20) hx hb dX8_readPerson_82 (by decide) ?_
    obtain ⟨⟨r_19, u_20⟩, hc_21, hf⟩ := gm_bnd hf
    try dsimp only at hf
    refine gm_callV (G := GC) (u := u_17) (u' := u_20) (r := 2) (ci := 7) (As := [.int (1 : Int32), .int (20 : Int32)]) (rest := []) (res := (some (.int r_19))) C hw hl (ok_X8_takeNumber l Z (1 : Int32) (20 : Int32) u_17 r_19 u_20 hc_21) cw_X8_47 im_X8_takeNumber rfl se_X8_takeNumber rfl rfl rfl ⟨Nat.le_trans (Nat.le_of_ble_eq_true rfl) hRf, Nat.le_trans (Nat.le_of_ble_eq_true rfl) hRl⟩ rfl rfl (Nat.le_of_ble_eq_true rfl) dX8_readPerson_84 (fun H locs hw => ?_)
    refine lv_istore (i := 6) (lv' := [(6, .int r_19), (5, .int r_13), (4, .int r_7), (2, .long r_3), (0, rv Z 2), (1, rv Z a1)]) hx hb dX8_readPerson_87 hl (by decide) rfl (fun ls hl => ?_)
    refine gm_aload_n (G := GC) (r := a1) C k_1_0 dX8_readPerson_89 rfl (lv_at hl 5 rfl) ?_
    refine lv_lload_n hx hb dX8_readPerson_90 rfl (lv_at hl 3 rfl) ?_
    refine lv_iload hx hb dX8_readPerson_91 (lv_at hl 2 rfl) ?_
    refine lv_iload hx hb dX8_readPerson_93 (lv_at hl 1 rfl) ?_
    refine lv_iload hx hb dX8_readPerson_95 (lv_at hl 0 rfl) ?_
    obtain ⟨u_23, hc_24, hf⟩ := gm_bnd hf
    refine gm_callV (G := GC) (u := u_20) (u' := u_23) (r := a1) (ci := 4) (As := [.long r_3, .int r_7, .int r_13, .int r_19]) (rest := []) (res := none) C hw hl (ok_X5_addPerson l Z a1 r_3 r_7 r_13 r_19 u_20 h1 u_23 hc_24) cw_X8_104 im_X5_addPerson rfl se_X5_addPerson k_1_0 rfl rfl ⟨Nat.le_trans (Nat.le_of_ble_eq_true rfl) hRf, Nat.le_trans (Nat.le_of_ble_eq_true rfl) hRl⟩ rfl rfl (Nat.le_of_ble_eq_true rfl) dX8_readPerson_97 (fun H locs hw => ?_)
    exact gm_vret C E hw rfl rfl (Option.some.inj hf).symm dX8_readPerson_100
  have J14 : ∀  (u_25 : gm_M) (H : Heap) (locs : List Loc) (ls : Array Slot), j_X8_readPerson_14 a1 u_25 = some (u') → lv_has ls 7 [(0, rv Z 2), (1, rv Z a1)] → wd GC Z u_25 A s.heap H locs → W p l e R s m args below meth c H locs 0 0 Q (F0 m 14 ls []) := by
    intro  u_25 H locs ls hf  hl hw
    unfold j_X8_readPerson_14 at hf
    refine gm_aload_n (G := GC) (r := 2) C rfl dX8_readPerson_14 rfl (lv_at hl 0 rfl) ?_
    refine lv_iconst (v := 0) hx hb dX8_readPerson_15 (by decide) ?_
    obtain ⟨u_26, hc_27, hf⟩ := gm_bnd hf
    refine gm_callV (G := GC) (u := u_25) (u' := u_26) (r := 2) (ci := 7) (As := [.int (0 : Int32)]) (rest := []) (res := none) C hw hl (ok_X8_takeWord l Z (0 : Int32) u_25 u_26 hc_27) cw_X8_82 im_X8_takeWord rfl se_X8_takeWord rfl rfl rfl ⟨Nat.le_trans (Nat.le_of_ble_eq_true rfl) hRf, Nat.le_trans (Nat.le_of_ble_eq_true rfl) hRl⟩ rfl rfl (Nat.le_of_ble_eq_true rfl) dX8_readPerson_16 (fun H locs hw => ?_)
    refine gm_aload_n (G := GC) (r := 2) C rfl dX8_readPerson_19 rfl (lv_at hl 0 rfl) ?_
    refine gm_getS (G := GC) (u := u_26) (r := 2) (ci := 7) (k := 0) C hw rfl fl_X8_12 dX8_readPerson_20 rfl (q := 3) rfl ?_
    obtain ⟨r_28, e_r_28, hf⟩ := gm_le hf
    refine gm_callV (G := GC) (u := u_26) (u' := u_26) (r := 3) (ci := 8) (As := []) (rest := []) (res := (some (.int (f_X9_isName u_26)))) C hw hl (ok_X9_isName l Z u_26) cw_X8_85 im_X9_isName rfl se_X9_isName rfl rfl rfl ⟨Nat.le_trans (Nat.le_of_ble_eq_true rfl) hRf, Nat.le_trans (Nat.le_of_ble_eq_true rfl) hRl⟩ rfl rfl (Nat.le_of_ble_eq_true rfl) dX8_readPerson_23 (fun H locs hw => ?_)
    refine gm_topI e_r_28 ?_
    refine lv_if_eq (tgt := 49) hx hb dX8_readPerson_26 (by decide) (fun hc => ?_) (fun hc => ?_)
    · replace hf := (if_pos hc).symm.trans hf
      exact J49 u_26 _ _ _ hf  (lv_sub hl [0, 1] rfl) hw
    · replace hf := (if_neg hc).symm.trans hf
      refine gm_aload_n (G := GC) (r := a1) C k_1_0 dX8_readPerson_29 rfl (lv_at hl 1 rfl) ?_
      refine gm_aload_n (G := GC) (r := 2) C rfl dX8_readPerson_30 rfl (lv_at hl 0 rfl) ?_
      refine gm_getS (G := GC) (u := u_26) (r := 2) (ci := 7) (k := 0) C hw rfl fl_X8_12 dX8_readPerson_31 rfl (q := 3) rfl ?_
      refine gm_getJ (G := GC) (u := u_26) (r := 3) (ci := 8) (k := 6) C hw rfl fl_X8_89 dX8_readPerson_34 rfl ?_
      obtain ⟨r_29, hc_30, hf⟩ := gm_bnd hf
      refine gm_callV (G := GC) (u := u_26) (u' := u_26) (r := a1) (ci := 4) (As := [.long (gJ u_26 3 6)]) (rest := []) (res := (some (.int r_29))) C hw hl (ok_X5_find l Z a1 (gJ u_26 3 6) u_26 h1 r_29 hc_30) cw_X8_93 im_X5_find rfl se_X5_find k_1_0 rfl rfl ⟨Nat.le_trans (Nat.le_of_ble_eq_true rfl) hRf, Nat.le_trans (Nat.le_of_ble_eq_true rfl) hRl⟩ rfl rfl (Nat.le_of_ble_eq_true rfl) dX8_readPerson_37 (fun H locs hw => ?_)
      refine lv_iconst (v := -1) hx hb dX8_readPerson_40 (by decide) ?_
      refine lv_icmp_eq (tgt := 49) hx hb dX8_readPerson_41 (by decide) (fun hc => ?_) (fun hc => ?_)
      · replace hf := (if_pos hc).symm.trans hf
        exact J49 u_26 _ _ _ hf  (lv_sub hl [0, 1] rfl) hw
      · replace hf := (if_neg hc).symm.trans hf
        refine gm_aload_n (G := GC) (r := 2) C rfl dX8_readPerson_44 rfl (lv_at hl 0 rfl) ?_
        refine lv_iconst (v := 3) hx hb dX8_readPerson_45 (by decide) ?_
        obtain ⟨u_31, hc_32, hf⟩ := gm_bnd hf
        refine gm_callV (G := GC) (u := u_26) (u' := u_31) (r := 2) (ci := 7) (As := [.int (3 : Int32)]) (rest := []) (res := none) C hw hl (ok_X8_refuse l Z (3 : Int32) u_26 u_31 hc_32) cw_X8_71 im_X8_refuse rfl se_X8_refuse rfl rfl rfl ⟨Nat.le_trans (Nat.le_of_ble_eq_true rfl) hRf, Nat.le_trans (Nat.le_of_ble_eq_true rfl) hRl⟩ rfl rfl (Nat.le_of_ble_eq_true rfl) dX8_readPerson_46 (fun H locs hw => ?_)
        exact J49 u_31 _ _ _ hf  (lv_sub hl [0, 1] rfl) hw
  refine gm_aload_n (G := GC) (r := a1) C k_1_0 dX8_readPerson_0 rfl (lv_at hl 1 rfl) ?_
  refine gm_getI (G := GC) (u := u) (r := a1) (ci := 4) (k := 0) C hw k_1_0 fl_X8_79 dX8_readPerson_1 rfl ?_
  refine lv_bipush (v := 6) hx hb dX8_readPerson_4 (by decide) ?_
  refine lv_icmp_lt (tgt := 14) hx hb dX8_readPerson_6 (by decide) (fun hc => ?_) (fun hc => ?_)
  · replace hf := (if_pos hc).symm.trans hf
    exact J14 u _ _ _ hf  (lv_sub hl [0, 1] rfl) hw
  · replace hf := (if_neg hc).symm.trans hf
    refine gm_aload_n (G := GC) (r := 2) C rfl dX8_readPerson_9 rfl (lv_at hl 0 rfl) ?_
    refine lv_iconst (v := 5) hx hb dX8_readPerson_10 (by decide) ?_
    obtain ⟨u_33, hc_34, hf⟩ := gm_bnd hf
    refine gm_callV (G := GC) (u := u) (u' := u_33) (r := 2) (ci := 7) (As := [.int (5 : Int32)]) (rest := []) (res := none) C hw hl (ok_X8_refuse l Z (5 : Int32) u u_33 hc_34) cw_X8_71 im_X8_refuse rfl se_X8_refuse rfl rfl rfl ⟨Nat.le_trans (Nat.le_of_ble_eq_true rfl) hRf, Nat.le_trans (Nat.le_of_ble_eq_true rfl) hRl⟩ rfl rfl (Nat.le_of_ble_eq_true rfl) dX8_readPerson_11 (fun H locs hw => ?_)
    exact J14 u_33 _ _ _ hf  (lv_sub hl [0, 1] rfl) hw
