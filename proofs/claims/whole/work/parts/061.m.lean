/-! LeapCapital$Court.goOut -/
def f_X1_goOut (a0 : Nat) (a1 : Int32) (u : gm_M) : Option gm_M := if a1 < 0 then some u else if (6 : Int32) ≤ a1 then some u else (f_X1_takeOut a0 ((1 : Int32) <<< (a1 &&& 31)) u).bind fun u_2 => some u_2
set_option maxRecDepth 100000 in
set_option maxHeartbeats 4000000 in
theorem ok_X1_goOut (l : Launch) (Z : gm_Z) (a0 : Nat) (a1 : Int32) (u : gm_M) (h0 : isCourt a0 = true) (u' : gm_M) (hf : f_X1_goOut a0 a1 u = some (u')) : gm_Met l GC Z yX1_goOut cX1_goOut 2 none ({ frames := 1, cells := 0, slots := 0, locals := 24 }) [rv Z a0, .int a1] u none u' := by
  unfold f_X1_goOut at hf
  refine gm_ofW (by decide +kernel) (by simp [lg_sl, gm_cat, gm_catI, gm_catJ]) ?_
  intro p e s m args below meth c A ls Q R hRf hRl C E hl hw
  obtain ⟨hx, hb, -⟩ := id C
  have hl : lv_has ls 2 [(0, rv Z a0), (1, .int a1)] := by simpa [lv_args, gm_cat, gm_catI, gm_catJ] using hl
  obtain ⟨k_1_0, k_1_1, k_1_2, k_1_3, k_1_4, k_1_5, k_1_6⟩ := fc_Court h0
  refine lv_iload_n hx hb dX1_goOut_0 rfl (lv_at hl 1 rfl) ?_
  refine lv_if_lt (tgt := 17) hx hb dX1_goOut_1 (by decide) (fun hc => ?_) (fun hc => ?_)
  · replace hf := (if_pos hc).symm.trans hf
    exact gm_vret C E hw rfl rfl (Option.some.inj hf).symm dX1_goOut_17
  · replace hf := (if_neg hc).symm.trans hf
    refine lv_iload_n hx hb dX1_goOut_4 rfl (lv_at hl 1 rfl) ?_
    refine lv_bipush (v := 6) hx hb dX1_goOut_5 (by decide) ?_
    refine lv_icmp_ge (tgt := 17) hx hb dX1_goOut_7 (by decide) (fun hc => ?_) (fun hc => ?_)
    · replace hf := (if_pos hc).symm.trans hf
      exact gm_vret C E hw rfl rfl (Option.some.inj hf).symm dX1_goOut_17
    · replace hf := (if_neg hc).symm.trans hf
      refine gm_aload_n (G := GC) (r := a0) C k_1_0 dX1_goOut_10 rfl (lv_at hl 0 rfl) ?_
      refine lv_iconst (v := 1) hx hb dX1_goOut_11 (by decide) ?_
      refine lv_iload_n hx hb dX1_goOut_12 rfl (lv_at hl 1 rfl) ?_
      refine lv_ishl hx hb dX1_goOut_13 ?_
      obtain ⟨u_2, hc_3, hf⟩ := gm_bnd hf
      refine gm_callV (G := GC) (u := u) (u' := u_2) (r := a0) (ci := 0) (As := [.int ((1 : Int32) <<< (a1 &&& 31))]) (rest := []) (res := none) C hw hl (ok_X1_takeOut l Z a0 ((1 : Int32) <<< (a1 &&& 31)) u h0 u_2 hc_3) cw_X1_55 im_X1_takeOut rfl se_X1_takeOut k_1_0 rfl rfl ⟨Nat.le_trans (Nat.le_of_ble_eq_true rfl) hRf, Nat.le_trans (Nat.le_of_ble_eq_true rfl) hRl⟩ rfl rfl (Nat.le_of_ble_eq_true rfl) dX1_goOut_14 (fun H locs hw => ?_)
      exact gm_vret C E hw rfl rfl (Option.some.inj hf).symm dX1_goOut_17
/-! LeapCapital$Court.light -/
def f_X1_light (a0 : Nat) (a1 : Int32) (u : gm_M) : Option gm_M := gm_let (if ((gI u a0 1) + a1) < (60 : Int32) then ((gI u a0 1) + a1) else (60 : Int32)) fun v_2 => gm_let (sI u a0 1 v_2) fun u_3 => some u_3
set_option maxRecDepth 100000 in
set_option maxHeartbeats 4000000 in
theorem ok_X1_light (l : Launch) (Z : gm_Z) (a0 : Nat) (a1 : Int32) (u : gm_M) (h0 : isCourt a0 = true) (u' : gm_M) (hf : f_X1_light a0 a1 u = some (u')) : gm_Met l GC Z yX1_light cX1_light 2 none ({ frames := 1, cells := 0, slots := 0, locals := 32 }) [rv Z a0, .int a1] u none u' := by
  unfold f_X1_light at hf
  refine gm_ofW (by decide +kernel) (by simp [lg_sl, gm_cat, gm_catI, gm_catJ]) ?_
  intro p e s m args below meth c A ls Q R hRf hRl C E hl hw
  obtain ⟨hx, hb, -⟩ := id C
  have hl : lv_has ls 2 [(0, rv Z a0), (1, .int a1)] := by simpa [lv_args, gm_cat, gm_catI, gm_catJ] using hl
  obtain ⟨k_1_0, k_1_1, k_1_2, k_1_3, k_1_4, k_1_5, k_1_6⟩ := fc_Court h0
  refine gm_aload_n (G := GC) (r := a0) C k_1_0 dX1_light_0 rfl (lv_at hl 0 rfl) ?_
  refine lv_bipush (v := 60) hx hb dX1_light_1 (by decide) ?_
  refine gm_aload_n (G := GC) (r := a0) C k_1_0 dX1_light_3 rfl (lv_at hl 0 rfl) ?_
  refine gm_getI (G := GC) (u := u) (r := a0) (ci := 0) (k := 1) C hw k_1_0 fl_X1_15 dX1_light_4 rfl ?_
  refine lv_iload_n hx hb dX1_light_7 rfl (lv_at hl 1 rfl) ?_
  refine lv_iadd hx hb dX1_light_8 ?_
  refine gm_min C hl mw_X1_59 (Nat.le_trans (Nat.le_of_ble_eq_true rfl) hRf) (Nat.le_trans (Nat.le_of_ble_eq_true rfl) hRl) (by simp [gm_cat, gm_catI, gm_catJ]) dX1_light_9 ?_
  obtain ⟨v_2, e_v_2, hf⟩ := gm_le hf
  refine gm_topI e_v_2 ?_
  refine gm_putI (G := GC) (u := u) (r := a0) (ci := 0) (k := 1) (v := v_2) C hw k_1_0 fl_X1_15 fp_0_1 dX1_light_12 rfl (fun H locs hw => ?_)
  obtain ⟨u_3, e_u_3, hf⟩ := gm_le hf
  rw [← e_u_3] at hw
  exact gm_vret C E hw rfl rfl (Option.some.inj hf).symm dX1_light_15
/-! LeapCapital$Court.changePlaces -/
def f_X1_changePlaces (a0 : Nat) (a1 : Int32) (a2 : Int32) (u : gm_M) : Option gm_M := (f_X1_placeOf a0 a1 u).bind fun r_2 => (f_X1_placeOf a0 a2 u).bind fun r_4 => if r_2 < 0 then some u else if (6 : Int32) ≤ r_2 then some u else if r_4 < 0 then some u else if (6 : Int32) ≤ r_4 then some u else if ib r_2 6 = true then gm_let (sI u (a0 + 1) (ix r_2) a2) fun u_7 => if ib r_4 6 = true then gm_let (sI u_7 (a0 + 1) (ix r_4) a1) fun u_9 => some u_9 else none else none
set_option maxRecDepth 100000 in
set_option maxHeartbeats 4000000 in
theorem ok_X1_changePlaces (l : Launch) (Z : gm_Z) (a0 : Nat) (a1 : Int32) (a2 : Int32) (u : gm_M) (h0 : isCourt a0 = true) (u' : gm_M) (hf : f_X1_changePlaces a0 a1 a2 u = some (u')) : gm_Met l GC Z yX1_changePlaces cX1_changePlaces 5 none ({ frames := 1, cells := 0, slots := 0, locals := 22 }) [rv Z a0, .int a1, .int a2] u none u' := by
  unfold f_X1_changePlaces at hf
  refine gm_ofW (by decide +kernel) (by simp [lg_sl, gm_cat, gm_catI, gm_catJ]) ?_
  intro p e s m args below meth c A ls Q R hRf hRl C E hl hw
  obtain ⟨hx, hb, -⟩ := id C
  have hl : lv_has ls 5 [(0, rv Z a0), (1, .int a1), (2, .int a2)] := by simpa [lv_args, gm_cat, gm_catI, gm_catJ] using hl
  obtain ⟨k_1_0, k_1_1, k_1_2, k_1_3, k_1_4, k_1_5, k_1_6⟩ := fc_Court h0
  refine gm_aload_n (G := GC) (r := a0) C k_1_0 dX1_changePlaces_0 rfl (lv_at hl 0 rfl) ?_
  refine lv_iload_n hx hb dX1_changePlaces_1 rfl (lv_at hl 1 rfl) ?_
  obtain ⟨r_2, hc_3, hf⟩ := gm_bnd hf
  refine gm_callV (G := GC) (u := u) (u' := u) (r := a0) (ci := 0) (As := [.int a1]) (rest := []) (res := (some (.int r_2))) C hw hl (ok_X1_placeOf l Z a0 a1 u h0 r_2 hc_3) cw_X1_37 im_X1_placeOf rfl se_X1_placeOf k_1_0 rfl rfl ⟨Nat.le_trans (Nat.le_of_ble_eq_true rfl) hRf, Nat.le_trans (Nat.le_of_ble_eq_true rfl) hRl⟩ rfl rfl (Nat.le_of_ble_eq_true rfl) dX1_changePlaces_2 (fun H locs hw => ?_)
  refine lv_istore_n (i := 3) (lv' := [(3, .int r_2), (0, rv Z a0), (1, .int a1), (2, .int a2)]) hx hb dX1_changePlaces_5 rfl hl (by decide) rfl (fun ls hl => ?_)
  refine gm_aload_n (G := GC) (r := a0) C k_1_0 dX1_changePlaces_6 rfl (lv_at hl 1 rfl) ?_
  refine lv_iload_n hx hb dX1_changePlaces_7 rfl (lv_at hl 3 rfl) ?_
  obtain ⟨r_4, hc_5, hf⟩ := gm_bnd hf
  refine gm_callV (G := GC) (u := u) (u' := u) (r := a0) (ci := 0) (As := [.int a2]) (rest := []) (res := (some (.int r_4))) C hw hl (ok_X1_placeOf l Z a0 a2 u h0 r_4 hc_5) cw_X1_37 im_X1_placeOf rfl se_X1_placeOf k_1_0 rfl rfl ⟨Nat.le_trans (Nat.le_of_ble_eq_true rfl) hRf, Nat.le_trans (Nat.le_of_ble_eq_true rfl) hRl⟩ rfl rfl (Nat.le_of_ble_eq_true rfl) dX1_changePlaces_8 (fun H locs hw => ?_)
  refine lv_istore (i := 4) (lv' := [(4, .int r_4), (3, .int r_2), (0, rv Z a0), (1, .int a1), (2, .int a2)]) hx hb dX1_changePlaces_11 hl (by decide) rfl (fun ls hl => ?_)
  refine lv_iload_n hx hb dX1_changePlaces_13 rfl (lv_at hl 1 rfl) ?_
  refine lv_if_lt (tgt := 56) hx hb dX1_changePlaces_14 (by decide) (fun hc => ?_) (fun hc => ?_)
  · replace hf := (if_pos hc).symm.trans hf
    exact gm_vret C E hw rfl rfl (Option.some.inj hf).symm dX1_changePlaces_56
  · replace hf := (if_neg hc).symm.trans hf
    refine lv_iload_n hx hb dX1_changePlaces_17 rfl (lv_at hl 1 rfl) ?_
    refine gm_aload_n (G := GC) (r := a0) C k_1_0 dX1_changePlaces_18 rfl (lv_at hl 2 rfl) ?_
    refine gm_getS (G := GC) (u := u) (r := a0) (ci := 0) (k := 4) C hw k_1_0 fl_X1_24 dX1_changePlaces_19 rfl (q := a0 + 1) k_1_1 ?_
    refine gm_alen (G := GC) (u := u) (r := (a0 + 1)) (t := 0) (n := 6) (v := 6) C hw k_1_2 (by decide) (by decide) dX1_changePlaces_22 ?_
    refine lv_icmp_ge (tgt := 56) hx hb dX1_changePlaces_23 (by decide) (fun hc => ?_) (fun hc => ?_)
    · replace hf := (if_pos hc).symm.trans hf
      exact gm_vret C E hw rfl rfl (Option.some.inj hf).symm dX1_changePlaces_56
    · replace hf := (if_neg hc).symm.trans hf
      refine lv_iload hx hb dX1_changePlaces_26 (lv_at hl 0 rfl) ?_
      refine lv_if_lt (tgt := 56) hx hb dX1_changePlaces_28 (by decide) (fun hc => ?_) (fun hc => ?_)
      · replace hf := (if_pos hc).symm.trans hf
        exact gm_vret C E hw rfl rfl (Option.some.inj hf).symm dX1_changePlaces_56
      · replace hf := (if_neg hc).symm.trans hf
        refine lv_iload hx hb dX1_changePlaces_31 (lv_at hl 0 rfl) ?_
        refine gm_aload_n (G := GC) (r := a0) C k_1_0 dX1_changePlaces_33 rfl (lv_at hl 2 rfl) ?_
        refine gm_getS (G := GC) (u := u) (r := a0) (ci := 0) (k := 4) C hw k_1_0 fl_X1_24 dX1_changePlaces_34 rfl (q := a0 + 1) k_1_1 ?_
        refine gm_alen (G := GC) (u := u) (r := (a0 + 1)) (t := 0) (n := 6) (v := 6) C hw k_1_2 (by decide) (by decide) dX1_changePlaces_37 ?_
        refine lv_icmp_ge (tgt := 56) hx hb dX1_changePlaces_38 (by decide) (fun hc => ?_) (fun hc => ?_)
        · replace hf := (if_pos hc).symm.trans hf
          exact gm_vret C E hw rfl rfl (Option.some.inj hf).symm dX1_changePlaces_56
        · replace hf := (if_neg hc).symm.trans hf
          refine gm_aload_n (G := GC) (r := a0) C k_1_0 dX1_changePlaces_41 rfl (lv_at hl 2 rfl) ?_
          refine gm_getS (G := GC) (u := u) (r := a0) (ci := 0) (k := 4) C hw k_1_0 fl_X1_24 dX1_changePlaces_42 rfl (q := a0 + 1) k_1_1 ?_
          refine lv_iload_n hx hb dX1_changePlaces_45 rfl (lv_at hl 1 rfl) ?_
          refine lv_iload_n hx hb dX1_changePlaces_46 rfl (lv_at hl 4 rfl) ?_
          obtain ⟨g_6, hf⟩ := gm_grd hf
          refine gm_iast (G := GC) (u := u) (r := (a0 + 1)) (n := 6) (i := r_2) (x := a2) C hw k_1_2 g_6 rfl dX1_changePlaces_47 (fun H locs hw => ?_)
          obtain ⟨u_7, e_u_7, hf⟩ := gm_le hf
          rw [← e_u_7] at hw
          refine gm_aload_n (G := GC) (r := a0) C k_1_0 dX1_changePlaces_48 rfl (lv_at hl 2 rfl) ?_
          refine gm_getS (G := GC) (u := u_7) (r := a0) (ci := 0) (k := 4) C hw k_1_0 fl_X1_24 dX1_changePlaces_49 rfl (q := a0 + 1) k_1_1 ?_
          refine lv_iload hx hb dX1_changePlaces_52 (lv_at hl 0 rfl) ?_
          refine lv_iload_n hx hb dX1_changePlaces_54 rfl (lv_at hl 3 rfl) ?_
          obtain ⟨g_8, hf⟩ := gm_grd hf
          refine gm_iast (G := GC) (u := u_7) (r := (a0 + 1)) (n := 6) (i := r_4) (x := a1) C hw k_1_2 g_8 rfl dX1_changePlaces_55 (fun H locs hw => ?_)
          obtain ⟨u_9, e_u_9, hf⟩ := gm_le hf
          rw [← e_u_9] at hw
          exact gm_vret C E hw rfl rfl (Option.some.inj hf).symm dX1_changePlaces_56
/-! LeapCapital$Court.countDay -/
def b_X1_countDay_2 (a0 : Nat) : (Int32 × gm_M) → Option ((Int32 × gm_M) ⊕ gm_M) := fun x => match x with | (v1_3, u_2) => if (gI u_2 a0 3) ≤ v1_3 then some (.inr u_2) else if (6 : Int32) ≤ v1_3 then some (.inr u_2) else if ib v1_3 6 = true then gm_let (gI u_2 (a0 + 1) (ix v1_3)) fun v2_5 => if v2_5 < 0 then some (.inl (v1_3 + (1 : Int32), u_2)) else if (6 : Int32) ≤ v2_5 then some (.inl (v1_3 + (1 : Int32), u_2)) else if ib v2_5 6 = true then gm_let (sI u_2 (a0 + 3) (ix v2_5) ((gI u_2 (a0 + 3) (ix v2_5)) + (1 : Int32))) fun u_7 => some (.inl (v1_3 + (1 : Int32), u_7)) else none else none
def f_X1_countDay (a0 : Nat) (u : gm_M) : Option gm_M := ((gm_lp (b_X1_countDay_2 a0) gm_FU ((0 : Int32), u)).bind fun o => match o with | u_8 => some u_8)
set_option maxRecDepth 100000 in
set_option maxHeartbeats 4000000 in
theorem ok_X1_countDay (l : Launch) (Z : gm_Z) (a0 : Nat) (u : gm_M) (h0 : isCourt a0 = true) (u' : gm_M) (hf : f_X1_countDay a0 u = some (u')) : gm_Met l GC Z yX1_countDay cX1_countDay 3 none ({ frames := 0, cells := 0, slots := 0, locals := 0 }) [rv Z a0] u none u' := by
  unfold f_X1_countDay at hf
  refine gm_ofW (by decide +kernel) (by simp [lg_sl, gm_cat, gm_catI, gm_catJ]) ?_
  intro p e s m args below meth c A ls Q R hRf hRl C E hl hw
  obtain ⟨hx, hb, -⟩ := id C
  have hl : lv_has ls 3 [(0, rv Z a0)] := by simpa [lv_args, gm_cat, gm_catI, gm_catJ] using hl
  obtain ⟨k_1_0, k_1_1, k_1_2, k_1_3, k_1_4, k_1_5, k_1_6⟩ := fc_Court h0
  refine lv_iconst (v := 0) hx hb dX1_countDay_0 (by decide) ?_
  refine lv_istore_n (i := 1) (lv' := [(1, .int (0 : Int32)), (0, rv Z a0)]) hx hb dX1_countDay_1 rfl hl (by decide) (by simp [gm_cat, gm_catI, gm_catJ]) (fun ls hl => ?_)
  obtain ⟨o1, hlp, hf⟩ := gm_bnd hf
  have L2_1 := gm_loop (b_X1_countDay_2 a0) (fun x : (Int32 × gm_M) => ∀ (H : Heap) (locs : List Loc) (ls : Array Slot), lv_has ls 3 [(0, rv Z a0), (1, .int x.1)] → wd GC Z x.2 A s.heap H locs → W p l e R s m args below meth c H locs 0 0 Q (F0 m 2 ls [])) (fun z : gm_M => ∀ (H : Heap) (locs : List Loc) (ls : Array Slot), lv_has ls 3 [] → wd GC Z z A s.heap H locs → W p l e R s m args below meth c H locs 0 0 Q (F0 m 55 ls [])) (by
    intro x o1 hf Kc Kx
    obtain ⟨v1_3, u_2⟩ := x
    intro H locs ls hl hw
    unfold b_X1_countDay_2 at hf
    try dsimp only at hf
    refine lv_iload_n hx hb dX1_countDay_2 rfl (lv_at hl 1 rfl) ?_
    refine gm_aload_n (G := GC) (r := a0) C k_1_0 dX1_countDay_3 rfl (lv_at hl 0 rfl) ?_
    refine gm_getI (G := GC) (u := u_2) (r := a0) (ci := 0) (k := 3) C hw k_1_0 fl_X1_21 dX1_countDay_4 rfl ?_
    refine lv_icmp_ge (tgt := 55) hx hb dX1_countDay_7 (by decide) (fun hc => ?_) (fun hc => ?_)
    · replace hf := (if_pos hc).symm.trans hf
      exact Kx _ (gm_si hf) _ _ _ (lv_sub hl [] rfl) hw
    · replace hf := (if_neg hc).symm.trans hf
      refine lv_iload_n hx hb dX1_countDay_10 rfl (lv_at hl 1 rfl) ?_
      refine gm_aload_n (G := GC) (r := a0) C k_1_0 dX1_countDay_11 rfl (lv_at hl 0 rfl) ?_
      refine gm_getS (G := GC) (u := u_2) (r := a0) (ci := 0) (k := 4) C hw k_1_0 fl_X1_24 dX1_countDay_12 rfl (q := a0 + 1) k_1_1 ?_
      refine gm_alen (G := GC) (u := u_2) (r := (a0 + 1)) (t := 0) (n := 6) (v := 6) C hw k_1_2 (by decide) (by decide) dX1_countDay_15 ?_
      refine lv_icmp_ge (tgt := 55) hx hb dX1_countDay_16 (by decide) (fun hc => ?_) (fun hc => ?_)
      · replace hf := (if_pos hc).symm.trans hf
        exact Kx _ (gm_si hf) _ _ _ (lv_sub hl [] rfl) hw
      · replace hf := (if_neg hc).symm.trans hf
        refine gm_aload_n (G := GC) (r := a0) C k_1_0 dX1_countDay_19 rfl (lv_at hl 0 rfl) ?_
        refine gm_getS (G := GC) (u := u_2) (r := a0) (ci := 0) (k := 4) C hw k_1_0 fl_X1_24 dX1_countDay_20 rfl (q := a0 + 1) k_1_1 ?_
        refine lv_iload_n hx hb dX1_countDay_23 rfl (lv_at hl 1 rfl) ?_
        obtain ⟨g_4, hf⟩ := gm_grd hf
        refine gm_iald (G := GC) (u := u_2) (r := (a0 + 1)) (n := 6) (i := v1_3) C hw k_1_2 g_4 rfl dX1_countDay_24 ?_
        obtain ⟨v2_5, e_v2_5, hf⟩ := gm_le hf
        refine gm_topI e_v2_5 ?_
        refine lv_istore_n (i := 2) (lv' := [(2, .int v2_5), (0, rv Z a0), (1, .int v1_3)]) hx hb dX1_countDay_25 rfl hl (by decide) rfl (fun ls hl => ?_)
        refine lv_iload_n hx hb dX1_countDay_26 rfl (lv_at hl 0 rfl) ?_
        refine lv_if_lt (tgt := 49) hx hb dX1_countDay_27 (by decide) (fun hc => ?_) (fun hc => ?_)
        · replace hf := (if_pos hc).symm.trans hf
          refine lv_iinc (v := v1_3 + (1 : Int32)) (lv' := [(1, .int (v1_3 + (1 : Int32))), (2, .int v2_5), (0, rv Z a0)]) hx hb dX1_countDay_49 hl (k := 2) rfl rfl (by decide) (by simp [gm_cat, gm_catI, gm_catJ]) (fun ls hl => ?_)
          refine lv_goto (tgt := 2) hx hb dX1_countDay_52 (by decide) ?_
          exact Kc _ (gm_si hf) _ _ _ (lv_sub hl [2, 0] rfl) hw
        · replace hf := (if_neg hc).symm.trans hf
          refine lv_iload_n hx hb dX1_countDay_30 rfl (lv_at hl 0 rfl) ?_
          refine gm_aload_n (G := GC) (r := a0) C k_1_0 dX1_countDay_31 rfl (lv_at hl 1 rfl) ?_
          refine gm_getS (G := GC) (u := u_2) (r := a0) (ci := 0) (k := 6) C hw k_1_0 fl_X1_31 dX1_countDay_32 rfl (q := a0 + 3) k_1_5 ?_
          refine gm_alen (G := GC) (u := u_2) (r := (a0 + 3)) (t := 0) (n := 6) (v := 6) C hw k_1_6 (by decide) (by decide) dX1_countDay_35 ?_
          refine lv_icmp_ge (tgt := 49) hx hb dX1_countDay_36 (by decide) (fun hc => ?_) (fun hc => ?_)
          · replace hf := (if_pos hc).symm.trans hf
            refine lv_iinc (v := v1_3 + (1 : Int32)) (lv' := [(1, .int (v1_3 + (1 : Int32))), (2, .int v2_5), (0, rv Z a0)]) hx hb dX1_countDay_49 hl (k := 2) rfl rfl (by decide) (by simp [gm_cat, gm_catI, gm_catJ]) (fun ls hl => ?_)
            refine lv_goto (tgt := 2) hx hb dX1_countDay_52 (by decide) ?_
            exact Kc _ (gm_si hf) _ _ _ (lv_sub hl [2, 0] rfl) hw
          · replace hf := (if_neg hc).symm.trans hf
            refine gm_aload_n (G := GC) (r := a0) C k_1_0 dX1_countDay_39 rfl (lv_at hl 1 rfl) ?_
            refine gm_getS (G := GC) (u := u_2) (r := a0) (ci := 0) (k := 6) C hw k_1_0 fl_X1_31 dX1_countDay_40 rfl (q := a0 + 3) k_1_5 ?_
            refine lv_iload_n hx hb dX1_countDay_43 rfl (lv_at hl 0 rfl) ?_
            refine lv_dup2_11 hx hb dX1_countDay_44 rfl (gm_cat _ _) ?_
            obtain ⟨g_6, hf⟩ := gm_grd hf
            refine gm_iald (G := GC) (u := u_2) (r := (a0 + 3)) (n := 6) (i := v2_5) C hw k_1_6 g_6 rfl dX1_countDay_45 ?_
            refine lv_iconst (v := 1) hx hb dX1_countDay_46 (by decide) ?_
            refine lv_iadd hx hb dX1_countDay_47 ?_
            refine gm_iast (G := GC) (u := u_2) (r := (a0 + 3)) (n := 6) (i := v2_5) (x := (gI u_2 (a0 + 3) (ix v2_5)) + (1 : Int32)) C hw k_1_6 g_6 rfl dX1_countDay_48 (fun H locs hw => ?_)
            obtain ⟨u_7, e_u_7, hf⟩ := gm_le hf
            rw [← e_u_7] at hw
            refine lv_iinc (v := v1_3 + (1 : Int32)) (lv' := [(1, .int (v1_3 + (1 : Int32))), (2, .int v2_5), (0, rv Z a0)]) hx hb dX1_countDay_49 hl (k := 2) rfl rfl (by decide) (by simp [gm_cat, gm_catI, gm_catJ]) (fun ls hl => ?_)
            refine lv_goto (tgt := 2) hx hb dX1_countDay_52 (by decide) ?_
            exact Kc _ (gm_si hf) _ _ _ (lv_sub hl [2, 0] rfl) hw)
  refine L2_1 _ _ _ hlp ?_ _ _ _ (lv_sub hl [1, 0] rfl) hw
  obtain ⟨u_8, rfl⟩ : ∃ y, y = o1 := ⟨_, rfl⟩
  intro H locs ls hl hw
  try dsimp only at hf
  exact gm_vret C E hw rfl rfl (Option.some.inj hf).symm dX1_countDay_55
/-! LeapCapital$Realm.deadBits -/
def b_X5_deadBits_4 (a0 : Nat) (a1 : Int32) (u : gm_M) : (Int32 × Int32) → Option ((Int32 × Int32) ⊕ Int32) := fun x => match x with | (v2_2, v3_3) => if (gI u a0 0) ≤ v3_3 then some (.inr v2_2) else if (6 : Int32) ≤ v3_3 then some (.inr v2_2) else (f_X5_isDead a0 v3_3 a1 u).bind fun r_4 => if r_4 = 0 then some (.inl (v2_2, v3_3 + (1 : Int32))) else gm_let (v2_2 ||| ((1 : Int32) <<< (v3_3 &&& 31))) fun v2_6 => some (.inl (v2_6, v3_3 + (1 : Int32)))
def f_X5_deadBits (a0 : Nat) (a1 : Int32) (u : gm_M) : Option Int32 := ((gm_lp (b_X5_deadBits_4 a0 a1 u) gm_FU ((0 : Int32), (0 : Int32))).bind fun o => match o with | w2_7 => some w2_7)
set_option maxRecDepth 100000 in
set_option maxHeartbeats 4000000 in
theorem ok_X5_deadBits (l : Launch) (Z : gm_Z) (a0 : Nat) (a1 : Int32) (u : gm_M) (h0 : isRealm a0 = true) (r : Int32) (hf : f_X5_deadBits a0 a1 u = some r) : gm_Met l GC Z yX5_deadBits cX5_deadBits 4 (some .int) ({ frames := 2, cells := 0, slots := 0, locals := 43 }) [rv Z a0, .int a1] u (some (.int r)) u := by
  unfold f_X5_deadBits at hf
  refine gm_ofW (by decide +kernel) (by simp [lg_sl, gm_cat, gm_catI, gm_catJ]) ?_
  intro p e s m args below meth c A ls Q R hRf hRl C E hl hw
  obtain ⟨hx, hb, -⟩ := id C
  have hl : lv_has ls 4 [(0, rv Z a0), (1, .int a1)] := by simpa [lv_args, gm_cat, gm_catI, gm_catJ] using hl
  obtain ⟨k_1_0, k_1_1, k_1_2, k_1_3, k_1_4, k_1_5, k_1_6, k_1_7, k_1_8, k_1_9, k_1_10, k_1_11⟩ := fc_Realm h0
  refine lv_iconst (v := 0) hx hb dX5_deadBits_0 (by decide) ?_
  refine lv_istore_n (i := 2) (lv' := [(2, .int (0 : Int32)), (0, rv Z a0), (1, .int a1)]) hx hb dX5_deadBits_1 rfl hl (by decide) rfl (fun ls hl => ?_)
  refine lv_iconst (v := 0) hx hb dX5_deadBits_2 (by decide) ?_
  refine lv_istore_n (i := 3) (lv' := [(3, .int (0 : Int32)), (2, .int (0 : Int32)), (0, rv Z a0), (1, .int a1)]) hx hb dX5_deadBits_3 rfl hl (by decide) rfl (fun ls hl => ?_)
  obtain ⟨o1, hlp, hf⟩ := gm_bnd hf
  have L4_1 := gm_loop (b_X5_deadBits_4 a0 a1 u) (fun x : (Int32 × Int32) => ∀ (H : Heap) (locs : List Loc) (ls : Array Slot), lv_has ls 4 [(0, rv Z a0), (1, .int a1), (2, .int x.1), (3, .int x.2)] → wd GC Z u A s.heap H locs → W p l e R s m args below meth c H locs 0 0 Q (F0 m 4 ls [])) (fun z : Int32 => ∀ (H : Heap) (locs : List Loc) (ls : Array Slot), lv_has ls 4 [(2, .int z)] → wd GC Z u A s.heap H locs → W p l e R s m args below meth c H locs 0 0 Q (F0 m 39 ls [])) (by
    intro x o1 hf Kc Kx
    obtain ⟨v2_2, v3_3⟩ := x
    intro H locs ls hl hw
    unfold b_X5_deadBits_4 at hf
    try dsimp only at hf
    refine lv_iload_n hx hb dX5_deadBits_4 rfl (lv_at hl 3 rfl) ?_
    refine gm_aload_n (G := GC) (r := a0) C k_1_0 dX5_deadBits_5 rfl (lv_at hl 0 rfl) ?_
    refine gm_getI (G := GC) (u := u) (r := a0) (ci := 4) (k := 0) C hw k_1_0 fl_X5_9 dX5_deadBits_6 rfl ?_
    refine lv_icmp_ge (tgt := 39) hx hb dX5_deadBits_9 (by decide) (fun hc => ?_) (fun hc => ?_)
    · replace hf := (if_pos hc).symm.trans hf
      exact Kx _ (gm_si hf) _ _ _ (lv_sub hl [2] rfl) hw
    · replace hf := (if_neg hc).symm.trans hf
      refine lv_iload_n hx hb dX5_deadBits_12 rfl (lv_at hl 3 rfl) ?_
      refine lv_bipush (v := 6) hx hb dX5_deadBits_13 (by decide) ?_
      refine lv_icmp_ge (tgt := 39) hx hb dX5_deadBits_15 (by decide) (fun hc => ?_) (fun hc => ?_)
      · replace hf := (if_pos hc).symm.trans hf
        exact Kx _ (gm_si hf) _ _ _ (lv_sub hl [2] rfl) hw
      · replace hf := (if_neg hc).symm.trans hf
        refine gm_aload_n (G := GC) (r := a0) C k_1_0 dX5_deadBits_18 rfl (lv_at hl 0 rfl) ?_
        refine lv_iload_n hx hb dX5_deadBits_19 rfl (lv_at hl 3 rfl) ?_
        refine lv_iload_n hx hb dX5_deadBits_20 rfl (lv_at hl 1 rfl) ?_
        obtain ⟨r_4, hc_5, hf⟩ := gm_bnd hf
        refine gm_callV (G := GC) (u := u) (u' := u) (r := a0) (ci := 4) (As := [.int v3_3, .int a1]) (rest := []) (res := (some (.int r_4))) C hw hl (ok_X5_isDead l Z a0 v3_3 a1 u h0 r_4 hc_5) cw_X5_59 im_X5_isDead rfl se_X5_isDead k_1_0 rfl rfl ⟨Nat.le_trans (Nat.le_of_ble_eq_true rfl) hRf, Nat.le_trans (Nat.le_of_ble_eq_true rfl) hRl⟩ rfl rfl (Nat.le_of_ble_eq_true rfl) dX5_deadBits_21 (fun H locs hw => ?_)
        refine lv_if_eq (tgt := 33) hx hb dX5_deadBits_24 (by decide) (fun hc => ?_) (fun hc => ?_)
        · replace hf := (if_pos hc).symm.trans hf
          refine lv_iinc (v := v3_3 + (1 : Int32)) (lv' := [(3, .int (v3_3 + (1 : Int32))), (0, rv Z a0), (1, .int a1), (2, .int v2_2)]) hx hb dX5_deadBits_33 hl (k := 3) rfl rfl (by decide) rfl (fun ls hl => ?_)
          refine lv_goto (tgt := 4) hx hb dX5_deadBits_36 (by decide) ?_
          exact Kc _ (gm_si hf) _ _ _ (lv_sub hl [1, 2, 3, 0] rfl) hw
        · replace hf := (if_neg hc).symm.trans hf
          refine lv_iload_n hx hb dX5_deadBits_27 rfl (lv_at hl 2 rfl) ?_
          refine lv_iconst (v := 1) hx hb dX5_deadBits_28 (by decide) ?_
          refine lv_iload_n hx hb dX5_deadBits_29 rfl (lv_at hl 3 rfl) ?_
          refine lv_ishl hx hb dX5_deadBits_30 ?_
          refine lv_ior hx hb dX5_deadBits_31 ?_
          obtain ⟨v2_6, e_v2_6, hf⟩ := gm_le hf
          refine gm_topI e_v2_6 ?_
          refine lv_istore_n (i := 2) (lv' := [(2, .int v2_6), (0, rv Z a0), (1, .int a1), (3, .int v3_3)]) hx hb dX5_deadBits_32 rfl hl (by decide) rfl (fun ls hl => ?_)
          refine lv_iinc (v := v3_3 + (1 : Int32)) (lv' := [(3, .int (v3_3 + (1 : Int32))), (2, .int v2_6), (0, rv Z a0), (1, .int a1)]) hx hb dX5_deadBits_33 hl (k := 3) rfl rfl (by decide) rfl (fun ls hl => ?_)
          refine lv_goto (tgt := 4) hx hb dX5_deadBits_36 (by decide) ?_
          exact Kc _ (gm_si hf) _ _ _ (lv_sub hl [2, 3, 1, 0] rfl) hw)
  refine L4_1 _ _ _ hlp ?_ _ _ _ (lv_sub hl [2, 3, 1, 0] rfl) hw
  obtain ⟨w2_7, rfl⟩ : ∃ y, y = o1 := ⟨_, rfl⟩
  intro H locs ls hl hw
  try dsimp only at hf
  refine lv_iload_n hx hb dX5_deadBits_39 rfl (lv_at hl 0 rfl) ?_
  exact gm_iret C E hw rfl ((congrArg (fun z => some (Value.int z)) (Option.some.inj hf)).symm) rfl dX5_deadBits_40
/-! LeapCapital$Realm.pleaOf -/
def f_X5_pleaOf (a0 : Nat) (a1 : Int32) (u : gm_M) : Option Int32 := if a1 < 0 then some (0 : Int32) else if (6 : Int32) ≤ a1 then some (0 : Int32) else if ib a1 6 = true then some (gI u (a0 + 4) (ix a1)) else none
set_option maxRecDepth 100000 in
set_option maxHeartbeats 4000000 in
theorem ok_X5_pleaOf (l : Launch) (Z : gm_Z) (a0 : Nat) (a1 : Int32) (u : gm_M) (h0 : isRealm a0 = true) (r : Int32) (hf : f_X5_pleaOf a0 a1 u = some r) : gm_Met l GC Z yX5_pleaOf cX5_pleaOf 2 (some .int) ({ frames := 0, cells := 0, slots := 0, locals := 0 }) [rv Z a0, .int a1] u (some (.int r)) u := by
  unfold f_X5_pleaOf at hf
  refine gm_ofW (by decide +kernel) (by simp [lg_sl, gm_cat, gm_catI, gm_catJ]) ?_
  intro p e s m args below meth c A ls Q R hRf hRl C E hl hw
  obtain ⟨hx, hb, -⟩ := id C
  have hl : lv_has ls 2 [(0, rv Z a0), (1, .int a1)] := by simpa [lv_args, gm_cat, gm_catI, gm_catJ] using hl
  obtain ⟨k_1_0, k_1_1, k_1_2, k_1_3, k_1_4, k_1_5, k_1_6, k_1_7, k_1_8, k_1_9, k_1_10, k_1_11⟩ := fc_Realm h0
  refine lv_iload_n hx hb dX5_pleaOf_0 rfl (lv_at hl 1 rfl) ?_
  refine lv_if_lt (tgt := 22) hx hb dX5_pleaOf_1 (by decide) (fun hc => ?_) (fun hc => ?_)
  · replace hf := (if_pos hc).symm.trans hf
    refine lv_iconst (v := 0) hx hb dX5_pleaOf_22 (by decide) ?_
    exact gm_iret C E hw rfl ((congrArg (fun z => some (Value.int z)) (Option.some.inj hf)).symm) rfl dX5_pleaOf_23
  · replace hf := (if_neg hc).symm.trans hf
    refine lv_iload_n hx hb dX5_pleaOf_4 rfl (lv_at hl 1 rfl) ?_
    refine gm_aload_n (G := GC) (r := a0) C k_1_0 dX5_pleaOf_5 rfl (lv_at hl 0 rfl) ?_
    refine gm_getS (G := GC) (u := u) (r := a0) (ci := 4) (k := 4) C hw k_1_0 fl_X5_26 dX5_pleaOf_6 rfl (q := a0 + 4) k_1_7 ?_
    refine gm_alen (G := GC) (u := u) (r := (a0 + 4)) (t := 0) (n := 6) (v := 6) C hw k_1_8 (by decide) (by decide) dX5_pleaOf_9 ?_
    refine lv_icmp_ge (tgt := 22) hx hb dX5_pleaOf_10 (by decide) (fun hc => ?_) (fun hc => ?_)
    · replace hf := (if_pos hc).symm.trans hf
      refine lv_iconst (v := 0) hx hb dX5_pleaOf_22 (by decide) ?_
      exact gm_iret C E hw rfl ((congrArg (fun z => some (Value.int z)) (Option.some.inj hf)).symm) rfl dX5_pleaOf_23
    · replace hf := (if_neg hc).symm.trans hf
      refine gm_aload_n (G := GC) (r := a0) C k_1_0 dX5_pleaOf_13 rfl (lv_at hl 0 rfl) ?_
      refine gm_getS (G := GC) (u := u) (r := a0) (ci := 4) (k := 4) C hw k_1_0 fl_X5_26 dX5_pleaOf_14 rfl (q := a0 + 4) k_1_7 ?_
      refine lv_iload_n hx hb dX5_pleaOf_17 rfl (lv_at hl 1 rfl) ?_
      obtain ⟨g_2, hf⟩ := gm_grd hf
      refine gm_iald (G := GC) (u := u) (r := (a0 + 4)) (n := 6) (i := a1) C hw k_1_8 g_2 rfl dX5_pleaOf_18 ?_
      refine lv_goto (tgt := 23) hx hb dX5_pleaOf_19 (by decide) ?_
      exact gm_iret C E hw rfl ((congrArg (fun z => some (Value.int z)) (Option.some.inj hf)).symm) rfl dX5_pleaOf_23
/-! LeapCapital$Law.joined -/
def f_X3_joined (a0 : Int32) (a1 : Int32) (a2 : Int32) : Int32 := if a0 = (-11 : Int32) then if a1 = 0 then (0 : Int32) else if a2 = 0 then (0 : Int32) else (1 : Int32) else if a0 = (-10 : Int32) then if a1 = a2 then (1 : Int32) else (0 : Int32) else if a0 = (-9 : Int32) then if a2 ≤ a1 then (0 : Int32) else (1 : Int32) else if a0 = (-8 : Int32) then a1 * a2 else if a0 = (-7 : Int32) then a1 - a2 else if a0 = (-6 : Int32) then a1 + a2 else if a1 = 0 then if a2 = 0 then (0 : Int32) else (1 : Int32) else (1 : Int32)
set_option maxRecDepth 100000 in
set_option maxHeartbeats 4000000 in
theorem ok_X3_joined (l : Launch) (Z : gm_Z) (a0 : Int32) (a1 : Int32) (a2 : Int32) (u : gm_M)  : gm_Met l GC Z yX3_joined cX3_joined 3 (some .int) ({ frames := 0, cells := 0, slots := 0, locals := 0 }) [.int a0, .int a1, .int a2] u (some (.int (f_X3_joined a0 a1 a2))) u := by
  obtain ⟨r, hf⟩ : ∃ r, f_X3_joined a0 a1 a2 = r := ⟨_, rfl⟩
  rw [hf]
  unfold f_X3_joined at hf
  refine gm_ofW (by decide +kernel) (Nat.le_of_ble_eq_true rfl) ?_
  intro p e s m args below meth c A ls Q R hRf hRl C E hl hw
  obtain ⟨hx, hb, -⟩ := id C
  have hl : lv_has ls 3 [(0, .int a0), (1, .int a1), (2, .int a2)] := hl
  refine lv_iload_n hx hb dX3_joined_0 rfl (lv_at hl 0 rfl) ?_
  by_cases hq_1 : a0 = (-11 : Int32)
  · replace hf := (if_pos hq_1).symm.trans hf
    refine lv_tableIn (off := 73) (tgt := 74) hx hb dX3_joined_1 (by rw [hq_1]; decide) (by rw [hq_1]; decide) (by rw [hq_1]; rfl) (by decide) ?_
    refine lv_iload_n hx hb dX3_joined_74 rfl (lv_at hl 1 rfl) ?_
    refine lv_if_eq (tgt := 86) hx hb dX3_joined_75 (by decide) (fun hc => ?_) (fun hc => ?_)
    · replace hf := (if_pos hc).symm.trans hf
      refine lv_iconst (v := 0) hx hb dX3_joined_86 (by decide) ?_
      exact gm_iret C E hw rfl ((congrArg (fun z => some (Value.int z)) hf).symm) rfl dX3_joined_87
    · replace hf := (if_neg hc).symm.trans hf
      refine lv_iload_n hx hb dX3_joined_78 rfl (lv_at hl 2 rfl) ?_
      refine lv_if_eq (tgt := 86) hx hb dX3_joined_79 (by decide) (fun hc => ?_) (fun hc => ?_)
      · replace hf := (if_pos hc).symm.trans hf
        refine lv_iconst (v := 0) hx hb dX3_joined_86 (by decide) ?_
        exact gm_iret C E hw rfl ((congrArg (fun z => some (Value.int z)) hf).symm) rfl dX3_joined_87
      · replace hf := (if_neg hc).symm.trans hf
        refine lv_iconst (v := 1) hx hb dX3_joined_82 (by decide) ?_
        refine lv_goto (tgt := 87) hx hb dX3_joined_83 (by decide) ?_
        exact gm_iret C E hw rfl ((congrArg (fun z => some (Value.int z)) hf).symm) rfl dX3_joined_87
  replace hf := (if_neg hq_1).symm.trans hf
  by_cases hq_2 : a0 = (-10 : Int32)
  · replace hf := (if_pos hq_2).symm.trans hf
    refine lv_tableIn (off := 62) (tgt := 63) hx hb dX3_joined_1 (by rw [hq_2]; decide) (by rw [hq_2]; decide) (by rw [hq_2]; rfl) (by decide) ?_
    refine lv_iload_n hx hb dX3_joined_63 rfl (lv_at hl 1 rfl) ?_
    refine lv_iload_n hx hb dX3_joined_64 rfl (lv_at hl 2 rfl) ?_
    refine lv_icmp_ne (tgt := 72) hx hb dX3_joined_65 (by decide) (fun hc => ?_) (fun hc => ?_)
    · replace hf := (if_neg hc).symm.trans hf
      refine lv_iconst (v := 0) hx hb dX3_joined_72 (by decide) ?_
      exact gm_iret C E hw rfl ((congrArg (fun z => some (Value.int z)) hf).symm) rfl dX3_joined_73
    · replace hf := (if_pos hc).symm.trans hf
      refine lv_iconst (v := 1) hx hb dX3_joined_68 (by decide) ?_
      refine lv_goto (tgt := 73) hx hb dX3_joined_69 (by decide) ?_
      exact gm_iret C E hw rfl ((congrArg (fun z => some (Value.int z)) hf).symm) rfl dX3_joined_73
  replace hf := (if_neg hq_2).symm.trans hf
  by_cases hq_3 : a0 = (-9 : Int32)
  · replace hf := (if_pos hq_3).symm.trans hf
    refine lv_tableIn (off := 51) (tgt := 52) hx hb dX3_joined_1 (by rw [hq_3]; decide) (by rw [hq_3]; decide) (by rw [hq_3]; rfl) (by decide) ?_
    refine lv_iload_n hx hb dX3_joined_52 rfl (lv_at hl 1 rfl) ?_
    refine lv_iload_n hx hb dX3_joined_53 rfl (lv_at hl 2 rfl) ?_
    refine lv_icmp_ge (tgt := 61) hx hb dX3_joined_54 (by decide) (fun hc => ?_) (fun hc => ?_)
    · replace hf := (if_pos hc).symm.trans hf
      refine lv_iconst (v := 0) hx hb dX3_joined_61 (by decide) ?_
      exact gm_iret C E hw rfl ((congrArg (fun z => some (Value.int z)) hf).symm) rfl dX3_joined_62
    · replace hf := (if_neg hc).symm.trans hf
      refine lv_iconst (v := 1) hx hb dX3_joined_57 (by decide) ?_
      refine lv_goto (tgt := 62) hx hb dX3_joined_58 (by decide) ?_
      exact gm_iret C E hw rfl ((congrArg (fun z => some (Value.int z)) hf).symm) rfl dX3_joined_62
  replace hf := (if_neg hq_3).symm.trans hf
  by_cases hq_4 : a0 = (-8 : Int32)
  · replace hf := (if_pos hq_4).symm.trans hf
    refine lv_tableIn (off := 47) (tgt := 48) hx hb dX3_joined_1 (by rw [hq_4]; decide) (by rw [hq_4]; decide) (by rw [hq_4]; rfl) (by decide) ?_
    refine lv_iload_n hx hb dX3_joined_48 rfl (lv_at hl 1 rfl) ?_
    refine lv_iload_n hx hb dX3_joined_49 rfl (lv_at hl 2 rfl) ?_
    refine lv_imul hx hb dX3_joined_50 ?_
    exact gm_iret C E hw rfl ((congrArg (fun z => some (Value.int z)) hf).symm) rfl dX3_joined_51
  replace hf := (if_neg hq_4).symm.trans hf
  by_cases hq_5 : a0 = (-7 : Int32)
  · replace hf := (if_pos hq_5).symm.trans hf
    refine lv_tableIn (off := 43) (tgt := 44) hx hb dX3_joined_1 (by rw [hq_5]; decide) (by rw [hq_5]; decide) (by rw [hq_5]; rfl) (by decide) ?_
    refine lv_iload_n hx hb dX3_joined_44 rfl (lv_at hl 1 rfl) ?_
    refine lv_iload_n hx hb dX3_joined_45 rfl (lv_at hl 2 rfl) ?_
    refine lv_isub hx hb dX3_joined_46 ?_
    exact gm_iret C E hw rfl ((congrArg (fun z => some (Value.int z)) hf).symm) rfl dX3_joined_47
  replace hf := (if_neg hq_5).symm.trans hf
  by_cases hq_6 : a0 = (-6 : Int32)
  · replace hf := (if_pos hq_6).symm.trans hf
    refine lv_tableIn (off := 39) (tgt := 40) hx hb dX3_joined_1 (by rw [hq_6]; decide) (by rw [hq_6]; decide) (by rw [hq_6]; rfl) (by decide) ?_
    refine lv_iload_n hx hb dX3_joined_40 rfl (lv_at hl 1 rfl) ?_
    refine lv_iload_n hx hb dX3_joined_41 rfl (lv_at hl 2 rfl) ?_
    refine lv_iadd hx hb dX3_joined_42 ?_
    exact gm_iret C E hw rfl ((congrArg (fun z => some (Value.int z)) hf).symm) rfl dX3_joined_43
  replace hf := (if_neg hq_6).symm.trans hf
  refine lv_tableOut (tgt := 88) hx hb dX3_joined_1 (Classical.byContradiction (fun hq => by
    obtain ⟨i, hi, e⟩ := gm_rng hq
    match i, hi with
    | 0, _ => exact hq_1 (e.trans (by decide))
    | 1, _ => exact hq_2 (e.trans (by decide))
    | 2, _ => exact hq_3 (e.trans (by decide))
    | 3, _ => exact hq_4 (e.trans (by decide))
    | 4, _ => exact hq_5 (e.trans (by decide))
    | 5, _ => exact hq_6 (e.trans (by decide))
    | (n + 6), h => exact absurd h (by simp only [Int.reduceSub, Int.reduceAdd, Int.reduceToNat, Int.reduceNeg, Int.sub_neg]; omega))) (by decide) ?_
  refine lv_iload_n hx hb dX3_joined_88 rfl (lv_at hl 1 rfl) ?_
  refine lv_if_ne (tgt := 96) hx hb dX3_joined_89 (by decide) (fun hc => ?_) (fun hc => ?_)
  · replace hf := (if_neg hc).symm.trans hf
    refine lv_iconst (v := 1) hx hb dX3_joined_96 (by decide) ?_
    refine lv_goto (tgt := 101) hx hb dX3_joined_97 (by decide) ?_
    exact gm_iret C E hw rfl ((congrArg (fun z => some (Value.int z)) hf).symm) rfl dX3_joined_101
  · replace hf := (if_pos hc).symm.trans hf
    refine lv_iload_n hx hb dX3_joined_92 rfl (lv_at hl 2 rfl) ?_
    refine lv_if_eq (tgt := 100) hx hb dX3_joined_93 (by decide) (fun hc => ?_) (fun hc => ?_)
    · replace hf := (if_pos hc).symm.trans hf
      refine lv_iconst (v := 0) hx hb dX3_joined_100 (by decide) ?_
      exact gm_iret C E hw rfl ((congrArg (fun z => some (Value.int z)) hf).symm) rfl dX3_joined_101
    · replace hf := (if_neg hc).symm.trans hf
      refine lv_iconst (v := 1) hx hb dX3_joined_96 (by decide) ?_
      refine lv_goto (tgt := 101) hx hb dX3_joined_97 (by decide) ?_
      exact gm_iret C E hw rfl ((congrArg (fun z => some (Value.int z)) hf).symm) rfl dX3_joined_101
/-! LeapCapital$Law.worth -/
def j_X3_worth_201 (a0 : Nat) (a1 : Int32) (a2 : Int32) (a3 : Int32) (a4 : Int32) (v5_3 : Int32) (u_2 : gm_M) : Option (Int32 × gm_M) := if v5_3 ≤ 0 then some ((0 : Int32), u_2) else some (gI u_2 (a0 + 2) 0, u_2)
def j_X3_worth_150 (a0 : Nat) (a1 : Int32) (a2 : Int32) (a3 : Int32) (a4 : Int32) (v5_8 : Int32) (v6_9 : Int32) (t_10 : Int32) (t_11 : Int32) (u_7 : gm_M) : Option ((Int32 × Int32 × gm_M) ⊕ (gm_M ⊕ gm_M ⊕ gm_M ⊕ (Int32 × gm_M))) := if ib t_10 32 = true then gm_let (sI u_7 (a0 + 2) (ix t_10) t_11) fun u_13 => some (.inl (v5_8, v6_9 + (1 : Int32), u_13)) else none
def j_X3_worth_103 (a0 : Nat) (a1 : Int32) (a2 : Int32) (a3 : Int32) (a4 : Int32) (v5_15 : Int32) (v6_16 : Int32) (t_17 : Int32) (t_18 : Int32) (u_14 : gm_M) : Option ((Int32 × Int32 × gm_M) ⊕ (gm_M ⊕ gm_M ⊕ gm_M ⊕ (Int32 × gm_M))) := if ib t_17 32 = true then gm_let (sI u_14 (a0 + 2) (ix t_17) t_18) fun u_20 => some (.inl (v5_15 + (1 : Int32), v6_16 + (1 : Int32), u_20)) else none
def b_X3_worth_6 (a0 : Nat) (a1 : Int32) (a2 : Int32) (a3 : Int32) (a4 : Int32) : (Int32 × Int32 × gm_M) → Option ((Int32 × Int32 × gm_M) ⊕ (gm_M ⊕ gm_M ⊕ gm_M ⊕ (Int32 × gm_M))) := fun x => match x with | (v5_5, v6_6, u_4) => if (gI u_4 a0 1) ≤ v6_6 then some (.inr (.inr (.inr (.inr (v5_5, u_4))))) else if (1000 : Int32) ≤ v6_6 then some (.inr (.inr (.inr (.inr (v5_5, u_4))))) else if ib v6_6 1000 = true then gm_let (gI u_4 (a0 + 1) (ix v6_6)) fun v7_22 => if v7_22 ≤ (-5 : Int32) then if v7_22 = (-5 : Int32) then if (1 : Int32) ≤ v5_5 then if ib (v5_5 - (1 : Int32)) 32 = true then if (gI u_4 (a0 + 2) (ix (v5_5 - (1 : Int32)))) = 0 then j_X3_worth_150 a0 a1 a2 a3 a4 v5_5 v6_6 (v5_5 - (1 : Int32)) (1 : Int32) u_4 else j_X3_worth_150 a0 a1 a2 a3 a4 v5_5 v6_6 (v5_5 - (1 : Int32)) (0 : Int32) u_4 else none else some (.inr (.inr (.inl u_4))) else if (2 : Int32) ≤ v5_5 then if ib ((v5_5 + (-1 : Int32)) - (1 : Int32)) 32 = true then if ib (v5_5 + (-1 : Int32)) 32 = true then gm_let (f_X3_joined v7_22 (gI u_4 (a0 + 2) (ix ((v5_5 + (-1 : Int32)) - (1 : Int32)))) (gI u_4 (a0 + 2) (ix (v5_5 + (-1 : Int32))))) fun r_25 => gm_let (sI u_4 (a0 + 2) (ix ((v5_5 + (-1 : Int32)) - (1 : Int32))) r_25) fun u_26 => some (.inl (v5_5 + (-1 : Int32), v6_6 + (1 : Int32), u_26)) else none else none else some (.inr (.inr (.inr (.inl u_4)))) else if v5_5 < (32 : Int32) then if v7_22 < 0 then if v7_22 = (-1 : Int32) then j_X3_worth_103 a0 a1 a2 a3 a4 v5_5 v6_6 v5_5 a1 u_4 else if v7_22 = (-2 : Int32) then j_X3_worth_103 a0 a1 a2 a3 a4 v5_5 v6_6 v5_5 a2 u_4 else if v7_22 = (-3 : Int32) then j_X3_worth_103 a0 a1 a2 a3 a4 v5_5 v6_6 v5_5 a3 u_4 else j_X3_worth_103 a0 a1 a2 a3 a4 v5_5 v6_6 v5_5 a4 u_4 else j_X3_worth_103 a0 a1 a2 a3 a4 v5_5 v6_6 v5_5 v7_22 u_4 else some (.inr (.inl u_4)) else none
def f_X3_worth (a0 : Nat) (a1 : Int32) (a2 : Int32) (a3 : Int32) (a4 : Int32) (u : gm_M) : Option (Int32 × gm_M) := ((gm_lp (b_X3_worth_6 a0 a1 a2 a3 a4) gm_FU ((0 : Int32), (0 : Int32), u)).bind fun o => match o with | .inl u_28 => (some ((0 : Int32), u_28)) | .inr (.inl u_29) => (some ((0 : Int32), u_29)) | .inr (.inr (.inl u_30)) => (some ((0 : Int32), u_30)) | .inr (.inr (.inr ((w5_31, u_32)))) => (j_X3_worth_201 a0 a1 a2 a3 a4 w5_31 u_32))
set_option maxRecDepth 100000 in
set_option maxHeartbeats 4000000 in
theorem ok_X3_worth (l : Launch) (Z : gm_Z) (a0 : Nat) (a1 : Int32) (a2 : Int32) (a3 : Int32) (a4 : Int32) (u : gm_M) (h0 : isLaw a0 = true) (r : Int32) (u' : gm_M) (hf : f_X3_worth a0 a1 a2 a3 a4 u = some (r, u')) : gm_Met l GC Z yX3_worth cX3_worth 8 (some .int) ({ frames := 1, cells := 0, slots := 0, locals := 22 }) [rv Z a0, .int a1, .int a2, .int a3, .int a4] u (some (.int r)) u' := by
  unfold f_X3_worth at hf
  refine gm_ofW (by decide +kernel) (by simp [lg_sl, gm_cat, gm_catI, gm_catJ]) ?_
  intro p e s m args below meth c A ls Q R hRf hRl C E hl hw
  obtain ⟨hx, hb, -⟩ := id C
  have hl : lv_has ls 8 [(0, rv Z a0), (1, .int a1), (2, .int a2), (3, .int a3), (4, .int a4)] := by simpa [lv_args, gm_cat, gm_catI, gm_catJ] using hl
  obtain ⟨k_1_0, k_1_1, k_1_2, k_1_3, k_1_4⟩ := fc_Law h0
  have J201 : ∀ (v5_3 : Int32) (u_2 : gm_M) (H : Heap) (locs : List Loc) (ls : Array Slot), j_X3_worth_201 a0 a1 a2 a3 a4 v5_3 u_2 = some (r, u') → lv_has ls 8 [(0, rv Z a0), (5, .int v5_3)] → wd GC Z u_2 A s.heap H locs → W p l e R s m args below meth c H locs 0 0 Q (F0 m 201 ls []) := by
    intro v5_3 u_2 H locs ls hf  hl hw
    unfold j_X3_worth_201 at hf
    refine lv_iload hx hb dX3_worth_201 (lv_at hl 1 rfl) ?_
    refine lv_if_le (tgt := 215) hx hb dX3_worth_203 (by decide) (fun hc => ?_) (fun hc => ?_)
    · replace hf := (if_pos hc).symm.trans hf
      refine lv_iconst (v := 0) hx hb dX3_worth_215 (by decide) ?_
      exact gm_iret C E hw rfl ((congrArg (fun z => some (Value.int z)) (gm_sp hf).1).symm) (gm_sp hf).2.symm dX3_worth_216
    · replace hf := (if_neg hc).symm.trans hf
      refine gm_aload_n (G := GC) (r := a0) C k_1_0 dX3_worth_206 rfl (lv_at hl 0 rfl) ?_
      refine gm_getS (G := GC) (u := u_2) (r := a0) (ci := 2) (k := 2) C hw k_1_0 fl_X3_19 dX3_worth_207 rfl (q := a0 + 2) k_1_3 ?_
      refine lv_iconst (v := 0) hx hb dX3_worth_210 (by decide) ?_
      refine gm_iald (G := GC) (u := u_2) (r := (a0 + 2)) (n := 32) (i := (0 : Int32)) C hw k_1_4 (by decide) (j := 0) (by decide) dX3_worth_211 ?_
      refine lv_goto (tgt := 216) hx hb dX3_worth_212 (by decide) ?_
      exact gm_iret C E hw rfl ((congrArg (fun z => some (Value.int z)) (gm_sp hf).1).symm) (gm_sp hf).2.symm dX3_worth_216
  refine lv_iconst (v := 0) hx hb dX3_worth_0 (by decide) ?_
  refine lv_istore (i := 5) (lv' := [(5, .int (0 : Int32)), (0, rv Z a0), (1, .int a1), (2, .int a2), (3, .int a3), (4, .int a4)]) hx hb dX3_worth_1 hl (by decide) rfl (fun ls hl => ?_)
  refine lv_iconst (v := 0) hx hb dX3_worth_3 (by decide) ?_
  refine lv_istore (i := 6) (lv' := [(6, .int (0 : Int32)), (5, .int (0 : Int32)), (0, rv Z a0), (1, .int a1), (2, .int a2), (3, .int a3), (4, .int a4)]) hx hb dX3_worth_4 hl (by decide) rfl (fun ls hl => ?_)
  obtain ⟨o1, hlp, hf⟩ := gm_bnd hf
  have L6_1 := gm_loop (b_X3_worth_6 a0 a1 a2 a3 a4) (fun x : (Int32 × Int32 × gm_M) => ∀ (H : Heap) (locs : List Loc) (ls : Array Slot), lv_has ls 8 [(0, rv Z a0), (1, .int a1), (2, .int a2), (3, .int a3), (4, .int a4), (5, .int x.1), (6, .int x.2.1)] → wd GC Z x.2.2 A s.heap H locs → W p l e R s m args below meth c H locs 0 0 Q (F0 m 6 ls [])) (fun z : (gm_M ⊕ gm_M ⊕ gm_M ⊕ (Int32 × gm_M)) => match z with | .inl q0 => ∀ (H : Heap) (locs : List Loc) (ls : Array Slot), lv_has ls 8 [] → wd GC Z q0 A s.heap H locs → W p l e R s m args below meth c H locs 0 0 Q (F0 m 51 ls []) | .inr p0 => match p0 with | .inl q1 => ∀ (H : Heap) (locs : List Loc) (ls : Array Slot), lv_has ls 8 [] → wd GC Z q1 A s.heap H locs → W p l e R s m args below meth c H locs 0 0 Q (F0 m 123 ls []) | .inr p1 => match p1 with | .inl q2 => ∀ (H : Heap) (locs : List Loc) (ls : Array Slot), lv_has ls 8 [] → wd GC Z q2 A s.heap H locs → W p l e R s m args below meth c H locs 0 0 Q (F0 m 160 ls []) | .inr p2 => ∀ (H : Heap) (locs : List Loc) (ls : Array Slot), lv_has ls 8 [(0, rv Z a0), (5, .int p2.1)] → wd GC Z p2.2 A s.heap H locs → W p l e R s m args below meth c H locs 0 0 Q (F0 m 201 ls [])) (by
    intro x o1 hf Kc Kx
    obtain ⟨v5_5, v6_6, u_4⟩ := x
    intro H locs ls hl hw
    unfold b_X3_worth_6 at hf
    try dsimp only at hf
    have J150 : ∀ (v5_8 : Int32) (v6_9 : Int32) (t_10 : Int32) (t_11 : Int32) (u_7 : gm_M) (H : Heap) (locs : List Loc) (ls : Array Slot), j_X3_worth_150 a0 a1 a2 a3 a4 v5_8 v6_9 t_10 t_11 u_7 = some o1 → lv_has ls 8 [(0, rv Z a0), (1, .int a1), (2, .int a2), (3, .int a3), (4, .int a4), (5, .int v5_8), (6, .int v6_9)] → wd GC Z u_7 A s.heap H locs → W p l e R s m args below meth c H locs 0 0 Q (F0 m 150 ls [.int t_11, .int t_10, rv Z (a0 + 2)]) := by
      intro v5_8 v6_9 t_10 t_11 u_7 H locs ls hf  hl hw
      unfold j_X3_worth_150 at hf
      obtain ⟨g_12, hf⟩ := gm_grd hf
      refine gm_iast (G := GC) (u := u_7) (r := (a0 + 2)) (n := 32) (i := t_10) (x := t_11) C hw k_1_4 g_12 rfl dX3_worth_150 (fun H locs hw => ?_)
      obtain ⟨u_13, e_u_13, hf⟩ := gm_le hf
      rw [← e_u_13] at hw
      refine lv_goto (tgt := 195) hx hb dX3_worth_151 (by decide) ?_
      refine lv_iinc (v := v6_9 + (1 : Int32)) (lv' := [(6, .int (v6_9 + (1 : Int32))), (0, rv Z a0), (1, .int a1), (2, .int a2), (3, .int a3), (4, .int a4), (5, .int v5_8)]) hx hb dX3_worth_195 hl (k := 6) rfl rfl (by decide) rfl (fun ls hl => ?_)
      refine lv_goto (tgt := 6) hx hb dX3_worth_198 (by decide) ?_
      exact Kc _ (gm_si hf) _ _ _ (lv_sub hl [1, 2, 3, 4, 5, 6, 0] rfl) hw
    have J103 : ∀ (v5_15 : Int32) (v6_16 : Int32) (t_17 : Int32) (t_18 : Int32) (u_14 : gm_M) (H : Heap) (locs : List Loc) (ls : Array Slot), j_X3_worth_103 a0 a1 a2 a3 a4 v5_15 v6_16 t_17 t_18 u_14 = some o1 → lv_has ls 8 [(0, rv Z a0), (1, .int a1), (2, .int a2), (3, .int a3), (4, .int a4), (5, .int v5_15), (6, .int v6_16)] → wd GC Z u_14 A s.heap H locs → W p l e R s m args below meth c H locs 0 0 Q (F0 m 103 ls [.int t_18, .int t_17, rv Z (a0 + 2)]) := by
      intro v5_15 v6_16 t_17 t_18 u_14 H locs ls hf  hl hw
      unfold j_X3_worth_103 at hf
      obtain ⟨g_19, hf⟩ := gm_grd hf
      refine gm_iast (G := GC) (u := u_14) (r := (a0 + 2)) (n := 32) (i := t_17) (x := t_18) C hw k_1_4 g_19 rfl dX3_worth_103 (fun H locs hw => ?_)
      obtain ⟨u_20, e_u_20, hf⟩ := gm_le hf
      rw [← e_u_20] at hw
      refine lv_iinc (v := v5_15 + (1 : Int32)) (lv' := [(5, .int (v5_15 + (1 : Int32))), (0, rv Z a0), (1, .int a1), (2, .int a2), (3, .int a3), (4, .int a4), (6, .int v6_16)]) hx hb dX3_worth_104 hl (k := 5) rfl rfl (by decide) rfl (fun ls hl => ?_)
      refine lv_goto (tgt := 195) hx hb dX3_worth_107 (by decide) ?_
      refine lv_iinc (v := v6_16 + (1 : Int32)) (lv' := [(6, .int (v6_16 + (1 : Int32))), (5, .int (v5_15 + (1 : Int32))), (0, rv Z a0), (1, .int a1), (2, .int a2), (3, .int a3), (4, .int a4)]) hx hb dX3_worth_195 hl (k := 6) rfl rfl (by decide) rfl (fun ls hl => ?_)
      refine lv_goto (tgt := 6) hx hb dX3_worth_198 (by decide) ?_
      exact Kc _ (gm_si hf) _ _ _ (lv_sub hl [2, 3, 4, 5, 6, 1, 0] rfl) hw
    refine lv_iload hx hb dX3_worth_6 (lv_at hl 6 rfl) ?_
    refine gm_aload_n (G := GC) (r := a0) C k_1_0 dX3_worth_8 rfl (lv_at hl 0 rfl) ?_
    refine gm_getI (G := GC) (u := u_4) (r := a0) (ci := 2) (k := 1) C hw k_1_0 fl_X3_15 dX3_worth_9 rfl ?_
    refine lv_icmp_ge (tgt := 201) hx hb dX3_worth_12 (by decide) (fun hc => ?_) (fun hc => ?_)
    · replace hf := (if_pos hc).symm.trans hf
      exact Kx _ (gm_si hf) _ _ _ (lv_sub hl [0, 5] rfl) hw
    · replace hf := (if_neg hc).symm.trans hf
      refine lv_iload hx hb dX3_worth_15 (lv_at hl 6 rfl) ?_
      refine gm_aload_n (G := GC) (r := a0) C k_1_0 dX3_worth_17 rfl (lv_at hl 0 rfl) ?_
      refine gm_getS (G := GC) (u := u_4) (r := a0) (ci := 2) (k := 0) C hw k_1_0 fl_X3_9 dX3_worth_18 rfl (q := a0 + 1) k_1_1 ?_
      refine gm_alen (G := GC) (u := u_4) (r := (a0 + 1)) (t := 0) (n := 1000) (v := 1000) C hw k_1_2 (by decide) (by decide) dX3_worth_21 ?_
      refine lv_icmp_ge (tgt := 201) hx hb dX3_worth_22 (by decide) (fun hc => ?_) (fun hc => ?_)
      · replace hf := (if_pos hc).symm.trans hf
        exact Kx _ (gm_si hf) _ _ _ (lv_sub hl [0, 5] rfl) hw
      · replace hf := (if_neg hc).symm.trans hf
        refine gm_aload_n (G := GC) (r := a0) C k_1_0 dX3_worth_25 rfl (lv_at hl 0 rfl) ?_
        refine gm_getS (G := GC) (u := u_4) (r := a0) (ci := 2) (k := 0) C hw k_1_0 fl_X3_9 dX3_worth_26 rfl (q := a0 + 1) k_1_1 ?_
        refine lv_iload hx hb dX3_worth_29 (lv_at hl 6 rfl) ?_
        obtain ⟨g_21, hf⟩ := gm_grd hf
        refine gm_iald (G := GC) (u := u_4) (r := (a0 + 1)) (n := 1000) (i := v6_6) C hw k_1_2 g_21 rfl dX3_worth_31 ?_
        obtain ⟨v7_22, e_v7_22, hf⟩ := gm_le hf
        refine gm_topI e_v7_22 ?_
        refine lv_istore (i := 7) (lv' := [(7, .int v7_22), (0, rv Z a0), (1, .int a1), (2, .int a2), (3, .int a3), (4, .int a4), (5, .int v5_5), (6, .int v6_6)]) hx hb dX3_worth_32 hl (by decide) rfl (fun ls hl => ?_)
        refine lv_iload hx hb dX3_worth_34 (lv_at hl 0 rfl) ?_
        refine lv_bipush (v := -5) hx hb dX3_worth_36 (by decide) ?_
        refine lv_icmp_le (tgt := 110) hx hb dX3_worth_38 (by decide) (fun hc => ?_) (fun hc => ?_)
        · replace hf := (if_pos hc).symm.trans hf
          refine lv_iload hx hb dX3_worth_110 (lv_at hl 0 rfl) ?_
          refine lv_bipush (v := -5) hx hb dX3_worth_112 (by decide) ?_
          refine lv_icmp_ne (tgt := 154) hx hb dX3_worth_114 (by decide) (fun hc => ?_) (fun hc => ?_)
          · replace hf := (if_neg hc).symm.trans hf
            refine lv_iload hx hb dX3_worth_154 (lv_at hl 6 rfl) ?_
            refine lv_iconst (v := 2) hx hb dX3_worth_156 (by decide) ?_
            refine lv_icmp_ge (tgt := 162) hx hb dX3_worth_157 (by decide) (fun hc => ?_) (fun hc => ?_)
            · replace hf := (if_pos hc).symm.trans hf
              refine lv_iinc (v := v5_5 + (-1 : Int32)) (lv' := [(5, .int (v5_5 + (-1 : Int32))), (7, .int v7_22), (0, rv Z a0), (1, .int a1), (2, .int a2), (3, .int a3), (4, .int a4), (6, .int v6_6)]) hx hb dX3_worth_162 hl (k := 6) rfl rfl (by decide) rfl (fun ls hl => ?_)
              refine gm_aload_n (G := GC) (r := a0) C k_1_0 dX3_worth_165 rfl (lv_at hl 2 rfl) ?_
              refine gm_getS (G := GC) (u := u_4) (r := a0) (ci := 2) (k := 2) C hw k_1_0 fl_X3_19 dX3_worth_166 rfl (q := a0 + 2) k_1_3 ?_
              refine lv_iload hx hb dX3_worth_169 (lv_at hl 0 rfl) ?_
              refine lv_iconst (v := 1) hx hb dX3_worth_171 (by decide) ?_
              refine lv_isub hx hb dX3_worth_172 ?_
              refine lv_iload hx hb dX3_worth_173 (lv_at hl 1 rfl) ?_
              refine gm_aload_n (G := GC) (r := a0) C k_1_0 dX3_worth_175 rfl (lv_at hl 2 rfl) ?_
              refine gm_getS (G := GC) (u := u_4) (r := a0) (ci := 2) (k := 2) C hw k_1_0 fl_X3_19 dX3_worth_176 rfl (q := a0 + 2) k_1_3 ?_
              refine lv_iload hx hb dX3_worth_179 (lv_at hl 0 rfl) ?_
              refine lv_iconst (v := 1) hx hb dX3_worth_181 (by decide) ?_
              refine lv_isub hx hb dX3_worth_182 ?_
              obtain ⟨g_23, hf⟩ := gm_grd hf
              refine gm_iald (G := GC) (u := u_4) (r := (a0 + 2)) (n := 32) (i := (v5_5 + (-1 : Int32)) - (1 : Int32)) C hw k_1_4 g_23 rfl dX3_worth_183 ?_
              refine gm_aload_n (G := GC) (r := a0) C k_1_0 dX3_worth_184 rfl (lv_at hl 2 rfl) ?_
              refine gm_getS (G := GC) (u := u_4) (r := a0) (ci := 2) (k := 2) C hw k_1_0 fl_X3_19 dX3_worth_185 rfl (q := a0 + 2) k_1_3 ?_
              refine lv_iload hx hb dX3_worth_188 (lv_at hl 0 rfl) ?_
              obtain ⟨g_24, hf⟩ := gm_grd hf
              refine gm_iald (G := GC) (u := u_4) (r := (a0 + 2)) (n := 32) (i := v5_5 + (-1 : Int32)) C hw k_1_4 g_24 rfl dX3_worth_190 ?_
              obtain ⟨r_25, e_r_25, hf⟩ := gm_le hf
              refine gm_callS (G := GC) (u := u_4) (u' := u_4) (As := [.int v7_22, .int (gI u_4 (a0 + 2) (ix ((v5_5 + (-1 : Int32)) - (1 : Int32)))), .int (gI u_4 (a0 + 2) (ix (v5_5 + (-1 : Int32))))]) (rest := [.int ((v5_5 + (-1 : Int32)) - (1 : Int32)), rv Z (a0 + 2)]) (res := (some (.int (f_X3_joined v7_22 (gI u_4 (a0 + 2) (ix ((v5_5 + (-1 : Int32)) - (1 : Int32)))) (gI u_4 (a0 + 2) (ix (v5_5 + (-1 : Int32)))))))) C hw hl (ok_X3_joined l Z v7_22 (gI u_4 (a0 + 2) (ix ((v5_5 + (-1 : Int32)) - (1 : Int32)))) (gI u_4 (a0 + 2) (ix (v5_5 + (-1 : Int32)))) u_4) cw_X3_22 st_X3_joined rfl rfl ⟨Nat.le_trans (Nat.le_of_ble_eq_true rfl) hRf, Nat.le_trans (Nat.le_of_ble_eq_true rfl) hRl⟩ rfl rfl (by simp [gm_cat, gm_catI, gm_catJ]) dX3_worth_191 (fun H locs hw => ?_)
              refine gm_topI e_r_25 ?_
              refine gm_iast (G := GC) (u := u_4) (r := (a0 + 2)) (n := 32) (i := (v5_5 + (-1 : Int32)) - (1 : Int32)) (x := r_25) C hw k_1_4 g_23 rfl dX3_worth_194 (fun H locs hw => ?_)
              obtain ⟨u_26, e_u_26, hf⟩ := gm_le hf
              rw [← e_u_26] at hw
              refine lv_iinc (v := v6_6 + (1 : Int32)) (lv' := [(6, .int (v6_6 + (1 : Int32))), (5, .int (v5_5 + (-1 : Int32))), (7, .int v7_22), (0, rv Z a0), (1, .int a1), (2, .int a2), (3, .int a3), (4, .int a4)]) hx hb dX3_worth_195 hl (k := 7) rfl rfl (by decide) rfl (fun ls hl => ?_)
              refine lv_goto (tgt := 6) hx hb dX3_worth_198 (by decide) ?_
              exact Kc _ (gm_si hf) _ _ _ (lv_sub hl [3, 4, 5, 6, 7, 1, 0] rfl) hw
            · replace hf := (if_neg hc).symm.trans hf
              exact Kx _ (gm_si hf) _ _ _ (lv_sub hl [] rfl) hw
          · replace hf := (if_pos hc).symm.trans hf
            refine lv_iload hx hb dX3_worth_117 (lv_at hl 6 rfl) ?_
            refine lv_iconst (v := 1) hx hb dX3_worth_119 (by decide) ?_
            refine lv_icmp_ge (tgt := 125) hx hb dX3_worth_120 (by decide) (fun hc => ?_) (fun hc => ?_)
            · replace hf := (if_pos hc).symm.trans hf
              refine gm_aload_n (G := GC) (r := a0) C k_1_0 dX3_worth_125 rfl (lv_at hl 1 rfl) ?_
              refine gm_getS (G := GC) (u := u_4) (r := a0) (ci := 2) (k := 2) C hw k_1_0 fl_X3_19 dX3_worth_126 rfl (q := a0 + 2) k_1_3 ?_
              refine lv_iload hx hb dX3_worth_129 (lv_at hl 6 rfl) ?_
              refine lv_iconst (v := 1) hx hb dX3_worth_131 (by decide) ?_
              refine lv_isub hx hb dX3_worth_132 ?_
              refine gm_aload_n (G := GC) (r := a0) C k_1_0 dX3_worth_133 rfl (lv_at hl 1 rfl) ?_
              refine gm_getS (G := GC) (u := u_4) (r := a0) (ci := 2) (k := 2) C hw k_1_0 fl_X3_19 dX3_worth_134 rfl (q := a0 + 2) k_1_3 ?_
              refine lv_iload hx hb dX3_worth_137 (lv_at hl 6 rfl) ?_
              refine lv_iconst (v := 1) hx hb dX3_worth_139 (by decide) ?_
              refine lv_isub hx hb dX3_worth_140 ?_
              obtain ⟨g_27, hf⟩ := gm_grd hf
              refine gm_iald (G := GC) (u := u_4) (r := (a0 + 2)) (n := 32) (i := v5_5 - (1 : Int32)) C hw k_1_4 g_27 rfl dX3_worth_141 ?_
              refine lv_if_ne (tgt := 149) hx hb dX3_worth_142 (by decide) (fun hc => ?_) (fun hc => ?_)
              · replace hf := (if_neg hc).symm.trans hf
                refine lv_iconst (v := 0) hx hb dX3_worth_149 (by decide) ?_
                exact J150 v5_5 v6_6 (v5_5 - (1 : Int32)) (0 : Int32) u_4 _ _ _ hf  (lv_sub hl [1, 2, 3, 4, 5, 6, 7] rfl) hw
              · replace hf := (if_pos hc).symm.trans hf
                refine lv_iconst (v := 1) hx hb dX3_worth_145 (by decide) ?_
                refine lv_goto (tgt := 150) hx hb dX3_worth_146 (by decide) ?_
                exact J150 v5_5 v6_6 (v5_5 - (1 : Int32)) (1 : Int32) u_4 _ _ _ hf  (lv_sub hl [1, 2, 3, 4, 5, 6, 7] rfl) hw
            · replace hf := (if_neg hc).symm.trans hf
              exact Kx _ (gm_si hf) _ _ _ (lv_sub hl [] rfl) hw
        · replace hf := (if_neg hc).symm.trans hf
          refine lv_iload hx hb dX3_worth_41 (lv_at hl 6 rfl) ?_
          refine gm_aload_n (G := GC) (r := a0) C k_1_0 dX3_worth_43 rfl (lv_at hl 1 rfl) ?_
          refine gm_getS (G := GC) (u := u_4) (r := a0) (ci := 2) (k := 2) C hw k_1_0 fl_X3_19 dX3_worth_44 rfl (q := a0 + 2) k_1_3 ?_
          refine gm_alen (G := GC) (u := u_4) (r := (a0 + 2)) (t := 0) (n := 32) (v := 32) C hw k_1_4 (by decide) (by decide) dX3_worth_47 ?_
          refine lv_icmp_lt (tgt := 53) hx hb dX3_worth_48 (by decide) (fun hc => ?_) (fun hc => ?_)
          · replace hf := (if_pos hc).symm.trans hf
            refine gm_aload_n (G := GC) (r := a0) C k_1_0 dX3_worth_53 rfl (lv_at hl 1 rfl) ?_
            refine gm_getS (G := GC) (u := u_4) (r := a0) (ci := 2) (k := 2) C hw k_1_0 fl_X3_19 dX3_worth_54 rfl (q := a0 + 2) k_1_3 ?_
            refine lv_iload hx hb dX3_worth_57 (lv_at hl 6 rfl) ?_
            refine lv_iload hx hb dX3_worth_59 (lv_at hl 0 rfl) ?_
            refine lv_if_lt (tgt := 69) hx hb dX3_worth_61 (by decide) (fun hc => ?_) (fun hc => ?_)
            · replace hf := (if_pos hc).symm.trans hf
              refine lv_iload hx hb dX3_worth_69 (lv_at hl 0 rfl) ?_
              refine lv_iconst (v := -1) hx hb dX3_worth_71 (by decide) ?_
              refine lv_icmp_ne (tgt := 79) hx hb dX3_worth_72 (by decide) (fun hc => ?_) (fun hc => ?_)
              · replace hf := (if_neg hc).symm.trans hf
                refine lv_iload hx hb dX3_worth_79 (lv_at hl 0 rfl) ?_
                refine lv_bipush (v := -2) hx hb dX3_worth_81 (by decide) ?_
                refine lv_icmp_ne (tgt := 90) hx hb dX3_worth_83 (by decide) (fun hc => ?_) (fun hc => ?_)
                · replace hf := (if_neg hc).symm.trans hf
                  refine lv_iload hx hb dX3_worth_90 (lv_at hl 0 rfl) ?_
                  refine lv_bipush (v := -3) hx hb dX3_worth_92 (by decide) ?_
                  refine lv_icmp_ne (tgt := 101) hx hb dX3_worth_94 (by decide) (fun hc => ?_) (fun hc => ?_)
                  · replace hf := (if_neg hc).symm.trans hf
                    refine lv_iload hx hb dX3_worth_101 (lv_at hl 5 rfl) ?_
                    exact J103 v5_5 v6_6 v5_5 a4 u_4 _ _ _ hf  (lv_sub hl [1, 2, 3, 4, 5, 6, 7] rfl) hw
                  · replace hf := (if_pos hc).symm.trans hf
                    refine lv_iload_n hx hb dX3_worth_97 rfl (lv_at hl 4 rfl) ?_
                    refine lv_goto (tgt := 103) hx hb dX3_worth_98 (by decide) ?_
                    exact J103 v5_5 v6_6 v5_5 a3 u_4 _ _ _ hf  (lv_sub hl [1, 2, 3, 4, 5, 6, 7] rfl) hw
                · replace hf := (if_pos hc).symm.trans hf
                  refine lv_iload_n hx hb dX3_worth_86 rfl (lv_at hl 3 rfl) ?_
                  refine lv_goto (tgt := 103) hx hb dX3_worth_87 (by decide) ?_
                  exact J103 v5_5 v6_6 v5_5 a2 u_4 _ _ _ hf  (lv_sub hl [1, 2, 3, 4, 5, 6, 7] rfl) hw
              · replace hf := (if_pos hc).symm.trans hf
                refine lv_iload_n hx hb dX3_worth_75 rfl (lv_at hl 2 rfl) ?_
                refine lv_goto (tgt := 103) hx hb dX3_worth_76 (by decide) ?_
                exact J103 v5_5 v6_6 v5_5 a1 u_4 _ _ _ hf  (lv_sub hl [1, 2, 3, 4, 5, 6, 7] rfl) hw
            · replace hf := (if_neg hc).symm.trans hf
              refine lv_iload hx hb dX3_worth_64 (lv_at hl 0 rfl) ?_
              refine lv_goto (tgt := 103) hx hb dX3_worth_66 (by decide) ?_
              exact J103 v5_5 v6_6 v5_5 v7_22 u_4 _ _ _ hf  (lv_sub hl [1, 2, 3, 4, 5, 6, 7] rfl) hw
          · replace hf := (if_neg hc).symm.trans hf
            exact Kx _ (gm_si hf) _ _ _ (lv_sub hl [] rfl) hw)
  refine L6_1 _ _ _ hlp ?_ _ _ _ (lv_sub hl [2, 3, 4, 5, 6, 1, 0] rfl) hw
  cases o1 with
  | inl q0_z_33 =>
    obtain ⟨u_28, rfl⟩ : ∃ y, y = q0_z_33 := ⟨_, rfl⟩
    intro H locs ls hl hw
    try dsimp only at hf
    refine lv_iconst (v := 0) hx hb dX3_worth_51 (by decide) ?_
    exact gm_iret C E hw rfl ((congrArg (fun z => some (Value.int z)) (gm_sp hf).1).symm) (gm_sp hf).2.symm dX3_worth_52
  | inr p0_z_33 =>
    cases p0_z_33 with
    | inl q1_z_33 =>
      obtain ⟨u_29, rfl⟩ : ∃ y, y = q1_z_33 := ⟨_, rfl⟩
      intro H locs ls hl hw
      try dsimp only at hf
      refine lv_iconst (v := 0) hx hb dX3_worth_123 (by decide) ?_
      exact gm_iret C E hw rfl ((congrArg (fun z => some (Value.int z)) (gm_sp hf).1).symm) (gm_sp hf).2.symm dX3_worth_124
    | inr p1_z_33 =>
      cases p1_z_33 with
      | inl q2_z_33 =>
        obtain ⟨u_30, rfl⟩ : ∃ y, y = q2_z_33 := ⟨_, rfl⟩
        intro H locs ls hl hw
        try dsimp only at hf
        refine lv_iconst (v := 0) hx hb dX3_worth_160 (by decide) ?_
        exact gm_iret C E hw rfl ((congrArg (fun z => some (Value.int z)) (gm_sp hf).1).symm) (gm_sp hf).2.symm dX3_worth_161
      | inr p2_z_33 =>
        obtain ⟨w5_31, u_32⟩ := p2_z_33
        intro H locs ls hl hw
        try dsimp only at hf
        exact J201 w5_31 u_32 _ _ _ hf  (lv_sub hl [0, 1] rfl) hw
/-! LeapCapital$Hearing.rankOf -/
def f_X2_rankOf (a1 : Nat) (a2 : Nat) (a3 : Int32) (u : gm_M) : Option (Int64 × gm_M) := (f_X5_bornOf a1 a3 u).bind fun r_3 => gm_let ((gI u a2 0) - r_3) fun v4_5 => (f_X1_stoodOf a2 a3 u).bind fun r_7 => (f_X5_pleaOf a1 a3 u).bind fun r_9 => (f_X1_daysOf a2 a3 u).bind fun r_11 => (f_X3_worth (a1 + 5) r_7 r_9 v4_5 r_11 u).bind fun o => match o with | (r_13, u_14) => gm_let (r_13.toInt64) fun v5_17 => (f_X5_kindOf a1 a3 u_14).bind fun r_18 => if r_18 = (1 : Int32) then some ((8589934592 : Int64) + v5_17, u_14) else some ((0 : Int64) + v5_17, u_14)
set_option maxRecDepth 100000 in
set_option maxHeartbeats 4000000 in
theorem ok_X2_rankOf (l : Launch) (Z : gm_Z) (a1 : Nat) (a2 : Nat) (a3 : Int32) (u : gm_M) (h1 : isRealm a1 = true) (h2 : isCourt a2 = true) (r : Int64) (u' : gm_M) (hf : f_X2_rankOf a1 a2 a3 u = some (r, u')) : gm_Met l GC Z yX2_rankOf cX2_rankOf 9 (some .long) ({ frames := 2, cells := 0, slots := 0, locals := 49 }) [rv Z 35, rv Z a1, rv Z a2, .int a3] u (some (.long r)) u' := by
  unfold f_X2_rankOf at hf
  refine gm_ofW (by decide +kernel) (by simp [lg_sl, gm_cat, gm_catI, gm_catJ]) ?_
  intro p e s m args below meth c A ls Q R hRf hRl C E hl hw
  obtain ⟨hx, hb, -⟩ := id C
  have hl : lv_has ls 9 [(0, rv Z 35), (1, rv Z a1), (2, rv Z a2), (3, .int a3)] := by simpa [lv_args, gm_cat, gm_catI, gm_catJ] using hl
  obtain ⟨k_1_0, k_1_1, k_1_2, k_1_3, k_1_4, k_1_5, k_1_6, k_1_7, k_1_8, k_1_9, k_1_10, k_1_11⟩ := fc_Realm h1
  obtain ⟨k_2_0, k_2_1, k_2_2, k_2_3, k_2_4, k_2_5, k_2_6⟩ := fc_Court h2
  refine gm_aload_n (G := GC) (r := a2) C k_2_0 dX2_rankOf_0 rfl (lv_at hl 2 rfl) ?_
  refine gm_getI (G := GC) (u := u) (r := a2) (ci := 0) (k := 0) C hw k_2_0 fl_X2_29 dX2_rankOf_1 rfl ?_
  refine gm_aload_n (G := GC) (r := a1) C k_1_0 dX2_rankOf_4 rfl (lv_at hl 1 rfl) ?_
  refine lv_iload_n hx hb dX2_rankOf_5 rfl (lv_at hl 3 rfl) ?_
  obtain ⟨r_3, hc_4, hf⟩ := gm_bnd hf
  refine gm_callV (G := GC) (u := u) (u' := u) (r := a1) (ci := 4) (As := [.int a3]) (rest := [.int (gI u a2 0)]) (res := (some (.int r_3))) C hw hl (ok_X5_bornOf l Z a1 a3 u h1 r_3 hc_4) cw_X2_100 im_X5_bornOf rfl se_X5_bornOf k_1_0 rfl rfl ⟨Nat.le_trans (Nat.le_of_ble_eq_true rfl) hRf, Nat.le_trans (Nat.le_of_ble_eq_true rfl) hRl⟩ rfl rfl (Nat.le_of_ble_eq_true rfl) dX2_rankOf_6 (fun H locs hw => ?_)
  refine lv_isub hx hb dX2_rankOf_9 ?_
  obtain ⟨v4_5, e_v4_5, hf⟩ := gm_le hf
  refine gm_topI e_v4_5 ?_
  refine lv_istore (i := 4) (lv' := [(4, .int v4_5), (0, rv Z 35), (1, rv Z a1), (2, rv Z a2), (3, .int a3)]) hx hb dX2_rankOf_10 hl (by decide) rfl (fun ls hl => ?_)
  refine gm_aload_n (G := GC) (r := a1) C k_1_0 dX2_rankOf_12 rfl (lv_at hl 2 rfl) ?_
  refine gm_getS (G := GC) (u := u) (r := a1) (ci := 4) (k := 8) C hw k_1_0 fl_X2_103 dX2_rankOf_13 rfl (q := a1 + 5) k_1_9 ?_
  obtain ⟨k_6_0, k_6_1, k_6_2, k_6_3, k_6_4⟩ := fc_Law k_1_11
  refine gm_aload_n (G := GC) (r := a2) C k_2_0 dX2_rankOf_16 rfl (lv_at hl 3 rfl) ?_
  refine lv_iload_n hx hb dX2_rankOf_17 rfl (lv_at hl 4 rfl) ?_
  obtain ⟨r_7, hc_8, hf⟩ := gm_bnd hf
  refine gm_callV (G := GC) (u := u) (u' := u) (r := a2) (ci := 0) (As := [.int a3]) (rest := [rv Z (a1 + 5)]) (res := (some (.int r_7))) C hw hl (ok_X1_stoodOf l Z a2 a3 u h2 r_7 hc_8) cw_X2_107 im_X1_stoodOf rfl se_X1_stoodOf k_2_0 rfl rfl ⟨Nat.le_trans (Nat.le_of_ble_eq_true rfl) hRf, Nat.le_trans (Nat.le_of_ble_eq_true rfl) hRl⟩ rfl rfl (by simp [gm_cat, gm_catI, gm_catJ]) dX2_rankOf_18 (fun H locs hw => ?_)
  refine gm_aload_n (G := GC) (r := a1) C k_1_0 dX2_rankOf_21 rfl (lv_at hl 2 rfl) ?_
  refine lv_iload_n hx hb dX2_rankOf_22 rfl (lv_at hl 4 rfl) ?_
  obtain ⟨r_9, hc_10, hf⟩ := gm_bnd hf
  refine gm_callV (G := GC) (u := u) (u' := u) (r := a1) (ci := 4) (As := [.int a3]) (rest := [.int r_7, rv Z (a1 + 5)]) (res := (some (.int r_9))) C hw hl (ok_X5_pleaOf l Z a1 a3 u h1 r_9 hc_10) cw_X2_81 im_X5_pleaOf rfl se_X5_pleaOf k_1_0 rfl rfl ⟨Nat.le_trans (Nat.le_of_ble_eq_true rfl) hRf, Nat.le_trans (Nat.le_of_ble_eq_true rfl) hRl⟩ rfl rfl (by simp [gm_cat, gm_catI, gm_catJ]) dX2_rankOf_23 (fun H locs hw => ?_)
  refine lv_iload hx hb dX2_rankOf_26 (lv_at hl 0 rfl) ?_
  refine gm_aload_n (G := GC) (r := a2) C k_2_0 dX2_rankOf_28 rfl (lv_at hl 3 rfl) ?_
  refine lv_iload_n hx hb dX2_rankOf_29 rfl (lv_at hl 4 rfl) ?_
  obtain ⟨r_11, hc_12, hf⟩ := gm_bnd hf
  refine gm_callV (G := GC) (u := u) (u' := u) (r := a2) (ci := 0) (As := [.int a3]) (rest := [.int v4_5, .int r_9, .int r_7, rv Z (a1 + 5)]) (res := (some (.int r_11))) C hw hl (ok_X1_daysOf l Z a2 a3 u h2 r_11 hc_12) cw_X2_110 im_X1_daysOf rfl se_X1_daysOf k_2_0 rfl rfl ⟨Nat.le_trans (Nat.le_of_ble_eq_true rfl) hRf, Nat.le_trans (Nat.le_of_ble_eq_true rfl) hRl⟩ rfl rfl (by simp [gm_cat, gm_catI, gm_catJ]) dX2_rankOf_30 (fun H locs hw => ?_)
  obtain ⟨⟨r_13, u_14⟩, hc_15, hf⟩ := gm_bnd hf
  try dsimp only at hf
  refine gm_callV (G := GC) (u := u) (u' := u_14) (r := (a1 + 5)) (ci := 2) (As := [.int r_7, .int r_9, .int v4_5, .int r_11]) (rest := []) (res := (some (.int r_13))) C hw hl (ok_X3_worth l Z (a1 + 5) r_7 r_9 v4_5 r_11 u k_1_11 r_13 u_14 hc_15) cw_X2_113 im_X3_worth rfl se_X3_worth k_6_0 rfl rfl ⟨Nat.le_trans (Nat.le_of_ble_eq_true rfl) hRf, Nat.le_trans (Nat.le_of_ble_eq_true rfl) hRl⟩ rfl rfl (Nat.le_of_ble_eq_true rfl) dX2_rankOf_33 (fun H locs hw => ?_)
  refine lv_i2l hx hb dX2_rankOf_36 rfl ?_
  obtain ⟨v5_17, e_v5_17, hf⟩ := gm_le hf
  refine gm_topJ e_v5_17 ?_
  refine lv_lstore (i := 5) (lv' := [(5, .long v5_17), (4, .int v4_5), (0, rv Z 35), (1, rv Z a1), (2, rv Z a2), (3, .int a3)]) hx hb dX2_rankOf_37 hl (by decide) rfl (fun ls hl => ?_)
  refine gm_aload_n (G := GC) (r := a1) C k_1_0 dX2_rankOf_39 rfl (lv_at hl 3 rfl) ?_
  refine lv_iload_n hx hb dX2_rankOf_40 rfl (lv_at hl 5 rfl) ?_
  obtain ⟨r_18, hc_19, hf⟩ := gm_bnd hf
  refine gm_callV (G := GC) (u := u_14) (u' := u_14) (r := a1) (ci := 4) (As := [.int a3]) (rest := []) (res := (some (.int r_18))) C hw hl (ok_X5_kindOf l Z a1 a3 u_14 h1 r_18 hc_19) cw_X2_78 im_X5_kindOf rfl se_X5_kindOf k_1_0 rfl rfl ⟨Nat.le_trans (Nat.le_of_ble_eq_true rfl) hRf, Nat.le_trans (Nat.le_of_ble_eq_true rfl) hRl⟩ rfl rfl (Nat.le_of_ble_eq_true rfl) dX2_rankOf_41 (fun H locs hw => ?_)
  refine lv_iconst (v := 1) hx hb dX2_rankOf_44 (by decide) ?_
  refine lv_icmp_ne (tgt := 54) hx hb dX2_rankOf_45 (by decide) (fun hc => ?_) (fun hc => ?_)
  · replace hf := (if_neg hc).symm.trans hf
    refine lv_lconst (v := 0) hx hb dX2_rankOf_54 (by decide) ?_
    refine lv_lstore (i := 7) (lv' := [(7, .long (0 : Int64)), (5, .long v5_17), (4, .int v4_5), (0, rv Z 35), (1, rv Z a1), (2, rv Z a2), (3, .int a3)]) hx hb dX2_rankOf_55 hl (by decide) rfl (fun ls hl => ?_)
    refine lv_lload hx hb dX2_rankOf_57 (lv_at hl 0 rfl) ?_
    refine lv_lload hx hb dX2_rankOf_59 (lv_at hl 1 rfl) ?_
    refine lv_ladd hx hb dX2_rankOf_61 ?_
    exact gm_lret C E hw rfl ((congrArg (fun z => some (Value.long z)) (gm_sp hf).1).symm) (gm_sp hf).2.symm dX2_rankOf_62
  · replace hf := (if_pos hc).symm.trans hf
    refine lv_ldc2 hx hb C.2.2.2.1 (C.2.2.2.2.1 _ kn_X2_119) dX2_rankOf_48 ?_
    refine lv_goto (tgt := 55) hx hb dX2_rankOf_51 (by decide) ?_
    refine lv_lstore (i := 7) (lv' := [(7, .long (8589934592 : Int64)), (5, .long v5_17), (4, .int v4_5), (0, rv Z 35), (1, rv Z a1), (2, rv Z a2), (3, .int a3)]) hx hb dX2_rankOf_55 hl (by decide) rfl (fun ls hl => ?_)
    refine lv_lload hx hb dX2_rankOf_57 (lv_at hl 0 rfl) ?_
    refine lv_lload hx hb dX2_rankOf_59 (lv_at hl 1 rfl) ?_
    refine lv_ladd hx hb dX2_rankOf_61 ?_
    exact gm_lret C E hw rfl ((congrArg (fun z => some (Value.long z)) (gm_sp hf).1).symm) (gm_sp hf).2.symm dX2_rankOf_62
/-! LeapCapital$Hearing.putInOrder -/
def j_X2_putInOrder_108 (a1 : Nat) (a2 : Nat) (v3_7 : Int32) (v4_8 : Int32) (v5_9 : Int64) (v7_10 : Int32) (u_6 : gm_M) : Option ((Int32 × gm_M) ⊕ gm_M) := if ib v7_10 6 = true then gm_let (sJ u_6 37 (ix v7_10) v5_9) fun u_12 => gm_let (sI u_12 36 (ix v7_10) v4_8) fun u_13 => gm_let (sI u_13 35 2 ((gI u_13 35 2) + (1 : Int32))) fun u_14 => some (.inl (v3_7 + (1 : Int32), u_14)) else none
def b_X2_putInOrder_50 (a1 : Nat) (a2 : Nat) (v3_5 : Int32) (r_15 : Int32) (r_17 : Int64) : (Int32 × gm_M) → Option ((Int32 × gm_M) ⊕ ((Int32 × gm_M))) := fun x => match x with | (v7_23, u_22) => if v7_23 ≤ 0 then some (.inr (v7_23, u_22)) else if ib (v7_23 - (1 : Int32)) 6 = true then if 0 ≤ (lg_cmp (gJ u_22 37 (ix (v7_23 - (1 : Int32)))) r_17) then some (.inr (v7_23, u_22)) else if ib v7_23 6 = true then gm_let (sJ u_22 37 (ix v7_23) (gJ u_22 37 (ix (v7_23 - (1 : Int32))))) fun u_26 => gm_let (sI u_26 36 (ix v7_23) (gI u_26 36 (ix (v7_23 - (1 : Int32))))) fun u_27 => some (.inl (v7_23 + (-1 : Int32), u_27)) else none else none
def b_X2_putInOrder_7 (a1 : Nat) (a2 : Nat) : (Int32 × gm_M) → Option ((Int32 × gm_M) ⊕ gm_M) := fun x => match x with | (v3_5, u_4) => if (gI u_4 a2 3) ≤ v3_5 then some (.inr u_4) else if (6 : Int32) ≤ (gI u_4 35 2) then some (.inr u_4) else (f_X1_personAt a2 v3_5 u_4).bind fun r_15 => (f_X2_rankOf a1 a2 r_15 u_4).bind fun o => match o with | (r_17, u_18) => gm_let (gI u_18 35 2) fun v7_21 => ((gm_lp (b_X2_putInOrder_50 a1 a2 v3_5 r_15 r_17) gm_FU (v7_21, u_18)).bind fun o => match o with | (w7_28, u_29) => j_X2_putInOrder_108 a1 a2 v3_5 r_15 r_17 w7_28 u_29)
def f_X2_putInOrder (a1 : Nat) (a2 : Nat) (u : gm_M) : Option gm_M := gm_let (sI u 35 2 (0 : Int32)) fun u_3 => ((gm_lp (b_X2_putInOrder_7 a1 a2) gm_FU ((0 : Int32), u_3)).bind fun o => match o with | u_30 => some u_30)
set_option maxRecDepth 100000 in
set_option maxHeartbeats 4000000 in
theorem ok_X2_putInOrder (l : Launch) (Z : gm_Z) (a1 : Nat) (a2 : Nat) (u : gm_M) (h1 : isRealm a1 = true) (h2 : isCourt a2 = true) (u' : gm_M) (hf : f_X2_putInOrder a1 a2 u = some (u')) : gm_Met l GC Z yX2_putInOrder cX2_putInOrder 8 none ({ frames := 3, cells := 0, slots := 0, locals := 77 }) [rv Z 35, rv Z a1, rv Z a2] u none u' := by
  unfold f_X2_putInOrder at hf
  refine gm_ofW (by decide +kernel) (by simp [lg_sl, gm_cat, gm_catI, gm_catJ]) ?_
  intro p e s m args below meth c A ls Q R hRf hRl C E hl hw
  obtain ⟨hx, hb, -⟩ := id C
  have hl : lv_has ls 8 [(0, rv Z 35), (1, rv Z a1), (2, rv Z a2)] := by simpa [lv_args, gm_cat, gm_catI, gm_catJ] using hl
  obtain ⟨k_1_0, k_1_1, k_1_2, k_1_3, k_1_4, k_1_5, k_1_6, k_1_7, k_1_8, k_1_9, k_1_10, k_1_11⟩ := fc_Realm h1
  obtain ⟨k_2_0, k_2_1, k_2_2, k_2_3, k_2_4, k_2_5, k_2_6⟩ := fc_Court h2
  refine gm_aload_n (G := GC) (r := 35) C rfl dX2_putInOrder_0 rfl (lv_at hl 0 rfl) ?_
  refine lv_iconst (v := 0) hx hb dX2_putInOrder_1 (by decide) ?_
  refine gm_putI (G := GC) (u := u) (r := 35) (ci := 1) (k := 2) (v := (0 : Int32)) C hw rfl fl_X2_19 fp_1_2 dX2_putInOrder_2 rfl (fun H locs hw => ?_)
  obtain ⟨u_3, e_u_3, hf⟩ := gm_le hf
  rw [← e_u_3] at hw
  refine lv_iconst (v := 0) hx hb dX2_putInOrder_5 (by decide) ?_
  refine lv_istore_n (i := 3) (lv' := [(3, .int (0 : Int32)), (0, rv Z 35), (1, rv Z a1), (2, rv Z a2)]) hx hb dX2_putInOrder_6 rfl hl (by decide) (by simp [gm_cat, gm_catI, gm_catJ]) (fun ls hl => ?_)
  obtain ⟨o1, hlp, hf⟩ := gm_bnd hf
  have L7_2 := gm_loop (b_X2_putInOrder_7 a1 a2) (fun x : (Int32 × gm_M) => ∀ (H : Heap) (locs : List Loc) (ls : Array Slot), lv_has ls 8 [(0, rv Z 35), (1, rv Z a1), (2, rv Z a2), (3, .int x.1)] → wd GC Z x.2 A s.heap H locs → W p l e R s m args below meth c H locs 0 0 Q (F0 m 7 ls [])) (fun z : gm_M => ∀ (H : Heap) (locs : List Loc) (ls : Array Slot), lv_has ls 8 [] → wd GC Z z A s.heap H locs → W p l e R s m args below meth c H locs 0 0 Q (F0 m 142 ls [])) (by
    intro x o1 hf Kc Kx
    obtain ⟨v3_5, u_4⟩ := x
    intro H locs ls hl hw
    unfold b_X2_putInOrder_7 at hf
    try dsimp only at hf
    have J108 : ∀ (v3_7 : Int32) (v4_8 : Int32) (v5_9 : Int64) (v7_10 : Int32) (u_6 : gm_M) (H : Heap) (locs : List Loc) (ls : Array Slot), j_X2_putInOrder_108 a1 a2 v3_7 v4_8 v5_9 v7_10 u_6 = some o1 → lv_has ls 8 [(0, rv Z 35), (1, rv Z a1), (2, rv Z a2), (3, .int v3_7), (4, .int v4_8), (5, .long v5_9), (7, .int v7_10)] → wd GC Z u_6 A s.heap H locs → W p l e R s m args below meth c H locs 0 0 Q (F0 m 108 ls []) := by
      intro v3_7 v4_8 v5_9 v7_10 u_6 H locs ls hf  hl hw
      unfold j_X2_putInOrder_108 at hf
      refine gm_aload_n (G := GC) (r := 35) C rfl dX2_putInOrder_108 rfl (lv_at hl 0 rfl) ?_
      refine gm_getS (G := GC) (u := u_6) (r := 35) (ci := 1) (k := 1) C hw rfl fl_X2_15 dX2_putInOrder_109 rfl (q := 37) rfl ?_
      refine lv_iload hx hb dX2_putInOrder_112 (lv_at hl 6 rfl) ?_
      refine lv_lload hx hb dX2_putInOrder_114 (lv_at hl 5 rfl) ?_
      obtain ⟨g_11, hf⟩ := gm_grd hf
      refine gm_last (G := GC) (u := u_6) (r := 37) (n := 6) (i := v7_10) (x := v5_9) C hw rfl g_11 rfl dX2_putInOrder_116 (fun H locs hw => ?_)
      obtain ⟨u_12, e_u_12, hf⟩ := gm_le hf
      rw [← e_u_12] at hw
      refine gm_aload_n (G := GC) (r := 35) C rfl dX2_putInOrder_117 rfl (lv_at hl 0 rfl) ?_
      refine gm_getS (G := GC) (u := u_12) (r := 35) (ci := 1) (k := 0) C hw rfl fl_X2_9 dX2_putInOrder_118 rfl (q := 36) rfl ?_
      refine lv_iload hx hb dX2_putInOrder_121 (lv_at hl 6 rfl) ?_
      refine lv_iload hx hb dX2_putInOrder_123 (lv_at hl 4 rfl) ?_
      refine gm_iast (G := GC) (u := u_12) (r := 36) (n := 6) (i := v7_10) (x := v4_8) C hw rfl g_11 rfl dX2_putInOrder_125 (fun H locs hw => ?_)
      obtain ⟨u_13, e_u_13, hf⟩ := gm_le hf
      rw [← e_u_13] at hw
      refine gm_aload_n (G := GC) (r := 35) C rfl dX2_putInOrder_126 rfl (lv_at hl 0 rfl) ?_
      refine lv_dup hx hb dX2_putInOrder_127 (gm_cat _ _) ?_
      refine gm_getI (G := GC) (u := u_13) (r := 35) (ci := 1) (k := 2) C hw rfl fl_X2_19 dX2_putInOrder_128 rfl ?_
      refine lv_iconst (v := 1) hx hb dX2_putInOrder_131 (by decide) ?_
      refine lv_iadd hx hb dX2_putInOrder_132 ?_
      refine gm_putI (G := GC) (u := u_13) (r := 35) (ci := 1) (k := 2) (v := (gI u_13 35 2) + (1 : Int32)) C hw rfl fl_X2_19 fp_1_2 dX2_putInOrder_133 rfl (fun H locs hw => ?_)
      obtain ⟨u_14, e_u_14, hf⟩ := gm_le hf
      rw [← e_u_14] at hw
      refine lv_iinc (v := v3_7 + (1 : Int32)) (lv' := [(3, .int (v3_7 + (1 : Int32))), (0, rv Z 35), (1, rv Z a1), (2, rv Z a2), (4, .int v4_8), (5, .long v5_9), (7, .int v7_10)]) hx hb dX2_putInOrder_136 hl (k := 3) rfl rfl (by decide) (by simp [gm_cat, gm_catI, gm_catJ]) (fun ls hl => ?_)
      refine lv_goto (tgt := 7) hx hb dX2_putInOrder_139 (by decide) ?_
      exact Kc _ (gm_si hf) _ _ _ (lv_sub hl [1, 2, 3, 0] rfl) hw
    refine lv_iload_n hx hb dX2_putInOrder_7 rfl (lv_at hl 3 rfl) ?_
    refine gm_aload_n (G := GC) (r := a2) C k_2_0 dX2_putInOrder_8 rfl (lv_at hl 2 rfl) ?_
    refine gm_getI (G := GC) (u := u_4) (r := a2) (ci := 0) (k := 3) C hw k_2_0 fl_X2_90 dX2_putInOrder_9 rfl ?_
    refine lv_icmp_ge (tgt := 142) hx hb dX2_putInOrder_12 (by decide) (fun hc => ?_) (fun hc => ?_)
    · replace hf := (if_pos hc).symm.trans hf
      exact Kx _ (gm_si hf) _ _ _ (lv_sub hl [] rfl) hw
    · replace hf := (if_neg hc).symm.trans hf
      refine gm_aload_n (G := GC) (r := 35) C rfl dX2_putInOrder_15 rfl (lv_at hl 0 rfl) ?_
      refine gm_getI (G := GC) (u := u_4) (r := 35) (ci := 1) (k := 2) C hw rfl fl_X2_19 dX2_putInOrder_16 rfl ?_
      refine gm_aload_n (G := GC) (r := 35) C rfl dX2_putInOrder_19 rfl (lv_at hl 0 rfl) ?_
      refine gm_getS (G := GC) (u := u_4) (r := 35) (ci := 1) (k := 0) C hw rfl fl_X2_9 dX2_putInOrder_20 rfl (q := 36) rfl ?_
      refine gm_alen (G := GC) (u := u_4) (r := 36) (t := 0) (n := 6) (v := 6) C hw rfl (by decide) (by decide) dX2_putInOrder_23 ?_
      refine lv_icmp_ge (tgt := 142) hx hb dX2_putInOrder_24 (by decide) (fun hc => ?_) (fun hc => ?_)
      · replace hf := (if_pos hc).symm.trans hf
        exact Kx _ (gm_si hf) _ _ _ (lv_sub hl [] rfl) hw
      · replace hf := (if_neg hc).symm.trans hf
        refine gm_aload_n (G := GC) (r := a2) C k_2_0 dX2_putInOrder_27 rfl (lv_at hl 2 rfl) ?_
        refine lv_iload_n hx hb dX2_putInOrder_28 rfl (lv_at hl 3 rfl) ?_
        obtain ⟨r_15, hc_16, hf⟩ := gm_bnd hf
        refine gm_callV (G := GC) (u := u_4) (u' := u_4) (r := a2) (ci := 0) (As := [.int v3_5]) (rest := []) (res := (some (.int r_15))) C hw hl (ok_X1_personAt l Z a2 v3_5 u_4 h2 r_15 hc_16) cw_X2_93 im_X1_personAt rfl se_X1_personAt k_2_0 rfl rfl ⟨Nat.le_trans (Nat.le_of_ble_eq_true rfl) hRf, Nat.le_trans (Nat.le_of_ble_eq_true rfl) hRl⟩ rfl rfl (Nat.le_of_ble_eq_true rfl) dX2_putInOrder_29 (fun H locs hw => ?_)
        refine lv_istore (i := 4) (lv' := [(4, .int r_15), (0, rv Z 35), (1, rv Z a1), (2, rv Z a2), (3, .int v3_5)]) hx hb dX2_putInOrder_32 hl (by decide) rfl (fun ls hl => ?_)
        refine gm_aload_n (G := GC) (r := 35) C rfl dX2_putInOrder_34 rfl (lv_at hl 1 rfl) ?_
        refine gm_aload_n (G := GC) (r := a1) C k_1_0 dX2_putInOrder_35 rfl (lv_at hl 2 rfl) ?_
        refine gm_aload_n (G := GC) (r := a2) C k_2_0 dX2_putInOrder_36 rfl (lv_at hl 3 rfl) ?_
        refine lv_iload hx hb dX2_putInOrder_37 (lv_at hl 0 rfl) ?_
        obtain ⟨⟨r_17, u_18⟩, hc_19, hf⟩ := gm_bnd hf
        try dsimp only at hf
        refine gm_callV (G := GC) (u := u_4) (u' := u_18) (r := 35) (ci := 1) (As := [rv Z a1, rv Z a2, .int r_15]) (rest := []) (res := (some (.long r_17))) C hw hl (ok_X2_rankOf l Z a1 a2 r_15 u_4 h1 h2 r_17 u_18 hc_19) cw_X2_96 im_X2_rankOf rfl se_X2_rankOf rfl rfl rfl ⟨Nat.le_trans (Nat.le_of_ble_eq_true rfl) hRf, Nat.le_trans (Nat.le_of_ble_eq_true rfl) hRl⟩ rfl rfl (Nat.le_of_ble_eq_true rfl) dX2_putInOrder_39 (fun H locs hw => ?_)
        refine lv_lstore (i := 5) (lv' := [(5, .long r_17), (4, .int r_15), (0, rv Z 35), (1, rv Z a1), (2, rv Z a2), (3, .int v3_5)]) hx hb dX2_putInOrder_42 hl (by decide) rfl (fun ls hl => ?_)
        refine gm_aload_n (G := GC) (r := 35) C rfl dX2_putInOrder_44 rfl (lv_at hl 2 rfl) ?_
        refine gm_getI (G := GC) (u := u_18) (r := 35) (ci := 1) (k := 2) C hw rfl fl_X2_19 dX2_putInOrder_45 rfl ?_
        obtain ⟨v7_21, e_v7_21, hf⟩ := gm_le hf
        refine gm_topI e_v7_21 ?_
        refine lv_istore (i := 7) (lv' := [(7, .int v7_21), (5, .long r_17), (4, .int r_15), (0, rv Z 35), (1, rv Z a1), (2, rv Z a2), (3, .int v3_5)]) hx hb dX2_putInOrder_48 hl (by decide) rfl (fun ls hl => ?_)
        obtain ⟨o2, hlp, hf⟩ := gm_bnd hf
        have L50_2 := gm_loop (b_X2_putInOrder_50 a1 a2 v3_5 r_15 r_17) (fun x : (Int32 × gm_M) => ∀ (H : Heap) (locs : List Loc) (ls : Array Slot), lv_has ls 8 [(0, rv Z 35), (1, rv Z a1), (2, rv Z a2), (3, .int v3_5), (4, .int r_15), (5, .long r_17), (7, .int x.1)] → wd GC Z x.2 A s.heap H locs → W p l e R s m args below meth c H locs 0 0 Q (F0 m 50 ls [])) (fun z : ((Int32 × gm_M)) => ∀ (H : Heap) (locs : List Loc) (ls : Array Slot), lv_has ls 8 [(0, rv Z 35), (1, rv Z a1), (2, rv Z a2), (3, .int v3_5), (4, .int r_15), (5, .long r_17), (7, .int z.1)] → wd GC Z z.2 A s.heap H locs → W p l e R s m args below meth c H locs 0 0 Q (F0 m 108 ls [])) (by
          intro x o2 hf Kc Kx
          obtain ⟨v7_23, u_22⟩ := x
          intro H locs ls hl hw
          unfold b_X2_putInOrder_50 at hf
          try dsimp only at hf
          refine lv_iload hx hb dX2_putInOrder_50 (lv_at hl 6 rfl) ?_
          refine lv_if_le (tgt := 108) hx hb dX2_putInOrder_52 (by decide) (fun hc => ?_) (fun hc => ?_)
          · replace hf := (if_pos hc).symm.trans hf
            exact Kx _ (gm_si hf) _ _ _ (lv_sub hl [0, 1, 2, 3, 4, 5, 6] rfl) hw
          · replace hf := (if_neg hc).symm.trans hf
            refine gm_aload_n (G := GC) (r := 35) C rfl dX2_putInOrder_55 rfl (lv_at hl 0 rfl) ?_
            refine gm_getS (G := GC) (u := u_22) (r := 35) (ci := 1) (k := 1) C hw rfl fl_X2_15 dX2_putInOrder_56 rfl (q := 37) rfl ?_
            refine lv_iload hx hb dX2_putInOrder_59 (lv_at hl 6 rfl) ?_
            refine lv_iconst (v := 1) hx hb dX2_putInOrder_61 (by decide) ?_
            refine lv_isub hx hb dX2_putInOrder_62 ?_
            obtain ⟨g_24, hf⟩ := gm_grd hf
            refine gm_lald (G := GC) (u := u_22) (r := 37) (n := 6) (i := v7_23 - (1 : Int32)) C hw rfl g_24 rfl dX2_putInOrder_63 ?_
            refine lv_lload hx hb dX2_putInOrder_64 (lv_at hl 5 rfl) ?_
            refine W.lcmp hx hb dX2_putInOrder_66 ?_
            refine lv_if_ge (tgt := 108) hx hb dX2_putInOrder_67 (by decide) (fun hc => ?_) (fun hc => ?_)
            · replace hf := (if_pos hc).symm.trans hf
              exact Kx _ (gm_si hf) _ _ _ (lv_sub hl [0, 1, 2, 3, 4, 5, 6] rfl) hw
            · replace hf := (if_neg hc).symm.trans hf
              refine gm_aload_n (G := GC) (r := 35) C rfl dX2_putInOrder_70 rfl (lv_at hl 0 rfl) ?_
              refine gm_getS (G := GC) (u := u_22) (r := 35) (ci := 1) (k := 1) C hw rfl fl_X2_15 dX2_putInOrder_71 rfl (q := 37) rfl ?_
              refine lv_iload hx hb dX2_putInOrder_74 (lv_at hl 6 rfl) ?_
              refine gm_aload_n (G := GC) (r := 35) C rfl dX2_putInOrder_76 rfl (lv_at hl 0 rfl) ?_
              refine gm_getS (G := GC) (u := u_22) (r := 35) (ci := 1) (k := 1) C hw rfl fl_X2_15 dX2_putInOrder_77 rfl (q := 37) rfl ?_
              refine lv_iload hx hb dX2_putInOrder_80 (lv_at hl 6 rfl) ?_
              refine lv_iconst (v := 1) hx hb dX2_putInOrder_82 (by decide) ?_
              refine lv_isub hx hb dX2_putInOrder_83 ?_
              refine gm_lald (G := GC) (u := u_22) (r := 37) (n := 6) (i := v7_23 - (1 : Int32)) C hw rfl g_24 rfl dX2_putInOrder_84 ?_
              obtain ⟨g_25, hf⟩ := gm_grd hf
              refine gm_last (G := GC) (u := u_22) (r := 37) (n := 6) (i := v7_23) (x := gJ u_22 37 (ix (v7_23 - (1 : Int32)))) C hw rfl g_25 rfl dX2_putInOrder_85 (fun H locs hw => ?_)
              obtain ⟨u_26, e_u_26, hf⟩ := gm_le hf
              rw [← e_u_26] at hw
              refine gm_aload_n (G := GC) (r := 35) C rfl dX2_putInOrder_86 rfl (lv_at hl 0 rfl) ?_
              refine gm_getS (G := GC) (u := u_26) (r := 35) (ci := 1) (k := 0) C hw rfl fl_X2_9 dX2_putInOrder_87 rfl (q := 36) rfl ?_
              refine lv_iload hx hb dX2_putInOrder_90 (lv_at hl 6 rfl) ?_
              refine gm_aload_n (G := GC) (r := 35) C rfl dX2_putInOrder_92 rfl (lv_at hl 0 rfl) ?_
              refine gm_getS (G := GC) (u := u_26) (r := 35) (ci := 1) (k := 0) C hw rfl fl_X2_9 dX2_putInOrder_93 rfl (q := 36) rfl ?_
              refine lv_iload hx hb dX2_putInOrder_96 (lv_at hl 6 rfl) ?_
              refine lv_iconst (v := 1) hx hb dX2_putInOrder_98 (by decide) ?_
              refine lv_isub hx hb dX2_putInOrder_99 ?_
              refine gm_iald (G := GC) (u := u_26) (r := 36) (n := 6) (i := v7_23 - (1 : Int32)) C hw rfl g_24 rfl dX2_putInOrder_100 ?_
              refine gm_iast (G := GC) (u := u_26) (r := 36) (n := 6) (i := v7_23) (x := gI u_26 36 (ix (v7_23 - (1 : Int32)))) C hw rfl g_25 rfl dX2_putInOrder_101 (fun H locs hw => ?_)
              obtain ⟨u_27, e_u_27, hf⟩ := gm_le hf
              rw [← e_u_27] at hw
              refine lv_iinc (v := v7_23 + (-1 : Int32)) (lv' := [(7, .int (v7_23 + (-1 : Int32))), (0, rv Z 35), (1, rv Z a1), (2, rv Z a2), (3, .int v3_5), (4, .int r_15), (5, .long r_17)]) hx hb dX2_putInOrder_102 hl (k := 6) rfl rfl (by decide) rfl (fun ls hl => ?_)
              refine lv_goto (tgt := 50) hx hb dX2_putInOrder_105 (by decide) ?_
              exact Kc _ (gm_si hf) _ _ _ (lv_sub hl [1, 2, 3, 4, 5, 6, 0] rfl) hw)
        refine L50_2 _ _ _ hlp ?_ _ _ _ (lv_sub hl [3, 4, 5, 6, 2, 1, 0] rfl) hw
        obtain ⟨w7_28, u_29⟩ := o2
        intro H locs ls hl hw
        try dsimp only at hf
        exact J108 v3_5 r_15 r_17 w7_28 u_29 _ _ _ hf  (lv_sub hl [0, 1, 2, 3, 4, 5, 6] rfl) hw)
  refine L7_2 _ _ _ hlp ?_ _ _ _ (lv_sub hl [1, 2, 3, 0] rfl) hw
  obtain ⟨u_30, rfl⟩ : ∃ y, y = o1 := ⟨_, rfl⟩
  intro H locs ls hl hw
  try dsimp only at hf
  exact gm_vret C E hw rfl rfl (Option.some.inj hf).symm dX2_putInOrder_142
/-! LeapCapital$Hearing.hearAll -/
def j_X2_hearAll_133 (a1 : Nat) (a2 : Int32) (v3_3 : Int32) (u_2 : gm_M) : Option gm_M := gm_let (sI u_2 35 4 (a2 - v3_3)) fun u_4 => some u_4
def j_X2_hearAll_86 (a1 : Nat) (a2 : Int32) (v3_11 : Int32) (v4_12 : Int32) (v5_13 : Int32) (v6_14 : Int32) (v7_15 : Int32) (v8_16 : Int32) (u_10 : gm_M) : Option ((Int32 × Int32 × Int32 × gm_M) ⊕ ((Int32 × gm_M))) := if v3_11 < v8_16 then some (.inl (v3_11, v4_12, v5_13 + (1 : Int32), u_10)) else gm_let (v3_11 - v8_16) fun v3_17 => gm_let (sI u_10 35 3 ((gI u_10 35 3) ||| ((1 : Int32) <<< (v6_14 &&& 31)))) fun u_18 => if v4_12 = 0 then if v7_15 = 0 then some (.inl (v3_17, (0 : Int32), v5_13 + (1 : Int32), u_18)) else some (.inl (v3_17, (1 : Int32), v5_13 + (1 : Int32), u_18)) else some (.inl (v3_17, (1 : Int32), v5_13 + (1 : Int32), u_18))
def j_X2_hearAll_56 (a1 : Nat) (a2 : Int32) (v3_20 : Int32) (v4_21 : Int32) (v5_22 : Int32) (v6_23 : Int32) (t_24 : Int32) (u_19 : gm_M) : Option ((Int32 × Int32 × Int32 × gm_M) ⊕ ((Int32 × gm_M))) := (f_X5_pleaOf a1 v6_23 u_19).bind fun r_25 => if t_24 = 0 then j_X2_hearAll_86 a1 a2 v3_20 v4_21 v5_22 v6_23 t_24 r_25 u_19 else if v4_21 = 0 then j_X2_hearAll_86 a1 a2 v3_20 v4_21 v5_22 v6_23 t_24 r_25 u_19 else gm_let (if (1 : Int32) < (r_25 / (2 : Int32)) then (r_25 / (2 : Int32)) else (1 : Int32)) fun v_27 => j_X2_hearAll_86 a1 a2 v3_20 v4_21 v5_22 v6_23 t_24 v_27 u_19
def b_X2_hearAll_13 (a1 : Nat) (a2 : Int32) : (Int32 × Int32 × Int32 × gm_M) → Option ((Int32 × Int32 × Int32 × gm_M) ⊕ ((Int32 × gm_M))) := fun x => match x with | (v3_7, v4_8, v5_9, u_6) => if (gI u_6 35 2) ≤ v5_9 then some (.inr (v3_7, u_6)) else if (6 : Int32) ≤ v5_9 then some (.inr (v3_7, u_6)) else if ib v5_9 6 = true then gm_let (gI u_6 36 (ix v5_9)) fun v6_29 => (f_X5_kindOf a1 v6_29 u_6).bind fun r_30 => if r_30 = (3 : Int32) then j_X2_hearAll_56 a1 a2 v3_7 v4_8 v5_9 v6_29 (1 : Int32) u_6 else j_X2_hearAll_56 a1 a2 v3_7 v4_8 v5_9 v6_29 (0 : Int32) u_6 else none
def f_X2_hearAll (a1 : Nat) (a2 : Int32) (u : gm_M) : Option gm_M := gm_let (sI u 35 3 (0 : Int32)) fun u_5 => ((gm_lp (b_X2_hearAll_13 a1 a2) gm_FU (a2, (0 : Int32), (0 : Int32), u_5)).bind fun o => match o with | (w3_32, u_33) => j_X2_hearAll_133 a1 a2 w3_32 u_33)
set_option maxRecDepth 100000 in
set_option maxHeartbeats 4000000 in
theorem ok_X2_hearAll (l : Launch) (Z : gm_Z) (a1 : Nat) (a2 : Int32) (u : gm_M) (h1 : isRealm a1 = true) (u' : gm_M) (hf : f_X2_hearAll a1 a2 u = some (u')) : gm_Met l GC Z yX2_hearAll cX2_hearAll 9 none ({ frames := 1, cells := 0, slots := 0, locals := 32 }) [rv Z 35, rv Z a1, .int a2] u none u' := by
  unfold f_X2_hearAll at hf
  refine gm_ofW (by decide +kernel) (by simp [lg_sl, gm_cat, gm_catI, gm_catJ]) ?_
  intro p e s m args below meth c A ls Q R hRf hRl C E hl hw
  obtain ⟨hx, hb, -⟩ := id C
  have hl : lv_has ls 9 [(0, rv Z 35), (1, rv Z a1), (2, .int a2)] := by simpa [lv_args, gm_cat, gm_catI, gm_catJ] using hl
  obtain ⟨k_1_0, k_1_1, k_1_2, k_1_3, k_1_4, k_1_5, k_1_6, k_1_7, k_1_8, k_1_9, k_1_10, k_1_11⟩ := fc_Realm h1
  have J133 : ∀ (v3_3 : Int32) (u_2 : gm_M) (H : Heap) (locs : List Loc) (ls : Array Slot), j_X2_hearAll_133 a1 a2 v3_3 u_2 = some (u') → lv_has ls 9 [(0, rv Z 35), (2, .int a2), (3, .int v3_3)] → wd GC Z u_2 A s.heap H locs → W p l e R s m args below meth c H locs 0 0 Q (F0 m 133 ls []) := by
    intro v3_3 u_2 H locs ls hf  hl hw
    unfold j_X2_hearAll_133 at hf
    refine gm_aload_n (G := GC) (r := 35) C rfl dX2_hearAll_133 rfl (lv_at hl 0 rfl) ?_
    refine lv_iload_n hx hb dX2_hearAll_134 rfl (lv_at hl 1 rfl) ?_
    refine lv_iload_n hx hb dX2_hearAll_135 rfl (lv_at hl 2 rfl) ?_
    refine lv_isub hx hb dX2_hearAll_136 ?_
    refine gm_putI (G := GC) (u := u_2) (r := 35) (ci := 1) (k := 4) (v := a2 - v3_3) C hw rfl fl_X2_26 fp_1_4 dX2_hearAll_137 rfl (fun H locs hw => ?_)
    obtain ⟨u_4, e_u_4, hf⟩ := gm_le hf
    rw [← e_u_4] at hw
    exact gm_vret C E hw rfl rfl (Option.some.inj hf).symm dX2_hearAll_140
  refine lv_iload_n hx hb dX2_hearAll_0 rfl (lv_at hl 2 rfl) ?_
  refine lv_istore_n (i := 3) (lv' := [(3, .int a2), (0, rv Z 35), (1, rv Z a1), (2, .int a2)]) hx hb dX2_hearAll_1 rfl hl (by decide) rfl (fun ls hl => ?_)
  refine lv_iconst (v := 0) hx hb dX2_hearAll_2 (by decide) ?_
  refine lv_istore (i := 4) (lv' := [(4, .int (0 : Int32)), (3, .int a2), (0, rv Z 35), (1, rv Z a1), (2, .int a2)]) hx hb dX2_hearAll_3 hl (by decide) rfl (fun ls hl => ?_)
  refine gm_aload_n (G := GC) (r := 35) C rfl dX2_hearAll_5 rfl (lv_at hl 2 rfl) ?_
  refine lv_iconst (v := 0) hx hb dX2_hearAll_6 (by decide) ?_
  refine gm_putI (G := GC) (u := u) (r := 35) (ci := 1) (k := 3) (v := (0 : Int32)) C hw rfl fl_X2_23 fp_1_3 dX2_hearAll_7 rfl (fun H locs hw => ?_)
  obtain ⟨u_5, e_u_5, hf⟩ := gm_le hf
  rw [← e_u_5] at hw
  refine lv_iconst (v := 0) hx hb dX2_hearAll_10 (by decide) ?_
  refine lv_istore (i := 5) (lv' := [(5, .int (0 : Int32)), (4, .int (0 : Int32)), (3, .int a2), (0, rv Z 35), (1, rv Z a1), (2, .int a2)]) hx hb dX2_hearAll_11 hl (by decide) rfl (fun ls hl => ?_)
  obtain ⟨o1, hlp, hf⟩ := gm_bnd hf
  have L13_1 := gm_loop (b_X2_hearAll_13 a1 a2) (fun x : (Int32 × Int32 × Int32 × gm_M) => ∀ (H : Heap) (locs : List Loc) (ls : Array Slot), lv_has ls 9 [(0, rv Z 35), (1, rv Z a1), (2, .int a2), (3, .int x.1), (4, .int x.2.1), (5, .int x.2.2.1)] → wd GC Z x.2.2.2 A s.heap H locs → W p l e R s m args below meth c H locs 0 0 Q (F0 m 13 ls [])) (fun z : ((Int32 × gm_M)) => ∀ (H : Heap) (locs : List Loc) (ls : Array Slot), lv_has ls 9 [(0, rv Z 35), (2, .int a2), (3, .int z.1)] → wd GC Z z.2 A s.heap H locs → W p l e R s m args below meth c H locs 0 0 Q (F0 m 133 ls [])) (by
    intro x o1 hf Kc Kx
    obtain ⟨v3_7, v4_8, v5_9, u_6⟩ := x
    intro H locs ls hl hw
    unfold b_X2_hearAll_13 at hf
    try dsimp only at hf
    have J86 : ∀ (v3_11 : Int32) (v4_12 : Int32) (v5_13 : Int32) (v6_14 : Int32) (v7_15 : Int32) (v8_16 : Int32) (u_10 : gm_M) (H : Heap) (locs : List Loc) (ls : Array Slot), j_X2_hearAll_86 a1 a2 v3_11 v4_12 v5_13 v6_14 v7_15 v8_16 u_10 = some o1 → lv_has ls 9 [(0, rv Z 35), (1, rv Z a1), (2, .int a2), (3, .int v3_11), (4, .int v4_12), (5, .int v5_13), (6, .int v6_14), (7, .int v7_15), (8, .int v8_16)] → wd GC Z u_10 A s.heap H locs → W p l e R s m args below meth c H locs 0 0 Q (F0 m 86 ls []) := by
      intro v3_11 v4_12 v5_13 v6_14 v7_15 v8_16 u_10 H locs ls hf  hl hw
      unfold j_X2_hearAll_86 at hf
      refine lv_iload hx hb dX2_hearAll_86 (lv_at hl 8 rfl) ?_
      refine lv_iload_n hx hb dX2_hearAll_88 rfl (lv_at hl 3 rfl) ?_
      refine lv_icmp_gt (tgt := 127) hx hb dX2_hearAll_89 (by decide) (fun hc => ?_) (fun hc => ?_)
      · replace hf := (if_pos hc).symm.trans hf
        refine lv_iinc (v := v5_13 + (1 : Int32)) (lv' := [(5, .int (v5_13 + (1 : Int32))), (0, rv Z 35), (1, rv Z a1), (2, .int a2), (3, .int v3_11), (4, .int v4_12), (6, .int v6_14), (7, .int v7_15), (8, .int v8_16)]) hx hb dX2_hearAll_127 hl (k := 5) rfl rfl (by decide) rfl (fun ls hl => ?_)
        refine lv_goto (tgt := 13) hx hb dX2_hearAll_130 (by decide) ?_
        exact Kc _ (gm_si hf) _ _ _ (lv_sub hl [1, 2, 3, 4, 5, 0] rfl) hw
      · replace hf := (if_neg hc).symm.trans hf
        refine lv_iload_n hx hb dX2_hearAll_92 rfl (lv_at hl 3 rfl) ?_
        refine lv_iload hx hb dX2_hearAll_93 (lv_at hl 8 rfl) ?_
        refine lv_isub hx hb dX2_hearAll_95 ?_
        obtain ⟨v3_17, e_v3_17, hf⟩ := gm_le hf
        refine gm_topI e_v3_17 ?_
        refine lv_istore_n (i := 3) (lv' := [(3, .int v3_17), (0, rv Z 35), (1, rv Z a1), (2, .int a2), (4, .int v4_12), (5, .int v5_13), (6, .int v6_14), (7, .int v7_15), (8, .int v8_16)]) hx hb dX2_hearAll_96 rfl hl (by decide) rfl (fun ls hl => ?_)
        refine gm_aload_n (G := GC) (r := 35) C rfl dX2_hearAll_97 rfl (lv_at hl 1 rfl) ?_
        refine lv_dup hx hb dX2_hearAll_98 (gm_cat _ _) ?_
        refine gm_getI (G := GC) (u := u_10) (r := 35) (ci := 1) (k := 3) C hw rfl fl_X2_23 dX2_hearAll_99 rfl ?_
        refine lv_iconst (v := 1) hx hb dX2_hearAll_102 (by decide) ?_
        refine lv_iload hx hb dX2_hearAll_103 (lv_at hl 6 rfl) ?_
        refine lv_ishl hx hb dX2_hearAll_105 ?_
        refine lv_ior hx hb dX2_hearAll_106 ?_
        refine gm_putI (G := GC) (u := u_10) (r := 35) (ci := 1) (k := 3) (v := (gI u_10 35 3) ||| ((1 : Int32) <<< (v6_14 &&& 31))) C hw rfl fl_X2_23 fp_1_3 dX2_hearAll_107 rfl (fun H locs hw => ?_)
        obtain ⟨u_18, e_u_18, hf⟩ := gm_le hf
        rw [← e_u_18] at hw
        refine lv_iload hx hb dX2_hearAll_110 (lv_at hl 4 rfl) ?_
        refine lv_if_ne (tgt := 120) hx hb dX2_hearAll_112 (by decide) (fun hc => ?_) (fun hc => ?_)
        · replace hf := (if_neg hc).symm.trans hf
          refine lv_iconst (v := 1) hx hb dX2_hearAll_120 (by decide) ?_
          refine lv_goto (tgt := 125) hx hb dX2_hearAll_121 (by decide) ?_
          refine lv_istore (i := 4) (lv' := [(4, .int (1 : Int32)), (3, .int v3_17), (0, rv Z 35), (1, rv Z a1), (2, .int a2), (5, .int v5_13), (6, .int v6_14), (7, .int v7_15), (8, .int v8_16)]) hx hb dX2_hearAll_125 hl (by decide) rfl (fun ls hl => ?_)
          refine lv_iinc (v := v5_13 + (1 : Int32)) (lv' := [(5, .int (v5_13 + (1 : Int32))), (4, .int (1 : Int32)), (3, .int v3_17), (0, rv Z 35), (1, rv Z a1), (2, .int a2), (6, .int v6_14), (7, .int v7_15), (8, .int v8_16)]) hx hb dX2_hearAll_127 hl (k := 5) rfl rfl (by decide) rfl (fun ls hl => ?_)
          refine lv_goto (tgt := 13) hx hb dX2_hearAll_130 (by decide) ?_
          exact Kc _ (gm_si hf) _ _ _ (lv_sub hl [3, 4, 5, 2, 1, 0] rfl) hw
        · replace hf := (if_pos hc).symm.trans hf
          refine lv_iload hx hb dX2_hearAll_115 (lv_at hl 7 rfl) ?_
          refine lv_if_eq (tgt := 124) hx hb dX2_hearAll_117 (by decide) (fun hc => ?_) (fun hc => ?_)
          · replace hf := (if_pos hc).symm.trans hf
            refine lv_iconst (v := 0) hx hb dX2_hearAll_124 (by decide) ?_
            refine lv_istore (i := 4) (lv' := [(4, .int (0 : Int32)), (3, .int v3_17), (0, rv Z 35), (1, rv Z a1), (2, .int a2), (5, .int v5_13), (6, .int v6_14), (7, .int v7_15), (8, .int v8_16)]) hx hb dX2_hearAll_125 hl (by decide) rfl (fun ls hl => ?_)
            refine lv_iinc (v := v5_13 + (1 : Int32)) (lv' := [(5, .int (v5_13 + (1 : Int32))), (4, .int (0 : Int32)), (3, .int v3_17), (0, rv Z 35), (1, rv Z a1), (2, .int a2), (6, .int v6_14), (7, .int v7_15), (8, .int v8_16)]) hx hb dX2_hearAll_127 hl (k := 5) rfl rfl (by decide) rfl (fun ls hl => ?_)
            refine lv_goto (tgt := 13) hx hb dX2_hearAll_130 (by decide) ?_
            exact Kc _ (gm_si hf) _ _ _ (lv_sub hl [3, 4, 5, 2, 1, 0] rfl) hw
          · replace hf := (if_neg hc).symm.trans hf
            refine lv_iconst (v := 1) hx hb dX2_hearAll_120 (by decide) ?_
            refine lv_goto (tgt := 125) hx hb dX2_hearAll_121 (by decide) ?_
            refine lv_istore (i := 4) (lv' := [(4, .int (1 : Int32)), (3, .int v3_17), (0, rv Z 35), (1, rv Z a1), (2, .int a2), (5, .int v5_13), (6, .int v6_14), (7, .int v7_15), (8, .int v8_16)]) hx hb dX2_hearAll_125 hl (by decide) rfl (fun ls hl => ?_)
            refine lv_iinc (v := v5_13 + (1 : Int32)) (lv' := [(5, .int (v5_13 + (1 : Int32))), (4, .int (1 : Int32)), (3, .int v3_17), (0, rv Z 35), (1, rv Z a1), (2, .int a2), (6, .int v6_14), (7, .int v7_15), (8, .int v8_16)]) hx hb dX2_hearAll_127 hl (k := 5) rfl rfl (by decide) rfl (fun ls hl => ?_)
            refine lv_goto (tgt := 13) hx hb dX2_hearAll_130 (by decide) ?_
            exact Kc _ (gm_si hf) _ _ _ (lv_sub hl [3, 4, 5, 2, 1, 0] rfl) hw
    have J56 : ∀ (v3_20 : Int32) (v4_21 : Int32) (v5_22 : Int32) (v6_23 : Int32) (t_24 : Int32) (u_19 : gm_M) (H : Heap) (locs : List Loc) (ls : Array Slot), j_X2_hearAll_56 a1 a2 v3_20 v4_21 v5_22 v6_23 t_24 u_19 = some o1 → lv_has ls 9 [(0, rv Z 35), (1, rv Z a1), (2, .int a2), (3, .int v3_20), (4, .int v4_21), (5, .int v5_22), (6, .int v6_23)] → wd GC Z u_19 A s.heap H locs → W p l e R s m args below meth c H locs 0 0 Q (F0 m 56 ls [.int t_24]) := by
      intro v3_20 v4_21 v5_22 v6_23 t_24 u_19 H locs ls hf  hl hw
      unfold j_X2_hearAll_56 at hf
      refine lv_istore (i := 7) (lv' := [(7, .int t_24), (0, rv Z 35), (1, rv Z a1), (2, .int a2), (3, .int v3_20), (4, .int v4_21), (5, .int v5_22), (6, .int v6_23)]) hx hb dX2_hearAll_56 hl (by decide) rfl (fun ls hl => ?_)
      refine gm_aload_n (G := GC) (r := a1) C k_1_0 dX2_hearAll_58 rfl (lv_at hl 2 rfl) ?_
      refine lv_iload hx hb dX2_hearAll_59 (lv_at hl 7 rfl) ?_
      obtain ⟨r_25, hc_26, hf⟩ := gm_bnd hf
      refine gm_callV (G := GC) (u := u_19) (u' := u_19) (r := a1) (ci := 4) (As := [.int v6_23]) (rest := []) (res := (some (.int r_25))) C hw hl (ok_X5_pleaOf l Z a1 v6_23 u_19 h1 r_25 hc_26) cw_X2_81 im_X5_pleaOf rfl se_X5_pleaOf k_1_0 rfl rfl ⟨Nat.le_trans (Nat.le_of_ble_eq_true rfl) hRf, Nat.le_trans (Nat.le_of_ble_eq_true rfl) hRl⟩ rfl rfl (Nat.le_of_ble_eq_true rfl) dX2_hearAll_61 (fun H locs hw => ?_)
      refine lv_istore (i := 8) (lv' := [(8, .int r_25), (7, .int t_24), (0, rv Z 35), (1, rv Z a1), (2, .int a2), (3, .int v3_20), (4, .int v4_21), (5, .int v5_22), (6, .int v6_23)]) hx hb dX2_hearAll_64 hl (by decide) rfl (fun ls hl => ?_)
      refine lv_iload hx hb dX2_hearAll_66 (lv_at hl 1 rfl) ?_
      refine lv_if_eq (tgt := 86) hx hb dX2_hearAll_68 (by decide) (fun hc => ?_) (fun hc => ?_)
      · replace hf := (if_pos hc).symm.trans hf
        exact J86 v3_20 v4_21 v5_22 v6_23 t_24 r_25 u_19 _ _ _ hf  (lv_sub hl [2, 3, 4, 5, 6, 7, 8, 1, 0] rfl) hw
      · replace hf := (if_neg hc).symm.trans hf
        refine lv_iload hx hb dX2_hearAll_71 (lv_at hl 6 rfl) ?_
        refine lv_if_eq (tgt := 86) hx hb dX2_hearAll_73 (by decide) (fun hc => ?_) (fun hc => ?_)
        · replace hf := (if_pos hc).symm.trans hf
          exact J86 v3_20 v4_21 v5_22 v6_23 t_24 r_25 u_19 _ _ _ hf  (lv_sub hl [2, 3, 4, 5, 6, 7, 8, 1, 0] rfl) hw
        · replace hf := (if_neg hc).symm.trans hf
          refine lv_iconst (v := 1) hx hb dX2_hearAll_76 (by decide) ?_
          refine lv_iload hx hb dX2_hearAll_77 (lv_at hl 0 rfl) ?_
          refine lv_iconst (v := 2) hx hb dX2_hearAll_79 (by decide) ?_
          refine lv_idiv hx hb dX2_hearAll_80 (by decide) ?_
          refine gm_max C hl mw_X2_84 (Nat.le_trans (Nat.le_of_ble_eq_true rfl) hRf) (Nat.le_trans (Nat.le_of_ble_eq_true rfl) hRl) (Nat.le_of_ble_eq_true rfl) dX2_hearAll_81 ?_
          obtain ⟨v_27, e_v_27, hf⟩ := gm_le hf
          refine gm_topI e_v_27 ?_
          refine lv_istore (i := 8) (lv' := [(8, .int v_27), (7, .int t_24), (0, rv Z 35), (1, rv Z a1), (2, .int a2), (3, .int v3_20), (4, .int v4_21), (5, .int v5_22), (6, .int v6_23)]) hx hb dX2_hearAll_84 hl (by decide) rfl (fun ls hl => ?_)
          exact J86 v3_20 v4_21 v5_22 v6_23 t_24 v_27 u_19 _ _ _ hf  (lv_sub hl [2, 3, 4, 5, 6, 7, 8, 1, 0] rfl) hw
    refine lv_iload hx hb dX2_hearAll_13 (lv_at hl 5 rfl) ?_
    refine gm_aload_n (G := GC) (r := 35) C rfl dX2_hearAll_15 rfl (lv_at hl 0 rfl) ?_
    refine gm_getI (G := GC) (u := u_6) (r := 35) (ci := 1) (k := 2) C hw rfl fl_X2_19 dX2_hearAll_16 rfl ?_
    refine lv_icmp_ge (tgt := 133) hx hb dX2_hearAll_19 (by decide) (fun hc => ?_) (fun hc => ?_)
    · replace hf := (if_pos hc).symm.trans hf
      exact Kx _ (gm_si hf) _ _ _ (lv_sub hl [0, 2, 3] rfl) hw
    · replace hf := (if_neg hc).symm.trans hf
      refine lv_iload hx hb dX2_hearAll_22 (lv_at hl 5 rfl) ?_
      refine gm_aload_n (G := GC) (r := 35) C rfl dX2_hearAll_24 rfl (lv_at hl 0 rfl) ?_
      refine gm_getS (G := GC) (u := u_6) (r := 35) (ci := 1) (k := 0) C hw rfl fl_X2_9 dX2_hearAll_25 rfl (q := 36) rfl ?_
      refine gm_alen (G := GC) (u := u_6) (r := 36) (t := 0) (n := 6) (v := 6) C hw rfl (by decide) (by decide) dX2_hearAll_28 ?_
      refine lv_icmp_ge (tgt := 133) hx hb dX2_hearAll_29 (by decide) (fun hc => ?_) (fun hc => ?_)
      · replace hf := (if_pos hc).symm.trans hf
        exact Kx _ (gm_si hf) _ _ _ (lv_sub hl [0, 2, 3] rfl) hw
      · replace hf := (if_neg hc).symm.trans hf
        refine gm_aload_n (G := GC) (r := 35) C rfl dX2_hearAll_32 rfl (lv_at hl 0 rfl) ?_
        refine gm_getS (G := GC) (u := u_6) (r := 35) (ci := 1) (k := 0) C hw rfl fl_X2_9 dX2_hearAll_33 rfl (q := 36) rfl ?_
        refine lv_iload hx hb dX2_hearAll_36 (lv_at hl 5 rfl) ?_
        obtain ⟨g_28, hf⟩ := gm_grd hf
        refine gm_iald (G := GC) (u := u_6) (r := 36) (n := 6) (i := v5_9) C hw rfl g_28 rfl dX2_hearAll_38 ?_
        obtain ⟨v6_29, e_v6_29, hf⟩ := gm_le hf
        refine gm_topI e_v6_29 ?_
        refine lv_istore (i := 6) (lv' := [(6, .int v6_29), (0, rv Z 35), (1, rv Z a1), (2, .int a2), (3, .int v3_7), (4, .int v4_8), (5, .int v5_9)]) hx hb dX2_hearAll_39 hl (by decide) rfl (fun ls hl => ?_)
        refine gm_aload_n (G := GC) (r := a1) C k_1_0 dX2_hearAll_41 rfl (lv_at hl 2 rfl) ?_
        refine lv_iload hx hb dX2_hearAll_42 (lv_at hl 0 rfl) ?_
        obtain ⟨r_30, hc_31, hf⟩ := gm_bnd hf
        refine gm_callV (G := GC) (u := u_6) (u' := u_6) (r := a1) (ci := 4) (As := [.int v6_29]) (rest := []) (res := (some (.int r_30))) C hw hl (ok_X5_kindOf l Z a1 v6_29 u_6 h1 r_30 hc_31) cw_X2_78 im_X5_kindOf rfl se_X5_kindOf k_1_0 rfl rfl ⟨Nat.le_trans (Nat.le_of_ble_eq_true rfl) hRf, Nat.le_trans (Nat.le_of_ble_eq_true rfl) hRl⟩ rfl rfl (Nat.le_of_ble_eq_true rfl) dX2_hearAll_44 (fun H locs hw => ?_)
        refine lv_iconst (v := 3) hx hb dX2_hearAll_47 (by decide) ?_
        refine lv_icmp_ne (tgt := 55) hx hb dX2_hearAll_48 (by decide) (fun hc => ?_) (fun hc => ?_)
        · replace hf := (if_neg hc).symm.trans hf
          refine lv_iconst (v := 0) hx hb dX2_hearAll_55 (by decide) ?_
          exact J56 v3_7 v4_8 v5_9 v6_29 (0 : Int32) u_6 _ _ _ hf  (lv_sub hl [1, 2, 3, 4, 5, 6, 0] rfl) hw
        · replace hf := (if_pos hc).symm.trans hf
          refine lv_iconst (v := 1) hx hb dX2_hearAll_51 (by decide) ?_
          refine lv_goto (tgt := 56) hx hb dX2_hearAll_52 (by decide) ?_
          exact J56 v3_7 v4_8 v5_9 v6_29 (1 : Int32) u_6 _ _ _ hf  (lv_sub hl [1, 2, 3, 4, 5, 6, 0] rfl) hw)
  refine L13_1 _ _ _ hlp ?_ _ _ _ (lv_sub hl [3, 4, 5, 2, 1, 0] rfl) hw
  obtain ⟨w3_32, u_33⟩ := o1
  intro H locs ls hl hw
  try dsimp only at hf
  exact J133 w3_32 u_33 _ _ _ hf  (lv_sub hl [0, 1, 2] rfl) hw
