/-! LeapCapitalModel.opens -/
def f_X11_opens (a1 : Int32) (u : gm_M) : Option gm_M := if ib a1 7 = true then gm_let (sI u 14 (ix a1) (0 : Int32)) fun u_2 => gm_let (sI u_2 16 (ix a1) (0 : Int32)) fun u_3 => gm_let (sI u_3 17 (ix a1) (0 : Int32)) fun u_4 => gm_let (sI u_4 18 (ix a1) (20 : Int32)) fun u_5 => gm_let (sI u_5 20 (ix a1) (0 : Int32)) fun u_6 => some u_6 else none
set_option maxRecDepth 100000 in
set_option maxHeartbeats 4000000 in
theorem ok_X11_opens (l : Launch) (Z : gm_Z) (a1 : Int32) (u : gm_M)  (u' : gm_M) (hf : f_X11_opens a1 u = some (u')) : gm_Met l GM Z yX11_opens cX11_opens 2 none ({ frames := 0, cells := 0, slots := 0, locals := 0 }) [rv Z 1, .int a1] u none u' := by
  unfold f_X11_opens at hf
  refine gm_ofW (by decide +kernel) (Nat.le_of_ble_eq_true rfl) ?_
  intro p e s m args below meth c A ls Q R hRf hRl C E hl hw
  obtain ⟨hx, hb, -⟩ := id C
  have hl : lv_has ls 2 [(0, rv Z 1), (1, .int a1)] := hl
  refine gm_aload_n (G := GM) (r := 1) C rfl dX11_opens_0 rfl (lv_at hl 0 rfl) ?_
  refine gm_getS (G := GM) (u := u) (r := 1) (ci := 10) (k := 23) C hw rfl fl_X11_48 dX11_opens_1 rfl (q := 14) rfl ?_
  refine lv_iload_n hx hb dX11_opens_4 rfl (lv_at hl 1 rfl) ?_
  refine lv_iconst (v := 0) hx hb dX11_opens_5 (by decide) ?_
  obtain ⟨g_1, hf⟩ := gm_grd hf
  refine gm_iast (G := GM) (u := u) (r := 14) (n := 7) (i := a1) (x := (0 : Int32)) C hw rfl g_1 rfl dX11_opens_6 (fun H locs hw => ?_)
  obtain ⟨u_2, e_u_2, hf⟩ := gm_le hf
  rw [← e_u_2] at hw
  refine gm_aload_n (G := GM) (r := 1) C rfl dX11_opens_7 rfl (lv_at hl 0 rfl) ?_
  refine gm_getS (G := GM) (u := u_2) (r := 1) (ci := 10) (k := 25) C hw rfl fl_X11_54 dX11_opens_8 rfl (q := 16) rfl ?_
  refine lv_iload_n hx hb dX11_opens_11 rfl (lv_at hl 1 rfl) ?_
  refine lv_iconst (v := 0) hx hb dX11_opens_12 (by decide) ?_
  refine gm_iast (G := GM) (u := u_2) (r := 16) (n := 7) (i := a1) (x := (0 : Int32)) C hw rfl g_1 rfl dX11_opens_13 (fun H locs hw => ?_)
  obtain ⟨u_3, e_u_3, hf⟩ := gm_le hf
  rw [← e_u_3] at hw
  refine gm_aload_n (G := GM) (r := 1) C rfl dX11_opens_14 rfl (lv_at hl 0 rfl) ?_
  refine gm_getS (G := GM) (u := u_3) (r := 1) (ci := 10) (k := 26) C hw rfl fl_X11_57 dX11_opens_15 rfl (q := 17) rfl ?_
  refine lv_iload_n hx hb dX11_opens_18 rfl (lv_at hl 1 rfl) ?_
  refine lv_iconst (v := 0) hx hb dX11_opens_19 (by decide) ?_
  refine gm_iast (G := GM) (u := u_3) (r := 17) (n := 7) (i := a1) (x := (0 : Int32)) C hw rfl g_1 rfl dX11_opens_20 (fun H locs hw => ?_)
  obtain ⟨u_4, e_u_4, hf⟩ := gm_le hf
  rw [← e_u_4] at hw
  refine gm_aload_n (G := GM) (r := 1) C rfl dX11_opens_21 rfl (lv_at hl 0 rfl) ?_
  refine gm_getS (G := GM) (u := u_4) (r := 1) (ci := 10) (k := 27) C hw rfl fl_X11_60 dX11_opens_22 rfl (q := 18) rfl ?_
  refine lv_iload_n hx hb dX11_opens_25 rfl (lv_at hl 1 rfl) ?_
  refine lv_bipush (v := 20) hx hb dX11_opens_26 (by decide) ?_
  refine gm_iast (G := GM) (u := u_4) (r := 18) (n := 7) (i := a1) (x := (20 : Int32)) C hw rfl g_1 rfl dX11_opens_28 (fun H locs hw => ?_)
  obtain ⟨u_5, e_u_5, hf⟩ := gm_le hf
  rw [← e_u_5] at hw
  refine gm_aload_n (G := GM) (r := 1) C rfl dX11_opens_29 rfl (lv_at hl 0 rfl) ?_
  refine gm_getS (G := GM) (u := u_5) (r := 1) (ci := 10) (k := 29) C hw rfl fl_X11_66 dX11_opens_30 rfl (q := 20) rfl ?_
  refine lv_iload_n hx hb dX11_opens_33 rfl (lv_at hl 1 rfl) ?_
  refine lv_iconst (v := 0) hx hb dX11_opens_34 (by decide) ?_
  refine gm_iast (G := GM) (u := u_5) (r := 20) (n := 7) (i := a1) (x := (0 : Int32)) C hw rfl g_1 rfl dX11_opens_35 (fun H locs hw => ?_)
  obtain ⟨u_6, e_u_6, hf⟩ := gm_le hf
  rw [← e_u_6] at hw
  exact gm_vret C E hw rfl rfl (Option.some.inj hf).symm dX11_opens_36
/-! LeapCapitalModel.sums -/
def j_X11_sums_45 (a1 : Int32) (t_2 : Int32) (t_3 : Int32) (u_1 : gm_M) : Option gm_M := if ib t_2 7 = true then gm_let (sI u_1 17 (ix t_2) t_3) fun u_5 => if ib a1 7 = true then gm_let (sI u_5 20 (ix a1) (0 : Int32)) fun u_7 => some u_7 else none else none
def f_X11_sums (a1 : Int32) (u : gm_M) : Option gm_M := if ib a1 7 = true then if (gI u 18 (ix a1)) = (21 : Int32) then j_X11_sums_45 a1 a1 ((gI u 17 (ix a1)) - (gI u 19 (ix a1))) u else j_X11_sums_45 a1 a1 ((gI u 17 (ix a1)) + (gI u 19 (ix a1))) u else none
set_option maxRecDepth 100000 in
set_option maxHeartbeats 4000000 in
theorem ok_X11_sums (l : Launch) (Z : gm_Z) (a1 : Int32) (u : gm_M)  (u' : gm_M) (hf : f_X11_sums a1 u = some (u')) : gm_Met l GM Z yX11_sums cX11_sums 2 none ({ frames := 0, cells := 0, slots := 0, locals := 0 }) [rv Z 1, .int a1] u none u' := by
  unfold f_X11_sums at hf
  refine gm_ofW (by decide +kernel) (Nat.le_of_ble_eq_true rfl) ?_
  intro p e s m args below meth c A ls Q R hRf hRl C E hl hw
  obtain ⟨hx, hb, -⟩ := id C
  have hl : lv_has ls 2 [(0, rv Z 1), (1, .int a1)] := hl
  have J45 : ∀ (t_2 : Int32) (t_3 : Int32) (u_1 : gm_M) (H : Heap) (locs : List Loc) (ls : Array Slot), j_X11_sums_45 a1 t_2 t_3 u_1 = some (u') → lv_has ls 2 [(0, rv Z 1), (1, .int a1)] → wd GM Z u_1 A s.heap H locs → W p l e R s m args below meth c H locs 0 0 Q (F0 m 45 ls [.int t_3, .int t_2, rv Z 17]) := by
    intro t_2 t_3 u_1 H locs ls hf  hl hw
    unfold j_X11_sums_45 at hf
    obtain ⟨g_4, hf⟩ := gm_grd hf
    refine gm_iast (G := GM) (u := u_1) (r := 17) (n := 7) (i := t_2) (x := t_3) C hw rfl g_4 rfl dX11_sums_45 (fun H locs hw => ?_)
    obtain ⟨u_5, e_u_5, hf⟩ := gm_le hf
    rw [← e_u_5] at hw
    refine gm_aload_n (G := GM) (r := 1) C rfl dX11_sums_46 rfl (lv_at hl 0 rfl) ?_
    refine gm_getS (G := GM) (u := u_5) (r := 1) (ci := 10) (k := 29) C hw rfl fl_X11_66 dX11_sums_47 rfl (q := 20) rfl ?_
    refine lv_iload_n hx hb dX11_sums_50 rfl (lv_at hl 1 rfl) ?_
    refine lv_iconst (v := 0) hx hb dX11_sums_51 (by decide) ?_
    obtain ⟨g_6, hf⟩ := gm_grd hf
    refine gm_iast (G := GM) (u := u_5) (r := 20) (n := 7) (i := a1) (x := (0 : Int32)) C hw rfl g_6 rfl dX11_sums_52 (fun H locs hw => ?_)
    obtain ⟨u_7, e_u_7, hf⟩ := gm_le hf
    rw [← e_u_7] at hw
    exact gm_vret C E hw rfl rfl (Option.some.inj hf).symm dX11_sums_53
  refine gm_aload_n (G := GM) (r := 1) C rfl dX11_sums_0 rfl (lv_at hl 0 rfl) ?_
  refine gm_getS (G := GM) (u := u) (r := 1) (ci := 10) (k := 26) C hw rfl fl_X11_57 dX11_sums_1 rfl (q := 17) rfl ?_
  refine lv_iload_n hx hb dX11_sums_4 rfl (lv_at hl 1 rfl) ?_
  refine gm_aload_n (G := GM) (r := 1) C rfl dX11_sums_5 rfl (lv_at hl 0 rfl) ?_
  refine gm_getS (G := GM) (u := u) (r := 1) (ci := 10) (k := 27) C hw rfl fl_X11_60 dX11_sums_6 rfl (q := 18) rfl ?_
  refine lv_iload_n hx hb dX11_sums_9 rfl (lv_at hl 1 rfl) ?_
  obtain ⟨g_8, hf⟩ := gm_grd hf
  refine gm_iald (G := GM) (u := u) (r := 18) (n := 7) (i := a1) C hw rfl g_8 rfl dX11_sums_10 ?_
  refine lv_bipush (v := 21) hx hb dX11_sums_11 (by decide) ?_
  refine lv_icmp_ne (tgt := 32) hx hb dX11_sums_13 (by decide) (fun hc => ?_) (fun hc => ?_)
  · replace hf := (if_neg hc).symm.trans hf
    refine gm_aload_n (G := GM) (r := 1) C rfl dX11_sums_32 rfl (lv_at hl 0 rfl) ?_
    refine gm_getS (G := GM) (u := u) (r := 1) (ci := 10) (k := 26) C hw rfl fl_X11_57 dX11_sums_33 rfl (q := 17) rfl ?_
    refine lv_iload_n hx hb dX11_sums_36 rfl (lv_at hl 1 rfl) ?_
    refine gm_iald (G := GM) (u := u) (r := 17) (n := 7) (i := a1) C hw rfl g_8 rfl dX11_sums_37 ?_
    refine gm_aload_n (G := GM) (r := 1) C rfl dX11_sums_38 rfl (lv_at hl 0 rfl) ?_
    refine gm_getS (G := GM) (u := u) (r := 1) (ci := 10) (k := 28) C hw rfl fl_X11_63 dX11_sums_39 rfl (q := 19) rfl ?_
    refine lv_iload_n hx hb dX11_sums_42 rfl (lv_at hl 1 rfl) ?_
    refine gm_iald (G := GM) (u := u) (r := 19) (n := 7) (i := a1) C hw rfl g_8 rfl dX11_sums_43 ?_
    refine lv_iadd hx hb dX11_sums_44 ?_
    exact J45 a1 ((gI u 17 (ix a1)) + (gI u 19 (ix a1))) u _ _ _ hf  (lv_sub hl [0, 1] rfl) hw
  · replace hf := (if_pos hc).symm.trans hf
    refine gm_aload_n (G := GM) (r := 1) C rfl dX11_sums_16 rfl (lv_at hl 0 rfl) ?_
    refine gm_getS (G := GM) (u := u) (r := 1) (ci := 10) (k := 26) C hw rfl fl_X11_57 dX11_sums_17 rfl (q := 17) rfl ?_
    refine lv_iload_n hx hb dX11_sums_20 rfl (lv_at hl 1 rfl) ?_
    refine gm_iald (G := GM) (u := u) (r := 17) (n := 7) (i := a1) C hw rfl g_8 rfl dX11_sums_21 ?_
    refine gm_aload_n (G := GM) (r := 1) C rfl dX11_sums_22 rfl (lv_at hl 0 rfl) ?_
    refine gm_getS (G := GM) (u := u) (r := 1) (ci := 10) (k := 28) C hw rfl fl_X11_63 dX11_sums_23 rfl (q := 19) rfl ?_
    refine lv_iload_n hx hb dX11_sums_26 rfl (lv_at hl 1 rfl) ?_
    refine gm_iald (G := GM) (u := u) (r := 19) (n := 7) (i := a1) C hw rfl g_8 rfl dX11_sums_27 ?_
    refine lv_isub hx hb dX11_sums_28 ?_
    refine lv_goto (tgt := 45) hx hb dX11_sums_29 (by decide) ?_
    exact J45 a1 ((gI u 17 (ix a1)) - (gI u 19 (ix a1))) u _ _ _ hf  (lv_sub hl [0, 1] rfl) hw
/-! LeapCapitalModel.tests -/
def j_X11_tests_136 (a1 : Int32) (v2_2 : Int32) (u_1 : gm_M) : Option gm_M := if ib a1 7 = true then gm_let (sI u_1 13 (ix a1) v2_2) fun u_4 => gm_let (sI u_4 16 (ix a1) (0 : Int32)) fun u_5 => gm_let (sI u_5 17 (ix a1) (0 : Int32)) fun u_6 => gm_let (sI u_6 18 (ix a1) (20 : Int32)) fun u_7 => some u_7 else none
def j_X11_tests_135 (a1 : Int32) (t_9 : Int32) (u_8 : gm_M) : Option gm_M := j_X11_tests_136 a1 t_9 u_8
def j_X11_tests_130 (a1 : Int32) (u_10 : gm_M) : Option gm_M := j_X11_tests_135 a1 (1 : Int32) u_10
def j_X11_tests_106 (a1 : Int32) (v2_12 : Int32) (u_11 : gm_M) : Option gm_M := if ib a1 7 = true then if (gI u_11 14 (ix a1)) = (27 : Int32) then if (gI u_11 13 (ix a1)) = 0 then if v2_12 = 0 then j_X11_tests_135 a1 (0 : Int32) u_11 else j_X11_tests_130 a1 u_11 else j_X11_tests_130 a1 u_11 else j_X11_tests_136 a1 v2_12 u_11 else none
def j_X11_tests_105 (a1 : Int32) (t_15 : Int32) (u_14 : gm_M) : Option gm_M := j_X11_tests_106 a1 t_15 u_14
def j_X11_tests_104 (a1 : Int32) (u_16 : gm_M) : Option gm_M := j_X11_tests_105 a1 (0 : Int32) u_16
def j_X11_tests_76 (a1 : Int32) (v2_18 : Int32) (u_17 : gm_M) : Option gm_M := if ib a1 7 = true then if (gI u_17 14 (ix a1)) = (26 : Int32) then if (gI u_17 13 (ix a1)) = 0 then j_X11_tests_104 a1 u_17 else if v2_18 = 0 then j_X11_tests_104 a1 u_17 else j_X11_tests_105 a1 (1 : Int32) u_17 else j_X11_tests_106 a1 v2_18 u_17 else none
def j_X11_tests_75 (a1 : Int32) (t_21 : Int32) (u_20 : gm_M) : Option gm_M := j_X11_tests_76 a1 t_21 u_20
def j_X11_tests_44 (a1 : Int32) (v2_23 : Int32) (u_22 : gm_M) : Option gm_M := if ib a1 7 = true then if (gI u_22 16 (ix a1)) = (25 : Int32) then if (gI u_22 15 (ix a1)) = (gI u_22 17 (ix a1)) then j_X11_tests_75 a1 (1 : Int32) u_22 else j_X11_tests_75 a1 (0 : Int32) u_22 else j_X11_tests_76 a1 v2_23 u_22 else none
def j_X11_tests_43 (a1 : Int32) (t_26 : Int32) (u_25 : gm_M) : Option gm_M := j_X11_tests_44 a1 t_26 u_25
def f_X11_tests (a1 : Int32) (u : gm_M) : Option gm_M := (f_X11_sums a1 u).bind fun u_27 => if ib a1 7 = true then gm_let (gI u_27 17 (ix a1)) fun v2_30 => if (gI u_27 16 (ix a1)) = (24 : Int32) then if (gI u_27 17 (ix a1)) ≤ (gI u_27 15 (ix a1)) then j_X11_tests_43 a1 (0 : Int32) u_27 else j_X11_tests_43 a1 (1 : Int32) u_27 else j_X11_tests_44 a1 v2_30 u_27 else none
set_option maxRecDepth 100000 in
set_option maxHeartbeats 4000000 in
theorem ok_X11_tests (l : Launch) (Z : gm_Z) (a1 : Int32) (u : gm_M)  (u' : gm_M) (hf : f_X11_tests a1 u = some (u')) : gm_Met l GM Z yX11_tests cX11_tests 3 none ({ frames := 1, cells := 0, slots := 0, locals := 21 }) [rv Z 1, .int a1] u none u' := by
  unfold f_X11_tests at hf
  refine gm_ofW (by decide +kernel) (Nat.le_of_ble_eq_true rfl) ?_
  intro p e s m args below meth c A ls Q R hRf hRl C E hl hw
  obtain ⟨hx, hb, -⟩ := id C
  have hl : lv_has ls 3 [(0, rv Z 1), (1, .int a1)] := hl
  have J136 : ∀ (v2_2 : Int32) (u_1 : gm_M) (H : Heap) (locs : List Loc) (ls : Array Slot), j_X11_tests_136 a1 v2_2 u_1 = some (u') → lv_has ls 3 [(0, rv Z 1), (1, .int a1), (2, .int v2_2)] → wd GM Z u_1 A s.heap H locs → W p l e R s m args below meth c H locs 0 0 Q (F0 m 136 ls []) := by
    intro v2_2 u_1 H locs ls hf  hl hw
    unfold j_X11_tests_136 at hf
    refine gm_aload_n (G := GM) (r := 1) C rfl dX11_tests_136 rfl (lv_at hl 0 rfl) ?_
    refine gm_getS (G := GM) (u := u_1) (r := 1) (ci := 10) (k := 22) C hw rfl fl_X11_45 dX11_tests_137 rfl (q := 13) rfl ?_
    refine lv_iload_n hx hb dX11_tests_140 rfl (lv_at hl 1 rfl) ?_
    refine lv_iload_n hx hb dX11_tests_141 rfl (lv_at hl 2 rfl) ?_
    obtain ⟨g_3, hf⟩ := gm_grd hf
    refine gm_iast (G := GM) (u := u_1) (r := 13) (n := 7) (i := a1) (x := v2_2) C hw rfl g_3 rfl dX11_tests_142 (fun H locs hw => ?_)
    obtain ⟨u_4, e_u_4, hf⟩ := gm_le hf
    rw [← e_u_4] at hw
    refine gm_aload_n (G := GM) (r := 1) C rfl dX11_tests_143 rfl (lv_at hl 0 rfl) ?_
    refine gm_getS (G := GM) (u := u_4) (r := 1) (ci := 10) (k := 25) C hw rfl fl_X11_54 dX11_tests_144 rfl (q := 16) rfl ?_
    refine lv_iload_n hx hb dX11_tests_147 rfl (lv_at hl 1 rfl) ?_
    refine lv_iconst (v := 0) hx hb dX11_tests_148 (by decide) ?_
    refine gm_iast (G := GM) (u := u_4) (r := 16) (n := 7) (i := a1) (x := (0 : Int32)) C hw rfl g_3 rfl dX11_tests_149 (fun H locs hw => ?_)
    obtain ⟨u_5, e_u_5, hf⟩ := gm_le hf
    rw [← e_u_5] at hw
    refine gm_aload_n (G := GM) (r := 1) C rfl dX11_tests_150 rfl (lv_at hl 0 rfl) ?_
    refine gm_getS (G := GM) (u := u_5) (r := 1) (ci := 10) (k := 26) C hw rfl fl_X11_57 dX11_tests_151 rfl (q := 17) rfl ?_
    refine lv_iload_n hx hb dX11_tests_154 rfl (lv_at hl 1 rfl) ?_
    refine lv_iconst (v := 0) hx hb dX11_tests_155 (by decide) ?_
    refine gm_iast (G := GM) (u := u_5) (r := 17) (n := 7) (i := a1) (x := (0 : Int32)) C hw rfl g_3 rfl dX11_tests_156 (fun H locs hw => ?_)
    obtain ⟨u_6, e_u_6, hf⟩ := gm_le hf
    rw [← e_u_6] at hw
    refine gm_aload_n (G := GM) (r := 1) C rfl dX11_tests_157 rfl (lv_at hl 0 rfl) ?_
    refine gm_getS (G := GM) (u := u_6) (r := 1) (ci := 10) (k := 27) C hw rfl fl_X11_60 dX11_tests_158 rfl (q := 18) rfl ?_
    refine lv_iload_n hx hb dX11_tests_161 rfl (lv_at hl 1 rfl) ?_
    refine lv_bipush (v := 20) hx hb dX11_tests_162 (by decide) ?_
    refine gm_iast (G := GM) (u := u_6) (r := 18) (n := 7) (i := a1) (x := (20 : Int32)) C hw rfl g_3 rfl dX11_tests_164 (fun H locs hw => ?_)
    obtain ⟨u_7, e_u_7, hf⟩ := gm_le hf
    rw [← e_u_7] at hw
    exact gm_vret C E hw rfl rfl (Option.some.inj hf).symm dX11_tests_165
  have J135 : ∀ (t_9 : Int32) (u_8 : gm_M) (H : Heap) (locs : List Loc) (ls : Array Slot), j_X11_tests_135 a1 t_9 u_8 = some (u') → lv_has ls 3 [(0, rv Z 1), (1, .int a1)] → wd GM Z u_8 A s.heap H locs → W p l e R s m args below meth c H locs 0 0 Q (F0 m 135 ls [.int t_9]) := by
    intro t_9 u_8 H locs ls hf  hl hw
    unfold j_X11_tests_135 at hf
    refine lv_istore_n (i := 2) (lv' := [(2, .int t_9), (0, rv Z 1), (1, .int a1)]) hx hb dX11_tests_135 rfl hl (by decide) rfl (fun ls hl => ?_)
    exact J136 t_9 u_8 _ _ _ hf  (lv_sub hl [1, 2, 0] rfl) hw
  have J130 : ∀  (u_10 : gm_M) (H : Heap) (locs : List Loc) (ls : Array Slot), j_X11_tests_130 a1 u_10 = some (u') → lv_has ls 3 [(0, rv Z 1), (1, .int a1)] → wd GM Z u_10 A s.heap H locs → W p l e R s m args below meth c H locs 0 0 Q (F0 m 130 ls []) := by
    intro  u_10 H locs ls hf  hl hw
    unfold j_X11_tests_130 at hf
    refine lv_iconst (v := 1) hx hb dX11_tests_130 (by decide) ?_
    refine lv_goto (tgt := 135) hx hb dX11_tests_131 (by decide) ?_
    exact J135 (1 : Int32) u_10 _ _ _ hf  (lv_sub hl [0, 1] rfl) hw
  have J106 : ∀ (v2_12 : Int32) (u_11 : gm_M) (H : Heap) (locs : List Loc) (ls : Array Slot), j_X11_tests_106 a1 v2_12 u_11 = some (u') → lv_has ls 3 [(0, rv Z 1), (1, .int a1), (2, .int v2_12)] → wd GM Z u_11 A s.heap H locs → W p l e R s m args below meth c H locs 0 0 Q (F0 m 106 ls []) := by
    intro v2_12 u_11 H locs ls hf  hl hw
    unfold j_X11_tests_106 at hf
    refine gm_aload_n (G := GM) (r := 1) C rfl dX11_tests_106 rfl (lv_at hl 0 rfl) ?_
    refine gm_getS (G := GM) (u := u_11) (r := 1) (ci := 10) (k := 23) C hw rfl fl_X11_48 dX11_tests_107 rfl (q := 14) rfl ?_
    refine lv_iload_n hx hb dX11_tests_110 rfl (lv_at hl 1 rfl) ?_
    obtain ⟨g_13, hf⟩ := gm_grd hf
    refine gm_iald (G := GM) (u := u_11) (r := 14) (n := 7) (i := a1) C hw rfl g_13 rfl dX11_tests_111 ?_
    refine lv_bipush (v := 27) hx hb dX11_tests_112 (by decide) ?_
    refine lv_icmp_ne (tgt := 136) hx hb dX11_tests_114 (by decide) (fun hc => ?_) (fun hc => ?_)
    · replace hf := (if_neg hc).symm.trans hf
      exact J136 v2_12 u_11 _ _ _ hf  (lv_sub hl [0, 1, 2] rfl) hw
    · replace hf := (if_pos hc).symm.trans hf
      refine gm_aload_n (G := GM) (r := 1) C rfl dX11_tests_117 rfl (lv_at hl 0 rfl) ?_
      refine gm_getS (G := GM) (u := u_11) (r := 1) (ci := 10) (k := 22) C hw rfl fl_X11_45 dX11_tests_118 rfl (q := 13) rfl ?_
      refine lv_iload_n hx hb dX11_tests_121 rfl (lv_at hl 1 rfl) ?_
      refine gm_iald (G := GM) (u := u_11) (r := 13) (n := 7) (i := a1) C hw rfl g_13 rfl dX11_tests_122 ?_
      refine lv_if_ne (tgt := 130) hx hb dX11_tests_123 (by decide) (fun hc => ?_) (fun hc => ?_)
      · replace hf := (if_neg hc).symm.trans hf
        exact J130 u_11 _ _ _ hf  (lv_sub hl [0, 1] rfl) hw
      · replace hf := (if_pos hc).symm.trans hf
        refine lv_iload_n hx hb dX11_tests_126 rfl (lv_at hl 2 rfl) ?_
        refine lv_if_eq (tgt := 134) hx hb dX11_tests_127 (by decide) (fun hc => ?_) (fun hc => ?_)
        · replace hf := (if_pos hc).symm.trans hf
          refine lv_iconst (v := 0) hx hb dX11_tests_134 (by decide) ?_
          exact J135 (0 : Int32) u_11 _ _ _ hf  (lv_sub hl [0, 1] rfl) hw
        · replace hf := (if_neg hc).symm.trans hf
          exact J130 u_11 _ _ _ hf  (lv_sub hl [0, 1] rfl) hw
  have J105 : ∀ (t_15 : Int32) (u_14 : gm_M) (H : Heap) (locs : List Loc) (ls : Array Slot), j_X11_tests_105 a1 t_15 u_14 = some (u') → lv_has ls 3 [(0, rv Z 1), (1, .int a1)] → wd GM Z u_14 A s.heap H locs → W p l e R s m args below meth c H locs 0 0 Q (F0 m 105 ls [.int t_15]) := by
    intro t_15 u_14 H locs ls hf  hl hw
    unfold j_X11_tests_105 at hf
    refine lv_istore_n (i := 2) (lv' := [(2, .int t_15), (0, rv Z 1), (1, .int a1)]) hx hb dX11_tests_105 rfl hl (by decide) rfl (fun ls hl => ?_)
    exact J106 t_15 u_14 _ _ _ hf  (lv_sub hl [1, 2, 0] rfl) hw
  have J104 : ∀  (u_16 : gm_M) (H : Heap) (locs : List Loc) (ls : Array Slot), j_X11_tests_104 a1 u_16 = some (u') → lv_has ls 3 [(0, rv Z 1), (1, .int a1)] → wd GM Z u_16 A s.heap H locs → W p l e R s m args below meth c H locs 0 0 Q (F0 m 104 ls []) := by
    intro  u_16 H locs ls hf  hl hw
    unfold j_X11_tests_104 at hf
    refine lv_iconst (v := 0) hx hb dX11_tests_104 (by decide) ?_
    exact J105 (0 : Int32) u_16 _ _ _ hf  (lv_sub hl [0, 1] rfl) hw
  have J76 : ∀ (v2_18 : Int32) (u_17 : gm_M) (H : Heap) (locs : List Loc) (ls : Array Slot), j_X11_tests_76 a1 v2_18 u_17 = some (u') → lv_has ls 3 [(0, rv Z 1), (1, .int a1), (2, .int v2_18)] → wd GM Z u_17 A s.heap H locs → W p l e R s m args below meth c H locs 0 0 Q (F0 m 76 ls []) := by
    intro v2_18 u_17 H locs ls hf  hl hw
    unfold j_X11_tests_76 at hf
    refine gm_aload_n (G := GM) (r := 1) C rfl dX11_tests_76 rfl (lv_at hl 0 rfl) ?_
    refine gm_getS (G := GM) (u := u_17) (r := 1) (ci := 10) (k := 23) C hw rfl fl_X11_48 dX11_tests_77 rfl (q := 14) rfl ?_
    refine lv_iload_n hx hb dX11_tests_80 rfl (lv_at hl 1 rfl) ?_
    obtain ⟨g_19, hf⟩ := gm_grd hf
    refine gm_iald (G := GM) (u := u_17) (r := 14) (n := 7) (i := a1) C hw rfl g_19 rfl dX11_tests_81 ?_
    refine lv_bipush (v := 26) hx hb dX11_tests_82 (by decide) ?_
    refine lv_icmp_ne (tgt := 106) hx hb dX11_tests_84 (by decide) (fun hc => ?_) (fun hc => ?_)
    · replace hf := (if_neg hc).symm.trans hf
      exact J106 v2_18 u_17 _ _ _ hf  (lv_sub hl [0, 1, 2] rfl) hw
    · replace hf := (if_pos hc).symm.trans hf
      refine gm_aload_n (G := GM) (r := 1) C rfl dX11_tests_87 rfl (lv_at hl 0 rfl) ?_
      refine gm_getS (G := GM) (u := u_17) (r := 1) (ci := 10) (k := 22) C hw rfl fl_X11_45 dX11_tests_88 rfl (q := 13) rfl ?_
      refine lv_iload_n hx hb dX11_tests_91 rfl (lv_at hl 1 rfl) ?_
      refine gm_iald (G := GM) (u := u_17) (r := 13) (n := 7) (i := a1) C hw rfl g_19 rfl dX11_tests_92 ?_
      refine lv_if_eq (tgt := 104) hx hb dX11_tests_93 (by decide) (fun hc => ?_) (fun hc => ?_)
      · replace hf := (if_pos hc).symm.trans hf
        exact J104 u_17 _ _ _ hf  (lv_sub hl [0, 1] rfl) hw
      · replace hf := (if_neg hc).symm.trans hf
        refine lv_iload_n hx hb dX11_tests_96 rfl (lv_at hl 2 rfl) ?_
        refine lv_if_eq (tgt := 104) hx hb dX11_tests_97 (by decide) (fun hc => ?_) (fun hc => ?_)
        · replace hf := (if_pos hc).symm.trans hf
          exact J104 u_17 _ _ _ hf  (lv_sub hl [0, 1] rfl) hw
        · replace hf := (if_neg hc).symm.trans hf
          refine lv_iconst (v := 1) hx hb dX11_tests_100 (by decide) ?_
          refine lv_goto (tgt := 105) hx hb dX11_tests_101 (by decide) ?_
          exact J105 (1 : Int32) u_17 _ _ _ hf  (lv_sub hl [0, 1] rfl) hw
  have J75 : ∀ (t_21 : Int32) (u_20 : gm_M) (H : Heap) (locs : List Loc) (ls : Array Slot), j_X11_tests_75 a1 t_21 u_20 = some (u') → lv_has ls 3 [(0, rv Z 1), (1, .int a1)] → wd GM Z u_20 A s.heap H locs → W p l e R s m args below meth c H locs 0 0 Q (F0 m 75 ls [.int t_21]) := by
    intro t_21 u_20 H locs ls hf  hl hw
    unfold j_X11_tests_75 at hf
    refine lv_istore_n (i := 2) (lv' := [(2, .int t_21), (0, rv Z 1), (1, .int a1)]) hx hb dX11_tests_75 rfl hl (by decide) rfl (fun ls hl => ?_)
    exact J76 t_21 u_20 _ _ _ hf  (lv_sub hl [1, 2, 0] rfl) hw
  have J44 : ∀ (v2_23 : Int32) (u_22 : gm_M) (H : Heap) (locs : List Loc) (ls : Array Slot), j_X11_tests_44 a1 v2_23 u_22 = some (u') → lv_has ls 3 [(0, rv Z 1), (1, .int a1), (2, .int v2_23)] → wd GM Z u_22 A s.heap H locs → W p l e R s m args below meth c H locs 0 0 Q (F0 m 44 ls []) := by
    intro v2_23 u_22 H locs ls hf  hl hw
    unfold j_X11_tests_44 at hf
    refine gm_aload_n (G := GM) (r := 1) C rfl dX11_tests_44 rfl (lv_at hl 0 rfl) ?_
    refine gm_getS (G := GM) (u := u_22) (r := 1) (ci := 10) (k := 25) C hw rfl fl_X11_54 dX11_tests_45 rfl (q := 16) rfl ?_
    refine lv_iload_n hx hb dX11_tests_48 rfl (lv_at hl 1 rfl) ?_
    obtain ⟨g_24, hf⟩ := gm_grd hf
    refine gm_iald (G := GM) (u := u_22) (r := 16) (n := 7) (i := a1) C hw rfl g_24 rfl dX11_tests_49 ?_
    refine lv_bipush (v := 25) hx hb dX11_tests_50 (by decide) ?_
    refine lv_icmp_ne (tgt := 76) hx hb dX11_tests_52 (by decide) (fun hc => ?_) (fun hc => ?_)
    · replace hf := (if_neg hc).symm.trans hf
      exact J76 v2_23 u_22 _ _ _ hf  (lv_sub hl [0, 1, 2] rfl) hw
    · replace hf := (if_pos hc).symm.trans hf
      refine gm_aload_n (G := GM) (r := 1) C rfl dX11_tests_55 rfl (lv_at hl 0 rfl) ?_
      refine gm_getS (G := GM) (u := u_22) (r := 1) (ci := 10) (k := 24) C hw rfl fl_X11_51 dX11_tests_56 rfl (q := 15) rfl ?_
      refine lv_iload_n hx hb dX11_tests_59 rfl (lv_at hl 1 rfl) ?_
      refine gm_iald (G := GM) (u := u_22) (r := 15) (n := 7) (i := a1) C hw rfl g_24 rfl dX11_tests_60 ?_
      refine gm_aload_n (G := GM) (r := 1) C rfl dX11_tests_61 rfl (lv_at hl 0 rfl) ?_
      refine gm_getS (G := GM) (u := u_22) (r := 1) (ci := 10) (k := 26) C hw rfl fl_X11_57 dX11_tests_62 rfl (q := 17) rfl ?_
      refine lv_iload_n hx hb dX11_tests_65 rfl (lv_at hl 1 rfl) ?_
      refine gm_iald (G := GM) (u := u_22) (r := 17) (n := 7) (i := a1) C hw rfl g_24 rfl dX11_tests_66 ?_
      refine lv_icmp_ne (tgt := 74) hx hb dX11_tests_67 (by decide) (fun hc => ?_) (fun hc => ?_)
      · replace hf := (if_neg hc).symm.trans hf
        refine lv_iconst (v := 0) hx hb dX11_tests_74 (by decide) ?_
        exact J75 (0 : Int32) u_22 _ _ _ hf  (lv_sub hl [0, 1] rfl) hw
      · replace hf := (if_pos hc).symm.trans hf
        refine lv_iconst (v := 1) hx hb dX11_tests_70 (by decide) ?_
        refine lv_goto (tgt := 75) hx hb dX11_tests_71 (by decide) ?_
        exact J75 (1 : Int32) u_22 _ _ _ hf  (lv_sub hl [0, 1] rfl) hw
  have J43 : ∀ (t_26 : Int32) (u_25 : gm_M) (H : Heap) (locs : List Loc) (ls : Array Slot), j_X11_tests_43 a1 t_26 u_25 = some (u') → lv_has ls 3 [(0, rv Z 1), (1, .int a1)] → wd GM Z u_25 A s.heap H locs → W p l e R s m args below meth c H locs 0 0 Q (F0 m 43 ls [.int t_26]) := by
    intro t_26 u_25 H locs ls hf  hl hw
    unfold j_X11_tests_43 at hf
    refine lv_istore_n (i := 2) (lv' := [(2, .int t_26), (0, rv Z 1), (1, .int a1)]) hx hb dX11_tests_43 rfl hl (by decide) rfl (fun ls hl => ?_)
    exact J44 t_26 u_25 _ _ _ hf  (lv_sub hl [1, 2, 0] rfl) hw
  refine gm_aload_n (G := GM) (r := 1) C rfl dX11_tests_0 rfl (lv_at hl 0 rfl) ?_
  refine lv_iload_n hx hb dX11_tests_1 rfl (lv_at hl 1 rfl) ?_
  obtain ⟨u_27, hc_28, hf⟩ := gm_bnd hf
  refine gm_callV (G := GM) (u := u) (u' := u_27) (r := 1) (ci := 10) (As := [.int a1]) (rest := []) (res := none) C hw hl (ok_X11_sums l Z a1 u u_27 hc_28) cw_X11_213 im_X11_sums rfl se_X11_sums rfl rfl rfl ⟨Nat.le_trans (Nat.le_of_ble_eq_true rfl) hRf, Nat.le_trans (Nat.le_of_ble_eq_true rfl) hRl⟩ rfl rfl (Nat.le_of_ble_eq_true rfl) dX11_tests_2 (fun H locs hw => ?_)
  refine gm_aload_n (G := GM) (r := 1) C rfl dX11_tests_5 rfl (lv_at hl 0 rfl) ?_
  refine gm_getS (G := GM) (u := u_27) (r := 1) (ci := 10) (k := 26) C hw rfl fl_X11_57 dX11_tests_6 rfl (q := 17) rfl ?_
  refine lv_iload_n hx hb dX11_tests_9 rfl (lv_at hl 1 rfl) ?_
  obtain ⟨g_29, hf⟩ := gm_grd hf
  refine gm_iald (G := GM) (u := u_27) (r := 17) (n := 7) (i := a1) C hw rfl g_29 rfl dX11_tests_10 ?_
  obtain ⟨v2_30, e_v2_30, hf⟩ := gm_le hf
  refine gm_topI e_v2_30 ?_
  refine lv_istore_n (i := 2) (lv' := [(2, .int v2_30), (0, rv Z 1), (1, .int a1)]) hx hb dX11_tests_11 rfl hl (by decide) rfl (fun ls hl => ?_)
  refine gm_aload_n (G := GM) (r := 1) C rfl dX11_tests_12 rfl (lv_at hl 1 rfl) ?_
  refine gm_getS (G := GM) (u := u_27) (r := 1) (ci := 10) (k := 25) C hw rfl fl_X11_54 dX11_tests_13 rfl (q := 16) rfl ?_
  refine lv_iload_n hx hb dX11_tests_16 rfl (lv_at hl 2 rfl) ?_
  refine gm_iald (G := GM) (u := u_27) (r := 16) (n := 7) (i := a1) C hw rfl g_29 rfl dX11_tests_17 ?_
  refine lv_bipush (v := 24) hx hb dX11_tests_18 (by decide) ?_
  refine lv_icmp_ne (tgt := 44) hx hb dX11_tests_20 (by decide) (fun hc => ?_) (fun hc => ?_)
  · replace hf := (if_neg hc).symm.trans hf
    exact J44 v2_30 u_27 _ _ _ hf  (lv_sub hl [1, 2, 0] rfl) hw
  · replace hf := (if_pos hc).symm.trans hf
    refine gm_aload_n (G := GM) (r := 1) C rfl dX11_tests_23 rfl (lv_at hl 1 rfl) ?_
    refine gm_getS (G := GM) (u := u_27) (r := 1) (ci := 10) (k := 24) C hw rfl fl_X11_51 dX11_tests_24 rfl (q := 15) rfl ?_
    refine lv_iload_n hx hb dX11_tests_27 rfl (lv_at hl 2 rfl) ?_
    refine gm_iald (G := GM) (u := u_27) (r := 15) (n := 7) (i := a1) C hw rfl g_29 rfl dX11_tests_28 ?_
    refine gm_aload_n (G := GM) (r := 1) C rfl dX11_tests_29 rfl (lv_at hl 1 rfl) ?_
    refine gm_getS (G := GM) (u := u_27) (r := 1) (ci := 10) (k := 26) C hw rfl fl_X11_57 dX11_tests_30 rfl (q := 17) rfl ?_
    refine lv_iload_n hx hb dX11_tests_33 rfl (lv_at hl 2 rfl) ?_
    refine gm_iald (G := GM) (u := u_27) (r := 17) (n := 7) (i := a1) C hw rfl g_29 rfl dX11_tests_34 ?_
    refine lv_icmp_ge (tgt := 42) hx hb dX11_tests_35 (by decide) (fun hc => ?_) (fun hc => ?_)
    · replace hf := (if_pos hc).symm.trans hf
      refine lv_iconst (v := 0) hx hb dX11_tests_42 (by decide) ?_
      exact J43 (0 : Int32) u_27 _ _ _ hf  (lv_sub hl [1, 2] rfl) hw
    · replace hf := (if_neg hc).symm.trans hf
      refine lv_iconst (v := 1) hx hb dX11_tests_38 (by decide) ?_
      refine lv_goto (tgt := 43) hx hb dX11_tests_39 (by decide) ?_
      exact J43 (1 : Int32) u_27 _ _ _ hf  (lv_sub hl [1, 2] rfl) hw
/-! LeapCapitalModel.worked -/
def j_X11_worked_328 (a1 : Int32) (v2_9 : Int32) (v3_10 : Int32) (t_11 : Int32) (t_12 : Int32) (u_8 : gm_M) : Option ((Int32 × Int32 × gm_M) ⊕ gm_M) := if ib t_11 7 = true then gm_let (sI u_8 19 (ix t_11) t_12) fun u_14 => some (.inl (v2_9, v3_10 + (1 : Int32), u_14)) else none
def j_X11_worked_300 (a1 : Int32) (v2_16 : Int32) (v3_17 : Int32) (v5_18 : Int32) (u_15 : gm_M) : Option ((Int32 × Int32 × gm_M) ⊕ gm_M) := if ib v2_16 7 = true then if (gI u_15 20 (ix v2_16)) = 0 then j_X11_worked_328 a1 v2_16 v3_17 v2_16 v5_18 u_15 else j_X11_worked_328 a1 v2_16 v3_17 v2_16 ((gI u_15 19 (ix v2_16)) * v5_18) u_15 else none
def b_X11_worked_268 (a1 : Int32) (v3_22 : Int32) (u_20 : gm_M) : (Int32 × Int32) → Option ((Int32 × Int32) ⊕ ((Int32 × Int32))) := fun x => match x with | (v2_24, v5_25) => if v2_24 ≤ 0 then some (.inr (v2_24, v5_25)) else if ib v2_24 7 = true then if (gI u_20 21 (ix v2_24)) = (1 : Int32) then if v5_25 = 0 then some (.inl (v2_24 + (-1 : Int32), (1 : Int32))) else some (.inl (v2_24 + (-1 : Int32), (0 : Int32))) else some (.inr (v2_24, v5_25)) else none
def j_X11_worked_268 (a1 : Int32) (v2_21 : Int32) (v3_22 : Int32) (v5_23 : Int32) (u_20 : gm_M) : Option ((Int32 × Int32 × gm_M) ⊕ gm_M) := ((gm_lp (b_X11_worked_268 a1 v3_22 u_20) gm_FU (v2_21, v5_23)).bind fun o => match o with | (w2_27, w5_28) => j_X11_worked_300 a1 w2_27 v3_22 w5_28 u_20)
def j_X11_worked_243 (a1 : Int32) (v2_30 : Int32) (v3_31 : Int32) (v4_32 : Int32) (t_33 : Int32) (u_29 : gm_M) : Option ((Int32 × Int32 × gm_M) ⊕ gm_M) := if v4_32 = (29 : Int32) then (f_X11_tests v2_30 u_29).bind fun u_34 => if ib v2_30 7 = true then gm_let (gI u_34 13 (ix v2_30)) fun v5_37 => j_X11_worked_268 a1 (v2_30 + (-1 : Int32)) v3_31 v5_37 u_34 else none else j_X11_worked_268 a1 v2_30 v3_31 t_33 u_29
def j_X11_worked_194 (a1 : Int32) (v2_39 : Int32) (v3_40 : Int32) (v4_41 : Int32) (u_38 : gm_M) : Option ((Int32 × Int32 × gm_M) ⊕ gm_M) := (f_X11_tests v2_39 u_38).bind fun u_42 => if ib v2_39 7 = true then gm_let (sI u_42 14 (ix v2_39) v4_41) fun u_45 => some (.inl (v2_39, v3_40 + (1 : Int32), u_45)) else none
def j_X11_worked_137 (a1 : Int32) (v2_47 : Int32) (v3_48 : Int32) (v4_49 : Int32) (u_46 : gm_M) : Option ((Int32 × Int32 × gm_M) ⊕ gm_M) := (f_X11_sums v2_47 u_46).bind fun u_50 => if ib v2_47 7 = true then gm_let (sI u_50 15 (ix v2_47) (gI u_50 17 (ix v2_47))) fun u_53 => gm_let (sI u_53 16 (ix v2_47) v4_49) fun u_54 => gm_let (sI u_54 17 (ix v2_47) (0 : Int32)) fun u_55 => gm_let (sI u_55 18 (ix v2_47) (20 : Int32)) fun u_56 => some (.inl (v2_47, v3_48 + (1 : Int32), u_56)) else none
def j_X11_worked_89 (a1 : Int32) (v2_58 : Int32) (v3_59 : Int32) (v4_60 : Int32) (u_57 : gm_M) : Option ((Int32 × Int32 × gm_M) ⊕ gm_M) := (f_X11_sums v2_58 u_57).bind fun u_61 => if ib v2_58 7 = true then gm_let (sI u_61 18 (ix v2_58) v4_60) fun u_64 => some (.inl (v2_58, v3_59 + (1 : Int32), u_64)) else none
def j_X11_worked_66 (a1 : Int32) (v2_66 : Int32) (v3_67 : Int32) (t_68 : Int32) (t_69 : Int32) (u_65 : gm_M) : Option ((Int32 × Int32 × gm_M) ⊕ gm_M) := if ib t_68 7 = true then gm_let (sI u_65 21 (ix t_68) t_69) fun u_71 => (f_X11_opens v2_66 u_71).bind fun u_72 => some (.inl (v2_66, v3_67 + (1 : Int32), u_72)) else none
def j_X11_worked_46 (a1 : Int32) (v2_75 : Int32) (v3_76 : Int32) (v4_77 : Int32) (u_74 : gm_M) : Option ((Int32 × Int32 × gm_M) ⊕ gm_M) := if v4_77 = (30 : Int32) then j_X11_worked_66 a1 (v2_75 + (1 : Int32)) v3_76 (v2_75 + (1 : Int32)) (1 : Int32) u_74 else j_X11_worked_66 a1 (v2_75 + (1 : Int32)) v3_76 (v2_75 + (1 : Int32)) (0 : Int32) u_74
def b_X11_worked_14 (a1 : Int32) : (Int32 × Int32 × gm_M) → Option ((Int32 × Int32 × gm_M) ⊕ gm_M) := fun x => match x with | (v2_6, v3_7, u_5) => if ib a1 2 = true then if (gI u_5 9 (ix a1)) ≤ v3_7 then some (.inr u_5) else if ib v3_7 2000 = true then gm_let (gI u_5 10 (ix v3_7)) fun v4_80 => if v4_80 = (28 : Int32) then j_X11_worked_46 a1 v2_6 v3_7 v4_80 u_5 else if v4_80 = (30 : Int32) then j_X11_worked_46 a1 v2_6 v3_7 v4_80 u_5 else if v4_80 = (20 : Int32) then j_X11_worked_89 a1 v2_6 v3_7 v4_80 u_5 else if v4_80 = (21 : Int32) then j_X11_worked_89 a1 v2_6 v3_7 v4_80 u_5 else if v4_80 = (22 : Int32) then if ib v2_6 7 = true then gm_let (sI u_5 20 (ix v2_6) v4_80) fun u_83 => some (.inl (v2_6, v3_7 + (1 : Int32), u_83)) else none else if v4_80 = (24 : Int32) then j_X11_worked_137 a1 v2_6 v3_7 v4_80 u_5 else if v4_80 = (25 : Int32) then j_X11_worked_137 a1 v2_6 v3_7 v4_80 u_5 else if v4_80 = (26 : Int32) then j_X11_worked_194 a1 v2_6 v3_7 v4_80 u_5 else if v4_80 = (27 : Int32) then j_X11_worked_194 a1 v2_6 v3_7 v4_80 u_5 else if v4_80 < (100 : Int32) then if (20 : Int32) ≤ v4_80 then j_X11_worked_243 a1 v2_6 v3_7 v4_80 (0 : Int32) u_5 else if ib v4_80 20 = true then j_X11_worked_243 a1 v2_6 v3_7 v4_80 (gI u_5 22 (ix v4_80)) u_5 else none else j_X11_worked_243 a1 v2_6 v3_7 v4_80 (v4_80 - (100 : Int32)) u_5 else none else none
def f_X11_worked (a1 : Int32) (u : gm_M) : Option (Int32 × gm_M) := (f_X11_opens (0 : Int32) u).bind fun u_1 => if ib a1 2 = true then gm_let (gI u_1 8 (ix a1)) fun v3_4 => ((gm_lp (b_X11_worked_14 a1) gm_FU ((0 : Int32), v3_4, u_1)).bind fun o => match o with | u_84 => (f_X11_tests (0 : Int32) u_84).bind fun u_85 => some (gI u_85 13 0, u_85)) else none
set_option maxRecDepth 100000 in
set_option maxHeartbeats 4000000 in
theorem ok_X11_worked (l : Launch) (Z : gm_Z) (a1 : Int32) (u : gm_M)  (r : Int32) (u' : gm_M) (hf : f_X11_worked a1 u = some (r, u')) : gm_Met l GM Z yX11_worked cX11_worked 6 (some .int) ({ frames := 2, cells := 0, slots := 0, locals := 43 }) [rv Z 1, .int a1] u (some (.int r)) u' := by
  unfold f_X11_worked at hf
  refine gm_ofW (by decide +kernel) (Nat.le_of_ble_eq_true rfl) ?_
  intro p e s m args below meth c A ls Q R hRf hRl C E hl hw
  obtain ⟨hx, hb, -⟩ := id C
  have hl : lv_has ls 6 [(0, rv Z 1), (1, .int a1)] := hl
  refine lv_iconst (v := 0) hx hb dX11_worked_0 (by decide) ?_
  refine lv_istore_n (i := 2) (lv' := [(2, .int (0 : Int32)), (0, rv Z 1), (1, .int a1)]) hx hb dX11_worked_1 rfl hl (by decide) rfl (fun ls hl => ?_)
  refine gm_aload_n (G := GM) (r := 1) C rfl dX11_worked_2 rfl (lv_at hl 1 rfl) ?_
  refine lv_iconst (v := 0) hx hb dX11_worked_3 (by decide) ?_
  obtain ⟨u_1, hc_2, hf⟩ := gm_bnd hf
  refine gm_callV (G := GM) (u := u) (u' := u_1) (r := 1) (ci := 10) (As := [.int (0 : Int32)]) (rest := []) (res := none) C hw hl (ok_X11_opens l Z (0 : Int32) u u_1 hc_2) cw_X11_216 im_X11_opens rfl se_X11_opens rfl rfl rfl ⟨Nat.le_trans (Nat.le_of_ble_eq_true rfl) hRf, Nat.le_trans (Nat.le_of_ble_eq_true rfl) hRl⟩ rfl rfl (Nat.le_of_ble_eq_true rfl) dX11_worked_4 (fun H locs hw => ?_)
  refine gm_aload_n (G := GM) (r := 1) C rfl dX11_worked_7 rfl (lv_at hl 1 rfl) ?_
  refine gm_getS (G := GM) (u := u_1) (r := 1) (ci := 10) (k := 15) C hw rfl fl_X11_29 dX11_worked_8 rfl (q := 8) rfl ?_
  refine lv_iload_n hx hb dX11_worked_11 rfl (lv_at hl 2 rfl) ?_
  obtain ⟨g_3, hf⟩ := gm_grd hf
  refine gm_iald (G := GM) (u := u_1) (r := 8) (n := 2) (i := a1) C hw rfl g_3 rfl dX11_worked_12 ?_
  obtain ⟨v3_4, e_v3_4, hf⟩ := gm_le hf
  refine gm_topI e_v3_4 ?_
  refine lv_istore_n (i := 3) (lv' := [(3, .int v3_4), (2, .int (0 : Int32)), (0, rv Z 1), (1, .int a1)]) hx hb dX11_worked_13 rfl hl (by decide) rfl (fun ls hl => ?_)
  obtain ⟨o1, hlp, hf⟩ := gm_bnd hf
  have L14_2 := gm_loop (b_X11_worked_14 a1) (fun x : (Int32 × Int32 × gm_M) => ∀ (H : Heap) (locs : List Loc) (ls : Array Slot), lv_has ls 6 [(0, rv Z 1), (1, .int a1), (2, .int x.1), (3, .int x.2.1)] → wd GM Z x.2.2 A s.heap H locs → W p l e R s m args below meth c H locs 0 0 Q (F0 m 14 ls [])) (fun z : gm_M => ∀ (H : Heap) (locs : List Loc) (ls : Array Slot), lv_has ls 6 [(0, rv Z 1)] → wd GM Z z A s.heap H locs → W p l e R s m args below meth c H locs 0 0 Q (F0 m 335 ls [])) (by
    intro x o1 hf Kc Kx
    obtain ⟨v2_6, v3_7, u_5⟩ := x
    intro H locs ls hl hw
    unfold b_X11_worked_14 at hf
    try dsimp only at hf
    have J328 : ∀ (v2_9 : Int32) (v3_10 : Int32) (t_11 : Int32) (t_12 : Int32) (u_8 : gm_M) (H : Heap) (locs : List Loc) (ls : Array Slot), j_X11_worked_328 a1 v2_9 v3_10 t_11 t_12 u_8 = some o1 → lv_has ls 6 [(0, rv Z 1), (1, .int a1), (2, .int v2_9), (3, .int v3_10)] → wd GM Z u_8 A s.heap H locs → W p l e R s m args below meth c H locs 0 0 Q (F0 m 328 ls [.int t_12, .int t_11, rv Z 19]) := by
      intro v2_9 v3_10 t_11 t_12 u_8 H locs ls hf  hl hw
      unfold j_X11_worked_328 at hf
      obtain ⟨g_13, hf⟩ := gm_grd hf
      refine gm_iast (G := GM) (u := u_8) (r := 19) (n := 7) (i := t_11) (x := t_12) C hw rfl g_13 rfl dX11_worked_328 (fun H locs hw => ?_)
      obtain ⟨u_14, e_u_14, hf⟩ := gm_le hf
      rw [← e_u_14] at hw
      refine lv_iinc (v := v3_10 + (1 : Int32)) (lv' := [(3, .int (v3_10 + (1 : Int32))), (0, rv Z 1), (1, .int a1), (2, .int v2_9)]) hx hb dX11_worked_329 hl (k := 3) rfl rfl (by decide) rfl (fun ls hl => ?_)
      refine lv_goto (tgt := 14) hx hb dX11_worked_332 (by decide) ?_
      exact Kc _ (gm_si hf) _ _ _ (lv_sub hl [1, 2, 3, 0] rfl) hw
    have J300 : ∀ (v2_16 : Int32) (v3_17 : Int32) (v5_18 : Int32) (u_15 : gm_M) (H : Heap) (locs : List Loc) (ls : Array Slot), j_X11_worked_300 a1 v2_16 v3_17 v5_18 u_15 = some o1 → lv_has ls 6 [(0, rv Z 1), (1, .int a1), (2, .int v2_16), (3, .int v3_17), (5, .int v5_18)] → wd GM Z u_15 A s.heap H locs → W p l e R s m args below meth c H locs 0 0 Q (F0 m 300 ls []) := by
      intro v2_16 v3_17 v5_18 u_15 H locs ls hf  hl hw
      unfold j_X11_worked_300 at hf
      refine gm_aload_n (G := GM) (r := 1) C rfl dX11_worked_300 rfl (lv_at hl 0 rfl) ?_
      refine gm_getS (G := GM) (u := u_15) (r := 1) (ci := 10) (k := 28) C hw rfl fl_X11_63 dX11_worked_301 rfl (q := 19) rfl ?_
      refine lv_iload_n hx hb dX11_worked_304 rfl (lv_at hl 2 rfl) ?_
      refine gm_aload_n (G := GM) (r := 1) C rfl dX11_worked_305 rfl (lv_at hl 0 rfl) ?_
      refine gm_getS (G := GM) (u := u_15) (r := 1) (ci := 10) (k := 29) C hw rfl fl_X11_66 dX11_worked_306 rfl (q := 20) rfl ?_
      refine lv_iload_n hx hb dX11_worked_309 rfl (lv_at hl 2 rfl) ?_
      obtain ⟨g_19, hf⟩ := gm_grd hf
      refine gm_iald (G := GM) (u := u_15) (r := 20) (n := 7) (i := v2_16) C hw rfl g_19 rfl dX11_worked_310 ?_
      refine lv_if_ne (tgt := 319) hx hb dX11_worked_311 (by decide) (fun hc => ?_) (fun hc => ?_)
      · replace hf := (if_neg hc).symm.trans hf
        refine gm_aload_n (G := GM) (r := 1) C rfl dX11_worked_319 rfl (lv_at hl 0 rfl) ?_
        refine gm_getS (G := GM) (u := u_15) (r := 1) (ci := 10) (k := 28) C hw rfl fl_X11_63 dX11_worked_320 rfl (q := 19) rfl ?_
        refine lv_iload_n hx hb dX11_worked_323 rfl (lv_at hl 2 rfl) ?_
        refine gm_iald (G := GM) (u := u_15) (r := 19) (n := 7) (i := v2_16) C hw rfl g_19 rfl dX11_worked_324 ?_
        refine lv_iload hx hb dX11_worked_325 (lv_at hl 4 rfl) ?_
        refine lv_imul hx hb dX11_worked_327 ?_
        exact J328 v2_16 v3_17 v2_16 ((gI u_15 19 (ix v2_16)) * v5_18) u_15 _ _ _ hf  (lv_sub hl [0, 1, 2, 3] rfl) hw
      · replace hf := (if_pos hc).symm.trans hf
        refine lv_iload hx hb dX11_worked_314 (lv_at hl 4 rfl) ?_
        refine lv_goto (tgt := 328) hx hb dX11_worked_316 (by decide) ?_
        exact J328 v2_16 v3_17 v2_16 v5_18 u_15 _ _ _ hf  (lv_sub hl [0, 1, 2, 3] rfl) hw
    have J268 : ∀ (v2_21 : Int32) (v3_22 : Int32) (v5_23 : Int32) (u_20 : gm_M) (H : Heap) (locs : List Loc) (ls : Array Slot), j_X11_worked_268 a1 v2_21 v3_22 v5_23 u_20 = some o1 → lv_has ls 6 [(0, rv Z 1), (1, .int a1), (2, .int v2_21), (3, .int v3_22), (5, .int v5_23)] → wd GM Z u_20 A s.heap H locs → W p l e R s m args below meth c H locs 0 0 Q (F0 m 268 ls []) := by
      intro v2_21 v3_22 v5_23 u_20 H locs ls hf  hl hw
      unfold j_X11_worked_268 at hf
      obtain ⟨o2, hlp, hf⟩ := gm_bnd hf
      have L268_2 := gm_loop (b_X11_worked_268 a1 v3_22 u_20) (fun x : (Int32 × Int32) => ∀ (H : Heap) (locs : List Loc) (ls : Array Slot), lv_has ls 6 [(0, rv Z 1), (1, .int a1), (2, .int x.1), (3, .int v3_22), (5, .int x.2)] → wd GM Z u_20 A s.heap H locs → W p l e R s m args below meth c H locs 0 0 Q (F0 m 268 ls [])) (fun z : ((Int32 × Int32)) => ∀ (H : Heap) (locs : List Loc) (ls : Array Slot), lv_has ls 6 [(0, rv Z 1), (1, .int a1), (2, .int z.1), (3, .int v3_22), (5, .int z.2)] → wd GM Z u_20 A s.heap H locs → W p l e R s m args below meth c H locs 0 0 Q (F0 m 300 ls [])) (by
        intro x o2 hf Kc Kx
        obtain ⟨v2_24, v5_25⟩ := x
        intro H locs ls hl hw
        unfold b_X11_worked_268 at hf
        try dsimp only at hf
        refine lv_iload_n hx hb dX11_worked_268 rfl (lv_at hl 2 rfl) ?_
        refine lv_if_le (tgt := 300) hx hb dX11_worked_269 (by decide) (fun hc => ?_) (fun hc => ?_)
        · replace hf := (if_pos hc).symm.trans hf
          exact Kx _ (gm_si hf) _ _ _ (lv_sub hl [0, 1, 2, 3, 4] rfl) hw
        · replace hf := (if_neg hc).symm.trans hf
          refine gm_aload_n (G := GM) (r := 1) C rfl dX11_worked_272 rfl (lv_at hl 0 rfl) ?_
          refine gm_getS (G := GM) (u := u_20) (r := 1) (ci := 10) (k := 30) C hw rfl fl_X11_69 dX11_worked_273 rfl (q := 21) rfl ?_
          refine lv_iload_n hx hb dX11_worked_276 rfl (lv_at hl 2 rfl) ?_
          obtain ⟨g_26, hf⟩ := gm_grd hf
          refine gm_iald (G := GM) (u := u_20) (r := 21) (n := 7) (i := v2_24) C hw rfl g_26 rfl dX11_worked_277 ?_
          refine lv_iconst (v := 1) hx hb dX11_worked_278 (by decide) ?_
          refine lv_icmp_ne (tgt := 300) hx hb dX11_worked_279 (by decide) (fun hc => ?_) (fun hc => ?_)
          · replace hf := (if_neg hc).symm.trans hf
            exact Kx _ (gm_si hf) _ _ _ (lv_sub hl [0, 1, 2, 3, 4] rfl) hw
          · replace hf := (if_pos hc).symm.trans hf
            refine lv_iload hx hb dX11_worked_282 (lv_at hl 4 rfl) ?_
            refine lv_if_ne (tgt := 291) hx hb dX11_worked_284 (by decide) (fun hc => ?_) (fun hc => ?_)
            · replace hf := (if_neg hc).symm.trans hf
              refine lv_iconst (v := 0) hx hb dX11_worked_291 (by decide) ?_
              refine lv_istore (i := 5) (lv' := [(5, .int (0 : Int32)), (0, rv Z 1), (1, .int a1), (2, .int v2_24), (3, .int v3_22)]) hx hb dX11_worked_292 hl (by decide) rfl (fun ls hl => ?_)
              refine lv_iinc (v := v2_24 + (-1 : Int32)) (lv' := [(2, .int (v2_24 + (-1 : Int32))), (5, .int (0 : Int32)), (0, rv Z 1), (1, .int a1), (3, .int v3_22)]) hx hb dX11_worked_294 hl (k := 3) rfl rfl (by decide) rfl (fun ls hl => ?_)
              refine lv_goto (tgt := 268) hx hb dX11_worked_297 (by decide) ?_
              exact Kc _ (gm_si hf) _ _ _ (lv_sub hl [2, 3, 0, 4, 1] rfl) hw
            · replace hf := (if_pos hc).symm.trans hf
              refine lv_iconst (v := 1) hx hb dX11_worked_287 (by decide) ?_
              refine lv_goto (tgt := 292) hx hb dX11_worked_288 (by decide) ?_
              refine lv_istore (i := 5) (lv' := [(5, .int (1 : Int32)), (0, rv Z 1), (1, .int a1), (2, .int v2_24), (3, .int v3_22)]) hx hb dX11_worked_292 hl (by decide) rfl (fun ls hl => ?_)
              refine lv_iinc (v := v2_24 + (-1 : Int32)) (lv' := [(2, .int (v2_24 + (-1 : Int32))), (5, .int (1 : Int32)), (0, rv Z 1), (1, .int a1), (3, .int v3_22)]) hx hb dX11_worked_294 hl (k := 3) rfl rfl (by decide) rfl (fun ls hl => ?_)
              refine lv_goto (tgt := 268) hx hb dX11_worked_297 (by decide) ?_
              exact Kc _ (gm_si hf) _ _ _ (lv_sub hl [2, 3, 0, 4, 1] rfl) hw)
      refine L268_2 _ _ _ hlp ?_ _ _ _ (lv_sub hl [0, 1, 2, 3, 4] rfl) hw
      obtain ⟨w2_27, w5_28⟩ := o2
      intro H locs ls hl hw
      try dsimp only at hf
      exact J300 w2_27 v3_22 w5_28 u_20 _ _ _ hf  (lv_sub hl [0, 1, 2, 3, 4] rfl) hw
    have J243 : ∀ (v2_30 : Int32) (v3_31 : Int32) (v4_32 : Int32) (t_33 : Int32) (u_29 : gm_M) (H : Heap) (locs : List Loc) (ls : Array Slot), j_X11_worked_243 a1 v2_30 v3_31 v4_32 t_33 u_29 = some o1 → lv_has ls 6 [(0, rv Z 1), (1, .int a1), (2, .int v2_30), (3, .int v3_31), (4, .int v4_32)] → wd GM Z u_29 A s.heap H locs → W p l e R s m args below meth c H locs 0 0 Q (F0 m 243 ls [.int t_33]) := by
      intro v2_30 v3_31 v4_32 t_33 u_29 H locs ls hf  hl hw
      unfold j_X11_worked_243 at hf
      refine lv_istore (i := 5) (lv' := [(5, .int t_33), (0, rv Z 1), (1, .int a1), (2, .int v2_30), (3, .int v3_31), (4, .int v4_32)]) hx hb dX11_worked_243 hl (by decide) rfl (fun ls hl => ?_)
      refine lv_iload hx hb dX11_worked_245 (lv_at hl 5 rfl) ?_
      refine lv_bipush (v := 29) hx hb dX11_worked_247 (by decide) ?_
      refine lv_icmp_ne (tgt := 268) hx hb dX11_worked_249 (by decide) (fun hc => ?_) (fun hc => ?_)
      · replace hf := (if_neg hc).symm.trans hf
        exact J268 v2_30 v3_31 t_33 u_29 _ _ _ hf  (lv_sub hl [1, 2, 3, 4, 0] rfl) hw
      · replace hf := (if_pos hc).symm.trans hf
        refine gm_aload_n (G := GM) (r := 1) C rfl dX11_worked_252 rfl (lv_at hl 1 rfl) ?_
        refine lv_iload_n hx hb dX11_worked_253 rfl (lv_at hl 3 rfl) ?_
        obtain ⟨u_34, hc_35, hf⟩ := gm_bnd hf
        refine gm_callV (G := GM) (u := u_29) (u' := u_34) (r := 1) (ci := 10) (As := [.int v2_30]) (rest := []) (res := none) C hw hl (ok_X11_tests l Z v2_30 u_29 u_34 hc_35) cw_X11_219 im_X11_tests rfl se_X11_tests rfl rfl rfl ⟨Nat.le_trans (Nat.le_of_ble_eq_true rfl) hRf, Nat.le_trans (Nat.le_of_ble_eq_true rfl) hRl⟩ rfl rfl (Nat.le_of_ble_eq_true rfl) dX11_worked_254 (fun H locs hw => ?_)
        refine gm_aload_n (G := GM) (r := 1) C rfl dX11_worked_257 rfl (lv_at hl 1 rfl) ?_
        refine gm_getS (G := GM) (u := u_34) (r := 1) (ci := 10) (k := 22) C hw rfl fl_X11_45 dX11_worked_258 rfl (q := 13) rfl ?_
        refine lv_iload_n hx hb dX11_worked_261 rfl (lv_at hl 3 rfl) ?_
        obtain ⟨g_36, hf⟩ := gm_grd hf
        refine gm_iald (G := GM) (u := u_34) (r := 13) (n := 7) (i := v2_30) C hw rfl g_36 rfl dX11_worked_262 ?_
        obtain ⟨v5_37, e_v5_37, hf⟩ := gm_le hf
        refine gm_topI e_v5_37 ?_
        refine lv_istore (i := 5) (lv' := [(5, .int v5_37), (0, rv Z 1), (1, .int a1), (2, .int v2_30), (3, .int v3_31), (4, .int v4_32)]) hx hb dX11_worked_263 hl (by decide) rfl (fun ls hl => ?_)
        refine lv_iinc (v := v2_30 + (-1 : Int32)) (lv' := [(2, .int (v2_30 + (-1 : Int32))), (5, .int v5_37), (0, rv Z 1), (1, .int a1), (3, .int v3_31), (4, .int v4_32)]) hx hb dX11_worked_265 hl (k := 3) rfl rfl (by decide) rfl (fun ls hl => ?_)
        exact J268 (v2_30 + (-1 : Int32)) v3_31 v5_37 u_34 _ _ _ hf  (lv_sub hl [2, 3, 0, 4, 1] rfl) hw
    have J194 : ∀ (v2_39 : Int32) (v3_40 : Int32) (v4_41 : Int32) (u_38 : gm_M) (H : Heap) (locs : List Loc) (ls : Array Slot), j_X11_worked_194 a1 v2_39 v3_40 v4_41 u_38 = some o1 → lv_has ls 6 [(0, rv Z 1), (1, .int a1), (2, .int v2_39), (3, .int v3_40), (4, .int v4_41)] → wd GM Z u_38 A s.heap H locs → W p l e R s m args below meth c H locs 0 0 Q (F0 m 194 ls []) := by
      intro v2_39 v3_40 v4_41 u_38 H locs ls hf  hl hw
      unfold j_X11_worked_194 at hf
      refine gm_aload_n (G := GM) (r := 1) C rfl dX11_worked_194 rfl (lv_at hl 0 rfl) ?_
      refine lv_iload_n hx hb dX11_worked_195 rfl (lv_at hl 2 rfl) ?_
      obtain ⟨u_42, hc_43, hf⟩ := gm_bnd hf
      refine gm_callV (G := GM) (u := u_38) (u' := u_42) (r := 1) (ci := 10) (As := [.int v2_39]) (rest := []) (res := none) C hw hl (ok_X11_tests l Z v2_39 u_38 u_42 hc_43) cw_X11_219 im_X11_tests rfl se_X11_tests rfl rfl rfl ⟨Nat.le_trans (Nat.le_of_ble_eq_true rfl) hRf, Nat.le_trans (Nat.le_of_ble_eq_true rfl) hRl⟩ rfl rfl (Nat.le_of_ble_eq_true rfl) dX11_worked_196 (fun H locs hw => ?_)
      refine gm_aload_n (G := GM) (r := 1) C rfl dX11_worked_199 rfl (lv_at hl 0 rfl) ?_
      refine gm_getS (G := GM) (u := u_42) (r := 1) (ci := 10) (k := 23) C hw rfl fl_X11_48 dX11_worked_200 rfl (q := 14) rfl ?_
      refine lv_iload_n hx hb dX11_worked_203 rfl (lv_at hl 2 rfl) ?_
      refine lv_iload hx hb dX11_worked_204 (lv_at hl 4 rfl) ?_
      obtain ⟨g_44, hf⟩ := gm_grd hf
      refine gm_iast (G := GM) (u := u_42) (r := 14) (n := 7) (i := v2_39) (x := v4_41) C hw rfl g_44 rfl dX11_worked_206 (fun H locs hw => ?_)
      obtain ⟨u_45, e_u_45, hf⟩ := gm_le hf
      rw [← e_u_45] at hw
      refine lv_goto (tgt := 329) hx hb dX11_worked_207 (by decide) ?_
      refine lv_iinc (v := v3_40 + (1 : Int32)) (lv' := [(3, .int (v3_40 + (1 : Int32))), (0, rv Z 1), (1, .int a1), (2, .int v2_39), (4, .int v4_41)]) hx hb dX11_worked_329 hl (k := 3) rfl rfl (by decide) rfl (fun ls hl => ?_)
      refine lv_goto (tgt := 14) hx hb dX11_worked_332 (by decide) ?_
      exact Kc _ (gm_si hf) _ _ _ (lv_sub hl [1, 2, 3, 0] rfl) hw
    have J137 : ∀ (v2_47 : Int32) (v3_48 : Int32) (v4_49 : Int32) (u_46 : gm_M) (H : Heap) (locs : List Loc) (ls : Array Slot), j_X11_worked_137 a1 v2_47 v3_48 v4_49 u_46 = some o1 → lv_has ls 6 [(0, rv Z 1), (1, .int a1), (2, .int v2_47), (3, .int v3_48), (4, .int v4_49)] → wd GM Z u_46 A s.heap H locs → W p l e R s m args below meth c H locs 0 0 Q (F0 m 137 ls []) := by
      intro v2_47 v3_48 v4_49 u_46 H locs ls hf  hl hw
      unfold j_X11_worked_137 at hf
      refine gm_aload_n (G := GM) (r := 1) C rfl dX11_worked_137 rfl (lv_at hl 0 rfl) ?_
      refine lv_iload_n hx hb dX11_worked_138 rfl (lv_at hl 2 rfl) ?_
      obtain ⟨u_50, hc_51, hf⟩ := gm_bnd hf
      refine gm_callV (G := GM) (u := u_46) (u' := u_50) (r := 1) (ci := 10) (As := [.int v2_47]) (rest := []) (res := none) C hw hl (ok_X11_sums l Z v2_47 u_46 u_50 hc_51) cw_X11_213 im_X11_sums rfl se_X11_sums rfl rfl rfl ⟨Nat.le_trans (Nat.le_of_ble_eq_true rfl) hRf, Nat.le_trans (Nat.le_of_ble_eq_true rfl) hRl⟩ rfl rfl (Nat.le_of_ble_eq_true rfl) dX11_worked_139 (fun H locs hw => ?_)
      refine gm_aload_n (G := GM) (r := 1) C rfl dX11_worked_142 rfl (lv_at hl 0 rfl) ?_
      refine gm_getS (G := GM) (u := u_50) (r := 1) (ci := 10) (k := 24) C hw rfl fl_X11_51 dX11_worked_143 rfl (q := 15) rfl ?_
      refine lv_iload_n hx hb dX11_worked_146 rfl (lv_at hl 2 rfl) ?_
      refine gm_aload_n (G := GM) (r := 1) C rfl dX11_worked_147 rfl (lv_at hl 0 rfl) ?_
      refine gm_getS (G := GM) (u := u_50) (r := 1) (ci := 10) (k := 26) C hw rfl fl_X11_57 dX11_worked_148 rfl (q := 17) rfl ?_
      refine lv_iload_n hx hb dX11_worked_151 rfl (lv_at hl 2 rfl) ?_
      obtain ⟨g_52, hf⟩ := gm_grd hf
      refine gm_iald (G := GM) (u := u_50) (r := 17) (n := 7) (i := v2_47) C hw rfl g_52 rfl dX11_worked_152 ?_
      refine gm_iast (G := GM) (u := u_50) (r := 15) (n := 7) (i := v2_47) (x := gI u_50 17 (ix v2_47)) C hw rfl g_52 rfl dX11_worked_153 (fun H locs hw => ?_)
      obtain ⟨u_53, e_u_53, hf⟩ := gm_le hf
      rw [← e_u_53] at hw
      refine gm_aload_n (G := GM) (r := 1) C rfl dX11_worked_154 rfl (lv_at hl 0 rfl) ?_
      refine gm_getS (G := GM) (u := u_53) (r := 1) (ci := 10) (k := 25) C hw rfl fl_X11_54 dX11_worked_155 rfl (q := 16) rfl ?_
      refine lv_iload_n hx hb dX11_worked_158 rfl (lv_at hl 2 rfl) ?_
      refine lv_iload hx hb dX11_worked_159 (lv_at hl 4 rfl) ?_
      refine gm_iast (G := GM) (u := u_53) (r := 16) (n := 7) (i := v2_47) (x := v4_49) C hw rfl g_52 rfl dX11_worked_161 (fun H locs hw => ?_)
      obtain ⟨u_54, e_u_54, hf⟩ := gm_le hf
      rw [← e_u_54] at hw
      refine gm_aload_n (G := GM) (r := 1) C rfl dX11_worked_162 rfl (lv_at hl 0 rfl) ?_
      refine gm_getS (G := GM) (u := u_54) (r := 1) (ci := 10) (k := 26) C hw rfl fl_X11_57 dX11_worked_163 rfl (q := 17) rfl ?_
      refine lv_iload_n hx hb dX11_worked_166 rfl (lv_at hl 2 rfl) ?_
      refine lv_iconst (v := 0) hx hb dX11_worked_167 (by decide) ?_
      refine gm_iast (G := GM) (u := u_54) (r := 17) (n := 7) (i := v2_47) (x := (0 : Int32)) C hw rfl g_52 rfl dX11_worked_168 (fun H locs hw => ?_)
      obtain ⟨u_55, e_u_55, hf⟩ := gm_le hf
      rw [← e_u_55] at hw
      refine gm_aload_n (G := GM) (r := 1) C rfl dX11_worked_169 rfl (lv_at hl 0 rfl) ?_
      refine gm_getS (G := GM) (u := u_55) (r := 1) (ci := 10) (k := 27) C hw rfl fl_X11_60 dX11_worked_170 rfl (q := 18) rfl ?_
      refine lv_iload_n hx hb dX11_worked_173 rfl (lv_at hl 2 rfl) ?_
      refine lv_bipush (v := 20) hx hb dX11_worked_174 (by decide) ?_
      refine gm_iast (G := GM) (u := u_55) (r := 18) (n := 7) (i := v2_47) (x := (20 : Int32)) C hw rfl g_52 rfl dX11_worked_176 (fun H locs hw => ?_)
      obtain ⟨u_56, e_u_56, hf⟩ := gm_le hf
      rw [← e_u_56] at hw
      refine lv_goto (tgt := 329) hx hb dX11_worked_177 (by decide) ?_
      refine lv_iinc (v := v3_48 + (1 : Int32)) (lv' := [(3, .int (v3_48 + (1 : Int32))), (0, rv Z 1), (1, .int a1), (2, .int v2_47), (4, .int v4_49)]) hx hb dX11_worked_329 hl (k := 3) rfl rfl (by decide) rfl (fun ls hl => ?_)
      refine lv_goto (tgt := 14) hx hb dX11_worked_332 (by decide) ?_
      exact Kc _ (gm_si hf) _ _ _ (lv_sub hl [1, 2, 3, 0] rfl) hw
    have J89 : ∀ (v2_58 : Int32) (v3_59 : Int32) (v4_60 : Int32) (u_57 : gm_M) (H : Heap) (locs : List Loc) (ls : Array Slot), j_X11_worked_89 a1 v2_58 v3_59 v4_60 u_57 = some o1 → lv_has ls 6 [(0, rv Z 1), (1, .int a1), (2, .int v2_58), (3, .int v3_59), (4, .int v4_60)] → wd GM Z u_57 A s.heap H locs → W p l e R s m args below meth c H locs 0 0 Q (F0 m 89 ls []) := by
      intro v2_58 v3_59 v4_60 u_57 H locs ls hf  hl hw
      unfold j_X11_worked_89 at hf
      refine gm_aload_n (G := GM) (r := 1) C rfl dX11_worked_89 rfl (lv_at hl 0 rfl) ?_
      refine lv_iload_n hx hb dX11_worked_90 rfl (lv_at hl 2 rfl) ?_
      obtain ⟨u_61, hc_62, hf⟩ := gm_bnd hf
      refine gm_callV (G := GM) (u := u_57) (u' := u_61) (r := 1) (ci := 10) (As := [.int v2_58]) (rest := []) (res := none) C hw hl (ok_X11_sums l Z v2_58 u_57 u_61 hc_62) cw_X11_213 im_X11_sums rfl se_X11_sums rfl rfl rfl ⟨Nat.le_trans (Nat.le_of_ble_eq_true rfl) hRf, Nat.le_trans (Nat.le_of_ble_eq_true rfl) hRl⟩ rfl rfl (Nat.le_of_ble_eq_true rfl) dX11_worked_91 (fun H locs hw => ?_)
      refine gm_aload_n (G := GM) (r := 1) C rfl dX11_worked_94 rfl (lv_at hl 0 rfl) ?_
      refine gm_getS (G := GM) (u := u_61) (r := 1) (ci := 10) (k := 27) C hw rfl fl_X11_60 dX11_worked_95 rfl (q := 18) rfl ?_
      refine lv_iload_n hx hb dX11_worked_98 rfl (lv_at hl 2 rfl) ?_
      refine lv_iload hx hb dX11_worked_99 (lv_at hl 4 rfl) ?_
      obtain ⟨g_63, hf⟩ := gm_grd hf
      refine gm_iast (G := GM) (u := u_61) (r := 18) (n := 7) (i := v2_58) (x := v4_60) C hw rfl g_63 rfl dX11_worked_101 (fun H locs hw => ?_)
      obtain ⟨u_64, e_u_64, hf⟩ := gm_le hf
      rw [← e_u_64] at hw
      refine lv_goto (tgt := 329) hx hb dX11_worked_102 (by decide) ?_
      refine lv_iinc (v := v3_59 + (1 : Int32)) (lv' := [(3, .int (v3_59 + (1 : Int32))), (0, rv Z 1), (1, .int a1), (2, .int v2_58), (4, .int v4_60)]) hx hb dX11_worked_329 hl (k := 3) rfl rfl (by decide) rfl (fun ls hl => ?_)
      refine lv_goto (tgt := 14) hx hb dX11_worked_332 (by decide) ?_
      exact Kc _ (gm_si hf) _ _ _ (lv_sub hl [1, 2, 3, 0] rfl) hw
    have J66 : ∀ (v2_66 : Int32) (v3_67 : Int32) (t_68 : Int32) (t_69 : Int32) (u_65 : gm_M) (H : Heap) (locs : List Loc) (ls : Array Slot), j_X11_worked_66 a1 v2_66 v3_67 t_68 t_69 u_65 = some o1 → lv_has ls 6 [(0, rv Z 1), (1, .int a1), (2, .int v2_66), (3, .int v3_67)] → wd GM Z u_65 A s.heap H locs → W p l e R s m args below meth c H locs 0 0 Q (F0 m 66 ls [.int t_69, .int t_68, rv Z 21]) := by
      intro v2_66 v3_67 t_68 t_69 u_65 H locs ls hf  hl hw
      unfold j_X11_worked_66 at hf
      obtain ⟨g_70, hf⟩ := gm_grd hf
      refine gm_iast (G := GM) (u := u_65) (r := 21) (n := 7) (i := t_68) (x := t_69) C hw rfl g_70 rfl dX11_worked_66 (fun H locs hw => ?_)
      obtain ⟨u_71, e_u_71, hf⟩ := gm_le hf
      rw [← e_u_71] at hw
      refine gm_aload_n (G := GM) (r := 1) C rfl dX11_worked_67 rfl (lv_at hl 0 rfl) ?_
      refine lv_iload_n hx hb dX11_worked_68 rfl (lv_at hl 2 rfl) ?_
      obtain ⟨u_72, hc_73, hf⟩ := gm_bnd hf
      refine gm_callV (G := GM) (u := u_71) (u' := u_72) (r := 1) (ci := 10) (As := [.int v2_66]) (rest := []) (res := none) C hw hl (ok_X11_opens l Z v2_66 u_71 u_72 hc_73) cw_X11_216 im_X11_opens rfl se_X11_opens rfl rfl rfl ⟨Nat.le_trans (Nat.le_of_ble_eq_true rfl) hRf, Nat.le_trans (Nat.le_of_ble_eq_true rfl) hRl⟩ rfl rfl (Nat.le_of_ble_eq_true rfl) dX11_worked_69 (fun H locs hw => ?_)
      refine lv_goto (tgt := 329) hx hb dX11_worked_72 (by decide) ?_
      refine lv_iinc (v := v3_67 + (1 : Int32)) (lv' := [(3, .int (v3_67 + (1 : Int32))), (0, rv Z 1), (1, .int a1), (2, .int v2_66)]) hx hb dX11_worked_329 hl (k := 3) rfl rfl (by decide) rfl (fun ls hl => ?_)
      refine lv_goto (tgt := 14) hx hb dX11_worked_332 (by decide) ?_
      exact Kc _ (gm_si hf) _ _ _ (lv_sub hl [1, 2, 3, 0] rfl) hw
    have J46 : ∀ (v2_75 : Int32) (v3_76 : Int32) (v4_77 : Int32) (u_74 : gm_M) (H : Heap) (locs : List Loc) (ls : Array Slot), j_X11_worked_46 a1 v2_75 v3_76 v4_77 u_74 = some o1 → lv_has ls 6 [(0, rv Z 1), (1, .int a1), (2, .int v2_75), (3, .int v3_76), (4, .int v4_77)] → wd GM Z u_74 A s.heap H locs → W p l e R s m args below meth c H locs 0 0 Q (F0 m 46 ls []) := by
      intro v2_75 v3_76 v4_77 u_74 H locs ls hf  hl hw
      unfold j_X11_worked_46 at hf
      refine lv_iinc (v := v2_75 + (1 : Int32)) (lv' := [(2, .int (v2_75 + (1 : Int32))), (0, rv Z 1), (1, .int a1), (3, .int v3_76), (4, .int v4_77)]) hx hb dX11_worked_46 hl (k := 2) rfl rfl (by decide) rfl (fun ls hl => ?_)
      refine gm_aload_n (G := GM) (r := 1) C rfl dX11_worked_49 rfl (lv_at hl 1 rfl) ?_
      refine gm_getS (G := GM) (u := u_74) (r := 1) (ci := 10) (k := 30) C hw rfl fl_X11_69 dX11_worked_50 rfl (q := 21) rfl ?_
      refine lv_iload_n hx hb dX11_worked_53 rfl (lv_at hl 0 rfl) ?_
      refine lv_iload hx hb dX11_worked_54 (lv_at hl 4 rfl) ?_
      refine lv_bipush (v := 30) hx hb dX11_worked_56 (by decide) ?_
      refine lv_icmp_ne (tgt := 65) hx hb dX11_worked_58 (by decide) (fun hc => ?_) (fun hc => ?_)
      · replace hf := (if_neg hc).symm.trans hf
        refine lv_iconst (v := 0) hx hb dX11_worked_65 (by decide) ?_
        exact J66 (v2_75 + (1 : Int32)) v3_76 (v2_75 + (1 : Int32)) (0 : Int32) u_74 _ _ _ hf  (lv_sub hl [1, 2, 0, 3] rfl) hw
      · replace hf := (if_pos hc).symm.trans hf
        refine lv_iconst (v := 1) hx hb dX11_worked_61 (by decide) ?_
        refine lv_goto (tgt := 66) hx hb dX11_worked_62 (by decide) ?_
        exact J66 (v2_75 + (1 : Int32)) v3_76 (v2_75 + (1 : Int32)) (1 : Int32) u_74 _ _ _ hf  (lv_sub hl [1, 2, 0, 3] rfl) hw
    refine lv_iload_n hx hb dX11_worked_14 rfl (lv_at hl 3 rfl) ?_
    refine gm_aload_n (G := GM) (r := 1) C rfl dX11_worked_15 rfl (lv_at hl 0 rfl) ?_
    refine gm_getS (G := GM) (u := u_5) (r := 1) (ci := 10) (k := 16) C hw rfl fl_X11_32 dX11_worked_16 rfl (q := 9) rfl ?_
    refine lv_iload_n hx hb dX11_worked_19 rfl (lv_at hl 1 rfl) ?_
    obtain ⟨g_78, hf⟩ := gm_grd hf
    refine gm_iald (G := GM) (u := u_5) (r := 9) (n := 2) (i := a1) C hw rfl g_78 rfl dX11_worked_20 ?_
    refine lv_icmp_ge (tgt := 335) hx hb dX11_worked_21 (by decide) (fun hc => ?_) (fun hc => ?_)
    · replace hf := (if_pos hc).symm.trans hf
      exact Kx _ (gm_si hf) _ _ _ (lv_sub hl [0] rfl) hw
    · replace hf := (if_neg hc).symm.trans hf
      refine gm_aload_n (G := GM) (r := 1) C rfl dX11_worked_24 rfl (lv_at hl 0 rfl) ?_
      refine gm_getS (G := GM) (u := u_5) (r := 1) (ci := 10) (k := 17) C hw rfl fl_X11_35 dX11_worked_25 rfl (q := 10) rfl ?_
      refine lv_iload_n hx hb dX11_worked_28 rfl (lv_at hl 3 rfl) ?_
      obtain ⟨g_79, hf⟩ := gm_grd hf
      refine gm_iald (G := GM) (u := u_5) (r := 10) (n := 2000) (i := v3_7) C hw rfl g_79 rfl dX11_worked_29 ?_
      obtain ⟨v4_80, e_v4_80, hf⟩ := gm_le hf
      refine gm_topI e_v4_80 ?_
      refine lv_istore (i := 4) (lv' := [(4, .int v4_80), (0, rv Z 1), (1, .int a1), (2, .int v2_6), (3, .int v3_7)]) hx hb dX11_worked_30 hl (by decide) rfl (fun ls hl => ?_)
      refine lv_iload hx hb dX11_worked_32 (lv_at hl 0 rfl) ?_
      refine lv_bipush (v := 28) hx hb dX11_worked_34 (by decide) ?_
      refine lv_icmp_eq (tgt := 46) hx hb dX11_worked_36 (by decide) (fun hc => ?_) (fun hc => ?_)
      · replace hf := (if_pos hc).symm.trans hf
        exact J46 v2_6 v3_7 v4_80 u_5 _ _ _ hf  (lv_sub hl [1, 2, 3, 4, 0] rfl) hw
      · replace hf := (if_neg hc).symm.trans hf
        refine lv_iload hx hb dX11_worked_39 (lv_at hl 0 rfl) ?_
        refine lv_bipush (v := 30) hx hb dX11_worked_41 (by decide) ?_
        refine lv_icmp_ne (tgt := 75) hx hb dX11_worked_43 (by decide) (fun hc => ?_) (fun hc => ?_)
        · replace hf := (if_neg hc).symm.trans hf
          refine lv_iload hx hb dX11_worked_75 (lv_at hl 0 rfl) ?_
          refine lv_bipush (v := 20) hx hb dX11_worked_77 (by decide) ?_
          refine lv_icmp_eq (tgt := 89) hx hb dX11_worked_79 (by decide) (fun hc => ?_) (fun hc => ?_)
          · replace hf := (if_pos hc).symm.trans hf
            exact J89 v2_6 v3_7 v4_80 u_5 _ _ _ hf  (lv_sub hl [1, 2, 3, 4, 0] rfl) hw
          · replace hf := (if_neg hc).symm.trans hf
            refine lv_iload hx hb dX11_worked_82 (lv_at hl 0 rfl) ?_
            refine lv_bipush (v := 21) hx hb dX11_worked_84 (by decide) ?_
            refine lv_icmp_ne (tgt := 105) hx hb dX11_worked_86 (by decide) (fun hc => ?_) (fun hc => ?_)
            · replace hf := (if_neg hc).symm.trans hf
              refine lv_iload hx hb dX11_worked_105 (lv_at hl 0 rfl) ?_
              refine lv_bipush (v := 22) hx hb dX11_worked_107 (by decide) ?_
              refine lv_icmp_ne (tgt := 123) hx hb dX11_worked_109 (by decide) (fun hc => ?_) (fun hc => ?_)
              · replace hf := (if_neg hc).symm.trans hf
                refine lv_iload hx hb dX11_worked_123 (lv_at hl 0 rfl) ?_
                refine lv_bipush (v := 24) hx hb dX11_worked_125 (by decide) ?_
                refine lv_icmp_eq (tgt := 137) hx hb dX11_worked_127 (by decide) (fun hc => ?_) (fun hc => ?_)
                · replace hf := (if_pos hc).symm.trans hf
                  exact J137 v2_6 v3_7 v4_80 u_5 _ _ _ hf  (lv_sub hl [1, 2, 3, 4, 0] rfl) hw
                · replace hf := (if_neg hc).symm.trans hf
                  refine lv_iload hx hb dX11_worked_130 (lv_at hl 0 rfl) ?_
                  refine lv_bipush (v := 25) hx hb dX11_worked_132 (by decide) ?_
                  refine lv_icmp_ne (tgt := 180) hx hb dX11_worked_134 (by decide) (fun hc => ?_) (fun hc => ?_)
                  · replace hf := (if_neg hc).symm.trans hf
                    refine lv_iload hx hb dX11_worked_180 (lv_at hl 0 rfl) ?_
                    refine lv_bipush (v := 26) hx hb dX11_worked_182 (by decide) ?_
                    refine lv_icmp_eq (tgt := 194) hx hb dX11_worked_184 (by decide) (fun hc => ?_) (fun hc => ?_)
                    · replace hf := (if_pos hc).symm.trans hf
                      exact J194 v2_6 v3_7 v4_80 u_5 _ _ _ hf  (lv_sub hl [1, 2, 3, 4, 0] rfl) hw
                    · replace hf := (if_neg hc).symm.trans hf
                      refine lv_iload hx hb dX11_worked_187 (lv_at hl 0 rfl) ?_
                      refine lv_bipush (v := 27) hx hb dX11_worked_189 (by decide) ?_
                      refine lv_icmp_ne (tgt := 210) hx hb dX11_worked_191 (by decide) (fun hc => ?_) (fun hc => ?_)
                      · replace hf := (if_neg hc).symm.trans hf
                        refine lv_iload hx hb dX11_worked_210 (lv_at hl 0 rfl) ?_
                        refine lv_bipush (v := 100) hx hb dX11_worked_212 (by decide) ?_
                        refine lv_icmp_lt (tgt := 225) hx hb dX11_worked_214 (by decide) (fun hc => ?_) (fun hc => ?_)
                        · replace hf := (if_pos hc).symm.trans hf
                          refine lv_iload hx hb dX11_worked_225 (lv_at hl 0 rfl) ?_
                          refine lv_bipush (v := 20) hx hb dX11_worked_227 (by decide) ?_
                          refine lv_icmp_ge (tgt := 242) hx hb dX11_worked_229 (by decide) (fun hc => ?_) (fun hc => ?_)
                          · replace hf := (if_pos hc).symm.trans hf
                            refine lv_iconst (v := 0) hx hb dX11_worked_242 (by decide) ?_
                            exact J243 v2_6 v3_7 v4_80 (0 : Int32) u_5 _ _ _ hf  (lv_sub hl [1, 2, 3, 4, 0] rfl) hw
                          · replace hf := (if_neg hc).symm.trans hf
                            refine gm_aload_n (G := GM) (r := 1) C rfl dX11_worked_232 rfl (lv_at hl 1 rfl) ?_
                            refine gm_getS (G := GM) (u := u_5) (r := 1) (ci := 10) (k := 31) C hw rfl fl_X11_72 dX11_worked_233 rfl (q := 22) rfl ?_
                            refine lv_iload hx hb dX11_worked_236 (lv_at hl 0 rfl) ?_
                            obtain ⟨g_81, hf⟩ := gm_grd hf
                            refine gm_iald (G := GM) (u := u_5) (r := 22) (n := 20) (i := v4_80) C hw rfl g_81 rfl dX11_worked_238 ?_
                            refine lv_goto (tgt := 243) hx hb dX11_worked_239 (by decide) ?_
                            exact J243 v2_6 v3_7 v4_80 (gI u_5 22 (ix v4_80)) u_5 _ _ _ hf  (lv_sub hl [1, 2, 3, 4, 0] rfl) hw
                        · replace hf := (if_neg hc).symm.trans hf
                          refine lv_iload hx hb dX11_worked_217 (lv_at hl 0 rfl) ?_
                          refine lv_bipush (v := 100) hx hb dX11_worked_219 (by decide) ?_
                          refine lv_isub hx hb dX11_worked_221 ?_
                          refine lv_goto (tgt := 243) hx hb dX11_worked_222 (by decide) ?_
                          exact J243 v2_6 v3_7 v4_80 (v4_80 - (100 : Int32)) u_5 _ _ _ hf  (lv_sub hl [1, 2, 3, 4, 0] rfl) hw
                      · replace hf := (if_pos hc).symm.trans hf
                        exact J194 v2_6 v3_7 v4_80 u_5 _ _ _ hf  (lv_sub hl [1, 2, 3, 4, 0] rfl) hw
                  · replace hf := (if_pos hc).symm.trans hf
                    exact J137 v2_6 v3_7 v4_80 u_5 _ _ _ hf  (lv_sub hl [1, 2, 3, 4, 0] rfl) hw
              · replace hf := (if_pos hc).symm.trans hf
                refine gm_aload_n (G := GM) (r := 1) C rfl dX11_worked_112 rfl (lv_at hl 1 rfl) ?_
                refine gm_getS (G := GM) (u := u_5) (r := 1) (ci := 10) (k := 29) C hw rfl fl_X11_66 dX11_worked_113 rfl (q := 20) rfl ?_
                refine lv_iload_n hx hb dX11_worked_116 rfl (lv_at hl 3 rfl) ?_
                refine lv_iload hx hb dX11_worked_117 (lv_at hl 0 rfl) ?_
                obtain ⟨g_82, hf⟩ := gm_grd hf
                refine gm_iast (G := GM) (u := u_5) (r := 20) (n := 7) (i := v2_6) (x := v4_80) C hw rfl g_82 rfl dX11_worked_119 (fun H locs hw => ?_)
                obtain ⟨u_83, e_u_83, hf⟩ := gm_le hf
                rw [← e_u_83] at hw
                refine lv_goto (tgt := 329) hx hb dX11_worked_120 (by decide) ?_
                refine lv_iinc (v := v3_7 + (1 : Int32)) (lv' := [(3, .int (v3_7 + (1 : Int32))), (4, .int v4_80), (0, rv Z 1), (1, .int a1), (2, .int v2_6)]) hx hb dX11_worked_329 hl (k := 4) rfl rfl (by decide) rfl (fun ls hl => ?_)
                refine lv_goto (tgt := 14) hx hb dX11_worked_332 (by decide) ?_
                exact Kc _ (gm_si hf) _ _ _ (lv_sub hl [2, 3, 4, 0] rfl) hw
            · replace hf := (if_pos hc).symm.trans hf
              exact J89 v2_6 v3_7 v4_80 u_5 _ _ _ hf  (lv_sub hl [1, 2, 3, 4, 0] rfl) hw
        · replace hf := (if_pos hc).symm.trans hf
          exact J46 v2_6 v3_7 v4_80 u_5 _ _ _ hf  (lv_sub hl [1, 2, 3, 4, 0] rfl) hw)
  refine L14_2 _ _ _ hlp ?_ _ _ _ (lv_sub hl [2, 3, 1, 0] rfl) hw
  obtain ⟨u_84, rfl⟩ : ∃ y, y = o1 := ⟨_, rfl⟩
  intro H locs ls hl hw
  try dsimp only at hf
  refine gm_aload_n (G := GM) (r := 1) C rfl dX11_worked_335 rfl (lv_at hl 0 rfl) ?_
  refine lv_iconst (v := 0) hx hb dX11_worked_336 (by decide) ?_
  obtain ⟨u_85, hc_86, hf⟩ := gm_bnd hf
  refine gm_callV (G := GM) (u := u_84) (u' := u_85) (r := 1) (ci := 10) (As := [.int (0 : Int32)]) (rest := []) (res := none) C hw hl (ok_X11_tests l Z (0 : Int32) u_84 u_85 hc_86) cw_X11_219 im_X11_tests rfl se_X11_tests rfl rfl rfl ⟨Nat.le_trans (Nat.le_of_ble_eq_true rfl) hRf, Nat.le_trans (Nat.le_of_ble_eq_true rfl) hRl⟩ rfl rfl (Nat.le_of_ble_eq_true rfl) dX11_worked_337 (fun H locs hw => ?_)
  refine gm_aload_n (G := GM) (r := 1) C rfl dX11_worked_340 rfl (lv_at hl 0 rfl) ?_
  refine gm_getS (G := GM) (u := u_85) (r := 1) (ci := 10) (k := 22) C hw rfl fl_X11_45 dX11_worked_341 rfl (q := 13) rfl ?_
  refine lv_iconst (v := 0) hx hb dX11_worked_344 (by decide) ?_
  refine gm_iald (G := GM) (u := u_85) (r := 13) (n := 7) (i := (0 : Int32)) C hw rfl (by decide) (j := 0) (by decide) dX11_worked_345 ?_
  exact gm_iret C E hw rfl ((congrArg (fun z => some (Value.int z)) (gm_sp hf).1).symm) (gm_sp hf).2.symm dX11_worked_346
/-! LeapCapitalModel.isKept -/
def f_X11_isKept  (u : gm_M) : Int32 := if (gI u 1 6) = (1 : Int32) then if (lg_cmp (gJ u 1 7) (232608281 : Int64)) = 0 then (1 : Int32) else if (lg_cmp (gJ u 1 7) (50801 : Int64)) = 0 then (1 : Int32) else if (lg_cmp (gJ u 1 7) (323812 : Int64)) = 0 then (1 : Int32) else if (lg_cmp (gJ u 1 7) (495765 : Int64)) = 0 then (1 : Int32) else if (lg_cmp (gJ u 1 7) (43856969 : Int64)) = 0 then (1 : Int32) else if (lg_cmp (gJ u 1 7) (6570631 : Int64)) = 0 then (1 : Int32) else if (lg_cmp (gJ u 1 7) (3379448 : Int64)) = 0 then (1 : Int32) else if (lg_cmp (gJ u 1 7) (70340 : Int64)) = 0 then (1 : Int32) else if (lg_cmp (gJ u 1 7) (6477035 : Int64)) = 0 then (1 : Int32) else if (lg_cmp (gJ u 1 7) (237292 : Int64)) = 0 then (1 : Int32) else if (lg_cmp (gJ u 1 7) (453701 : Int64)) = 0 then (1 : Int32) else if (lg_cmp (gJ u 1 7) (360968 : Int64)) = 0 then (1 : Int32) else if (lg_cmp (gJ u 1 7) (8740238 : Int64)) = 0 then (1 : Int32) else if (lg_cmp (gJ u 1 7) (239884 : Int64)) = 0 then (1 : Int32) else if (lg_cmp (gJ u 1 7) (161370 : Int64)) = 0 then (1 : Int32) else if (lg_cmp (gJ u 1 7) (6688728 : Int64)) = 0 then (1 : Int32) else if (lg_cmp (gJ u 1 7) (10631 : Int64)) = 0 then (1 : Int32) else if (lg_cmp (gJ u 1 7) (1111 : Int64)) = 0 then (1 : Int32) else if (lg_cmp (gJ u 1 7) (423 : Int64)) = 0 then (1 : Int32) else (0 : Int32) else (1 : Int32)
set_option maxRecDepth 100000 in
set_option maxHeartbeats 4000000 in
theorem ok_X11_isKept (l : Launch) (Z : gm_Z)  (u : gm_M)  : gm_Met l GM Z yX11_isKept cX11_isKept 1 (some .boolean) ({ frames := 0, cells := 0, slots := 0, locals := 0 }) [rv Z 1] u (some (.int (f_X11_isKept u))) u := by
  obtain ⟨r, hf⟩ : ∃ r, f_X11_isKept u = r := ⟨_, rfl⟩
  rw [hf]
  unfold f_X11_isKept at hf
  refine gm_ofW (by decide +kernel) (Nat.le_of_ble_eq_true rfl) ?_
  intro p e s m args below meth c A ls Q R hRf hRl C E hl hw
  obtain ⟨hx, hb, -⟩ := id C
  have hl : lv_has ls 1 [(0, rv Z 1)] := hl
  refine gm_aload_n (G := GM) (r := 1) C rfl dX11_isKept_0 rfl (lv_at hl 0 rfl) ?_
  refine gm_getI (G := GM) (u := u) (r := 1) (ci := 10) (k := 6) C hw rfl fl_X11_161 dX11_isKept_1 rfl ?_
  refine lv_iconst (v := 1) hx hb dX11_isKept_4 (by decide) ?_
  refine lv_icmp_eq (tgt := 10) hx hb dX11_isKept_5 (by decide) (fun hc => ?_) (fun hc => ?_)
  · replace hf := (if_pos hc).symm.trans hf
    refine gm_aload_n (G := GM) (r := 1) C rfl dX11_isKept_10 rfl (lv_at hl 0 rfl) ?_
    refine gm_getJ (G := GM) (u := u) (r := 1) (ci := 10) (k := 7) C hw rfl fl_X11_154 dX11_isKept_11 rfl ?_
    refine lv_ldc2 hx hb C.2.2.2.1 (C.2.2.2.2.1 _ kn_X11_222) dX11_isKept_14 ?_
    refine W.lcmp hx hb dX11_isKept_17 ?_
    refine lv_if_eq (tgt := 219) hx hb dX11_isKept_18 (by decide) (fun hc => ?_) (fun hc => ?_)
    · replace hf := (if_pos hc).symm.trans hf
      refine lv_iconst (v := 1) hx hb dX11_isKept_219 (by decide) ?_
      refine lv_goto (tgt := 224) hx hb dX11_isKept_220 (by decide) ?_
      exact gm_zret C E hw rfl rfl ((congrArg (fun z => some (Value.int z)) hf).symm) rfl dX11_isKept_224
    · replace hf := (if_neg hc).symm.trans hf
      refine gm_aload_n (G := GM) (r := 1) C rfl dX11_isKept_21 rfl (lv_at hl 0 rfl) ?_
      refine gm_getJ (G := GM) (u := u) (r := 1) (ci := 10) (k := 7) C hw rfl fl_X11_154 dX11_isKept_22 rfl ?_
      refine lv_ldc2 hx hb C.2.2.2.1 (C.2.2.2.2.1 _ kn_X11_224) dX11_isKept_25 ?_
      refine W.lcmp hx hb dX11_isKept_28 ?_
      refine lv_if_eq (tgt := 219) hx hb dX11_isKept_29 (by decide) (fun hc => ?_) (fun hc => ?_)
      · replace hf := (if_pos hc).symm.trans hf
        refine lv_iconst (v := 1) hx hb dX11_isKept_219 (by decide) ?_
        refine lv_goto (tgt := 224) hx hb dX11_isKept_220 (by decide) ?_
        exact gm_zret C E hw rfl rfl ((congrArg (fun z => some (Value.int z)) hf).symm) rfl dX11_isKept_224
      · replace hf := (if_neg hc).symm.trans hf
        refine gm_aload_n (G := GM) (r := 1) C rfl dX11_isKept_32 rfl (lv_at hl 0 rfl) ?_
        refine gm_getJ (G := GM) (u := u) (r := 1) (ci := 10) (k := 7) C hw rfl fl_X11_154 dX11_isKept_33 rfl ?_
        refine lv_ldc2 hx hb C.2.2.2.1 (C.2.2.2.2.1 _ kn_X11_226) dX11_isKept_36 ?_
        refine W.lcmp hx hb dX11_isKept_39 ?_
        refine lv_if_eq (tgt := 219) hx hb dX11_isKept_40 (by decide) (fun hc => ?_) (fun hc => ?_)
        · replace hf := (if_pos hc).symm.trans hf
          refine lv_iconst (v := 1) hx hb dX11_isKept_219 (by decide) ?_
          refine lv_goto (tgt := 224) hx hb dX11_isKept_220 (by decide) ?_
          exact gm_zret C E hw rfl rfl ((congrArg (fun z => some (Value.int z)) hf).symm) rfl dX11_isKept_224
        · replace hf := (if_neg hc).symm.trans hf
          refine gm_aload_n (G := GM) (r := 1) C rfl dX11_isKept_43 rfl (lv_at hl 0 rfl) ?_
          refine gm_getJ (G := GM) (u := u) (r := 1) (ci := 10) (k := 7) C hw rfl fl_X11_154 dX11_isKept_44 rfl ?_
          refine lv_ldc2 hx hb C.2.2.2.1 (C.2.2.2.2.1 _ kn_X11_228) dX11_isKept_47 ?_
          refine W.lcmp hx hb dX11_isKept_50 ?_
          refine lv_if_eq (tgt := 219) hx hb dX11_isKept_51 (by decide) (fun hc => ?_) (fun hc => ?_)
          · replace hf := (if_pos hc).symm.trans hf
            refine lv_iconst (v := 1) hx hb dX11_isKept_219 (by decide) ?_
            refine lv_goto (tgt := 224) hx hb dX11_isKept_220 (by decide) ?_
            exact gm_zret C E hw rfl rfl ((congrArg (fun z => some (Value.int z)) hf).symm) rfl dX11_isKept_224
          · replace hf := (if_neg hc).symm.trans hf
            refine gm_aload_n (G := GM) (r := 1) C rfl dX11_isKept_54 rfl (lv_at hl 0 rfl) ?_
            refine gm_getJ (G := GM) (u := u) (r := 1) (ci := 10) (k := 7) C hw rfl fl_X11_154 dX11_isKept_55 rfl ?_
            refine lv_ldc2 hx hb C.2.2.2.1 (C.2.2.2.2.1 _ kn_X11_230) dX11_isKept_58 ?_
            refine W.lcmp hx hb dX11_isKept_61 ?_
            refine lv_if_eq (tgt := 219) hx hb dX11_isKept_62 (by decide) (fun hc => ?_) (fun hc => ?_)
            · replace hf := (if_pos hc).symm.trans hf
              refine lv_iconst (v := 1) hx hb dX11_isKept_219 (by decide) ?_
              refine lv_goto (tgt := 224) hx hb dX11_isKept_220 (by decide) ?_
              exact gm_zret C E hw rfl rfl ((congrArg (fun z => some (Value.int z)) hf).symm) rfl dX11_isKept_224
            · replace hf := (if_neg hc).symm.trans hf
              refine gm_aload_n (G := GM) (r := 1) C rfl dX11_isKept_65 rfl (lv_at hl 0 rfl) ?_
              refine gm_getJ (G := GM) (u := u) (r := 1) (ci := 10) (k := 7) C hw rfl fl_X11_154 dX11_isKept_66 rfl ?_
              refine lv_ldc2 hx hb C.2.2.2.1 (C.2.2.2.2.1 _ kn_X11_232) dX11_isKept_69 ?_
              refine W.lcmp hx hb dX11_isKept_72 ?_
              refine lv_if_eq (tgt := 219) hx hb dX11_isKept_73 (by decide) (fun hc => ?_) (fun hc => ?_)
              · replace hf := (if_pos hc).symm.trans hf
                refine lv_iconst (v := 1) hx hb dX11_isKept_219 (by decide) ?_
                refine lv_goto (tgt := 224) hx hb dX11_isKept_220 (by decide) ?_
                exact gm_zret C E hw rfl rfl ((congrArg (fun z => some (Value.int z)) hf).symm) rfl dX11_isKept_224
              · replace hf := (if_neg hc).symm.trans hf
                refine gm_aload_n (G := GM) (r := 1) C rfl dX11_isKept_76 rfl (lv_at hl 0 rfl) ?_
                refine gm_getJ (G := GM) (u := u) (r := 1) (ci := 10) (k := 7) C hw rfl fl_X11_154 dX11_isKept_77 rfl ?_
                refine lv_ldc2 hx hb C.2.2.2.1 (C.2.2.2.2.1 _ kn_X11_234) dX11_isKept_80 ?_
                refine W.lcmp hx hb dX11_isKept_83 ?_
                refine lv_if_eq (tgt := 219) hx hb dX11_isKept_84 (by decide) (fun hc => ?_) (fun hc => ?_)
                · replace hf := (if_pos hc).symm.trans hf
                  refine lv_iconst (v := 1) hx hb dX11_isKept_219 (by decide) ?_
                  refine lv_goto (tgt := 224) hx hb dX11_isKept_220 (by decide) ?_
                  exact gm_zret C E hw rfl rfl ((congrArg (fun z => some (Value.int z)) hf).symm) rfl dX11_isKept_224
                · replace hf := (if_neg hc).symm.trans hf
                  refine gm_aload_n (G := GM) (r := 1) C rfl dX11_isKept_87 rfl (lv_at hl 0 rfl) ?_
                  refine gm_getJ (G := GM) (u := u) (r := 1) (ci := 10) (k := 7) C hw rfl fl_X11_154 dX11_isKept_88 rfl ?_
                  refine lv_ldc2 hx hb C.2.2.2.1 (C.2.2.2.2.1 _ kn_X11_236) dX11_isKept_91 ?_
                  refine W.lcmp hx hb dX11_isKept_94 ?_
                  refine lv_if_eq (tgt := 219) hx hb dX11_isKept_95 (by decide) (fun hc => ?_) (fun hc => ?_)
                  · replace hf := (if_pos hc).symm.trans hf
                    refine lv_iconst (v := 1) hx hb dX11_isKept_219 (by decide) ?_
                    refine lv_goto (tgt := 224) hx hb dX11_isKept_220 (by decide) ?_
                    exact gm_zret C E hw rfl rfl ((congrArg (fun z => some (Value.int z)) hf).symm) rfl dX11_isKept_224
                  · replace hf := (if_neg hc).symm.trans hf
                    refine gm_aload_n (G := GM) (r := 1) C rfl dX11_isKept_98 rfl (lv_at hl 0 rfl) ?_
                    refine gm_getJ (G := GM) (u := u) (r := 1) (ci := 10) (k := 7) C hw rfl fl_X11_154 dX11_isKept_99 rfl ?_
                    refine lv_ldc2 hx hb C.2.2.2.1 (C.2.2.2.2.1 _ kn_X11_238) dX11_isKept_102 ?_
                    refine W.lcmp hx hb dX11_isKept_105 ?_
                    refine lv_if_eq (tgt := 219) hx hb dX11_isKept_106 (by decide) (fun hc => ?_) (fun hc => ?_)
                    · replace hf := (if_pos hc).symm.trans hf
                      refine lv_iconst (v := 1) hx hb dX11_isKept_219 (by decide) ?_
                      refine lv_goto (tgt := 224) hx hb dX11_isKept_220 (by decide) ?_
                      exact gm_zret C E hw rfl rfl ((congrArg (fun z => some (Value.int z)) hf).symm) rfl dX11_isKept_224
                    · replace hf := (if_neg hc).symm.trans hf
                      refine gm_aload_n (G := GM) (r := 1) C rfl dX11_isKept_109 rfl (lv_at hl 0 rfl) ?_
                      refine gm_getJ (G := GM) (u := u) (r := 1) (ci := 10) (k := 7) C hw rfl fl_X11_154 dX11_isKept_110 rfl ?_
                      refine lv_ldc2 hx hb C.2.2.2.1 (C.2.2.2.2.1 _ kn_X11_240) dX11_isKept_113 ?_
                      refine W.lcmp hx hb dX11_isKept_116 ?_
                      refine lv_if_eq (tgt := 219) hx hb dX11_isKept_117 (by decide) (fun hc => ?_) (fun hc => ?_)
                      · replace hf := (if_pos hc).symm.trans hf
                        refine lv_iconst (v := 1) hx hb dX11_isKept_219 (by decide) ?_
                        refine lv_goto (tgt := 224) hx hb dX11_isKept_220 (by decide) ?_
                        exact gm_zret C E hw rfl rfl ((congrArg (fun z => some (Value.int z)) hf).symm) rfl dX11_isKept_224
                      · replace hf := (if_neg hc).symm.trans hf
                        refine gm_aload_n (G := GM) (r := 1) C rfl dX11_isKept_120 rfl (lv_at hl 0 rfl) ?_
                        refine gm_getJ (G := GM) (u := u) (r := 1) (ci := 10) (k := 7) C hw rfl fl_X11_154 dX11_isKept_121 rfl ?_
                        refine lv_ldc2 hx hb C.2.2.2.1 (C.2.2.2.2.1 _ kn_X11_242) dX11_isKept_124 ?_
                        refine W.lcmp hx hb dX11_isKept_127 ?_
                        refine lv_if_eq (tgt := 219) hx hb dX11_isKept_128 (by decide) (fun hc => ?_) (fun hc => ?_)
                        · replace hf := (if_pos hc).symm.trans hf
                          refine lv_iconst (v := 1) hx hb dX11_isKept_219 (by decide) ?_
                          refine lv_goto (tgt := 224) hx hb dX11_isKept_220 (by decide) ?_
                          exact gm_zret C E hw rfl rfl ((congrArg (fun z => some (Value.int z)) hf).symm) rfl dX11_isKept_224
                        · replace hf := (if_neg hc).symm.trans hf
                          refine gm_aload_n (G := GM) (r := 1) C rfl dX11_isKept_131 rfl (lv_at hl 0 rfl) ?_
                          refine gm_getJ (G := GM) (u := u) (r := 1) (ci := 10) (k := 7) C hw rfl fl_X11_154 dX11_isKept_132 rfl ?_
                          refine lv_ldc2 hx hb C.2.2.2.1 (C.2.2.2.2.1 _ kn_X11_244) dX11_isKept_135 ?_
                          refine W.lcmp hx hb dX11_isKept_138 ?_
                          refine lv_if_eq (tgt := 219) hx hb dX11_isKept_139 (by decide) (fun hc => ?_) (fun hc => ?_)
                          · replace hf := (if_pos hc).symm.trans hf
                            refine lv_iconst (v := 1) hx hb dX11_isKept_219 (by decide) ?_
                            refine lv_goto (tgt := 224) hx hb dX11_isKept_220 (by decide) ?_
                            exact gm_zret C E hw rfl rfl ((congrArg (fun z => some (Value.int z)) hf).symm) rfl dX11_isKept_224
                          · replace hf := (if_neg hc).symm.trans hf
                            refine gm_aload_n (G := GM) (r := 1) C rfl dX11_isKept_142 rfl (lv_at hl 0 rfl) ?_
                            refine gm_getJ (G := GM) (u := u) (r := 1) (ci := 10) (k := 7) C hw rfl fl_X11_154 dX11_isKept_143 rfl ?_
                            refine lv_ldc2 hx hb C.2.2.2.1 (C.2.2.2.2.1 _ kn_X11_246) dX11_isKept_146 ?_
                            refine W.lcmp hx hb dX11_isKept_149 ?_
                            refine lv_if_eq (tgt := 219) hx hb dX11_isKept_150 (by decide) (fun hc => ?_) (fun hc => ?_)
                            · replace hf := (if_pos hc).symm.trans hf
                              refine lv_iconst (v := 1) hx hb dX11_isKept_219 (by decide) ?_
                              refine lv_goto (tgt := 224) hx hb dX11_isKept_220 (by decide) ?_
                              exact gm_zret C E hw rfl rfl ((congrArg (fun z => some (Value.int z)) hf).symm) rfl dX11_isKept_224
                            · replace hf := (if_neg hc).symm.trans hf
                              refine gm_aload_n (G := GM) (r := 1) C rfl dX11_isKept_153 rfl (lv_at hl 0 rfl) ?_
                              refine gm_getJ (G := GM) (u := u) (r := 1) (ci := 10) (k := 7) C hw rfl fl_X11_154 dX11_isKept_154 rfl ?_
                              refine lv_ldc2 hx hb C.2.2.2.1 (C.2.2.2.2.1 _ kn_X11_248) dX11_isKept_157 ?_
                              refine W.lcmp hx hb dX11_isKept_160 ?_
                              refine lv_if_eq (tgt := 219) hx hb dX11_isKept_161 (by decide) (fun hc => ?_) (fun hc => ?_)
                              · replace hf := (if_pos hc).symm.trans hf
                                refine lv_iconst (v := 1) hx hb dX11_isKept_219 (by decide) ?_
                                refine lv_goto (tgt := 224) hx hb dX11_isKept_220 (by decide) ?_
                                exact gm_zret C E hw rfl rfl ((congrArg (fun z => some (Value.int z)) hf).symm) rfl dX11_isKept_224
                              · replace hf := (if_neg hc).symm.trans hf
                                refine gm_aload_n (G := GM) (r := 1) C rfl dX11_isKept_164 rfl (lv_at hl 0 rfl) ?_
                                refine gm_getJ (G := GM) (u := u) (r := 1) (ci := 10) (k := 7) C hw rfl fl_X11_154 dX11_isKept_165 rfl ?_
                                refine lv_ldc2 hx hb C.2.2.2.1 (C.2.2.2.2.1 _ kn_X11_250) dX11_isKept_168 ?_
                                refine W.lcmp hx hb dX11_isKept_171 ?_
                                refine lv_if_eq (tgt := 219) hx hb dX11_isKept_172 (by decide) (fun hc => ?_) (fun hc => ?_)
                                · replace hf := (if_pos hc).symm.trans hf
                                  refine lv_iconst (v := 1) hx hb dX11_isKept_219 (by decide) ?_
                                  refine lv_goto (tgt := 224) hx hb dX11_isKept_220 (by decide) ?_
                                  exact gm_zret C E hw rfl rfl ((congrArg (fun z => some (Value.int z)) hf).symm) rfl dX11_isKept_224
                                · replace hf := (if_neg hc).symm.trans hf
                                  refine gm_aload_n (G := GM) (r := 1) C rfl dX11_isKept_175 rfl (lv_at hl 0 rfl) ?_
                                  refine gm_getJ (G := GM) (u := u) (r := 1) (ci := 10) (k := 7) C hw rfl fl_X11_154 dX11_isKept_176 rfl ?_
                                  refine lv_ldc2 hx hb C.2.2.2.1 (C.2.2.2.2.1 _ kn_X11_252) dX11_isKept_179 ?_
                                  refine W.lcmp hx hb dX11_isKept_182 ?_
                                  refine lv_if_eq (tgt := 219) hx hb dX11_isKept_183 (by decide) (fun hc => ?_) (fun hc => ?_)
                                  · replace hf := (if_pos hc).symm.trans hf
                                    refine lv_iconst (v := 1) hx hb dX11_isKept_219 (by decide) ?_
                                    refine lv_goto (tgt := 224) hx hb dX11_isKept_220 (by decide) ?_
                                    exact gm_zret C E hw rfl rfl ((congrArg (fun z => some (Value.int z)) hf).symm) rfl dX11_isKept_224
                                  · replace hf := (if_neg hc).symm.trans hf
                                    refine gm_aload_n (G := GM) (r := 1) C rfl dX11_isKept_186 rfl (lv_at hl 0 rfl) ?_
                                    refine gm_getJ (G := GM) (u := u) (r := 1) (ci := 10) (k := 7) C hw rfl fl_X11_154 dX11_isKept_187 rfl ?_
                                    refine lv_ldc2 hx hb C.2.2.2.1 (C.2.2.2.2.1 _ kn_X11_190) dX11_isKept_190 ?_
                                    refine W.lcmp hx hb dX11_isKept_193 ?_
                                    refine lv_if_eq (tgt := 219) hx hb dX11_isKept_194 (by decide) (fun hc => ?_) (fun hc => ?_)
                                    · replace hf := (if_pos hc).symm.trans hf
                                      refine lv_iconst (v := 1) hx hb dX11_isKept_219 (by decide) ?_
                                      refine lv_goto (tgt := 224) hx hb dX11_isKept_220 (by decide) ?_
                                      exact gm_zret C E hw rfl rfl ((congrArg (fun z => some (Value.int z)) hf).symm) rfl dX11_isKept_224
                                    · replace hf := (if_neg hc).symm.trans hf
                                      refine gm_aload_n (G := GM) (r := 1) C rfl dX11_isKept_197 rfl (lv_at hl 0 rfl) ?_
                                      refine gm_getJ (G := GM) (u := u) (r := 1) (ci := 10) (k := 7) C hw rfl fl_X11_154 dX11_isKept_198 rfl ?_
                                      refine lv_ldc2 hx hb C.2.2.2.1 (C.2.2.2.2.1 _ kn_X11_209) dX11_isKept_201 ?_
                                      refine W.lcmp hx hb dX11_isKept_204 ?_
                                      refine lv_if_eq (tgt := 219) hx hb dX11_isKept_205 (by decide) (fun hc => ?_) (fun hc => ?_)
                                      · replace hf := (if_pos hc).symm.trans hf
                                        refine lv_iconst (v := 1) hx hb dX11_isKept_219 (by decide) ?_
                                        refine lv_goto (tgt := 224) hx hb dX11_isKept_220 (by decide) ?_
                                        exact gm_zret C E hw rfl rfl ((congrArg (fun z => some (Value.int z)) hf).symm) rfl dX11_isKept_224
                                      · replace hf := (if_neg hc).symm.trans hf
                                        refine gm_aload_n (G := GM) (r := 1) C rfl dX11_isKept_208 rfl (lv_at hl 0 rfl) ?_
                                        refine gm_getJ (G := GM) (u := u) (r := 1) (ci := 10) (k := 7) C hw rfl fl_X11_154 dX11_isKept_209 rfl ?_
                                        refine lv_ldc2 hx hb C.2.2.2.1 (C.2.2.2.2.1 _ kn_X11_211) dX11_isKept_212 ?_
                                        refine W.lcmp hx hb dX11_isKept_215 ?_
                                        refine lv_if_ne (tgt := 223) hx hb dX11_isKept_216 (by decide) (fun hc => ?_) (fun hc => ?_)
                                        · replace hf := (if_neg hc).symm.trans hf
                                          refine lv_iconst (v := 0) hx hb dX11_isKept_223 (by decide) ?_
                                          exact gm_zret C E hw rfl rfl ((congrArg (fun z => some (Value.int z)) hf).symm) rfl dX11_isKept_224
                                        · replace hf := (if_pos hc).symm.trans hf
                                          refine lv_iconst (v := 1) hx hb dX11_isKept_219 (by decide) ?_
                                          refine lv_goto (tgt := 224) hx hb dX11_isKept_220 (by decide) ?_
                                          exact gm_zret C E hw rfl rfl ((congrArg (fun z => some (Value.int z)) hf).symm) rfl dX11_isKept_224
  · replace hf := (if_neg hc).symm.trans hf
    refine lv_iconst (v := 1) hx hb dX11_isKept_8 (by decide) ?_
    exact gm_zret C E hw rfl rfl ((congrArg (fun z => some (Value.int z)) hf).symm) rfl dX11_isKept_9
/-! LeapCapitalModel.personNamed -/
def b_X11_personNamed_5 (a1 : Int32) (u : gm_M) : Int32 → Option (Int32 ⊕ (Int32 ⊕ Unit)) := fun x => match x with | v2_2 => if ib (((4 : Int32) * a1) + (0 : Int32)) 8 = true then if (((6 : Int32) * a1) + (gI u 3 (ix (((4 : Int32) * a1) + (0 : Int32))))) ≤ v2_2 then some (.inr (.inr ())) else if ib v2_2 12 = true then if (lg_cmp (gJ u 4 (ix v2_2)) (gJ u 1 7)) = 0 then some (.inr (.inl v2_2)) else some (.inl (v2_2 + (1 : Int32))) else none else none
def f_X11_personNamed (a1 : Int32) (u : gm_M) : Option Int32 := gm_let ((6 : Int32) * a1) fun v2_1 => ((gm_lp (b_X11_personNamed_5 a1 u) gm_FU v2_1).bind fun o => match o with | .inl w2_5 => (some (w2_5 - ((6 : Int32) * a1))) | .inr (_) => (some (-1 : Int32)))
set_option maxRecDepth 100000 in
set_option maxHeartbeats 4000000 in
theorem ok_X11_personNamed (l : Launch) (Z : gm_Z) (a1 : Int32) (u : gm_M)  (r : Int32) (hf : f_X11_personNamed a1 u = some r) : gm_Met l GM Z yX11_personNamed cX11_personNamed 3 (some .int) ({ frames := 0, cells := 0, slots := 0, locals := 0 }) [rv Z 1, .int a1] u (some (.int r)) u := by
  unfold f_X11_personNamed at hf
  refine gm_ofW (by decide +kernel) (Nat.le_of_ble_eq_true rfl) ?_
  intro p e s m args below meth c A ls Q R hRf hRl C E hl hw
  obtain ⟨hx, hb, -⟩ := id C
  have hl : lv_has ls 3 [(0, rv Z 1), (1, .int a1)] := hl
  refine lv_bipush (v := 6) hx hb dX11_personNamed_0 (by decide) ?_
  refine lv_iload_n hx hb dX11_personNamed_2 rfl (lv_at hl 1 rfl) ?_
  refine lv_imul hx hb dX11_personNamed_3 ?_
  obtain ⟨v2_1, e_v2_1, hf⟩ := gm_le hf
  refine gm_topI e_v2_1 ?_
  refine lv_istore_n (i := 2) (lv' := [(2, .int v2_1), (0, rv Z 1), (1, .int a1)]) hx hb dX11_personNamed_4 rfl hl (by decide) rfl (fun ls hl => ?_)
  obtain ⟨o1, hlp, hf⟩ := gm_bnd hf
  have L5_1 := gm_loop (b_X11_personNamed_5 a1 u) (fun x : Int32 => ∀ (H : Heap) (locs : List Loc) (ls : Array Slot), lv_has ls 3 [(0, rv Z 1), (1, .int a1), (2, .int x)] → wd GM Z u A s.heap H locs → W p l e R s m args below meth c H locs 0 0 Q (F0 m 5 ls [])) (fun z : (Int32 ⊕ Unit) => match z with | .inl q0 => ∀ (H : Heap) (locs : List Loc) (ls : Array Slot), lv_has ls 3 [(1, .int a1), (2, .int q0)] → wd GM Z u A s.heap H locs → W p l e R s m args below meth c H locs 0 0 Q (F0 m 38 ls []) | .inr p0 => ∀ (H : Heap) (locs : List Loc) (ls : Array Slot), lv_has ls 3 [] → wd GM Z u A s.heap H locs → W p l e R s m args below meth c H locs 0 0 Q (F0 m 51 ls [])) (by
    intro x o1 hf Kc Kx
    obtain ⟨v2_2, rfl⟩ : ∃ y, y = x := ⟨_, rfl⟩
    intro H locs ls hl hw
    unfold b_X11_personNamed_5 at hf
    try dsimp only at hf
    refine lv_iload_n hx hb dX11_personNamed_5 rfl (lv_at hl 2 rfl) ?_
    refine lv_bipush (v := 6) hx hb dX11_personNamed_6 (by decide) ?_
    refine lv_iload_n hx hb dX11_personNamed_8 rfl (lv_at hl 1 rfl) ?_
    refine lv_imul hx hb dX11_personNamed_9 ?_
    refine gm_aload_n (G := GM) (r := 1) C rfl dX11_personNamed_10 rfl (lv_at hl 0 rfl) ?_
    refine gm_getS (G := GM) (u := u) (r := 1) (ci := 10) (k := 10) C hw rfl fl_X11_13 dX11_personNamed_11 rfl (q := 3) rfl ?_
    refine lv_iconst (v := 4) hx hb dX11_personNamed_14 (by decide) ?_
    refine lv_iload_n hx hb dX11_personNamed_15 rfl (lv_at hl 1 rfl) ?_
    refine lv_imul hx hb dX11_personNamed_16 ?_
    refine lv_iconst (v := 0) hx hb dX11_personNamed_17 (by decide) ?_
    refine lv_iadd hx hb dX11_personNamed_18 ?_
    obtain ⟨g_3, hf⟩ := gm_grd hf
    refine gm_iald (G := GM) (u := u) (r := 3) (n := 8) (i := ((4 : Int32) * a1) + (0 : Int32)) C hw rfl g_3 rfl dX11_personNamed_19 ?_
    refine lv_iadd hx hb dX11_personNamed_20 ?_
    refine lv_icmp_ge (tgt := 51) hx hb dX11_personNamed_21 (by decide) (fun hc => ?_) (fun hc => ?_)
    · replace hf := (if_pos hc).symm.trans hf
      exact Kx _ (gm_si hf) _ _ _ (lv_sub hl [] rfl) hw
    · replace hf := (if_neg hc).symm.trans hf
      refine gm_aload_n (G := GM) (r := 1) C rfl dX11_personNamed_24 rfl (lv_at hl 0 rfl) ?_
      refine gm_getS (G := GM) (u := u) (r := 1) (ci := 10) (k := 11) C hw rfl fl_X11_16 dX11_personNamed_25 rfl (q := 4) rfl ?_
      refine lv_iload_n hx hb dX11_personNamed_28 rfl (lv_at hl 2 rfl) ?_
      obtain ⟨g_4, hf⟩ := gm_grd hf
      refine gm_lald (G := GM) (u := u) (r := 4) (n := 12) (i := v2_2) C hw rfl g_4 rfl dX11_personNamed_29 ?_
      refine gm_aload_n (G := GM) (r := 1) C rfl dX11_personNamed_30 rfl (lv_at hl 0 rfl) ?_
      refine gm_getJ (G := GM) (u := u) (r := 1) (ci := 10) (k := 7) C hw rfl fl_X11_154 dX11_personNamed_31 rfl ?_
      refine W.lcmp hx hb dX11_personNamed_34 ?_
      refine lv_if_ne (tgt := 45) hx hb dX11_personNamed_35 (by decide) (fun hc => ?_) (fun hc => ?_)
      · replace hf := (if_neg hc).symm.trans hf
        refine lv_iinc (v := v2_2 + (1 : Int32)) (lv' := [(2, .int (v2_2 + (1 : Int32))), (0, rv Z 1), (1, .int a1)]) hx hb dX11_personNamed_45 hl (k := 2) rfl rfl (by decide) rfl (fun ls hl => ?_)
        refine lv_goto (tgt := 5) hx hb dX11_personNamed_48 (by decide) ?_
        exact Kc _ (gm_si hf) _ _ _ (lv_sub hl [1, 2, 0] rfl) hw
      · replace hf := (if_pos hc).symm.trans hf
        exact Kx _ (gm_si hf) _ _ _ (lv_sub hl [1, 2] rfl) hw)
  refine L5_1 _ _ _ hlp ?_ _ _ _ (lv_sub hl [1, 2, 0] rfl) hw
  cases o1 with
  | inl q0_z_6 =>
    obtain ⟨w2_5, rfl⟩ : ∃ y, y = q0_z_6 := ⟨_, rfl⟩
    intro H locs ls hl hw
    try dsimp only at hf
    refine lv_iload_n hx hb dX11_personNamed_38 rfl (lv_at hl 1 rfl) ?_
    refine lv_bipush (v := 6) hx hb dX11_personNamed_39 (by decide) ?_
    refine lv_iload_n hx hb dX11_personNamed_41 rfl (lv_at hl 0 rfl) ?_
    refine lv_imul hx hb dX11_personNamed_42 ?_
    refine lv_isub hx hb dX11_personNamed_43 ?_
    exact gm_iret C E hw rfl ((congrArg (fun z => some (Value.int z)) (Option.some.inj hf)).symm) rfl dX11_personNamed_44
  | inr p0_z_6 =>
    intro H locs ls hl hw
    try dsimp only at hf
    refine lv_iconst (v := -1) hx hb dX11_personNamed_51 (by decide) ?_
    exact gm_iret C E hw rfl ((congrArg (fun z => some (Value.int z)) (Option.some.inj hf)).symm) rfl dX11_personNamed_52
