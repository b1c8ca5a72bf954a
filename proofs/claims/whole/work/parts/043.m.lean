/-! LeapCapitalModel.laysLines -/
def b_X11_laysLines_14 (a1 : Int32) (a2 : Int32) : (Int32 × gm_M) → Option ((Int32 × gm_M) ⊕ gm_M) := fun x => match x with | (v3_5, u_4) => if (40 : Int32) ≤ v3_5 then some (.inr u_4) else if ib (((40 : Int32) * a1) + v3_5) 240 = true then if ib (((40 : Int32) * a2) + v3_5) 240 = true then gm_let (sI u_4 24 (ix (((40 : Int32) * a2) + v3_5)) (gI u_4 24 (ix (((40 : Int32) * a1) + v3_5)))) fun u_8 => gm_let (sI u_8 25 (ix (((40 : Int32) * a2) + v3_5)) (gI u_8 25 (ix (((40 : Int32) * a1) + v3_5)))) fun u_9 => some (.inl (v3_5 + (1 : Int32), u_9)) else none else none
def f_X11_laysLines (a1 : Int32) (a2 : Int32) (u : gm_M) : Option gm_M := if ib a1 6 = true then if ib a2 6 = true then gm_let (sI u 23 (ix a2) (gI u 23 (ix a1))) fun u_3 => ((gm_lp (b_X11_laysLines_14 a1 a2) gm_FU ((0 : Int32), u_3)).bind fun o => match o with | u_10 => some u_10) else none else none
set_option maxRecDepth 100000 in
set_option maxHeartbeats 4000000 in
theorem ok_X11_laysLines (l : Launch) (Z : gm_Z) (a1 : Int32) (a2 : Int32) (u : gm_M)  (u' : gm_M) (hf : f_X11_laysLines a1 a2 u = some (u')) : gm_Met l GM Z yX11_laysLines cX11_laysLines 4 none ({ frames := 0, cells := 0, slots := 0, locals := 0 }) [rv Z 1, .int a1, .int a2] u none u' := by
  unfold f_X11_laysLines at hf
  refine gm_ofW (by decide +kernel) (Nat.le_of_ble_eq_true rfl) ?_
  intro p e s m args below meth c A ls Q R hRf hRl C E hl hw
  obtain ⟨hx, hb, -⟩ := id C
  have hl : lv_has ls 4 [(0, rv Z 1), (1, .int a1), (2, .int a2)] := hl
  refine gm_aload_n (G := GM) (r := 1) C rfl dX11_laysLines_0 rfl (lv_at hl 0 rfl) ?_
  refine gm_getS (G := GM) (u := u) (r := 1) (ci := 10) (k := 33) C hw rfl fl_X11_75 dX11_laysLines_1 rfl (q := 23) rfl ?_
  refine lv_iload_n hx hb dX11_laysLines_4 rfl (lv_at hl 2 rfl) ?_
  refine gm_aload_n (G := GM) (r := 1) C rfl dX11_laysLines_5 rfl (lv_at hl 0 rfl) ?_
  refine gm_getS (G := GM) (u := u) (r := 1) (ci := 10) (k := 33) C hw rfl fl_X11_75 dX11_laysLines_6 rfl (q := 23) rfl ?_
  refine lv_iload_n hx hb dX11_laysLines_9 rfl (lv_at hl 1 rfl) ?_
  obtain ⟨g_1, hf⟩ := gm_grd hf
  refine gm_iald (G := GM) (u := u) (r := 23) (n := 6) (i := a1) C hw rfl g_1 rfl dX11_laysLines_10 ?_
  obtain ⟨g_2, hf⟩ := gm_grd hf
  refine gm_iast (G := GM) (u := u) (r := 23) (n := 6) (i := a2) (x := gI u 23 (ix a1)) C hw rfl g_2 rfl dX11_laysLines_11 (fun H locs hw => ?_)
  obtain ⟨u_3, e_u_3, hf⟩ := gm_le hf
  rw [← e_u_3] at hw
  refine lv_iconst (v := 0) hx hb dX11_laysLines_12 (by decide) ?_
  refine lv_istore_n (i := 3) (lv' := [(3, .int (0 : Int32)), (0, rv Z 1), (1, .int a1), (2, .int a2)]) hx hb dX11_laysLines_13 rfl hl (by decide) rfl (fun ls hl => ?_)
  obtain ⟨o1, hlp, hf⟩ := gm_bnd hf
  have L14_1 := gm_loop (b_X11_laysLines_14 a1 a2) (fun x : (Int32 × gm_M) => ∀ (H : Heap) (locs : List Loc) (ls : Array Slot), lv_has ls 4 [(0, rv Z 1), (1, .int a1), (2, .int a2), (3, .int x.1)] → wd GM Z x.2 A s.heap H locs → W p l e R s m args below meth c H locs 0 0 Q (F0 m 14 ls [])) (fun z : gm_M => ∀ (H : Heap) (locs : List Loc) (ls : Array Slot), lv_has ls 4 [] → wd GM Z z A s.heap H locs → W p l e R s m args below meth c H locs 0 0 Q (F0 m 70 ls [])) (by
    intro x o1 hf Kc Kx
    obtain ⟨v3_5, u_4⟩ := x
    intro H locs ls hl hw
    unfold b_X11_laysLines_14 at hf
    try dsimp only at hf
    refine lv_iload_n hx hb dX11_laysLines_14 rfl (lv_at hl 3 rfl) ?_
    refine lv_bipush (v := 40) hx hb dX11_laysLines_15 (by decide) ?_
    refine lv_icmp_ge (tgt := 70) hx hb dX11_laysLines_17 (by decide) (fun hc => ?_) (fun hc => ?_)
    · replace hf := (if_pos hc).symm.trans hf
      exact Kx _ (gm_si hf) _ _ _ (lv_sub hl [] rfl) hw
    · replace hf := (if_neg hc).symm.trans hf
      refine gm_aload_n (G := GM) (r := 1) C rfl dX11_laysLines_20 rfl (lv_at hl 0 rfl) ?_
      refine gm_getS (G := GM) (u := u_4) (r := 1) (ci := 10) (k := 34) C hw rfl fl_X11_78 dX11_laysLines_21 rfl (q := 24) rfl ?_
      refine lv_bipush (v := 40) hx hb dX11_laysLines_24 (by decide) ?_
      refine lv_iload_n hx hb dX11_laysLines_26 rfl (lv_at hl 2 rfl) ?_
      refine lv_imul hx hb dX11_laysLines_27 ?_
      refine lv_iload_n hx hb dX11_laysLines_28 rfl (lv_at hl 3 rfl) ?_
      refine lv_iadd hx hb dX11_laysLines_29 ?_
      refine gm_aload_n (G := GM) (r := 1) C rfl dX11_laysLines_30 rfl (lv_at hl 0 rfl) ?_
      refine gm_getS (G := GM) (u := u_4) (r := 1) (ci := 10) (k := 34) C hw rfl fl_X11_78 dX11_laysLines_31 rfl (q := 24) rfl ?_
      refine lv_bipush (v := 40) hx hb dX11_laysLines_34 (by decide) ?_
      refine lv_iload_n hx hb dX11_laysLines_36 rfl (lv_at hl 1 rfl) ?_
      refine lv_imul hx hb dX11_laysLines_37 ?_
      refine lv_iload_n hx hb dX11_laysLines_38 rfl (lv_at hl 3 rfl) ?_
      refine lv_iadd hx hb dX11_laysLines_39 ?_
      obtain ⟨g_6, hf⟩ := gm_grd hf
      refine gm_iald (G := GM) (u := u_4) (r := 24) (n := 240) (i := ((40 : Int32) * a1) + v3_5) C hw rfl g_6 rfl dX11_laysLines_40 ?_
      obtain ⟨g_7, hf⟩ := gm_grd hf
      refine gm_iast (G := GM) (u := u_4) (r := 24) (n := 240) (i := ((40 : Int32) * a2) + v3_5) (x := gI u_4 24 (ix (((40 : Int32) * a1) + v3_5))) C hw rfl g_7 rfl dX11_laysLines_41 (fun H locs hw => ?_)
      obtain ⟨u_8, e_u_8, hf⟩ := gm_le hf
      rw [← e_u_8] at hw
      refine gm_aload_n (G := GM) (r := 1) C rfl dX11_laysLines_42 rfl (lv_at hl 0 rfl) ?_
      refine gm_getS (G := GM) (u := u_8) (r := 1) (ci := 10) (k := 35) C hw rfl fl_X11_81 dX11_laysLines_43 rfl (q := 25) rfl ?_
      refine lv_bipush (v := 40) hx hb dX11_laysLines_46 (by decide) ?_
      refine lv_iload_n hx hb dX11_laysLines_48 rfl (lv_at hl 2 rfl) ?_
      refine lv_imul hx hb dX11_laysLines_49 ?_
      refine lv_iload_n hx hb dX11_laysLines_50 rfl (lv_at hl 3 rfl) ?_
      refine lv_iadd hx hb dX11_laysLines_51 ?_
      refine gm_aload_n (G := GM) (r := 1) C rfl dX11_laysLines_52 rfl (lv_at hl 0 rfl) ?_
      refine gm_getS (G := GM) (u := u_8) (r := 1) (ci := 10) (k := 35) C hw rfl fl_X11_81 dX11_laysLines_53 rfl (q := 25) rfl ?_
      refine lv_bipush (v := 40) hx hb dX11_laysLines_56 (by decide) ?_
      refine lv_iload_n hx hb dX11_laysLines_58 rfl (lv_at hl 1 rfl) ?_
      refine lv_imul hx hb dX11_laysLines_59 ?_
      refine lv_iload_n hx hb dX11_laysLines_60 rfl (lv_at hl 3 rfl) ?_
      refine lv_iadd hx hb dX11_laysLines_61 ?_
      refine gm_iald (G := GM) (u := u_8) (r := 25) (n := 240) (i := ((40 : Int32) * a1) + v3_5) C hw rfl g_6 rfl dX11_laysLines_62 ?_
      refine gm_iast (G := GM) (u := u_8) (r := 25) (n := 240) (i := ((40 : Int32) * a2) + v3_5) (x := gI u_8 25 (ix (((40 : Int32) * a1) + v3_5))) C hw rfl g_7 rfl dX11_laysLines_63 (fun H locs hw => ?_)
      obtain ⟨u_9, e_u_9, hf⟩ := gm_le hf
      rw [← e_u_9] at hw
      refine lv_iinc (v := v3_5 + (1 : Int32)) (lv' := [(3, .int (v3_5 + (1 : Int32))), (0, rv Z 1), (1, .int a1), (2, .int a2)]) hx hb dX11_laysLines_64 hl (k := 3) rfl rfl (by decide) rfl (fun ls hl => ?_)
      refine lv_goto (tgt := 14) hx hb dX11_laysLines_67 (by decide) ?_
      exact Kc _ (gm_si hf) _ _ _ (lv_sub hl [1, 2, 3, 0] rfl) hw)
  refine L14_1 _ _ _ hlp ?_ _ _ _ (lv_sub hl [1, 2, 3, 0] rfl) hw
  obtain ⟨u_10, rfl⟩ : ∃ y, y = o1 := ⟨_, rfl⟩
  intro H locs ls hl hw
  try dsimp only at hf
  exact gm_vret C E hw rfl rfl (Option.some.inj hf).symm dX11_laysLines_70
/-! LeapCapitalModel.laysSaid -/
def b_X11_laysSaid_14 (a1 : Int32) (a2 : Int32) : (Int32 × gm_M) → Option ((Int32 × gm_M) ⊕ gm_M) := fun x => match x with | (v3_5, u_4) => if (8 : Int32) ≤ v3_5 then some (.inr u_4) else if ib (((8 : Int32) * a1) + v3_5) 40 = true then if ib (((8 : Int32) * a2) + v3_5) 40 = true then gm_let (sI u_4 27 (ix (((8 : Int32) * a2) + v3_5)) (gI u_4 27 (ix (((8 : Int32) * a1) + v3_5)))) fun u_8 => gm_let (sI u_8 28 (ix (((8 : Int32) * a2) + v3_5)) ((gI u_8 28 (ix (((8 : Int32) * a1) + v3_5))) &&& 1)) fun u_9 => some (.inl (v3_5 + (1 : Int32), u_9)) else none else none
def f_X11_laysSaid (a1 : Int32) (a2 : Int32) (u : gm_M) : Option gm_M := if ib a1 5 = true then if ib a2 5 = true then gm_let (sI u 26 (ix a2) (gI u 26 (ix a1))) fun u_3 => ((gm_lp (b_X11_laysSaid_14 a1 a2) gm_FU ((0 : Int32), u_3)).bind fun o => match o with | u_10 => some u_10) else none else none
set_option maxRecDepth 100000 in
set_option maxHeartbeats 4000000 in
theorem ok_X11_laysSaid (l : Launch) (Z : gm_Z) (a1 : Int32) (a2 : Int32) (u : gm_M)  (u' : gm_M) (hf : f_X11_laysSaid a1 a2 u = some (u')) : gm_Met l GM Z yX11_laysSaid cX11_laysSaid 4 none ({ frames := 0, cells := 0, slots := 0, locals := 0 }) [rv Z 1, .int a1, .int a2] u none u' := by
  unfold f_X11_laysSaid at hf
  refine gm_ofW (by decide +kernel) (Nat.le_of_ble_eq_true rfl) ?_
  intro p e s m args below meth c A ls Q R hRf hRl C E hl hw
  obtain ⟨hx, hb, -⟩ := id C
  have hl : lv_has ls 4 [(0, rv Z 1), (1, .int a1), (2, .int a2)] := hl
  refine gm_aload_n (G := GM) (r := 1) C rfl dX11_laysSaid_0 rfl (lv_at hl 0 rfl) ?_
  refine gm_getS (G := GM) (u := u) (r := 1) (ci := 10) (k := 36) C hw rfl fl_X11_84 dX11_laysSaid_1 rfl (q := 26) rfl ?_
  refine lv_iload_n hx hb dX11_laysSaid_4 rfl (lv_at hl 2 rfl) ?_
  refine gm_aload_n (G := GM) (r := 1) C rfl dX11_laysSaid_5 rfl (lv_at hl 0 rfl) ?_
  refine gm_getS (G := GM) (u := u) (r := 1) (ci := 10) (k := 36) C hw rfl fl_X11_84 dX11_laysSaid_6 rfl (q := 26) rfl ?_
  refine lv_iload_n hx hb dX11_laysSaid_9 rfl (lv_at hl 1 rfl) ?_
  obtain ⟨g_1, hf⟩ := gm_grd hf
  refine gm_iald (G := GM) (u := u) (r := 26) (n := 5) (i := a1) C hw rfl g_1 rfl dX11_laysSaid_10 ?_
  obtain ⟨g_2, hf⟩ := gm_grd hf
  refine gm_iast (G := GM) (u := u) (r := 26) (n := 5) (i := a2) (x := gI u 26 (ix a1)) C hw rfl g_2 rfl dX11_laysSaid_11 (fun H locs hw => ?_)
  obtain ⟨u_3, e_u_3, hf⟩ := gm_le hf
  rw [← e_u_3] at hw
  refine lv_iconst (v := 0) hx hb dX11_laysSaid_12 (by decide) ?_
  refine lv_istore_n (i := 3) (lv' := [(3, .int (0 : Int32)), (0, rv Z 1), (1, .int a1), (2, .int a2)]) hx hb dX11_laysSaid_13 rfl hl (by decide) rfl (fun ls hl => ?_)
  obtain ⟨o1, hlp, hf⟩ := gm_bnd hf
  have L14_1 := gm_loop (b_X11_laysSaid_14 a1 a2) (fun x : (Int32 × gm_M) => ∀ (H : Heap) (locs : List Loc) (ls : Array Slot), lv_has ls 4 [(0, rv Z 1), (1, .int a1), (2, .int a2), (3, .int x.1)] → wd GM Z x.2 A s.heap H locs → W p l e R s m args below meth c H locs 0 0 Q (F0 m 14 ls [])) (fun z : gm_M => ∀ (H : Heap) (locs : List Loc) (ls : Array Slot), lv_has ls 4 [] → wd GM Z z A s.heap H locs → W p l e R s m args below meth c H locs 0 0 Q (F0 m 70 ls [])) (by
    intro x o1 hf Kc Kx
    obtain ⟨v3_5, u_4⟩ := x
    intro H locs ls hl hw
    unfold b_X11_laysSaid_14 at hf
    try dsimp only at hf
    refine lv_iload_n hx hb dX11_laysSaid_14 rfl (lv_at hl 3 rfl) ?_
    refine lv_bipush (v := 8) hx hb dX11_laysSaid_15 (by decide) ?_
    refine lv_icmp_ge (tgt := 70) hx hb dX11_laysSaid_17 (by decide) (fun hc => ?_) (fun hc => ?_)
    · replace hf := (if_pos hc).symm.trans hf
      exact Kx _ (gm_si hf) _ _ _ (lv_sub hl [] rfl) hw
    · replace hf := (if_neg hc).symm.trans hf
      refine gm_aload_n (G := GM) (r := 1) C rfl dX11_laysSaid_20 rfl (lv_at hl 0 rfl) ?_
      refine gm_getS (G := GM) (u := u_4) (r := 1) (ci := 10) (k := 37) C hw rfl fl_X11_87 dX11_laysSaid_21 rfl (q := 27) rfl ?_
      refine lv_bipush (v := 8) hx hb dX11_laysSaid_24 (by decide) ?_
      refine lv_iload_n hx hb dX11_laysSaid_26 rfl (lv_at hl 2 rfl) ?_
      refine lv_imul hx hb dX11_laysSaid_27 ?_
      refine lv_iload_n hx hb dX11_laysSaid_28 rfl (lv_at hl 3 rfl) ?_
      refine lv_iadd hx hb dX11_laysSaid_29 ?_
      refine gm_aload_n (G := GM) (r := 1) C rfl dX11_laysSaid_30 rfl (lv_at hl 0 rfl) ?_
      refine gm_getS (G := GM) (u := u_4) (r := 1) (ci := 10) (k := 37) C hw rfl fl_X11_87 dX11_laysSaid_31 rfl (q := 27) rfl ?_
      refine lv_bipush (v := 8) hx hb dX11_laysSaid_34 (by decide) ?_
      refine lv_iload_n hx hb dX11_laysSaid_36 rfl (lv_at hl 1 rfl) ?_
      refine lv_imul hx hb dX11_laysSaid_37 ?_
      refine lv_iload_n hx hb dX11_laysSaid_38 rfl (lv_at hl 3 rfl) ?_
      refine lv_iadd hx hb dX11_laysSaid_39 ?_
      obtain ⟨g_6, hf⟩ := gm_grd hf
      refine gm_iald (G := GM) (u := u_4) (r := 27) (n := 40) (i := ((8 : Int32) * a1) + v3_5) C hw rfl g_6 rfl dX11_laysSaid_40 ?_
      obtain ⟨g_7, hf⟩ := gm_grd hf
      refine gm_iast (G := GM) (u := u_4) (r := 27) (n := 40) (i := ((8 : Int32) * a2) + v3_5) (x := gI u_4 27 (ix (((8 : Int32) * a1) + v3_5))) C hw rfl g_7 rfl dX11_laysSaid_41 (fun H locs hw => ?_)
      obtain ⟨u_8, e_u_8, hf⟩ := gm_le hf
      rw [← e_u_8] at hw
      refine gm_aload_n (G := GM) (r := 1) C rfl dX11_laysSaid_42 rfl (lv_at hl 0 rfl) ?_
      refine gm_getS (G := GM) (u := u_8) (r := 1) (ci := 10) (k := 38) C hw rfl fl_X11_90 dX11_laysSaid_43 rfl (q := 28) rfl ?_
      refine lv_bipush (v := 8) hx hb dX11_laysSaid_46 (by decide) ?_
      refine lv_iload_n hx hb dX11_laysSaid_48 rfl (lv_at hl 2 rfl) ?_
      refine lv_imul hx hb dX11_laysSaid_49 ?_
      refine lv_iload_n hx hb dX11_laysSaid_50 rfl (lv_at hl 3 rfl) ?_
      refine lv_iadd hx hb dX11_laysSaid_51 ?_
      refine gm_aload_n (G := GM) (r := 1) C rfl dX11_laysSaid_52 rfl (lv_at hl 0 rfl) ?_
      refine gm_getS (G := GM) (u := u_8) (r := 1) (ci := 10) (k := 38) C hw rfl fl_X11_90 dX11_laysSaid_53 rfl (q := 28) rfl ?_
      refine lv_bipush (v := 8) hx hb dX11_laysSaid_56 (by decide) ?_
      refine lv_iload_n hx hb dX11_laysSaid_58 rfl (lv_at hl 1 rfl) ?_
      refine lv_imul hx hb dX11_laysSaid_59 ?_
      refine lv_iload_n hx hb dX11_laysSaid_60 rfl (lv_at hl 3 rfl) ?_
      refine lv_iadd hx hb dX11_laysSaid_61 ?_
      refine gm_zald (G := GM) (u := u_8) (r := 28) (n := 40) (i := ((8 : Int32) * a1) + v3_5) C hw rfl g_6 rfl dX11_laysSaid_62 ?_
      refine gm_zast (G := GM) (u := u_8) (r := 28) (n := 40) (i := ((8 : Int32) * a2) + v3_5) (x := gI u_8 28 (ix (((8 : Int32) * a1) + v3_5))) C hw rfl g_7 rfl dX11_laysSaid_63 (fun H locs hw => ?_)
      obtain ⟨u_9, e_u_9, hf⟩ := gm_le hf
      rw [← e_u_9] at hw
      refine lv_iinc (v := v3_5 + (1 : Int32)) (lv' := [(3, .int (v3_5 + (1 : Int32))), (0, rv Z 1), (1, .int a1), (2, .int a2)]) hx hb dX11_laysSaid_64 hl (k := 3) rfl rfl (by decide) rfl (fun ls hl => ?_)
      refine lv_goto (tgt := 14) hx hb dX11_laysSaid_67 (by decide) ?_
      exact Kc _ (gm_si hf) _ _ _ (lv_sub hl [1, 2, 3, 0] rfl) hw)
  refine L14_1 _ _ _ hlp ?_ _ _ _ (lv_sub hl [1, 2, 3, 0] rfl) hw
  obtain ⟨u_10, rfl⟩ : ∃ y, y = o1 := ⟨_, rfl⟩
  intro H locs ls hl hw
  try dsimp only at hf
  exact gm_vret C E hw rfl rfl (Option.some.inj hf).symm dX11_laysSaid_70
/-! LeapCapitalModel.fresh0 -/
def b_X11_fresh0_2 : (Int32 × gm_M) → Option ((Int32 × gm_M) ⊕ gm_M) := fun x => match x with | (v1_2, u_1) => if (22 : Int32) ≤ v1_2 then some (.inr u_1) else if ib v1_2 22 = true then gm_let (sI u_1 29 (ix v1_2) (0 : Int32)) fun u_4 => some (.inl (v1_2 + (1 : Int32), u_4)) else none
def f_X11_fresh0  (u : gm_M) : Option gm_M := ((gm_lp (b_X11_fresh0_2) gm_FU ((0 : Int32), u)).bind fun o => match o with | u_5 => gm_let (sI u_5 29 0 (gI u_5 3 1)) fun u_6 => some u_6)
set_option maxRecDepth 100000 in
set_option maxHeartbeats 4000000 in
theorem ok_X11_fresh0 (l : Launch) (Z : gm_Z)  (u : gm_M)  (u' : gm_M) (hf : f_X11_fresh0 u = some (u')) : gm_Met l GM Z yX11_fresh0 cX11_fresh0 2 none ({ frames := 0, cells := 0, slots := 0, locals := 0 }) [rv Z 1] u none u' := by
  unfold f_X11_fresh0 at hf
  refine gm_ofW (by decide +kernel) (Nat.le_of_ble_eq_true rfl) ?_
  intro p e s m args below meth c A ls Q R hRf hRl C E hl hw
  obtain ⟨hx, hb, -⟩ := id C
  have hl : lv_has ls 2 [(0, rv Z 1)] := hl
  refine lv_iconst (v := 0) hx hb dX11_fresh0_0 (by decide) ?_
  refine lv_istore_n (i := 1) (lv' := [(1, .int (0 : Int32)), (0, rv Z 1)]) hx hb dX11_fresh0_1 rfl hl (by decide) rfl (fun ls hl => ?_)
  obtain ⟨o1, hlp, hf⟩ := gm_bnd hf
  have L2_1 := gm_loop (b_X11_fresh0_2) (fun x : (Int32 × gm_M) => ∀ (H : Heap) (locs : List Loc) (ls : Array Slot), lv_has ls 2 [(0, rv Z 1), (1, .int x.1)] → wd GM Z x.2 A s.heap H locs → W p l e R s m args below meth c H locs 0 0 Q (F0 m 2 ls [])) (fun z : gm_M => ∀ (H : Heap) (locs : List Loc) (ls : Array Slot), lv_has ls 2 [(0, rv Z 1)] → wd GM Z z A s.heap H locs → W p l e R s m args below meth c H locs 0 0 Q (F0 m 21 ls [])) (by
    intro x o1 hf Kc Kx
    obtain ⟨v1_2, u_1⟩ := x
    intro H locs ls hl hw
    unfold b_X11_fresh0_2 at hf
    try dsimp only at hf
    refine lv_iload_n hx hb dX11_fresh0_2 rfl (lv_at hl 1 rfl) ?_
    refine lv_bipush (v := 22) hx hb dX11_fresh0_3 (by decide) ?_
    refine lv_icmp_ge (tgt := 21) hx hb dX11_fresh0_5 (by decide) (fun hc => ?_) (fun hc => ?_)
    · replace hf := (if_pos hc).symm.trans hf
      exact Kx _ (gm_si hf) _ _ _ (lv_sub hl [0] rfl) hw
    · replace hf := (if_neg hc).symm.trans hf
      refine gm_aload_n (G := GM) (r := 1) C rfl dX11_fresh0_8 rfl (lv_at hl 0 rfl) ?_
      refine gm_getS (G := GM) (u := u_1) (r := 1) (ci := 10) (k := 39) C hw rfl fl_X11_93 dX11_fresh0_9 rfl (q := 29) rfl ?_
      refine lv_iload_n hx hb dX11_fresh0_12 rfl (lv_at hl 1 rfl) ?_
      refine lv_iconst (v := 0) hx hb dX11_fresh0_13 (by decide) ?_
      obtain ⟨g_3, hf⟩ := gm_grd hf
      refine gm_iast (G := GM) (u := u_1) (r := 29) (n := 22) (i := v1_2) (x := (0 : Int32)) C hw rfl g_3 rfl dX11_fresh0_14 (fun H locs hw => ?_)
      obtain ⟨u_4, e_u_4, hf⟩ := gm_le hf
      rw [← e_u_4] at hw
      refine lv_iinc (v := v1_2 + (1 : Int32)) (lv' := [(1, .int (v1_2 + (1 : Int32))), (0, rv Z 1)]) hx hb dX11_fresh0_15 hl (k := 1) rfl rfl (by decide) rfl (fun ls hl => ?_)
      refine lv_goto (tgt := 2) hx hb dX11_fresh0_18 (by decide) ?_
      exact Kc _ (gm_si hf) _ _ _ (lv_sub hl [1, 0] rfl) hw)
  refine L2_1 _ _ _ hlp ?_ _ _ _ (lv_sub hl [1, 0] rfl) hw
  obtain ⟨u_5, rfl⟩ : ∃ y, y = o1 := ⟨_, rfl⟩
  intro H locs ls hl hw
  try dsimp only at hf
  refine gm_aload_n (G := GM) (r := 1) C rfl dX11_fresh0_21 rfl (lv_at hl 0 rfl) ?_
  refine gm_getS (G := GM) (u := u_5) (r := 1) (ci := 10) (k := 39) C hw rfl fl_X11_93 dX11_fresh0_22 rfl (q := 29) rfl ?_
  refine lv_iconst (v := 0) hx hb dX11_fresh0_25 (by decide) ?_
  refine gm_aload_n (G := GM) (r := 1) C rfl dX11_fresh0_26 rfl (lv_at hl 0 rfl) ?_
  refine gm_getS (G := GM) (u := u_5) (r := 1) (ci := 10) (k := 10) C hw rfl fl_X11_13 dX11_fresh0_27 rfl (q := 3) rfl ?_
  refine lv_iconst (v := 1) hx hb dX11_fresh0_30 (by decide) ?_
  refine gm_iald (G := GM) (u := u_5) (r := 3) (n := 8) (i := (1 : Int32)) C hw rfl (by decide) (j := 1) (by decide) dX11_fresh0_31 ?_
  refine gm_iast (G := GM) (u := u_5) (r := 29) (n := 22) (i := (0 : Int32)) (x := gI u_5 3 1) C hw rfl (by decide) (j := 0) (by decide) dX11_fresh0_32 (fun H locs hw => ?_)
  obtain ⟨u_6, e_u_6, hf⟩ := gm_le hf
  rw [← e_u_6] at hw
  exact gm_vret C E hw rfl rfl (Option.some.inj hf).symm dX11_fresh0_33
/-! LeapCapitalModel.realm -/
def b_X11_realm_46 : (Int32 × gm_M) → Option ((Int32 × gm_M) ⊕ gm_M) := fun x => match x with | (v1_14, u_13) => if (4 : Int32) ≤ v1_14 then some (.inr u_13) else if ib v1_14 4 = true then gm_let (sI u_13 34 (ix v1_14) ((0 : Int32) &&& 1)) fun u_16 => some (.inl (v1_14 + (1 : Int32), u_16)) else none
def f_X11_realm  (u : gm_M) : Option (Int32 × gm_M) := gm_let (sI u 1 0 (0 : Int32)) fun u_1 => (f_X11_readsAll u_1).bind fun o => match o with | (r_2, u_3) => if r_2 = 0 then some (gI u_3 1 9, u_3) else (f_X11_lays u_3).bind fun u_6 => (f_X11_fresh0 u_6).bind fun u_8 => gm_let (sI u_8 23 0 (0 : Int32)) fun u_10 => gm_let (sI u_10 26 0 (0 : Int32)) fun u_11 => gm_let (sI u_11 1 45 (0 : Int32)) fun u_12 => ((gm_lp (b_X11_realm_46) gm_FU ((0 : Int32), u_12)).bind fun o => match o with | u_17 => some ((0 : Int32), u_17))
set_option maxRecDepth 100000 in
set_option maxHeartbeats 4000000 in
theorem ok_X11_realm (l : Launch) (Z : gm_Z)  (u : gm_M)  (r : Int32) (u' : gm_M) (hf : f_X11_realm u = some (r, u')) : gm_Met l GM Z yX11_realm cX11_realm 2 (some .int) ({ frames := 6, cells := 0, slots := 0, locals := 132 }) [rv Z 1] u (some (.int r)) u' := by
  unfold f_X11_realm at hf
  refine gm_ofW (by decide +kernel) (Nat.le_of_ble_eq_true rfl) ?_
  intro p e s m args below meth c A ls Q R hRf hRl C E hl hw
  obtain ⟨hx, hb, -⟩ := id C
  have hl : lv_has ls 2 [(0, rv Z 1)] := hl
  refine gm_aload_n (G := GM) (r := 1) C rfl dX11_realm_0 rfl (lv_at hl 0 rfl) ?_
  refine lv_iconst (v := 0) hx hb dX11_realm_1 (by decide) ?_
  refine gm_putI (G := GM) (u := u) (r := 1) (ci := 10) (k := 0) (v := (0 : Int32)) C hw rfl fl_X11_137 fp_10_0 dX11_realm_2 rfl (fun H locs hw => ?_)
  obtain ⟨u_1, e_u_1, hf⟩ := gm_le hf
  rw [← e_u_1] at hw
  refine gm_aload_n (G := GM) (r := 1) C rfl dX11_realm_5 rfl (lv_at hl 0 rfl) ?_
  obtain ⟨⟨r_2, u_3⟩, hc_4, hf⟩ := gm_bnd hf
  try dsimp only at hf
  refine gm_callV (G := GM) (u := u_1) (u' := u_3) (r := 1) (ci := 10) (As := []) (rest := []) (res := (some (.int r_2))) C hw hl (ok_X11_readsAll l Z u_1 r_2 u_3 hc_4) cw_X11_301 im_X11_readsAll rfl se_X11_readsAll rfl rfl rfl ⟨Nat.le_trans (Nat.le_of_ble_eq_true rfl) hRf, Nat.le_trans (Nat.le_of_ble_eq_true rfl) hRl⟩ rfl rfl (Nat.le_of_ble_eq_true rfl) dX11_realm_6 (fun H locs hw => ?_)
  refine lv_if_ne (tgt := 17) hx hb dX11_realm_9 (by decide) (fun hc => ?_) (fun hc => ?_)
  · replace hf := (if_neg hc).symm.trans hf
    refine gm_aload_n (G := GM) (r := 1) C rfl dX11_realm_17 rfl (lv_at hl 0 rfl) ?_
    obtain ⟨u_6, hc_7, hf⟩ := gm_bnd hf
    refine gm_callV (G := GM) (u := u_3) (u' := u_6) (r := 1) (ci := 10) (As := []) (rest := []) (res := none) C hw hl (ok_X11_lays l Z u_3 u_6 hc_7) cw_X11_304 im_X11_lays rfl se_X11_lays rfl rfl rfl ⟨Nat.le_trans (Nat.le_of_ble_eq_true rfl) hRf, Nat.le_trans (Nat.le_of_ble_eq_true rfl) hRl⟩ rfl rfl (Nat.le_of_ble_eq_true rfl) dX11_realm_18 (fun H locs hw => ?_)
    refine gm_aload_n (G := GM) (r := 1) C rfl dX11_realm_21 rfl (lv_at hl 0 rfl) ?_
    obtain ⟨u_8, hc_9, hf⟩ := gm_bnd hf
    refine gm_callV (G := GM) (u := u_6) (u' := u_8) (r := 1) (ci := 10) (As := []) (rest := []) (res := none) C hw hl (ok_X11_fresh0 l Z u_6 u_8 hc_9) cw_X11_134 im_X11_fresh0 rfl se_X11_fresh0 rfl rfl rfl ⟨Nat.le_trans (Nat.le_of_ble_eq_true rfl) hRf, Nat.le_trans (Nat.le_of_ble_eq_true rfl) hRl⟩ rfl rfl (Nat.le_of_ble_eq_true rfl) dX11_realm_22 (fun H locs hw => ?_)
    refine gm_aload_n (G := GM) (r := 1) C rfl dX11_realm_25 rfl (lv_at hl 0 rfl) ?_
    refine gm_getS (G := GM) (u := u_8) (r := 1) (ci := 10) (k := 33) C hw rfl fl_X11_75 dX11_realm_26 rfl (q := 23) rfl ?_
    refine lv_iconst (v := 0) hx hb dX11_realm_29 (by decide) ?_
    refine lv_iconst (v := 0) hx hb dX11_realm_30 (by decide) ?_
    refine gm_iast (G := GM) (u := u_8) (r := 23) (n := 6) (i := (0 : Int32)) (x := (0 : Int32)) C hw rfl (by decide) (j := 0) (by decide) dX11_realm_31 (fun H locs hw => ?_)
    obtain ⟨u_10, e_u_10, hf⟩ := gm_le hf
    rw [← e_u_10] at hw
    refine gm_aload_n (G := GM) (r := 1) C rfl dX11_realm_32 rfl (lv_at hl 0 rfl) ?_
    refine gm_getS (G := GM) (u := u_10) (r := 1) (ci := 10) (k := 36) C hw rfl fl_X11_84 dX11_realm_33 rfl (q := 26) rfl ?_
    refine lv_iconst (v := 0) hx hb dX11_realm_36 (by decide) ?_
    refine lv_iconst (v := 0) hx hb dX11_realm_37 (by decide) ?_
    refine gm_iast (G := GM) (u := u_10) (r := 26) (n := 5) (i := (0 : Int32)) (x := (0 : Int32)) C hw rfl (by decide) (j := 0) (by decide) dX11_realm_38 (fun H locs hw => ?_)
    obtain ⟨u_11, e_u_11, hf⟩ := gm_le hf
    rw [← e_u_11] at hw
    refine gm_aload_n (G := GM) (r := 1) C rfl dX11_realm_39 rfl (lv_at hl 0 rfl) ?_
    refine lv_iconst (v := 0) hx hb dX11_realm_40 (by decide) ?_
    refine gm_putI (G := GM) (u := u_11) (r := 1) (ci := 10) (k := 45) (v := (0 : Int32)) C hw rfl fl_X11_307 fp_10_45 dX11_realm_41 rfl (fun H locs hw => ?_)
    obtain ⟨u_12, e_u_12, hf⟩ := gm_le hf
    rw [← e_u_12] at hw
    refine lv_iconst (v := 0) hx hb dX11_realm_44 (by decide) ?_
    refine lv_istore_n (i := 1) (lv' := [(1, .int (0 : Int32)), (0, rv Z 1)]) hx hb dX11_realm_45 rfl hl (by decide) rfl (fun ls hl => ?_)
    obtain ⟨o1, hlp, hf⟩ := gm_bnd hf
    have L46_1 := gm_loop (b_X11_realm_46) (fun x : (Int32 × gm_M) => ∀ (H : Heap) (locs : List Loc) (ls : Array Slot), lv_has ls 2 [(0, rv Z 1), (1, .int x.1)] → wd GM Z x.2 A s.heap H locs → W p l e R s m args below meth c H locs 0 0 Q (F0 m 46 ls [])) (fun z : gm_M => ∀ (H : Heap) (locs : List Loc) (ls : Array Slot), lv_has ls 2 [] → wd GM Z z A s.heap H locs → W p l e R s m args below meth c H locs 0 0 Q (F0 m 64 ls [])) (by
      intro x o1 hf Kc Kx
      obtain ⟨v1_14, u_13⟩ := x
      intro H locs ls hl hw
      unfold b_X11_realm_46 at hf
      try dsimp only at hf
      refine lv_iload_n hx hb dX11_realm_46 rfl (lv_at hl 1 rfl) ?_
      refine lv_iconst (v := 4) hx hb dX11_realm_47 (by decide) ?_
      refine lv_icmp_ge (tgt := 64) hx hb dX11_realm_48 (by decide) (fun hc => ?_) (fun hc => ?_)
      · replace hf := (if_pos hc).symm.trans hf
        exact Kx _ (gm_si hf) _ _ _ (lv_sub hl [] rfl) hw
      · replace hf := (if_neg hc).symm.trans hf
        refine gm_aload_n (G := GM) (r := 1) C rfl dX11_realm_51 rfl (lv_at hl 0 rfl) ?_
        refine gm_getS (G := GM) (u := u_13) (r := 1) (ci := 10) (k := 44) C hw rfl fl_X11_108 dX11_realm_52 rfl (q := 34) rfl ?_
        refine lv_iload_n hx hb dX11_realm_55 rfl (lv_at hl 1 rfl) ?_
        refine lv_iconst (v := 0) hx hb dX11_realm_56 (by decide) ?_
        obtain ⟨g_15, hf⟩ := gm_grd hf
        refine gm_zast (G := GM) (u := u_13) (r := 34) (n := 4) (i := v1_14) (x := (0 : Int32)) C hw rfl g_15 rfl dX11_realm_57 (fun H locs hw => ?_)
        obtain ⟨u_16, e_u_16, hf⟩ := gm_le hf
        rw [← e_u_16] at hw
        refine lv_iinc (v := v1_14 + (1 : Int32)) (lv' := [(1, .int (v1_14 + (1 : Int32))), (0, rv Z 1)]) hx hb dX11_realm_58 hl (k := 1) rfl rfl (by decide) rfl (fun ls hl => ?_)
        refine lv_goto (tgt := 46) hx hb dX11_realm_61 (by decide) ?_
        exact Kc _ (gm_si hf) _ _ _ (lv_sub hl [1, 0] rfl) hw)
    refine L46_1 _ _ _ hlp ?_ _ _ _ (lv_sub hl [1, 0] rfl) hw
    obtain ⟨u_17, rfl⟩ : ∃ y, y = o1 := ⟨_, rfl⟩
    intro H locs ls hl hw
    try dsimp only at hf
    refine lv_iconst (v := 0) hx hb dX11_realm_64 (by decide) ?_
    exact gm_iret C E hw rfl ((congrArg (fun z => some (Value.int z)) (gm_sp hf).1).symm) (gm_sp hf).2.symm dX11_realm_65
  · replace hf := (if_pos hc).symm.trans hf
    refine gm_aload_n (G := GM) (r := 1) C rfl dX11_realm_12 rfl (lv_at hl 0 rfl) ?_
    refine gm_getI (G := GM) (u := u_3) (r := 1) (ci := 10) (k := 9) C hw rfl fl_X11_172 dX11_realm_13 rfl ?_
    exact gm_iret C E hw rfl ((congrArg (fun z => some (Value.int z)) (gm_sp hf).1).symm) (gm_sp hf).2.symm dX11_realm_16
/-! LeapCapitalModel.reign -/
def b_X11_reign_16 : gm_M → Option (gm_M ⊕ (gm_M ⊕ gm_M)) := fun x => match x with | u_5 => if (gI u_5 1 6) = 0 then some (.inr (.inr u_5)) else (f_X11_readsLine u_5).bind fun o => match o with | (r_6, u_7) => if r_6 = 0 then some (.inr (.inl u_7)) else some (.inl u_7)
def f_X11_reign  (u : gm_M) : Option (Int32 × gm_M) := gm_let (sI u 1 0 (0 : Int32)) fun u_1 => gm_let (sI u_1 23 5 (0 : Int32)) fun u_2 => (f_X11_begins u_2).bind fun u_3 => ((gm_lp (b_X11_reign_16) gm_FU u_3).bind fun o => match o with | .inl u_10 => (some (gI u_10 1 9, u_10)) | .inr (u_11) => ((f_X11_laysLines (5 : Int32) (0 : Int32) u_11).bind fun u_12 => some ((0 : Int32), u_12)))
set_option maxRecDepth 100000 in
set_option maxHeartbeats 4000000 in
theorem ok_X11_reign (l : Launch) (Z : gm_Z)  (u : gm_M)  (r : Int32) (u' : gm_M) (hf : f_X11_reign u = some (r, u')) : gm_Met l GM Z yX11_reign cX11_reign 1 (some .int) ({ frames := 4, cells := 0, slots := 0, locals := 86 }) [rv Z 1] u (some (.int r)) u' := by
  unfold f_X11_reign at hf
  refine gm_ofW (by decide +kernel) (Nat.le_of_ble_eq_true rfl) ?_
  intro p e s m args below meth c A ls Q R hRf hRl C E hl hw
  obtain ⟨hx, hb, -⟩ := id C
  have hl : lv_has ls 1 [(0, rv Z 1)] := hl
  refine gm_aload_n (G := GM) (r := 1) C rfl dX11_reign_0 rfl (lv_at hl 0 rfl) ?_
  refine lv_iconst (v := 0) hx hb dX11_reign_1 (by decide) ?_
  refine gm_putI (G := GM) (u := u) (r := 1) (ci := 10) (k := 0) (v := (0 : Int32)) C hw rfl fl_X11_137 fp_10_0 dX11_reign_2 rfl (fun H locs hw => ?_)
  obtain ⟨u_1, e_u_1, hf⟩ := gm_le hf
  rw [← e_u_1] at hw
  refine gm_aload_n (G := GM) (r := 1) C rfl dX11_reign_5 rfl (lv_at hl 0 rfl) ?_
  refine gm_getS (G := GM) (u := u_1) (r := 1) (ci := 10) (k := 33) C hw rfl fl_X11_75 dX11_reign_6 rfl (q := 23) rfl ?_
  refine lv_iconst (v := 5) hx hb dX11_reign_9 (by decide) ?_
  refine lv_iconst (v := 0) hx hb dX11_reign_10 (by decide) ?_
  refine gm_iast (G := GM) (u := u_1) (r := 23) (n := 6) (i := (5 : Int32)) (x := (0 : Int32)) C hw rfl (by decide) (j := 5) (by decide) dX11_reign_11 (fun H locs hw => ?_)
  obtain ⟨u_2, e_u_2, hf⟩ := gm_le hf
  rw [← e_u_2] at hw
  refine gm_aload_n (G := GM) (r := 1) C rfl dX11_reign_12 rfl (lv_at hl 0 rfl) ?_
  obtain ⟨u_3, hc_4, hf⟩ := gm_bnd hf
  refine gm_callV (G := GM) (u := u_2) (u' := u_3) (r := 1) (ci := 10) (As := []) (rest := []) (res := none) C hw hl (ok_X11_begins l Z u_2 u_3 hc_4) cw_X11_285 im_X11_begins rfl se_X11_begins rfl rfl rfl ⟨Nat.le_trans (Nat.le_of_ble_eq_true rfl) hRf, Nat.le_trans (Nat.le_of_ble_eq_true rfl) hRl⟩ rfl rfl (Nat.le_of_ble_eq_true rfl) dX11_reign_13 (fun H locs hw => ?_)
  obtain ⟨o1, hlp, hf⟩ := gm_bnd hf
  have L16_1 := gm_loop (b_X11_reign_16) (fun x : gm_M => ∀ (H : Heap) (locs : List Loc) (ls : Array Slot), lv_has ls 1 [(0, rv Z 1)] → wd GM Z x A s.heap H locs → W p l e R s m args below meth c H locs 0 0 Q (F0 m 16 ls [])) (fun z : (gm_M ⊕ gm_M) => match z with | .inl q0 => ∀ (H : Heap) (locs : List Loc) (ls : Array Slot), lv_has ls 1 [(0, rv Z 1)] → wd GM Z q0 A s.heap H locs → W p l e R s m args below meth c H locs 0 0 Q (F0 m 30 ls []) | .inr p0 => ∀ (H : Heap) (locs : List Loc) (ls : Array Slot), lv_has ls 1 [(0, rv Z 1)] → wd GM Z p0 A s.heap H locs → W p l e R s m args below meth c H locs 0 0 Q (F0 m 35 ls [])) (by
    intro x o1 hf Kc Kx
    obtain ⟨u_5, rfl⟩ : ∃ y, y = x := ⟨_, rfl⟩
    intro H locs ls hl hw
    unfold b_X11_reign_16 at hf
    try dsimp only at hf
    refine gm_aload_n (G := GM) (r := 1) C rfl dX11_reign_16 rfl (lv_at hl 0 rfl) ?_
    refine gm_getI (G := GM) (u := u_5) (r := 1) (ci := 10) (k := 6) C hw rfl fl_X11_161 dX11_reign_17 rfl ?_
    refine lv_if_eq (tgt := 35) hx hb dX11_reign_20 (by decide) (fun hc => ?_) (fun hc => ?_)
    · replace hf := (if_pos hc).symm.trans hf
      exact Kx _ (gm_si hf) _ _ _ (lv_sub hl [0] rfl) hw
    · replace hf := (if_neg hc).symm.trans hf
      refine gm_aload_n (G := GM) (r := 1) C rfl dX11_reign_23 rfl (lv_at hl 0 rfl) ?_
      obtain ⟨⟨r_6, u_7⟩, hc_8, hf⟩ := gm_bnd hf
      try dsimp only at hf
      refine gm_callV (G := GM) (u := u_5) (u' := u_7) (r := 1) (ci := 10) (As := []) (rest := []) (res := (some (.int r_6))) C hw hl (ok_X11_readsLine l Z u_5 r_6 u_7 hc_8) cw_X11_310 im_X11_readsLine rfl se_X11_readsLine rfl rfl rfl ⟨Nat.le_trans (Nat.le_of_ble_eq_true rfl) hRf, Nat.le_trans (Nat.le_of_ble_eq_true rfl) hRl⟩ rfl rfl (Nat.le_of_ble_eq_true rfl) dX11_reign_24 (fun H locs hw => ?_)
      refine lv_if_ne (tgt := 16) hx hb dX11_reign_27 (by decide) (fun hc => ?_) (fun hc => ?_)
      · replace hf := (if_neg hc).symm.trans hf
        exact Kc _ (gm_si hf) _ _ _ (lv_sub hl [0] rfl) hw
      · replace hf := (if_pos hc).symm.trans hf
        exact Kx _ (gm_si hf) _ _ _ (lv_sub hl [0] rfl) hw)
  refine L16_1 _ _ _ hlp ?_ _ _ _ (lv_sub hl [0] rfl) hw
  cases o1 with
  | inl q0_z_14 =>
    obtain ⟨u_10, rfl⟩ : ∃ y, y = q0_z_14 := ⟨_, rfl⟩
    intro H locs ls hl hw
    try dsimp only at hf
    refine gm_aload_n (G := GM) (r := 1) C rfl dX11_reign_30 rfl (lv_at hl 0 rfl) ?_
    refine gm_getI (G := GM) (u := u_10) (r := 1) (ci := 10) (k := 9) C hw rfl fl_X11_172 dX11_reign_31 rfl ?_
    exact gm_iret C E hw rfl ((congrArg (fun z => some (Value.int z)) (gm_sp hf).1).symm) (gm_sp hf).2.symm dX11_reign_34
  | inr p0_z_14 =>
    obtain ⟨u_11, rfl⟩ : ∃ y, y = p0_z_14 := ⟨_, rfl⟩
    intro H locs ls hl hw
    try dsimp only at hf
    refine gm_aload_n (G := GM) (r := 1) C rfl dX11_reign_35 rfl (lv_at hl 0 rfl) ?_
    refine lv_iconst (v := 5) hx hb dX11_reign_36 (by decide) ?_
    refine lv_iconst (v := 0) hx hb dX11_reign_37 (by decide) ?_
    obtain ⟨u_12, hc_13, hf⟩ := gm_bnd hf
    refine gm_callV (G := GM) (u := u_11) (u' := u_12) (r := 1) (ci := 10) (As := [.int (5 : Int32), .int (0 : Int32)]) (rest := []) (res := none) C hw hl (ok_X11_laysLines l Z (5 : Int32) (0 : Int32) u_11 u_12 hc_13) cw_X11_313 im_X11_laysLines rfl se_X11_laysLines rfl rfl rfl ⟨Nat.le_trans (Nat.le_of_ble_eq_true rfl) hRf, Nat.le_trans (Nat.le_of_ble_eq_true rfl) hRl⟩ rfl rfl (Nat.le_of_ble_eq_true rfl) dX11_reign_38 (fun H locs hw => ?_)
    refine lv_iconst (v := 0) hx hb dX11_reign_41 (by decide) ?_
    exact gm_iret C E hw rfl ((congrArg (fun z => some (Value.int z)) (gm_sp hf).1).symm) (gm_sp hf).2.symm dX11_reign_42
/-! LeapCapitalModel.isPerson -/
def f_X11_isPerson (a1 : Int32) (u : gm_M) : Int32 := if a1 < 0 then (0 : Int32) else if (gI u 3 0) ≤ a1 then (0 : Int32) else (1 : Int32)
set_option maxRecDepth 100000 in
set_option maxHeartbeats 4000000 in
theorem ok_X11_isPerson (l : Launch) (Z : gm_Z) (a1 : Int32) (u : gm_M)  : gm_Met l GM Z yX11_isPerson cX11_isPerson 2 (some .boolean) ({ frames := 0, cells := 0, slots := 0, locals := 0 }) [rv Z 1, .int a1] u (some (.int (f_X11_isPerson a1 u))) u := by
  obtain ⟨r, hf⟩ : ∃ r, f_X11_isPerson a1 u = r := ⟨_, rfl⟩
  rw [hf]
  unfold f_X11_isPerson at hf
  refine gm_ofW (by decide +kernel) (Nat.le_of_ble_eq_true rfl) ?_
  intro p e s m args below meth c A ls Q R hRf hRl C E hl hw
  obtain ⟨hx, hb, -⟩ := id C
  have hl : lv_has ls 2 [(0, rv Z 1), (1, .int a1)] := hl
  refine lv_iload_n hx hb dX11_isPerson_0 rfl (lv_at hl 1 rfl) ?_
  refine lv_if_lt (tgt := 18) hx hb dX11_isPerson_1 (by decide) (fun hc => ?_) (fun hc => ?_)
  · replace hf := (if_pos hc).symm.trans hf
    refine lv_iconst (v := 0) hx hb dX11_isPerson_18 (by decide) ?_
    exact gm_zret C E hw rfl rfl ((congrArg (fun z => some (Value.int z)) hf).symm) rfl dX11_isPerson_19
  · replace hf := (if_neg hc).symm.trans hf
    refine lv_iload_n hx hb dX11_isPerson_4 rfl (lv_at hl 1 rfl) ?_
    refine gm_aload_n (G := GM) (r := 1) C rfl dX11_isPerson_5 rfl (lv_at hl 0 rfl) ?_
    refine gm_getS (G := GM) (u := u) (r := 1) (ci := 10) (k := 10) C hw rfl fl_X11_13 dX11_isPerson_6 rfl (q := 3) rfl ?_
    refine lv_iconst (v := 0) hx hb dX11_isPerson_9 (by decide) ?_
    refine gm_iald (G := GM) (u := u) (r := 3) (n := 8) (i := (0 : Int32)) C hw rfl (by decide) (j := 0) (by decide) dX11_isPerson_10 ?_
    refine lv_icmp_ge (tgt := 18) hx hb dX11_isPerson_11 (by decide) (fun hc => ?_) (fun hc => ?_)
    · replace hf := (if_pos hc).symm.trans hf
      refine lv_iconst (v := 0) hx hb dX11_isPerson_18 (by decide) ?_
      exact gm_zret C E hw rfl rfl ((congrArg (fun z => some (Value.int z)) hf).symm) rfl dX11_isPerson_19
    · replace hf := (if_neg hc).symm.trans hf
      refine lv_iconst (v := 1) hx hb dX11_isPerson_14 (by decide) ?_
      refine lv_goto (tgt := 19) hx hb dX11_isPerson_15 (by decide) ?_
      exact gm_zret C E hw rfl rfl ((congrArg (fun z => some (Value.int z)) hf).symm) rfl dX11_isPerson_19
/-! LeapCapitalModel.isLeap -/
def f_X11_isLeap (a0 : Int32) : Int32 := if (iRem a0 (4 : Int32)) = 0 then if (iRem a0 (100 : Int32)) = 0 then if (iRem a0 (400 : Int32)) = 0 then (1 : Int32) else (0 : Int32) else (1 : Int32) else (0 : Int32)
set_option maxRecDepth 100000 in
set_option maxHeartbeats 4000000 in
theorem ok_X11_isLeap (l : Launch) (Z : gm_Z) (a0 : Int32) (u : gm_M)  : gm_Met l GM Z yX11_isLeap cX11_isLeap 1 (some .boolean) ({ frames := 0, cells := 0, slots := 0, locals := 0 }) [.int a0] u (some (.int (f_X11_isLeap a0))) u := by
  obtain ⟨r, hf⟩ : ∃ r, f_X11_isLeap a0 = r := ⟨_, rfl⟩
  rw [hf]
  unfold f_X11_isLeap at hf
  refine gm_ofW (by decide +kernel) (Nat.le_of_ble_eq_true rfl) ?_
  intro p e s m args below meth c A ls Q R hRf hRl C E hl hw
  obtain ⟨hx, hb, -⟩ := id C
  have hl : lv_has ls 1 [(0, .int a0)] := hl
  refine lv_iload_n hx hb dX11_isLeap_0 rfl (lv_at hl 0 rfl) ?_
  refine lv_iconst (v := 4) hx hb dX11_isLeap_1 (by decide) ?_
  refine lv_irem hx hb dX11_isLeap_2 (by decide) ?_
  refine lv_if_ne (tgt := 25) hx hb dX11_isLeap_3 (by decide) (fun hc => ?_) (fun hc => ?_)
  · replace hf := (if_neg hc).symm.trans hf
    refine lv_iconst (v := 0) hx hb dX11_isLeap_25 (by decide) ?_
    exact gm_zret C E hw rfl rfl ((congrArg (fun z => some (Value.int z)) hf).symm) rfl dX11_isLeap_26
  · replace hf := (if_pos hc).symm.trans hf
    refine lv_iload_n hx hb dX11_isLeap_6 rfl (lv_at hl 0 rfl) ?_
    refine lv_bipush (v := 100) hx hb dX11_isLeap_7 (by decide) ?_
    refine lv_irem hx hb dX11_isLeap_9 (by decide) ?_
    refine lv_if_ne (tgt := 21) hx hb dX11_isLeap_10 (by decide) (fun hc => ?_) (fun hc => ?_)
    · replace hf := (if_neg hc).symm.trans hf
      refine lv_iconst (v := 1) hx hb dX11_isLeap_21 (by decide) ?_
      refine lv_goto (tgt := 26) hx hb dX11_isLeap_22 (by decide) ?_
      exact gm_zret C E hw rfl rfl ((congrArg (fun z => some (Value.int z)) hf).symm) rfl dX11_isLeap_26
    · replace hf := (if_pos hc).symm.trans hf
      refine lv_iload_n hx hb dX11_isLeap_13 rfl (lv_at hl 0 rfl) ?_
      refine lv_sipush (v := 400) hx hb dX11_isLeap_14 (by decide) ?_
      refine lv_irem hx hb dX11_isLeap_17 (by decide) ?_
      refine lv_if_ne (tgt := 25) hx hb dX11_isLeap_18 (by decide) (fun hc => ?_) (fun hc => ?_)
      · replace hf := (if_neg hc).symm.trans hf
        refine lv_iconst (v := 0) hx hb dX11_isLeap_25 (by decide) ?_
        exact gm_zret C E hw rfl rfl ((congrArg (fun z => some (Value.int z)) hf).symm) rfl dX11_isLeap_26
      · replace hf := (if_pos hc).symm.trans hf
        refine lv_iconst (v := 1) hx hb dX11_isLeap_21 (by decide) ?_
        refine lv_goto (tgt := 26) hx hb dX11_isLeap_22 (by decide) ?_
        exact gm_zret C E hw rfl rfl ((congrArg (fun z => some (Value.int z)) hf).symm) rfl dX11_isLeap_26
/-! LeapCapitalModel.leapsUpTo -/
def f_X11_leapsUpTo (a0 : Int32) : Int32 := ((a0 / (4 : Int32)) - (a0 / (100 : Int32))) + (a0 / (400 : Int32))
set_option maxRecDepth 100000 in
set_option maxHeartbeats 4000000 in
theorem ok_X11_leapsUpTo (l : Launch) (Z : gm_Z) (a0 : Int32) (u : gm_M)  : gm_Met l GM Z yX11_leapsUpTo cX11_leapsUpTo 1 (some .int) ({ frames := 0, cells := 0, slots := 0, locals := 0 }) [.int a0] u (some (.int (f_X11_leapsUpTo a0))) u := by
  obtain ⟨r, hf⟩ : ∃ r, f_X11_leapsUpTo a0 = r := ⟨_, rfl⟩
  rw [hf]
  unfold f_X11_leapsUpTo at hf
  refine gm_ofW (by decide +kernel) (Nat.le_of_ble_eq_true rfl) ?_
  intro p e s m args below meth c A ls Q R hRf hRl C E hl hw
  obtain ⟨hx, hb, -⟩ := id C
  have hl : lv_has ls 1 [(0, .int a0)] := hl
  refine lv_iload_n hx hb dX11_leapsUpTo_0 rfl (lv_at hl 0 rfl) ?_
  refine lv_iconst (v := 4) hx hb dX11_leapsUpTo_1 (by decide) ?_
  refine lv_idiv hx hb dX11_leapsUpTo_2 (by decide) ?_
  refine lv_iload_n hx hb dX11_leapsUpTo_3 rfl (lv_at hl 0 rfl) ?_
  refine lv_bipush (v := 100) hx hb dX11_leapsUpTo_4 (by decide) ?_
  refine lv_idiv hx hb dX11_leapsUpTo_6 (by decide) ?_
  refine lv_isub hx hb dX11_leapsUpTo_7 ?_
  refine lv_iload_n hx hb dX11_leapsUpTo_8 rfl (lv_at hl 0 rfl) ?_
  refine lv_sipush (v := 400) hx hb dX11_leapsUpTo_9 (by decide) ?_
  refine lv_idiv hx hb dX11_leapsUpTo_12 (by decide) ?_
  refine lv_iadd hx hb dX11_leapsUpTo_13 ?_
  exact gm_iret C E hw rfl ((congrArg (fun z => some (Value.int z)) hf).symm) rfl dX11_leapsUpTo_14
/-! LeapCapitalModel.hasDay -/
def f_X11_hasDay (a1 : Int32) (u : gm_M) : Int32 := if (gI u 1 46) = 0 then gm_let (f_X11_isLeap a1) fun r_1 => r_1 &&& 1 else if (iRem a1 (4 : Int32)) = 0 then (1 : Int32) else (0 : Int32)
set_option maxRecDepth 100000 in
set_option maxHeartbeats 4000000 in
theorem ok_X11_hasDay (l : Launch) (Z : gm_Z) (a1 : Int32) (u : gm_M)  : gm_Met l GM Z yX11_hasDay cX11_hasDay 2 (some .boolean) ({ frames := 1, cells := 0, slots := 0, locals := 20 }) [rv Z 1, .int a1] u (some (.int (f_X11_hasDay a1 u))) u := by
  obtain ⟨r, hf⟩ : ∃ r, f_X11_hasDay a1 u = r := ⟨_, rfl⟩
  rw [hf]
  unfold f_X11_hasDay at hf
  refine gm_ofW (by decide +kernel) (Nat.le_of_ble_eq_true rfl) ?_
  intro p e s m args below meth c A ls Q R hRf hRl C E hl hw
  obtain ⟨hx, hb, -⟩ := id C
  have hl : lv_has ls 2 [(0, rv Z 1), (1, .int a1)] := hl
  refine gm_aload_n (G := GM) (r := 1) C rfl dX11_hasDay_0 rfl (lv_at hl 0 rfl) ?_
  refine gm_getI (G := GM) (u := u) (r := 1) (ci := 10) (k := 46) C hw rfl fl_X11_317 dX11_hasDay_1 rfl ?_
  refine lv_if_eq (tgt := 21) hx hb dX11_hasDay_4 (by decide) (fun hc => ?_) (fun hc => ?_)
  · replace hf := (if_pos hc).symm.trans hf
    refine lv_iload_n hx hb dX11_hasDay_21 rfl (lv_at hl 1 rfl) ?_
    obtain ⟨r_1, e_r_1, hf⟩ := gm_le hf
    refine gm_callS (G := GM) (u := u) (u' := u) (As := [.int a1]) (rest := []) (res := (some (.int (f_X11_isLeap a1)))) C hw hl (ok_X11_isLeap l Z a1 u) cw_X11_321 st_X11_isLeap rfl rfl ⟨Nat.le_trans (Nat.le_of_ble_eq_true rfl) hRf, Nat.le_trans (Nat.le_of_ble_eq_true rfl) hRl⟩ rfl rfl (Nat.le_of_ble_eq_true rfl) dX11_hasDay_22 (fun H locs hw => ?_)
    refine gm_topI e_r_1 ?_
    exact gm_zret C E hw rfl rfl ((congrArg (fun z => some (Value.int z)) hf).symm) rfl dX11_hasDay_25
  · replace hf := (if_neg hc).symm.trans hf
    refine lv_iload_n hx hb dX11_hasDay_7 rfl (lv_at hl 1 rfl) ?_
    refine lv_iconst (v := 4) hx hb dX11_hasDay_8 (by decide) ?_
    refine lv_irem hx hb dX11_hasDay_9 (by decide) ?_
    refine lv_if_ne (tgt := 17) hx hb dX11_hasDay_10 (by decide) (fun hc => ?_) (fun hc => ?_)
    · replace hf := (if_neg hc).symm.trans hf
      refine lv_iconst (v := 0) hx hb dX11_hasDay_17 (by decide) ?_
      refine lv_goto (tgt := 25) hx hb dX11_hasDay_18 (by decide) ?_
      exact gm_zret C E hw rfl rfl ((congrArg (fun z => some (Value.int z)) hf).symm) rfl dX11_hasDay_25
    · replace hf := (if_pos hc).symm.trans hf
      refine lv_iconst (v := 1) hx hb dX11_hasDay_13 (by decide) ?_
      refine lv_goto (tgt := 25) hx hb dX11_hasDay_14 (by decide) ?_
      exact gm_zret C E hw rfl rfl ((congrArg (fun z => some (Value.int z)) hf).symm) rfl dX11_hasDay_25
/-! LeapCapitalModel.placeOf -/
def b_X11_placeOf_2 (a1 : Int32) (u : gm_M) : Int32 → Option (Int32 ⊕ (Int32 ⊕ Unit)) := fun x => match x with | v2_1 => if (gI u 29 2) ≤ v2_1 then some (.inr (.inr ())) else if ib ((4 : Int32) + v2_1) 22 = true then if (gI u 29 (ix ((4 : Int32) + v2_1))) = a1 then some (.inr (.inl v2_1)) else some (.inl (v2_1 + (1 : Int32))) else none
def f_X11_placeOf (a1 : Int32) (u : gm_M) : Option Int32 := ((gm_lp (b_X11_placeOf_2 a1 u) gm_FU (0 : Int32)).bind fun o => match o with | .inl w2_3 => (some w2_3) | .inr (_) => (some (-1 : Int32)))
set_option maxRecDepth 100000 in
set_option maxHeartbeats 4000000 in
theorem ok_X11_placeOf (l : Launch) (Z : gm_Z) (a1 : Int32) (u : gm_M)  (r : Int32) (hf : f_X11_placeOf a1 u = some r) : gm_Met l GM Z yX11_placeOf cX11_placeOf 3 (some .int) ({ frames := 0, cells := 0, slots := 0, locals := 0 }) [rv Z 1, .int a1] u (some (.int r)) u := by
  unfold f_X11_placeOf at hf
  refine gm_ofW (by decide +kernel) (Nat.le_of_ble_eq_true rfl) ?_
  intro p e s m args below meth c A ls Q R hRf hRl C E hl hw
  obtain ⟨hx, hb, -⟩ := id C
  have hl : lv_has ls 3 [(0, rv Z 1), (1, .int a1)] := hl
  refine lv_iconst (v := 0) hx hb dX11_placeOf_0 (by decide) ?_
  refine lv_istore_n (i := 2) (lv' := [(2, .int (0 : Int32)), (0, rv Z 1), (1, .int a1)]) hx hb dX11_placeOf_1 rfl hl (by decide) rfl (fun ls hl => ?_)
  obtain ⟨o1, hlp, hf⟩ := gm_bnd hf
  have L2_1 := gm_loop (b_X11_placeOf_2 a1 u) (fun x : Int32 => ∀ (H : Heap) (locs : List Loc) (ls : Array Slot), lv_has ls 3 [(0, rv Z 1), (1, .int a1), (2, .int x)] → wd GM Z u A s.heap H locs → W p l e R s m args below meth c H locs 0 0 Q (F0 m 2 ls [])) (fun z : (Int32 ⊕ Unit) => match z with | .inl q0 => ∀ (H : Heap) (locs : List Loc) (ls : Array Slot), lv_has ls 3 [(2, .int q0)] → wd GM Z u A s.heap H locs → W p l e R s m args below meth c H locs 0 0 Q (F0 m 24 ls []) | .inr p0 => ∀ (H : Heap) (locs : List Loc) (ls : Array Slot), lv_has ls 3 [] → wd GM Z u A s.heap H locs → W p l e R s m args below meth c H locs 0 0 Q (F0 m 32 ls [])) (by
    intro x o1 hf Kc Kx
    obtain ⟨v2_1, rfl⟩ : ∃ y, y = x := ⟨_, rfl⟩
    intro H locs ls hl hw
    unfold b_X11_placeOf_2 at hf
    try dsimp only at hf
    refine lv_iload_n hx hb dX11_placeOf_2 rfl (lv_at hl 2 rfl) ?_
    refine gm_aload_n (G := GM) (r := 1) C rfl dX11_placeOf_3 rfl (lv_at hl 0 rfl) ?_
    refine gm_getS (G := GM) (u := u) (r := 1) (ci := 10) (k := 39) C hw rfl fl_X11_93 dX11_placeOf_4 rfl (q := 29) rfl ?_
    refine lv_iconst (v := 2) hx hb dX11_placeOf_7 (by decide) ?_
    refine gm_iald (G := GM) (u := u) (r := 29) (n := 22) (i := (2 : Int32)) C hw rfl (by decide) (j := 2) (by decide) dX11_placeOf_8 ?_
    refine lv_icmp_ge (tgt := 32) hx hb dX11_placeOf_9 (by decide) (fun hc => ?_) (fun hc => ?_)
    · replace hf := (if_pos hc).symm.trans hf
      exact Kx _ (gm_si hf) _ _ _ (lv_sub hl [] rfl) hw
    · replace hf := (if_neg hc).symm.trans hf
      refine gm_aload_n (G := GM) (r := 1) C rfl dX11_placeOf_12 rfl (lv_at hl 0 rfl) ?_
      refine gm_getS (G := GM) (u := u) (r := 1) (ci := 10) (k := 39) C hw rfl fl_X11_93 dX11_placeOf_13 rfl (q := 29) rfl ?_
      refine lv_iconst (v := 4) hx hb dX11_placeOf_16 (by decide) ?_
      refine lv_iload_n hx hb dX11_placeOf_17 rfl (lv_at hl 2 rfl) ?_
      refine lv_iadd hx hb dX11_placeOf_18 ?_
      obtain ⟨g_2, hf⟩ := gm_grd hf
      refine gm_iald (G := GM) (u := u) (r := 29) (n := 22) (i := (4 : Int32) + v2_1) C hw rfl g_2 rfl dX11_placeOf_19 ?_
      refine lv_iload_n hx hb dX11_placeOf_20 rfl (lv_at hl 1 rfl) ?_
      refine lv_icmp_ne (tgt := 26) hx hb dX11_placeOf_21 (by decide) (fun hc => ?_) (fun hc => ?_)
      · replace hf := (if_neg hc).symm.trans hf
        refine lv_iinc (v := v2_1 + (1 : Int32)) (lv' := [(2, .int (v2_1 + (1 : Int32))), (0, rv Z 1), (1, .int a1)]) hx hb dX11_placeOf_26 hl (k := 2) rfl rfl (by decide) rfl (fun ls hl => ?_)
        refine lv_goto (tgt := 2) hx hb dX11_placeOf_29 (by decide) ?_
        exact Kc _ (gm_si hf) _ _ _ (lv_sub hl [1, 2, 0] rfl) hw
      · replace hf := (if_pos hc).symm.trans hf
        exact Kx _ (gm_si hf) _ _ _ (lv_sub hl [2] rfl) hw)
  refine L2_1 _ _ _ hlp ?_ _ _ _ (lv_sub hl [1, 2, 0] rfl) hw
  cases o1 with
  | inl q0_z_4 =>
    obtain ⟨w2_3, rfl⟩ : ∃ y, y = q0_z_4 := ⟨_, rfl⟩
    intro H locs ls hl hw
    try dsimp only at hf
    refine lv_iload_n hx hb dX11_placeOf_24 rfl (lv_at hl 0 rfl) ?_
    exact gm_iret C E hw rfl ((congrArg (fun z => some (Value.int z)) (Option.some.inj hf)).symm) rfl dX11_placeOf_25
  | inr p0_z_4 =>
    intro H locs ls hl hw
    try dsimp only at hf
    refine lv_iconst (v := -1) hx hb dX11_placeOf_32 (by decide) ?_
    exact gm_iret C E hw rfl ((congrArg (fun z => some (Value.int z)) (Option.some.inj hf)).symm) rfl dX11_placeOf_33
/-! LeapCapitalModel.isHeard -/
def f_X11_isHeard (a1 : Int32) (u : gm_M) : Int32 := if (((gI u 29 3) >>> (a1 &&& 31)) &&& (1 : Int32)) = (1 : Int32) then (1 : Int32) else (0 : Int32)
set_option maxRecDepth 100000 in
set_option maxHeartbeats 4000000 in
theorem ok_X11_isHeard (l : Launch) (Z : gm_Z) (a1 : Int32) (u : gm_M)  : gm_Met l GM Z yX11_isHeard cX11_isHeard 2 (some .boolean) ({ frames := 0, cells := 0, slots := 0, locals := 0 }) [rv Z 1, .int a1] u (some (.int (f_X11_isHeard a1 u))) u := by
  obtain ⟨r, hf⟩ : ∃ r, f_X11_isHeard a1 u = r := ⟨_, rfl⟩
  rw [hf]
  unfold f_X11_isHeard at hf
  refine gm_ofW (by decide +kernel) (Nat.le_of_ble_eq_true rfl) ?_
  intro p e s m args below meth c A ls Q R hRf hRl C E hl hw
  obtain ⟨hx, hb, -⟩ := id C
  have hl : lv_has ls 2 [(0, rv Z 1), (1, .int a1)] := hl
  refine gm_aload_n (G := GM) (r := 1) C rfl dX11_isHeard_0 rfl (lv_at hl 0 rfl) ?_
  refine gm_getS (G := GM) (u := u) (r := 1) (ci := 10) (k := 39) C hw rfl fl_X11_93 dX11_isHeard_1 rfl (q := 29) rfl ?_
  refine lv_iconst (v := 3) hx hb dX11_isHeard_4 (by decide) ?_
  refine gm_iald (G := GM) (u := u) (r := 29) (n := 22) (i := (3 : Int32)) C hw rfl (by decide) (j := 3) (by decide) dX11_isHeard_5 ?_
  refine lv_iload_n hx hb dX11_isHeard_6 rfl (lv_at hl 1 rfl) ?_
  refine lv_ishr hx hb dX11_isHeard_7 ?_
  refine lv_iconst (v := 1) hx hb dX11_isHeard_8 (by decide) ?_
  refine lv_iand hx hb dX11_isHeard_9 ?_
  refine lv_iconst (v := 1) hx hb dX11_isHeard_10 (by decide) ?_
  refine lv_icmp_ne (tgt := 18) hx hb dX11_isHeard_11 (by decide) (fun hc => ?_) (fun hc => ?_)
  · replace hf := (if_neg hc).symm.trans hf
    refine lv_iconst (v := 0) hx hb dX11_isHeard_18 (by decide) ?_
    exact gm_zret C E hw rfl rfl ((congrArg (fun z => some (Value.int z)) hf).symm) rfl dX11_isHeard_19
  · replace hf := (if_pos hc).symm.trans hf
    refine lv_iconst (v := 1) hx hb dX11_isHeard_14 (by decide) ?_
    refine lv_goto (tgt := 19) hx hb dX11_isHeard_15 (by decide) ?_
    exact gm_zret C E hw rfl rfl ((congrArg (fun z => some (Value.int z)) hf).symm) rfl dX11_isHeard_19
/-! LeapCapitalModel.isDead -/
def f_X11_isDead (a1 : Int32) (u : gm_M) : Option Int32 := if ib a1 12 = true then if (gI u 5 (ix a1)) = (2 : Int32) then some (0 : Int32) else if (gI u 29 0) < ((gI u 6 (ix a1)) + (gI u 3 3)) then some (0 : Int32) else some (1 : Int32) else none
set_option maxRecDepth 100000 in
set_option maxHeartbeats 4000000 in
theorem ok_X11_isDead (l : Launch) (Z : gm_Z) (a1 : Int32) (u : gm_M)  (r : Int32) (hf : f_X11_isDead a1 u = some r) : gm_Met l GM Z yX11_isDead cX11_isDead 2 (some .boolean) ({ frames := 0, cells := 0, slots := 0, locals := 0 }) [rv Z 1, .int a1] u (some (.int r)) u := by
  unfold f_X11_isDead at hf
  refine gm_ofW (by decide +kernel) (Nat.le_of_ble_eq_true rfl) ?_
  intro p e s m args below meth c A ls Q R hRf hRl C E hl hw
  obtain ⟨hx, hb, -⟩ := id C
  have hl : lv_has ls 2 [(0, rv Z 1), (1, .int a1)] := hl
  refine gm_aload_n (G := GM) (r := 1) C rfl dX11_isDead_0 rfl (lv_at hl 0 rfl) ?_
  refine gm_getS (G := GM) (u := u) (r := 1) (ci := 10) (k := 12) C hw rfl fl_X11_20 dX11_isDead_1 rfl (q := 5) rfl ?_
  refine lv_iload_n hx hb dX11_isDead_4 rfl (lv_at hl 1 rfl) ?_
  obtain ⟨g_1, hf⟩ := gm_grd hf
  refine gm_iald (G := GM) (u := u) (r := 5) (n := 12) (i := a1) C hw rfl g_1 rfl dX11_isDead_5 ?_
  refine lv_iconst (v := 2) hx hb dX11_isDead_6 (by decide) ?_
  refine lv_icmp_eq (tgt := 36) hx hb dX11_isDead_7 (by decide) (fun hc => ?_) (fun hc => ?_)
  · replace hf := (if_pos hc).symm.trans hf
    refine lv_iconst (v := 0) hx hb dX11_isDead_36 (by decide) ?_
    exact gm_zret C E hw rfl rfl ((congrArg (fun z => some (Value.int z)) (Option.some.inj hf)).symm) rfl dX11_isDead_37
  · replace hf := (if_neg hc).symm.trans hf
    refine gm_aload_n (G := GM) (r := 1) C rfl dX11_isDead_10 rfl (lv_at hl 0 rfl) ?_
    refine gm_getS (G := GM) (u := u) (r := 1) (ci := 10) (k := 39) C hw rfl fl_X11_93 dX11_isDead_11 rfl (q := 29) rfl ?_
    refine lv_iconst (v := 0) hx hb dX11_isDead_14 (by decide) ?_
    refine gm_iald (G := GM) (u := u) (r := 29) (n := 22) (i := (0 : Int32)) C hw rfl (by decide) (j := 0) (by decide) dX11_isDead_15 ?_
    refine gm_aload_n (G := GM) (r := 1) C rfl dX11_isDead_16 rfl (lv_at hl 0 rfl) ?_
    refine gm_getS (G := GM) (u := u) (r := 1) (ci := 10) (k := 13) C hw rfl fl_X11_23 dX11_isDead_17 rfl (q := 6) rfl ?_
    refine lv_iload_n hx hb dX11_isDead_20 rfl (lv_at hl 1 rfl) ?_
    refine gm_iald (G := GM) (u := u) (r := 6) (n := 12) (i := a1) C hw rfl g_1 rfl dX11_isDead_21 ?_
    refine gm_aload_n (G := GM) (r := 1) C rfl dX11_isDead_22 rfl (lv_at hl 0 rfl) ?_
    refine gm_getS (G := GM) (u := u) (r := 1) (ci := 10) (k := 10) C hw rfl fl_X11_13 dX11_isDead_23 rfl (q := 3) rfl ?_
    refine lv_iconst (v := 3) hx hb dX11_isDead_26 (by decide) ?_
    refine gm_iald (G := GM) (u := u) (r := 3) (n := 8) (i := (3 : Int32)) C hw rfl (by decide) (j := 3) (by decide) dX11_isDead_27 ?_
    refine lv_iadd hx hb dX11_isDead_28 ?_
    refine lv_icmp_lt (tgt := 36) hx hb dX11_isDead_29 (by decide) (fun hc => ?_) (fun hc => ?_)
    · replace hf := (if_pos hc).symm.trans hf
      refine lv_iconst (v := 0) hx hb dX11_isDead_36 (by decide) ?_
      exact gm_zret C E hw rfl rfl ((congrArg (fun z => some (Value.int z)) (Option.some.inj hf)).symm) rfl dX11_isDead_37
    · replace hf := (if_neg hc).symm.trans hf
      refine lv_iconst (v := 1) hx hb dX11_isDead_32 (by decide) ?_
      refine lv_goto (tgt := 37) hx hb dX11_isDead_33 (by decide) ?_
      exact gm_zret C E hw rfl rfl ((congrArg (fun z => some (Value.int z)) (Option.some.inj hf)).symm) rfl dX11_isDead_37
/-! LeapCapitalModel.canCome -/
def f_X11_canCome (a1 : Int32) (u : gm_M) : Option Int32 := (f_X11_placeOf a1 u).bind fun r_1 => if 0 ≤ r_1 then some (0 : Int32) else gm_let (f_X11_isHeard a1 u) fun r_3 => if r_3 = 0 then (f_X11_isDead a1 u).bind fun r_4 => if r_4 = 0 then if ib a1 12 = true then if (gI u 29 0) < (gI u 6 (ix a1)) then some (0 : Int32) else some (1 : Int32) else none else some (0 : Int32) else some (0 : Int32)
set_option maxRecDepth 100000 in
set_option maxHeartbeats 4000000 in
theorem ok_X11_canCome (l : Launch) (Z : gm_Z) (a1 : Int32) (u : gm_M)  (r : Int32) (hf : f_X11_canCome a1 u = some r) : gm_Met l GM Z yX11_canCome cX11_canCome 2 (some .boolean) ({ frames := 1, cells := 0, slots := 0, locals := 22 }) [rv Z 1, .int a1] u (some (.int r)) u := by
  unfold f_X11_canCome at hf
  refine gm_ofW (by decide +kernel) (Nat.le_of_ble_eq_true rfl) ?_
  intro p e s m args below meth c A ls Q R hRf hRl C E hl hw
  obtain ⟨hx, hb, -⟩ := id C
  have hl : lv_has ls 2 [(0, rv Z 1), (1, .int a1)] := hl
  refine gm_aload_n (G := GM) (r := 1) C rfl dX11_canCome_0 rfl (lv_at hl 0 rfl) ?_
  refine lv_iload_n hx hb dX11_canCome_1 rfl (lv_at hl 1 rfl) ?_
  obtain ⟨r_1, hc_2, hf⟩ := gm_bnd hf
  refine gm_callV (G := GM) (u := u) (u' := u) (r := 1) (ci := 10) (As := [.int a1]) (rest := []) (res := (some (.int r_1))) C hw hl (ok_X11_placeOf l Z a1 u r_1 hc_2) cw_X11_324 im_X11_placeOf rfl se_X11_placeOf rfl rfl rfl ⟨Nat.le_trans (Nat.le_of_ble_eq_true rfl) hRf, Nat.le_trans (Nat.le_of_ble_eq_true rfl) hRl⟩ rfl rfl (Nat.le_of_ble_eq_true rfl) dX11_canCome_2 (fun H locs hw => ?_)
  refine lv_if_ge (tgt := 43) hx hb dX11_canCome_5 (by decide) (fun hc => ?_) (fun hc => ?_)
  · replace hf := (if_pos hc).symm.trans hf
    refine lv_iconst (v := 0) hx hb dX11_canCome_43 (by decide) ?_
    exact gm_zret C E hw rfl rfl ((congrArg (fun z => some (Value.int z)) (Option.some.inj hf)).symm) rfl dX11_canCome_44
  · replace hf := (if_neg hc).symm.trans hf
    refine gm_aload_n (G := GM) (r := 1) C rfl dX11_canCome_8 rfl (lv_at hl 0 rfl) ?_
    refine lv_iload_n hx hb dX11_canCome_9 rfl (lv_at hl 1 rfl) ?_
    obtain ⟨r_3, e_r_3, hf⟩ := gm_le hf
    refine gm_callV (G := GM) (u := u) (u' := u) (r := 1) (ci := 10) (As := [.int a1]) (rest := []) (res := (some (.int (f_X11_isHeard a1 u)))) C hw hl (ok_X11_isHeard l Z a1 u) cw_X11_327 im_X11_isHeard rfl se_X11_isHeard rfl rfl rfl ⟨Nat.le_trans (Nat.le_of_ble_eq_true rfl) hRf, Nat.le_trans (Nat.le_of_ble_eq_true rfl) hRl⟩ rfl rfl (Nat.le_of_ble_eq_true rfl) dX11_canCome_10 (fun H locs hw => ?_)
    refine gm_topI e_r_3 ?_
    refine lv_if_ne (tgt := 43) hx hb dX11_canCome_13 (by decide) (fun hc => ?_) (fun hc => ?_)
    · replace hf := (if_neg hc).symm.trans hf
      refine lv_iconst (v := 0) hx hb dX11_canCome_43 (by decide) ?_
      exact gm_zret C E hw rfl rfl ((congrArg (fun z => some (Value.int z)) (Option.some.inj hf)).symm) rfl dX11_canCome_44
    · replace hf := (if_pos hc).symm.trans hf
      refine gm_aload_n (G := GM) (r := 1) C rfl dX11_canCome_16 rfl (lv_at hl 0 rfl) ?_
      refine lv_iload_n hx hb dX11_canCome_17 rfl (lv_at hl 1 rfl) ?_
      obtain ⟨r_4, hc_5, hf⟩ := gm_bnd hf
      refine gm_callV (G := GM) (u := u) (u' := u) (r := 1) (ci := 10) (As := [.int a1]) (rest := []) (res := (some (.int r_4))) C hw hl (ok_X11_isDead l Z a1 u r_4 hc_5) cw_X11_330 im_X11_isDead rfl se_X11_isDead rfl rfl rfl ⟨Nat.le_trans (Nat.le_of_ble_eq_true rfl) hRf, Nat.le_trans (Nat.le_of_ble_eq_true rfl) hRl⟩ rfl rfl (Nat.le_of_ble_eq_true rfl) dX11_canCome_18 (fun H locs hw => ?_)
      refine lv_if_ne (tgt := 43) hx hb dX11_canCome_21 (by decide) (fun hc => ?_) (fun hc => ?_)
      · replace hf := (if_neg hc).symm.trans hf
        refine lv_iconst (v := 0) hx hb dX11_canCome_43 (by decide) ?_
        exact gm_zret C E hw rfl rfl ((congrArg (fun z => some (Value.int z)) (Option.some.inj hf)).symm) rfl dX11_canCome_44
      · replace hf := (if_pos hc).symm.trans hf
        refine gm_aload_n (G := GM) (r := 1) C rfl dX11_canCome_24 rfl (lv_at hl 0 rfl) ?_
        refine gm_getS (G := GM) (u := u) (r := 1) (ci := 10) (k := 13) C hw rfl fl_X11_23 dX11_canCome_25 rfl (q := 6) rfl ?_
        refine lv_iload_n hx hb dX11_canCome_28 rfl (lv_at hl 1 rfl) ?_
        obtain ⟨g_6, hf⟩ := gm_grd hf
        refine gm_iald (G := GM) (u := u) (r := 6) (n := 12) (i := a1) C hw rfl g_6 rfl dX11_canCome_29 ?_
        refine gm_aload_n (G := GM) (r := 1) C rfl dX11_canCome_30 rfl (lv_at hl 0 rfl) ?_
        refine gm_getS (G := GM) (u := u) (r := 1) (ci := 10) (k := 39) C hw rfl fl_X11_93 dX11_canCome_31 rfl (q := 29) rfl ?_
        refine lv_iconst (v := 0) hx hb dX11_canCome_34 (by decide) ?_
        refine gm_iald (G := GM) (u := u) (r := 29) (n := 22) (i := (0 : Int32)) C hw rfl (by decide) (j := 0) (by decide) dX11_canCome_35 ?_
        refine lv_icmp_gt (tgt := 43) hx hb dX11_canCome_36 (by decide) (fun hc => ?_) (fun hc => ?_)
        · replace hf := (if_pos hc).symm.trans hf
          refine lv_iconst (v := 0) hx hb dX11_canCome_43 (by decide) ?_
          exact gm_zret C E hw rfl rfl ((congrArg (fun z => some (Value.int z)) (Option.some.inj hf)).symm) rfl dX11_canCome_44
        · replace hf := (if_neg hc).symm.trans hf
          refine lv_iconst (v := 1) hx hb dX11_canCome_39 (by decide) ?_
          refine lv_goto (tgt := 44) hx hb dX11_canCome_40 (by decide) ?_
          exact gm_zret C E hw rfl rfl ((congrArg (fun z => some (Value.int z)) (Option.some.inj hf)).symm) rfl dX11_canCome_44
/-! LeapCapitalModel.comes -/
def f_X11_comes (a1 : Int32) (u : gm_M) : Option gm_M := if ib ((4 : Int32) + (gI u 29 2)) 22 = true then gm_let (sI u 29 (ix ((4 : Int32) + (gI u 29 2))) a1) fun u_2 => if ib ((10 : Int32) + a1) 22 = true then gm_let (sI u_2 29 (ix ((10 : Int32) + a1)) (gI u_2 29 0)) fun u_4 => if ib ((16 : Int32) + a1) 22 = true then gm_let (sI u_4 29 (ix ((16 : Int32) + a1)) (0 : Int32)) fun u_6 => gm_let (sI u_6 29 2 ((gI u_6 29 2) + (1 : Int32))) fun u_7 => some u_7 else none else none else none
set_option maxRecDepth 100000 in
set_option maxHeartbeats 4000000 in
theorem ok_X11_comes (l : Launch) (Z : gm_Z) (a1 : Int32) (u : gm_M)  (u' : gm_M) (hf : f_X11_comes a1 u = some (u')) : gm_Met l GM Z yX11_comes cX11_comes 2 none ({ frames := 0, cells := 0, slots := 0, locals := 0 }) [rv Z 1, .int a1] u none u' := by
  unfold f_X11_comes at hf
  refine gm_ofW (by decide +kernel) (Nat.le_of_ble_eq_true rfl) ?_
  intro p e s m args below meth c A ls Q R hRf hRl C E hl hw
  obtain ⟨hx, hb, -⟩ := id C
  have hl : lv_has ls 2 [(0, rv Z 1), (1, .int a1)] := hl
  refine gm_aload_n (G := GM) (r := 1) C rfl dX11_comes_0 rfl (lv_at hl 0 rfl) ?_
  refine gm_getS (G := GM) (u := u) (r := 1) (ci := 10) (k := 39) C hw rfl fl_X11_93 dX11_comes_1 rfl (q := 29) rfl ?_
  refine lv_iconst (v := 4) hx hb dX11_comes_4 (by decide) ?_
  refine gm_aload_n (G := GM) (r := 1) C rfl dX11_comes_5 rfl (lv_at hl 0 rfl) ?_
  refine gm_getS (G := GM) (u := u) (r := 1) (ci := 10) (k := 39) C hw rfl fl_X11_93 dX11_comes_6 rfl (q := 29) rfl ?_
  refine lv_iconst (v := 2) hx hb dX11_comes_9 (by decide) ?_
  refine gm_iald (G := GM) (u := u) (r := 29) (n := 22) (i := (2 : Int32)) C hw rfl (by decide) (j := 2) (by decide) dX11_comes_10 ?_
  refine lv_iadd hx hb dX11_comes_11 ?_
  refine lv_iload_n hx hb dX11_comes_12 rfl (lv_at hl 1 rfl) ?_
  obtain ⟨g_1, hf⟩ := gm_grd hf
  refine gm_iast (G := GM) (u := u) (r := 29) (n := 22) (i := (4 : Int32) + (gI u 29 2)) (x := a1) C hw rfl g_1 rfl dX11_comes_13 (fun H locs hw => ?_)
  obtain ⟨u_2, e_u_2, hf⟩ := gm_le hf
  rw [← e_u_2] at hw
  refine gm_aload_n (G := GM) (r := 1) C rfl dX11_comes_14 rfl (lv_at hl 0 rfl) ?_
  refine gm_getS (G := GM) (u := u_2) (r := 1) (ci := 10) (k := 39) C hw rfl fl_X11_93 dX11_comes_15 rfl (q := 29) rfl ?_
  refine lv_bipush (v := 10) hx hb dX11_comes_18 (by decide) ?_
  refine lv_iload_n hx hb dX11_comes_20 rfl (lv_at hl 1 rfl) ?_
  refine lv_iadd hx hb dX11_comes_21 ?_
  refine gm_aload_n (G := GM) (r := 1) C rfl dX11_comes_22 rfl (lv_at hl 0 rfl) ?_
  refine gm_getS (G := GM) (u := u_2) (r := 1) (ci := 10) (k := 39) C hw rfl fl_X11_93 dX11_comes_23 rfl (q := 29) rfl ?_
  refine lv_iconst (v := 0) hx hb dX11_comes_26 (by decide) ?_
  refine gm_iald (G := GM) (u := u_2) (r := 29) (n := 22) (i := (0 : Int32)) C hw rfl (by decide) (j := 0) (by decide) dX11_comes_27 ?_
  obtain ⟨g_3, hf⟩ := gm_grd hf
  refine gm_iast (G := GM) (u := u_2) (r := 29) (n := 22) (i := (10 : Int32) + a1) (x := gI u_2 29 0) C hw rfl g_3 rfl dX11_comes_28 (fun H locs hw => ?_)
  obtain ⟨u_4, e_u_4, hf⟩ := gm_le hf
  rw [← e_u_4] at hw
  refine gm_aload_n (G := GM) (r := 1) C rfl dX11_comes_29 rfl (lv_at hl 0 rfl) ?_
  refine gm_getS (G := GM) (u := u_4) (r := 1) (ci := 10) (k := 39) C hw rfl fl_X11_93 dX11_comes_30 rfl (q := 29) rfl ?_
  refine lv_bipush (v := 16) hx hb dX11_comes_33 (by decide) ?_
  refine lv_iload_n hx hb dX11_comes_35 rfl (lv_at hl 1 rfl) ?_
  refine lv_iadd hx hb dX11_comes_36 ?_
  refine lv_iconst (v := 0) hx hb dX11_comes_37 (by decide) ?_
  obtain ⟨g_5, hf⟩ := gm_grd hf
  refine gm_iast (G := GM) (u := u_4) (r := 29) (n := 22) (i := (16 : Int32) + a1) (x := (0 : Int32)) C hw rfl g_5 rfl dX11_comes_38 (fun H locs hw => ?_)
  obtain ⟨u_6, e_u_6, hf⟩ := gm_le hf
  rw [← e_u_6] at hw
  refine gm_aload_n (G := GM) (r := 1) C rfl dX11_comes_39 rfl (lv_at hl 0 rfl) ?_
  refine gm_getS (G := GM) (u := u_6) (r := 1) (ci := 10) (k := 39) C hw rfl fl_X11_93 dX11_comes_40 rfl (q := 29) rfl ?_
  refine lv_iconst (v := 2) hx hb dX11_comes_43 (by decide) ?_
  refine lv_dup2_11 hx hb dX11_comes_44 rfl (gm_cat _ _) ?_
  refine gm_iald (G := GM) (u := u_6) (r := 29) (n := 22) (i := (2 : Int32)) C hw rfl (by decide) (j := 2) (by decide) dX11_comes_45 ?_
  refine lv_iconst (v := 1) hx hb dX11_comes_46 (by decide) ?_
  refine lv_iadd hx hb dX11_comes_47 ?_
  refine gm_iast (G := GM) (u := u_6) (r := 29) (n := 22) (i := (2 : Int32)) (x := (gI u_6 29 2) + (1 : Int32)) C hw rfl (by decide) (j := 2) (by decide) dX11_comes_48 (fun H locs hw => ?_)
  obtain ⟨u_7, e_u_7, hf⟩ := gm_le hf
  rw [← e_u_7] at hw
  exact gm_vret C E hw rfl rfl (Option.some.inj hf).symm dX11_comes_49
/-! LeapCapitalModel.leaves -/
def b_X11_leaves_6 (a1 : Int32) : (Int32 × gm_M) → Option ((Int32 × gm_M) ⊕ gm_M) := fun x => match x with | (v2_4, u_3) => if (gI u_3 29 2) ≤ (v2_4 + (1 : Int32)) then some (.inr u_3) else if ib (((4 : Int32) + v2_4) + (1 : Int32)) 22 = true then if ib ((4 : Int32) + v2_4) 22 = true then gm_let (sI u_3 29 (ix ((4 : Int32) + v2_4)) (gI u_3 29 (ix (((4 : Int32) + v2_4) + (1 : Int32))))) fun u_7 => some (.inl (v2_4 + (1 : Int32), u_7)) else none else none
def f_X11_leaves (a1 : Int32) (u : gm_M) : Option gm_M := (f_X11_placeOf a1 u).bind fun r_1 => ((gm_lp (b_X11_leaves_6 a1) gm_FU (r_1, u)).bind fun o => match o with | u_8 => gm_let (sI u_8 29 2 ((gI u_8 29 2) - (1 : Int32))) fun u_9 => some u_9)
set_option maxRecDepth 100000 in
set_option maxHeartbeats 4000000 in
theorem ok_X11_leaves (l : Launch) (Z : gm_Z) (a1 : Int32) (u : gm_M)  (u' : gm_M) (hf : f_X11_leaves a1 u = some (u')) : gm_Met l GM Z yX11_leaves cX11_leaves 3 none ({ frames := 1, cells := 0, slots := 0, locals := 22 }) [rv Z 1, .int a1] u none u' := by
  unfold f_X11_leaves at hf
  refine gm_ofW (by decide +kernel) (Nat.le_of_ble_eq_true rfl) ?_
  intro p e s m args below meth c A ls Q R hRf hRl C E hl hw
  obtain ⟨hx, hb, -⟩ := id C
  have hl : lv_has ls 3 [(0, rv Z 1), (1, .int a1)] := hl
  refine gm_aload_n (G := GM) (r := 1) C rfl dX11_leaves_0 rfl (lv_at hl 0 rfl) ?_
  refine lv_iload_n hx hb dX11_leaves_1 rfl (lv_at hl 1 rfl) ?_
  obtain ⟨r_1, hc_2, hf⟩ := gm_bnd hf
  refine gm_callV (G := GM) (u := u) (u' := u) (r := 1) (ci := 10) (As := [.int a1]) (rest := []) (res := (some (.int r_1))) C hw hl (ok_X11_placeOf l Z a1 u r_1 hc_2) cw_X11_324 im_X11_placeOf rfl se_X11_placeOf rfl rfl rfl ⟨Nat.le_trans (Nat.le_of_ble_eq_true rfl) hRf, Nat.le_trans (Nat.le_of_ble_eq_true rfl) hRl⟩ rfl rfl (Nat.le_of_ble_eq_true rfl) dX11_leaves_2 (fun H locs hw => ?_)
  refine lv_istore_n (i := 2) (lv' := [(2, .int r_1), (0, rv Z 1), (1, .int a1)]) hx hb dX11_leaves_5 rfl hl (by decide) rfl (fun ls hl => ?_)
  obtain ⟨o1, hlp, hf⟩ := gm_bnd hf
  have L6_1 := gm_loop (b_X11_leaves_6 a1) (fun x : (Int32 × gm_M) => ∀ (H : Heap) (locs : List Loc) (ls : Array Slot), lv_has ls 3 [(0, rv Z 1), (2, .int x.1)] → wd GM Z x.2 A s.heap H locs → W p l e R s m args below meth c H locs 0 0 Q (F0 m 6 ls [])) (fun z : gm_M => ∀ (H : Heap) (locs : List Loc) (ls : Array Slot), lv_has ls 3 [(0, rv Z 1)] → wd GM Z z A s.heap H locs → W p l e R s m args below meth c H locs 0 0 Q (F0 m 42 ls [])) (by
    intro x o1 hf Kc Kx
    obtain ⟨v2_4, u_3⟩ := x
    intro H locs ls hl hw
    unfold b_X11_leaves_6 at hf
    try dsimp only at hf
    refine lv_iload_n hx hb dX11_leaves_6 rfl (lv_at hl 1 rfl) ?_
    refine lv_iconst (v := 1) hx hb dX11_leaves_7 (by decide) ?_
    refine lv_iadd hx hb dX11_leaves_8 ?_
    refine gm_aload_n (G := GM) (r := 1) C rfl dX11_leaves_9 rfl (lv_at hl 0 rfl) ?_
    refine gm_getS (G := GM) (u := u_3) (r := 1) (ci := 10) (k := 39) C hw rfl fl_X11_93 dX11_leaves_10 rfl (q := 29) rfl ?_
    refine lv_iconst (v := 2) hx hb dX11_leaves_13 (by decide) ?_
    refine gm_iald (G := GM) (u := u_3) (r := 29) (n := 22) (i := (2 : Int32)) C hw rfl (by decide) (j := 2) (by decide) dX11_leaves_14 ?_
    refine lv_icmp_ge (tgt := 42) hx hb dX11_leaves_15 (by decide) (fun hc => ?_) (fun hc => ?_)
    · replace hf := (if_pos hc).symm.trans hf
      exact Kx _ (gm_si hf) _ _ _ (lv_sub hl [0] rfl) hw
    · replace hf := (if_neg hc).symm.trans hf
      refine gm_aload_n (G := GM) (r := 1) C rfl dX11_leaves_18 rfl (lv_at hl 0 rfl) ?_
      refine gm_getS (G := GM) (u := u_3) (r := 1) (ci := 10) (k := 39) C hw rfl fl_X11_93 dX11_leaves_19 rfl (q := 29) rfl ?_
      refine lv_iconst (v := 4) hx hb dX11_leaves_22 (by decide) ?_
      refine lv_iload_n hx hb dX11_leaves_23 rfl (lv_at hl 1 rfl) ?_
      refine lv_iadd hx hb dX11_leaves_24 ?_
      refine gm_aload_n (G := GM) (r := 1) C rfl dX11_leaves_25 rfl (lv_at hl 0 rfl) ?_
      refine gm_getS (G := GM) (u := u_3) (r := 1) (ci := 10) (k := 39) C hw rfl fl_X11_93 dX11_leaves_26 rfl (q := 29) rfl ?_
      refine lv_iconst (v := 4) hx hb dX11_leaves_29 (by decide) ?_
      refine lv_iload_n hx hb dX11_leaves_30 rfl (lv_at hl 1 rfl) ?_
      refine lv_iadd hx hb dX11_leaves_31 ?_
      refine lv_iconst (v := 1) hx hb dX11_leaves_32 (by decide) ?_
      refine lv_iadd hx hb dX11_leaves_33 ?_
      obtain ⟨g_5, hf⟩ := gm_grd hf
      refine gm_iald (G := GM) (u := u_3) (r := 29) (n := 22) (i := ((4 : Int32) + v2_4) + (1 : Int32)) C hw rfl g_5 rfl dX11_leaves_34 ?_
      obtain ⟨g_6, hf⟩ := gm_grd hf
      refine gm_iast (G := GM) (u := u_3) (r := 29) (n := 22) (i := (4 : Int32) + v2_4) (x := gI u_3 29 (ix (((4 : Int32) + v2_4) + (1 : Int32)))) C hw rfl g_6 rfl dX11_leaves_35 (fun H locs hw => ?_)
      obtain ⟨u_7, e_u_7, hf⟩ := gm_le hf
      rw [← e_u_7] at hw
      refine lv_iinc (v := v2_4 + (1 : Int32)) (lv' := [(2, .int (v2_4 + (1 : Int32))), (0, rv Z 1)]) hx hb dX11_leaves_36 hl (k := 1) rfl rfl (by decide) rfl (fun ls hl => ?_)
      refine lv_goto (tgt := 6) hx hb dX11_leaves_39 (by decide) ?_
      exact Kc _ (gm_si hf) _ _ _ (lv_sub hl [1, 0] rfl) hw)
  refine L6_1 _ _ _ hlp ?_ _ _ _ (lv_sub hl [1, 0] rfl) hw
  obtain ⟨u_8, rfl⟩ : ∃ y, y = o1 := ⟨_, rfl⟩
  intro H locs ls hl hw
  try dsimp only at hf
  refine gm_aload_n (G := GM) (r := 1) C rfl dX11_leaves_42 rfl (lv_at hl 0 rfl) ?_
  refine gm_getS (G := GM) (u := u_8) (r := 1) (ci := 10) (k := 39) C hw rfl fl_X11_93 dX11_leaves_43 rfl (q := 29) rfl ?_
  refine lv_iconst (v := 2) hx hb dX11_leaves_46 (by decide) ?_
  refine lv_dup2_11 hx hb dX11_leaves_47 rfl (gm_cat _ _) ?_
  refine gm_iald (G := GM) (u := u_8) (r := 29) (n := 22) (i := (2 : Int32)) C hw rfl (by decide) (j := 2) (by decide) dX11_leaves_48 ?_
  refine lv_iconst (v := 1) hx hb dX11_leaves_49 (by decide) ?_
  refine lv_isub hx hb dX11_leaves_50 ?_
  refine gm_iast (G := GM) (u := u_8) (r := 29) (n := 22) (i := (2 : Int32)) (x := (gI u_8 29 2) - (1 : Int32)) C hw rfl (by decide) (j := 2) (by decide) dX11_leaves_51 (fun H locs hw => ?_)
  obtain ⟨u_9, e_u_9, hf⟩ := gm_le hf
  rw [← e_u_9] at hw
  exact gm_vret C E hw rfl rfl (Option.some.inj hf).symm dX11_leaves_52
/-! LeapCapitalModel.inQueue -/
def b_X11_inQueue_4 (u : gm_M) : (Int32 × Int32) → Option ((Int32 × Int32) ⊕ Int32) := fun x => match x with | (v1_1, v2_2) => if (gI u 29 2) ≤ v2_2 then some (.inr v1_1) else if ib ((4 : Int32) + v2_2) 22 = true then gm_let (v1_1 ||| ((1 : Int32) <<< ((gI u 29 (ix ((4 : Int32) + v2_2))) &&& 31))) fun v1_4 => some (.inl (v1_4, v2_2 + (1 : Int32))) else none
def f_X11_inQueue  (u : gm_M) : Option Int32 := ((gm_lp (b_X11_inQueue_4 u) gm_FU ((0 : Int32), (0 : Int32))).bind fun o => match o with | w1_5 => some w1_5)
set_option maxRecDepth 100000 in
set_option maxHeartbeats 4000000 in
theorem ok_X11_inQueue (l : Launch) (Z : gm_Z)  (u : gm_M)  (r : Int32) (hf : f_X11_inQueue u = some r) : gm_Met l GM Z yX11_inQueue cX11_inQueue 3 (some .int) ({ frames := 0, cells := 0, slots := 0, locals := 0 }) [rv Z 1] u (some (.int r)) u := by
  unfold f_X11_inQueue at hf
  refine gm_ofW (by decide +kernel) (Nat.le_of_ble_eq_true rfl) ?_
  intro p e s m args below meth c A ls Q R hRf hRl C E hl hw
  obtain ⟨hx, hb, -⟩ := id C
  have hl : lv_has ls 3 [(0, rv Z 1)] := hl
  refine lv_iconst (v := 0) hx hb dX11_inQueue_0 (by decide) ?_
  refine lv_istore_n (i := 1) (lv' := [(1, .int (0 : Int32)), (0, rv Z 1)]) hx hb dX11_inQueue_1 rfl hl (by decide) rfl (fun ls hl => ?_)
  refine lv_iconst (v := 0) hx hb dX11_inQueue_2 (by decide) ?_
  refine lv_istore_n (i := 2) (lv' := [(2, .int (0 : Int32)), (1, .int (0 : Int32)), (0, rv Z 1)]) hx hb dX11_inQueue_3 rfl hl (by decide) rfl (fun ls hl => ?_)
  obtain ⟨o1, hlp, hf⟩ := gm_bnd hf
  have L4_1 := gm_loop (b_X11_inQueue_4 u) (fun x : (Int32 × Int32) => ∀ (H : Heap) (locs : List Loc) (ls : Array Slot), lv_has ls 3 [(0, rv Z 1), (1, .int x.1), (2, .int x.2)] → wd GM Z u A s.heap H locs → W p l e R s m args below meth c H locs 0 0 Q (F0 m 4 ls [])) (fun z : Int32 => ∀ (H : Heap) (locs : List Loc) (ls : Array Slot), lv_has ls 3 [(1, .int z)] → wd GM Z u A s.heap H locs → W p l e R s m args below meth c H locs 0 0 Q (F0 m 33 ls [])) (by
    intro x o1 hf Kc Kx
    obtain ⟨v1_1, v2_2⟩ := x
    intro H locs ls hl hw
    unfold b_X11_inQueue_4 at hf
    try dsimp only at hf
    refine lv_iload_n hx hb dX11_inQueue_4 rfl (lv_at hl 2 rfl) ?_
    refine gm_aload_n (G := GM) (r := 1) C rfl dX11_inQueue_5 rfl (lv_at hl 0 rfl) ?_
    refine gm_getS (G := GM) (u := u) (r := 1) (ci := 10) (k := 39) C hw rfl fl_X11_93 dX11_inQueue_6 rfl (q := 29) rfl ?_
    refine lv_iconst (v := 2) hx hb dX11_inQueue_9 (by decide) ?_
    refine gm_iald (G := GM) (u := u) (r := 29) (n := 22) (i := (2 : Int32)) C hw rfl (by decide) (j := 2) (by decide) dX11_inQueue_10 ?_
    refine lv_icmp_ge (tgt := 33) hx hb dX11_inQueue_11 (by decide) (fun hc => ?_) (fun hc => ?_)
    · replace hf := (if_pos hc).symm.trans hf
      exact Kx _ (gm_si hf) _ _ _ (lv_sub hl [1] rfl) hw
    · replace hf := (if_neg hc).symm.trans hf
      refine lv_iload_n hx hb dX11_inQueue_14 rfl (lv_at hl 1 rfl) ?_
      refine lv_iconst (v := 1) hx hb dX11_inQueue_15 (by decide) ?_
      refine gm_aload_n (G := GM) (r := 1) C rfl dX11_inQueue_16 rfl (lv_at hl 0 rfl) ?_
      refine gm_getS (G := GM) (u := u) (r := 1) (ci := 10) (k := 39) C hw rfl fl_X11_93 dX11_inQueue_17 rfl (q := 29) rfl ?_
      refine lv_iconst (v := 4) hx hb dX11_inQueue_20 (by decide) ?_
      refine lv_iload_n hx hb dX11_inQueue_21 rfl (lv_at hl 2 rfl) ?_
      refine lv_iadd hx hb dX11_inQueue_22 ?_
      obtain ⟨g_3, hf⟩ := gm_grd hf
      refine gm_iald (G := GM) (u := u) (r := 29) (n := 22) (i := (4 : Int32) + v2_2) C hw rfl g_3 rfl dX11_inQueue_23 ?_
      refine lv_ishl hx hb dX11_inQueue_24 ?_
      refine lv_ior hx hb dX11_inQueue_25 ?_
      obtain ⟨v1_4, e_v1_4, hf⟩ := gm_le hf
      refine gm_topI e_v1_4 ?_
      refine lv_istore_n (i := 1) (lv' := [(1, .int v1_4), (0, rv Z 1), (2, .int v2_2)]) hx hb dX11_inQueue_26 rfl hl (by decide) rfl (fun ls hl => ?_)
      refine lv_iinc (v := v2_2 + (1 : Int32)) (lv' := [(2, .int (v2_2 + (1 : Int32))), (1, .int v1_4), (0, rv Z 1)]) hx hb dX11_inQueue_27 hl (k := 2) rfl rfl (by decide) rfl (fun ls hl => ?_)
      refine lv_goto (tgt := 4) hx hb dX11_inQueue_30 (by decide) ?_
      exact Kc _ (gm_si hf) _ _ _ (lv_sub hl [2, 1, 0] rfl) hw)
  refine L4_1 _ _ _ hlp ?_ _ _ _ (lv_sub hl [2, 1, 0] rfl) hw
  obtain ⟨w1_5, rfl⟩ : ∃ y, y = o1 := ⟨_, rfl⟩
  intro H locs ls hl hw
  try dsimp only at hf
  refine lv_iload_n hx hb dX11_inQueue_33 rfl (lv_at hl 0 rfl) ?_
  exact gm_iret C E hw rfl ((congrArg (fun z => some (Value.int z)) (Option.some.inj hf)).symm) rfl dX11_inQueue_34
/-! LeapCapitalModel.rankOf -/
def f_X11_rankOf (a1 : Int32) (u : gm_M) : Option (Int32 × gm_M) := if ib ((10 : Int32) + a1) 22 = true then gm_let ((gI u 29 0) - (gI u 29 (ix ((10 : Int32) + a1)))) fun v2_2 => if (gI u 9 0) = (gI u 8 0) then some (v2_2, u) else gm_let (sI u 22 1 v2_2) fun u_3 => if ib a1 12 = true then gm_let (sI u_3 22 2 (gI u_3 7 (ix a1))) fun u_5 => gm_let (sI u_5 22 3 ((gI u_5 29 0) - (gI u_5 6 (ix a1)))) fun u_6 => if ib ((16 : Int32) + a1) 22 = true then gm_let (sI u_6 22 4 (gI u_6 29 (ix ((16 : Int32) + a1)))) fun u_8 => (f_X11_worked (0 : Int32) u_8).bind fun o => match o with | (r_9, u_10) => some (r_9, u_10) else none else none else none
set_option maxRecDepth 100000 in
set_option maxHeartbeats 4000000 in
theorem ok_X11_rankOf (l : Launch) (Z : gm_Z) (a1 : Int32) (u : gm_M)  (r : Int32) (u' : gm_M) (hf : f_X11_rankOf a1 u = some (r, u')) : gm_Met l GM Z yX11_rankOf cX11_rankOf 3 (some .int) ({ frames := 3, cells := 0, slots := 0, locals := 68 }) [rv Z 1, .int a1] u (some (.int r)) u' := by
  unfold f_X11_rankOf at hf
  refine gm_ofW (by decide +kernel) (Nat.le_of_ble_eq_true rfl) ?_
  intro p e s m args below meth c A ls Q R hRf hRl C E hl hw
  obtain ⟨hx, hb, -⟩ := id C
  have hl : lv_has ls 3 [(0, rv Z 1), (1, .int a1)] := hl
  refine gm_aload_n (G := GM) (r := 1) C rfl dX11_rankOf_0 rfl (lv_at hl 0 rfl) ?_
  refine gm_getS (G := GM) (u := u) (r := 1) (ci := 10) (k := 39) C hw rfl fl_X11_93 dX11_rankOf_1 rfl (q := 29) rfl ?_
  refine lv_iconst (v := 0) hx hb dX11_rankOf_4 (by decide) ?_
  refine gm_iald (G := GM) (u := u) (r := 29) (n := 22) (i := (0 : Int32)) C hw rfl (by decide) (j := 0) (by decide) dX11_rankOf_5 ?_
  refine gm_aload_n (G := GM) (r := 1) C rfl dX11_rankOf_6 rfl (lv_at hl 0 rfl) ?_
  refine gm_getS (G := GM) (u := u) (r := 1) (ci := 10) (k := 39) C hw rfl fl_X11_93 dX11_rankOf_7 rfl (q := 29) rfl ?_
  refine lv_bipush (v := 10) hx hb dX11_rankOf_10 (by decide) ?_
  refine lv_iload_n hx hb dX11_rankOf_12 rfl (lv_at hl 1 rfl) ?_
  refine lv_iadd hx hb dX11_rankOf_13 ?_
  obtain ⟨g_1, hf⟩ := gm_grd hf
  refine gm_iald (G := GM) (u := u) (r := 29) (n := 22) (i := (10 : Int32) + a1) C hw rfl g_1 rfl dX11_rankOf_14 ?_
  refine lv_isub hx hb dX11_rankOf_15 ?_
  obtain ⟨v2_2, e_v2_2, hf⟩ := gm_le hf
  refine gm_topI e_v2_2 ?_
  refine lv_istore_n (i := 2) (lv' := [(2, .int v2_2), (0, rv Z 1), (1, .int a1)]) hx hb dX11_rankOf_16 rfl hl (by decide) rfl (fun ls hl => ?_)
  refine gm_aload_n (G := GM) (r := 1) C rfl dX11_rankOf_17 rfl (lv_at hl 1 rfl) ?_
  refine gm_getS (G := GM) (u := u) (r := 1) (ci := 10) (k := 16) C hw rfl fl_X11_32 dX11_rankOf_18 rfl (q := 9) rfl ?_
  refine lv_iconst (v := 0) hx hb dX11_rankOf_21 (by decide) ?_
  refine gm_iald (G := GM) (u := u) (r := 9) (n := 2) (i := (0 : Int32)) C hw rfl (by decide) (j := 0) (by decide) dX11_rankOf_22 ?_
  refine gm_aload_n (G := GM) (r := 1) C rfl dX11_rankOf_23 rfl (lv_at hl 1 rfl) ?_
  refine gm_getS (G := GM) (u := u) (r := 1) (ci := 10) (k := 15) C hw rfl fl_X11_29 dX11_rankOf_24 rfl (q := 8) rfl ?_
  refine lv_iconst (v := 0) hx hb dX11_rankOf_27 (by decide) ?_
  refine gm_iald (G := GM) (u := u) (r := 8) (n := 2) (i := (0 : Int32)) C hw rfl (by decide) (j := 0) (by decide) dX11_rankOf_28 ?_
  refine lv_icmp_ne (tgt := 34) hx hb dX11_rankOf_29 (by decide) (fun hc => ?_) (fun hc => ?_)
  · replace hf := (if_neg hc).symm.trans hf
    refine gm_aload_n (G := GM) (r := 1) C rfl dX11_rankOf_34 rfl (lv_at hl 1 rfl) ?_
    refine gm_getS (G := GM) (u := u) (r := 1) (ci := 10) (k := 31) C hw rfl fl_X11_72 dX11_rankOf_35 rfl (q := 22) rfl ?_
    refine lv_iconst (v := 1) hx hb dX11_rankOf_38 (by decide) ?_
    refine lv_iload_n hx hb dX11_rankOf_39 rfl (lv_at hl 0 rfl) ?_
    refine gm_iast (G := GM) (u := u) (r := 22) (n := 20) (i := (1 : Int32)) (x := v2_2) C hw rfl (by decide) (j := 1) (by decide) dX11_rankOf_40 (fun H locs hw => ?_)
    obtain ⟨u_3, e_u_3, hf⟩ := gm_le hf
    rw [← e_u_3] at hw
    refine gm_aload_n (G := GM) (r := 1) C rfl dX11_rankOf_41 rfl (lv_at hl 1 rfl) ?_
    refine gm_getS (G := GM) (u := u_3) (r := 1) (ci := 10) (k := 31) C hw rfl fl_X11_72 dX11_rankOf_42 rfl (q := 22) rfl ?_
    refine lv_iconst (v := 2) hx hb dX11_rankOf_45 (by decide) ?_
    refine gm_aload_n (G := GM) (r := 1) C rfl dX11_rankOf_46 rfl (lv_at hl 1 rfl) ?_
    refine gm_getS (G := GM) (u := u_3) (r := 1) (ci := 10) (k := 14) C hw rfl fl_X11_26 dX11_rankOf_47 rfl (q := 7) rfl ?_
    refine lv_iload_n hx hb dX11_rankOf_50 rfl (lv_at hl 2 rfl) ?_
    obtain ⟨g_4, hf⟩ := gm_grd hf
    refine gm_iald (G := GM) (u := u_3) (r := 7) (n := 12) (i := a1) C hw rfl g_4 rfl dX11_rankOf_51 ?_
    refine gm_iast (G := GM) (u := u_3) (r := 22) (n := 20) (i := (2 : Int32)) (x := gI u_3 7 (ix a1)) C hw rfl (by decide) (j := 2) (by decide) dX11_rankOf_52 (fun H locs hw => ?_)
    obtain ⟨u_5, e_u_5, hf⟩ := gm_le hf
    rw [← e_u_5] at hw
    refine gm_aload_n (G := GM) (r := 1) C rfl dX11_rankOf_53 rfl (lv_at hl 1 rfl) ?_
    refine gm_getS (G := GM) (u := u_5) (r := 1) (ci := 10) (k := 31) C hw rfl fl_X11_72 dX11_rankOf_54 rfl (q := 22) rfl ?_
    refine lv_iconst (v := 3) hx hb dX11_rankOf_57 (by decide) ?_
    refine gm_aload_n (G := GM) (r := 1) C rfl dX11_rankOf_58 rfl (lv_at hl 1 rfl) ?_
    refine gm_getS (G := GM) (u := u_5) (r := 1) (ci := 10) (k := 39) C hw rfl fl_X11_93 dX11_rankOf_59 rfl (q := 29) rfl ?_
    refine lv_iconst (v := 0) hx hb dX11_rankOf_62 (by decide) ?_
    refine gm_iald (G := GM) (u := u_5) (r := 29) (n := 22) (i := (0 : Int32)) C hw rfl (by decide) (j := 0) (by decide) dX11_rankOf_63 ?_
    refine gm_aload_n (G := GM) (r := 1) C rfl dX11_rankOf_64 rfl (lv_at hl 1 rfl) ?_
    refine gm_getS (G := GM) (u := u_5) (r := 1) (ci := 10) (k := 13) C hw rfl fl_X11_23 dX11_rankOf_65 rfl (q := 6) rfl ?_
    refine lv_iload_n hx hb dX11_rankOf_68 rfl (lv_at hl 2 rfl) ?_
    refine gm_iald (G := GM) (u := u_5) (r := 6) (n := 12) (i := a1) C hw rfl g_4 rfl dX11_rankOf_69 ?_
    refine lv_isub hx hb dX11_rankOf_70 ?_
    refine gm_iast (G := GM) (u := u_5) (r := 22) (n := 20) (i := (3 : Int32)) (x := (gI u_5 29 0) - (gI u_5 6 (ix a1))) C hw rfl (by decide) (j := 3) (by decide) dX11_rankOf_71 (fun H locs hw => ?_)
    obtain ⟨u_6, e_u_6, hf⟩ := gm_le hf
    rw [← e_u_6] at hw
    refine gm_aload_n (G := GM) (r := 1) C rfl dX11_rankOf_72 rfl (lv_at hl 1 rfl) ?_
    refine gm_getS (G := GM) (u := u_6) (r := 1) (ci := 10) (k := 31) C hw rfl fl_X11_72 dX11_rankOf_73 rfl (q := 22) rfl ?_
    refine lv_iconst (v := 4) hx hb dX11_rankOf_76 (by decide) ?_
    refine gm_aload_n (G := GM) (r := 1) C rfl dX11_rankOf_77 rfl (lv_at hl 1 rfl) ?_
    refine gm_getS (G := GM) (u := u_6) (r := 1) (ci := 10) (k := 39) C hw rfl fl_X11_93 dX11_rankOf_78 rfl (q := 29) rfl ?_
    refine lv_bipush (v := 16) hx hb dX11_rankOf_81 (by decide) ?_
    refine lv_iload_n hx hb dX11_rankOf_83 rfl (lv_at hl 2 rfl) ?_
    refine lv_iadd hx hb dX11_rankOf_84 ?_
    obtain ⟨g_7, hf⟩ := gm_grd hf
    refine gm_iald (G := GM) (u := u_6) (r := 29) (n := 22) (i := (16 : Int32) + a1) C hw rfl g_7 rfl dX11_rankOf_85 ?_
    refine gm_iast (G := GM) (u := u_6) (r := 22) (n := 20) (i := (4 : Int32)) (x := gI u_6 29 (ix ((16 : Int32) + a1))) C hw rfl (by decide) (j := 4) (by decide) dX11_rankOf_86 (fun H locs hw => ?_)
    obtain ⟨u_8, e_u_8, hf⟩ := gm_le hf
    rw [← e_u_8] at hw
    refine gm_aload_n (G := GM) (r := 1) C rfl dX11_rankOf_87 rfl (lv_at hl 1 rfl) ?_
    refine lv_iconst (v := 0) hx hb dX11_rankOf_88 (by decide) ?_
    obtain ⟨⟨r_9, u_10⟩, hc_11, hf⟩ := gm_bnd hf
    try dsimp only at hf
    refine gm_callV (G := GM) (u := u_8) (u' := u_10) (r := 1) (ci := 10) (As := [.int (0 : Int32)]) (rest := []) (res := (some (.int r_9))) C hw hl (ok_X11_worked l Z (0 : Int32) u_8 r_9 u_10 hc_11) cw_X11_333 im_X11_worked rfl se_X11_worked rfl rfl rfl ⟨Nat.le_trans (Nat.le_of_ble_eq_true rfl) hRf, Nat.le_trans (Nat.le_of_ble_eq_true rfl) hRl⟩ rfl rfl (Nat.le_of_ble_eq_true rfl) dX11_rankOf_89 (fun H locs hw => ?_)
    exact gm_iret C E hw rfl ((congrArg (fun z => some (Value.int z)) (gm_sp hf).1).symm) (gm_sp hf).2.symm dX11_rankOf_92
  · replace hf := (if_pos hc).symm.trans hf
    refine lv_iload_n hx hb dX11_rankOf_32 rfl (lv_at hl 0 rfl) ?_
    exact gm_iret C E hw rfl ((congrArg (fun z => some (Value.int z)) (gm_sp hf).1).symm) (gm_sp hf).2.symm dX11_rankOf_33
