/-! LeapCapitalModel.isAhead -/
def j_X11_isAhead_30 (a1 : Int32) (a2 : Int32) (u : gm_M) (t_1 : Int32) (t_2 : Int32) : Option Int32 := if t_1 = t_2 then if ib a1 6 = true then if ib a2 6 = true then if (gI u 36 (ix a1)) ≤ (gI u 36 (ix a2)) then some (0 : Int32) else some (1 : Int32) else none else none else if ib a1 12 = true then if (gI u 5 (ix a1)) = (1 : Int32) then some (1 : Int32) else some (0 : Int32) else none
def j_X11_isAhead_15 (a1 : Int32) (a2 : Int32) (u : gm_M) (t_6 : Int32) : Option Int32 := if ib a2 12 = true then if (gI u 5 (ix a2)) = (1 : Int32) then j_X11_isAhead_30 a1 a2 u t_6 (1 : Int32) else j_X11_isAhead_30 a1 a2 u t_6 (0 : Int32) else none
def f_X11_isAhead (a1 : Int32) (a2 : Int32) (u : gm_M) : Option Int32 := if ib a1 12 = true then if (gI u 5 (ix a1)) = (1 : Int32) then j_X11_isAhead_15 a1 a2 u (1 : Int32) else j_X11_isAhead_15 a1 a2 u (0 : Int32) else none
set_option maxRecDepth 100000 in
set_option maxHeartbeats 4000000 in
theorem ok_X11_isAhead (l : Launch) (Z : gm_Z) (a1 : Int32) (a2 : Int32) (u : gm_M)  (r : Int32) (hf : f_X11_isAhead a1 a2 u = some r) : gm_Met l GM Z yX11_isAhead cX11_isAhead 3 (some .boolean) ({ frames := 0, cells := 0, slots := 0, locals := 0 }) [rv Z 1, .int a1, .int a2] u (some (.int r)) u := by
  unfold f_X11_isAhead at hf
  refine gm_ofW (by decide +kernel) (Nat.le_of_ble_eq_true rfl) ?_
  intro p e s m args below meth c A ls Q R hRf hRl C E hl hw
  obtain ⟨hx, hb, -⟩ := id C
  have hl : lv_has ls 3 [(0, rv Z 1), (1, .int a1), (2, .int a2)] := hl
  have J30 : ∀ (t_1 : Int32) (t_2 : Int32) (H : Heap) (locs : List Loc) (ls : Array Slot), j_X11_isAhead_30 a1 a2 u t_1 t_2 = some r → lv_has ls 3 [(0, rv Z 1), (1, .int a1), (2, .int a2)] → wd GM Z u A s.heap H locs → W p l e R s m args below meth c H locs 0 0 Q (F0 m 30 ls [.int t_2, .int t_1]) := by
    intro t_1 t_2 H locs ls hf  hl hw
    unfold j_X11_isAhead_30 at hf
    refine lv_icmp_eq (tgt := 49) hx hb dX11_isAhead_30 (by decide) (fun hc => ?_) (fun hc => ?_)
    · replace hf := (if_pos hc).symm.trans hf
      refine gm_aload_n (G := GM) (r := 1) C rfl dX11_isAhead_49 rfl (lv_at hl 0 rfl) ?_
      refine gm_getS (G := GM) (u := u) (r := 1) (ci := 10) (k := 48) C hw rfl fl_X11_114 dX11_isAhead_50 rfl (q := 36) rfl ?_
      refine lv_iload_n hx hb dX11_isAhead_53 rfl (lv_at hl 1 rfl) ?_
      obtain ⟨g_3, hf⟩ := gm_grd hf
      refine gm_iald (G := GM) (u := u) (r := 36) (n := 6) (i := a1) C hw rfl g_3 rfl dX11_isAhead_54 ?_
      refine gm_aload_n (G := GM) (r := 1) C rfl dX11_isAhead_55 rfl (lv_at hl 0 rfl) ?_
      refine gm_getS (G := GM) (u := u) (r := 1) (ci := 10) (k := 48) C hw rfl fl_X11_114 dX11_isAhead_56 rfl (q := 36) rfl ?_
      refine lv_iload_n hx hb dX11_isAhead_59 rfl (lv_at hl 2 rfl) ?_
      obtain ⟨g_4, hf⟩ := gm_grd hf
      refine gm_iald (G := GM) (u := u) (r := 36) (n := 6) (i := a2) C hw rfl g_4 rfl dX11_isAhead_60 ?_
      refine lv_icmp_le (tgt := 68) hx hb dX11_isAhead_61 (by decide) (fun hc => ?_) (fun hc => ?_)
      · replace hf := (if_pos hc).symm.trans hf
        refine lv_iconst (v := 0) hx hb dX11_isAhead_68 (by decide) ?_
        exact gm_zret C E hw rfl rfl ((congrArg (fun z => some (Value.int z)) (Option.some.inj hf)).symm) rfl dX11_isAhead_69
      · replace hf := (if_neg hc).symm.trans hf
        refine lv_iconst (v := 1) hx hb dX11_isAhead_64 (by decide) ?_
        refine lv_goto (tgt := 69) hx hb dX11_isAhead_65 (by decide) ?_
        exact gm_zret C E hw rfl rfl ((congrArg (fun z => some (Value.int z)) (Option.some.inj hf)).symm) rfl dX11_isAhead_69
    · replace hf := (if_neg hc).symm.trans hf
      refine gm_aload_n (G := GM) (r := 1) C rfl dX11_isAhead_33 rfl (lv_at hl 0 rfl) ?_
      refine gm_getS (G := GM) (u := u) (r := 1) (ci := 10) (k := 12) C hw rfl fl_X11_20 dX11_isAhead_34 rfl (q := 5) rfl ?_
      refine lv_iload_n hx hb dX11_isAhead_37 rfl (lv_at hl 1 rfl) ?_
      obtain ⟨g_5, hf⟩ := gm_grd hf
      refine gm_iald (G := GM) (u := u) (r := 5) (n := 12) (i := a1) C hw rfl g_5 rfl dX11_isAhead_38 ?_
      refine lv_iconst (v := 1) hx hb dX11_isAhead_39 (by decide) ?_
      refine lv_icmp_ne (tgt := 47) hx hb dX11_isAhead_40 (by decide) (fun hc => ?_) (fun hc => ?_)
      · replace hf := (if_neg hc).symm.trans hf
        refine lv_iconst (v := 0) hx hb dX11_isAhead_47 (by decide) ?_
        exact gm_zret C E hw rfl rfl ((congrArg (fun z => some (Value.int z)) (Option.some.inj hf)).symm) rfl dX11_isAhead_48
      · replace hf := (if_pos hc).symm.trans hf
        refine lv_iconst (v := 1) hx hb dX11_isAhead_43 (by decide) ?_
        refine lv_goto (tgt := 48) hx hb dX11_isAhead_44 (by decide) ?_
        exact gm_zret C E hw rfl rfl ((congrArg (fun z => some (Value.int z)) (Option.some.inj hf)).symm) rfl dX11_isAhead_48
  have J15 : ∀ (t_6 : Int32) (H : Heap) (locs : List Loc) (ls : Array Slot), j_X11_isAhead_15 a1 a2 u t_6 = some r → lv_has ls 3 [(0, rv Z 1), (1, .int a1), (2, .int a2)] → wd GM Z u A s.heap H locs → W p l e R s m args below meth c H locs 0 0 Q (F0 m 15 ls [.int t_6]) := by
    intro t_6 H locs ls hf  hl hw
    unfold j_X11_isAhead_15 at hf
    refine gm_aload_n (G := GM) (r := 1) C rfl dX11_isAhead_15 rfl (lv_at hl 0 rfl) ?_
    refine gm_getS (G := GM) (u := u) (r := 1) (ci := 10) (k := 12) C hw rfl fl_X11_20 dX11_isAhead_16 rfl (q := 5) rfl ?_
    refine lv_iload_n hx hb dX11_isAhead_19 rfl (lv_at hl 2 rfl) ?_
    obtain ⟨g_7, hf⟩ := gm_grd hf
    refine gm_iald (G := GM) (u := u) (r := 5) (n := 12) (i := a2) C hw rfl g_7 rfl dX11_isAhead_20 ?_
    refine lv_iconst (v := 1) hx hb dX11_isAhead_21 (by decide) ?_
    refine lv_icmp_ne (tgt := 29) hx hb dX11_isAhead_22 (by decide) (fun hc => ?_) (fun hc => ?_)
    · replace hf := (if_neg hc).symm.trans hf
      refine lv_iconst (v := 0) hx hb dX11_isAhead_29 (by decide) ?_
      exact J30 t_6 (0 : Int32) _ _ _ hf  (lv_sub hl [0, 1, 2] rfl) hw
    · replace hf := (if_pos hc).symm.trans hf
      refine lv_iconst (v := 1) hx hb dX11_isAhead_25 (by decide) ?_
      refine lv_goto (tgt := 30) hx hb dX11_isAhead_26 (by decide) ?_
      exact J30 t_6 (1 : Int32) _ _ _ hf  (lv_sub hl [0, 1, 2] rfl) hw
  refine gm_aload_n (G := GM) (r := 1) C rfl dX11_isAhead_0 rfl (lv_at hl 0 rfl) ?_
  refine gm_getS (G := GM) (u := u) (r := 1) (ci := 10) (k := 12) C hw rfl fl_X11_20 dX11_isAhead_1 rfl (q := 5) rfl ?_
  refine lv_iload_n hx hb dX11_isAhead_4 rfl (lv_at hl 1 rfl) ?_
  obtain ⟨g_8, hf⟩ := gm_grd hf
  refine gm_iald (G := GM) (u := u) (r := 5) (n := 12) (i := a1) C hw rfl g_8 rfl dX11_isAhead_5 ?_
  refine lv_iconst (v := 1) hx hb dX11_isAhead_6 (by decide) ?_
  refine lv_icmp_ne (tgt := 14) hx hb dX11_isAhead_7 (by decide) (fun hc => ?_) (fun hc => ?_)
  · replace hf := (if_neg hc).symm.trans hf
    refine lv_iconst (v := 0) hx hb dX11_isAhead_14 (by decide) ?_
    exact J15 (0 : Int32) _ _ _ hf  (lv_sub hl [0, 1, 2] rfl) hw
  · replace hf := (if_pos hc).symm.trans hf
    refine lv_iconst (v := 1) hx hb dX11_isAhead_10 (by decide) ?_
    refine lv_goto (tgt := 15) hx hb dX11_isAhead_11 (by decide) ?_
    exact J15 (1 : Int32) _ _ _ hf  (lv_sub hl [0, 1, 2] rfl) hw
/-! LeapCapitalModel.calls -/
def j_X11_calls_74 (v1_4 : Int32) (v2_5 : Int32) (v3_6 : Int32) (u_3 : gm_M) : Option ((Int32 × gm_M) ⊕ gm_M) := if ib v3_6 6 = true then gm_let (sI u_3 35 (ix v3_6) v2_5) fun u_8 => some (.inl (v1_4 + (1 : Int32), u_8)) else none
def b_X11_calls_34 (v1_2 : Int32) (v2_10 : Int32) : (Int32 × gm_M) → Option ((Int32 × gm_M) ⊕ ((Int32 × gm_M))) := fun x => match x with | (v3_18, u_17) => if v3_18 ≤ 0 then some (.inr (v3_18, u_17)) else if ib (v3_18 - (1 : Int32)) 6 = true then (f_X11_isAhead v2_10 (gI u_17 35 (ix (v3_18 - (1 : Int32)))) u_17).bind fun r_20 => if r_20 = 0 then some (.inr (v3_18, u_17)) else if ib v3_18 6 = true then gm_let (sI u_17 35 (ix v3_18) (gI u_17 35 (ix (v3_18 - (1 : Int32))))) fun u_23 => some (.inl (v3_18 + (-1 : Int32), u_23)) else none else none
def b_X11_calls_2 : (Int32 × gm_M) → Option ((Int32 × gm_M) ⊕ gm_M) := fun x => match x with | (v1_2, u_1) => if (gI u_1 29 2) ≤ v1_2 then some (.inr u_1) else if ib ((4 : Int32) + v1_2) 22 = true then gm_let (gI u_1 29 (ix ((4 : Int32) + v1_2))) fun v2_10 => (f_X11_rankOf v2_10 u_1).bind fun o => match o with | (r_11, u_12) => if ib v2_10 6 = true then gm_let (sI u_12 36 (ix v2_10) r_11) fun u_16 => ((gm_lp (b_X11_calls_34 v1_2 v2_10) gm_FU (v1_2, u_16)).bind fun o => match o with | (w3_24, u_25) => j_X11_calls_74 v1_2 v2_10 w3_24 u_25) else none else none
def f_X11_calls  (u : gm_M) : Option gm_M := ((gm_lp (b_X11_calls_2) gm_FU ((0 : Int32), u)).bind fun o => match o with | u_26 => some u_26)
set_option maxRecDepth 100000 in
set_option maxHeartbeats 4000000 in
theorem ok_X11_calls (l : Launch) (Z : gm_Z)  (u : gm_M)  (u' : gm_M) (hf : f_X11_calls u = some (u')) : gm_Met l GM Z yX11_calls cX11_calls 4 none ({ frames := 4, cells := 0, slots := 0, locals := 90 }) [rv Z 1] u none u' := by
  unfold f_X11_calls at hf
  refine gm_ofW (by decide +kernel) (Nat.le_of_ble_eq_true rfl) ?_
  intro p e s m args below meth c A ls Q R hRf hRl C E hl hw
  obtain ⟨hx, hb, -⟩ := id C
  have hl : lv_has ls 4 [(0, rv Z 1)] := hl
  refine lv_iconst (v := 0) hx hb dX11_calls_0 (by decide) ?_
  refine lv_istore_n (i := 1) (lv' := [(1, .int (0 : Int32)), (0, rv Z 1)]) hx hb dX11_calls_1 rfl hl (by decide) rfl (fun ls hl => ?_)
  obtain ⟨o1, hlp, hf⟩ := gm_bnd hf
  have L2_2 := gm_loop (b_X11_calls_2) (fun x : (Int32 × gm_M) => ∀ (H : Heap) (locs : List Loc) (ls : Array Slot), lv_has ls 4 [(0, rv Z 1), (1, .int x.1)] → wd GM Z x.2 A s.heap H locs → W p l e R s m args below meth c H locs 0 0 Q (F0 m 2 ls [])) (fun z : gm_M => ∀ (H : Heap) (locs : List Loc) (ls : Array Slot), lv_has ls 4 [] → wd GM Z z A s.heap H locs → W p l e R s m args below meth c H locs 0 0 Q (F0 m 87 ls [])) (by
    intro x o1 hf Kc Kx
    obtain ⟨v1_2, u_1⟩ := x
    intro H locs ls hl hw
    unfold b_X11_calls_2 at hf
    try dsimp only at hf
    have J74 : ∀ (v1_4 : Int32) (v2_5 : Int32) (v3_6 : Int32) (u_3 : gm_M) (H : Heap) (locs : List Loc) (ls : Array Slot), j_X11_calls_74 v1_4 v2_5 v3_6 u_3 = some o1 → lv_has ls 4 [(0, rv Z 1), (1, .int v1_4), (2, .int v2_5), (3, .int v3_6)] → wd GM Z u_3 A s.heap H locs → W p l e R s m args below meth c H locs 0 0 Q (F0 m 74 ls []) := by
      intro v1_4 v2_5 v3_6 u_3 H locs ls hf  hl hw
      unfold j_X11_calls_74 at hf
      refine gm_aload_n (G := GM) (r := 1) C rfl dX11_calls_74 rfl (lv_at hl 0 rfl) ?_
      refine gm_getS (G := GM) (u := u_3) (r := 1) (ci := 10) (k := 47) C hw rfl fl_X11_111 dX11_calls_75 rfl (q := 35) rfl ?_
      refine lv_iload_n hx hb dX11_calls_78 rfl (lv_at hl 3 rfl) ?_
      refine lv_iload_n hx hb dX11_calls_79 rfl (lv_at hl 2 rfl) ?_
      obtain ⟨g_7, hf⟩ := gm_grd hf
      refine gm_iast (G := GM) (u := u_3) (r := 35) (n := 6) (i := v3_6) (x := v2_5) C hw rfl g_7 rfl dX11_calls_80 (fun H locs hw => ?_)
      obtain ⟨u_8, e_u_8, hf⟩ := gm_le hf
      rw [← e_u_8] at hw
      refine lv_iinc (v := v1_4 + (1 : Int32)) (lv' := [(1, .int (v1_4 + (1 : Int32))), (0, rv Z 1), (2, .int v2_5), (3, .int v3_6)]) hx hb dX11_calls_81 hl (k := 1) rfl rfl (by decide) rfl (fun ls hl => ?_)
      refine lv_goto (tgt := 2) hx hb dX11_calls_84 (by decide) ?_
      exact Kc _ (gm_si hf) _ _ _ (lv_sub hl [1, 0] rfl) hw
    refine lv_iload_n hx hb dX11_calls_2 rfl (lv_at hl 1 rfl) ?_
    refine gm_aload_n (G := GM) (r := 1) C rfl dX11_calls_3 rfl (lv_at hl 0 rfl) ?_
    refine gm_getS (G := GM) (u := u_1) (r := 1) (ci := 10) (k := 39) C hw rfl fl_X11_93 dX11_calls_4 rfl (q := 29) rfl ?_
    refine lv_iconst (v := 2) hx hb dX11_calls_7 (by decide) ?_
    refine gm_iald (G := GM) (u := u_1) (r := 29) (n := 22) (i := (2 : Int32)) C hw rfl (by decide) (j := 2) (by decide) dX11_calls_8 ?_
    refine lv_icmp_ge (tgt := 87) hx hb dX11_calls_9 (by decide) (fun hc => ?_) (fun hc => ?_)
    · replace hf := (if_pos hc).symm.trans hf
      exact Kx _ (gm_si hf) _ _ _ (lv_sub hl [] rfl) hw
    · replace hf := (if_neg hc).symm.trans hf
      refine gm_aload_n (G := GM) (r := 1) C rfl dX11_calls_12 rfl (lv_at hl 0 rfl) ?_
      refine gm_getS (G := GM) (u := u_1) (r := 1) (ci := 10) (k := 39) C hw rfl fl_X11_93 dX11_calls_13 rfl (q := 29) rfl ?_
      refine lv_iconst (v := 4) hx hb dX11_calls_16 (by decide) ?_
      refine lv_iload_n hx hb dX11_calls_17 rfl (lv_at hl 1 rfl) ?_
      refine lv_iadd hx hb dX11_calls_18 ?_
      obtain ⟨g_9, hf⟩ := gm_grd hf
      refine gm_iald (G := GM) (u := u_1) (r := 29) (n := 22) (i := (4 : Int32) + v1_2) C hw rfl g_9 rfl dX11_calls_19 ?_
      obtain ⟨v2_10, e_v2_10, hf⟩ := gm_le hf
      refine gm_topI e_v2_10 ?_
      refine lv_istore_n (i := 2) (lv' := [(2, .int v2_10), (0, rv Z 1), (1, .int v1_2)]) hx hb dX11_calls_20 rfl hl (by decide) rfl (fun ls hl => ?_)
      refine gm_aload_n (G := GM) (r := 1) C rfl dX11_calls_21 rfl (lv_at hl 1 rfl) ?_
      refine gm_getS (G := GM) (u := u_1) (r := 1) (ci := 10) (k := 48) C hw rfl fl_X11_114 dX11_calls_22 rfl (q := 36) rfl ?_
      refine lv_iload_n hx hb dX11_calls_25 rfl (lv_at hl 0 rfl) ?_
      refine gm_aload_n (G := GM) (r := 1) C rfl dX11_calls_26 rfl (lv_at hl 1 rfl) ?_
      refine lv_iload_n hx hb dX11_calls_27 rfl (lv_at hl 0 rfl) ?_
      obtain ⟨⟨r_11, u_12⟩, hc_13, hf⟩ := gm_bnd hf
      try dsimp only at hf
      refine gm_callV (G := GM) (u := u_1) (u' := u_12) (r := 1) (ci := 10) (As := [.int v2_10]) (rest := [.int v2_10, rv Z 36]) (res := (some (.int r_11))) C hw hl (ok_X11_rankOf l Z v2_10 u_1 r_11 u_12 hc_13) cw_X11_336 im_X11_rankOf rfl se_X11_rankOf rfl rfl rfl ⟨Nat.le_trans (Nat.le_of_ble_eq_true rfl) hRf, Nat.le_trans (Nat.le_of_ble_eq_true rfl) hRl⟩ rfl rfl (Nat.le_of_ble_eq_true rfl) dX11_calls_28 (fun H locs hw => ?_)
      obtain ⟨g_15, hf⟩ := gm_grd hf
      refine gm_iast (G := GM) (u := u_12) (r := 36) (n := 6) (i := v2_10) (x := r_11) C hw rfl g_15 rfl dX11_calls_31 (fun H locs hw => ?_)
      obtain ⟨u_16, e_u_16, hf⟩ := gm_le hf
      rw [← e_u_16] at hw
      refine lv_iload_n hx hb dX11_calls_32 rfl (lv_at hl 2 rfl) ?_
      refine lv_istore_n (i := 3) (lv' := [(3, .int v1_2), (2, .int v2_10), (0, rv Z 1), (1, .int v1_2)]) hx hb dX11_calls_33 rfl hl (by decide) rfl (fun ls hl => ?_)
      obtain ⟨o2, hlp, hf⟩ := gm_bnd hf
      have L34_2 := gm_loop (b_X11_calls_34 v1_2 v2_10) (fun x : (Int32 × gm_M) => ∀ (H : Heap) (locs : List Loc) (ls : Array Slot), lv_has ls 4 [(0, rv Z 1), (1, .int v1_2), (2, .int v2_10), (3, .int x.1)] → wd GM Z x.2 A s.heap H locs → W p l e R s m args below meth c H locs 0 0 Q (F0 m 34 ls [])) (fun z : ((Int32 × gm_M)) => ∀ (H : Heap) (locs : List Loc) (ls : Array Slot), lv_has ls 4 [(0, rv Z 1), (1, .int v1_2), (2, .int v2_10), (3, .int z.1)] → wd GM Z z.2 A s.heap H locs → W p l e R s m args below meth c H locs 0 0 Q (F0 m 74 ls [])) (by
        intro x o2 hf Kc Kx
        obtain ⟨v3_18, u_17⟩ := x
        intro H locs ls hl hw
        unfold b_X11_calls_34 at hf
        try dsimp only at hf
        refine lv_iload_n hx hb dX11_calls_34 rfl (lv_at hl 3 rfl) ?_
        refine lv_if_le (tgt := 74) hx hb dX11_calls_35 (by decide) (fun hc => ?_) (fun hc => ?_)
        · replace hf := (if_pos hc).symm.trans hf
          exact Kx _ (gm_si hf) _ _ _ (lv_sub hl [0, 1, 2, 3] rfl) hw
        · replace hf := (if_neg hc).symm.trans hf
          refine gm_aload_n (G := GM) (r := 1) C rfl dX11_calls_38 rfl (lv_at hl 0 rfl) ?_
          refine lv_iload_n hx hb dX11_calls_39 rfl (lv_at hl 2 rfl) ?_
          refine gm_aload_n (G := GM) (r := 1) C rfl dX11_calls_40 rfl (lv_at hl 0 rfl) ?_
          refine gm_getS (G := GM) (u := u_17) (r := 1) (ci := 10) (k := 47) C hw rfl fl_X11_111 dX11_calls_41 rfl (q := 35) rfl ?_
          refine lv_iload_n hx hb dX11_calls_44 rfl (lv_at hl 3 rfl) ?_
          refine lv_iconst (v := 1) hx hb dX11_calls_45 (by decide) ?_
          refine lv_isub hx hb dX11_calls_46 ?_
          obtain ⟨g_19, hf⟩ := gm_grd hf
          refine gm_iald (G := GM) (u := u_17) (r := 35) (n := 6) (i := v3_18 - (1 : Int32)) C hw rfl g_19 rfl dX11_calls_47 ?_
          obtain ⟨r_20, hc_21, hf⟩ := gm_bnd hf
          refine gm_callV (G := GM) (u := u_17) (u' := u_17) (r := 1) (ci := 10) (As := [.int v2_10, .int (gI u_17 35 (ix (v3_18 - (1 : Int32))))]) (rest := []) (res := (some (.int r_20))) C hw hl (ok_X11_isAhead l Z v2_10 (gI u_17 35 (ix (v3_18 - (1 : Int32)))) u_17 r_20 hc_21) cw_X11_339 im_X11_isAhead rfl se_X11_isAhead rfl rfl rfl ⟨Nat.le_trans (Nat.le_of_ble_eq_true rfl) hRf, Nat.le_trans (Nat.le_of_ble_eq_true rfl) hRl⟩ rfl rfl (Nat.le_of_ble_eq_true rfl) dX11_calls_48 (fun H locs hw => ?_)
          refine lv_if_eq (tgt := 74) hx hb dX11_calls_51 (by decide) (fun hc => ?_) (fun hc => ?_)
          · replace hf := (if_pos hc).symm.trans hf
            exact Kx _ (gm_si hf) _ _ _ (lv_sub hl [0, 1, 2, 3] rfl) hw
          · replace hf := (if_neg hc).symm.trans hf
            refine gm_aload_n (G := GM) (r := 1) C rfl dX11_calls_54 rfl (lv_at hl 0 rfl) ?_
            refine gm_getS (G := GM) (u := u_17) (r := 1) (ci := 10) (k := 47) C hw rfl fl_X11_111 dX11_calls_55 rfl (q := 35) rfl ?_
            refine lv_iload_n hx hb dX11_calls_58 rfl (lv_at hl 3 rfl) ?_
            refine gm_aload_n (G := GM) (r := 1) C rfl dX11_calls_59 rfl (lv_at hl 0 rfl) ?_
            refine gm_getS (G := GM) (u := u_17) (r := 1) (ci := 10) (k := 47) C hw rfl fl_X11_111 dX11_calls_60 rfl (q := 35) rfl ?_
            refine lv_iload_n hx hb dX11_calls_63 rfl (lv_at hl 3 rfl) ?_
            refine lv_iconst (v := 1) hx hb dX11_calls_64 (by decide) ?_
            refine lv_isub hx hb dX11_calls_65 ?_
            refine gm_iald (G := GM) (u := u_17) (r := 35) (n := 6) (i := v3_18 - (1 : Int32)) C hw rfl g_19 rfl dX11_calls_66 ?_
            obtain ⟨g_22, hf⟩ := gm_grd hf
            refine gm_iast (G := GM) (u := u_17) (r := 35) (n := 6) (i := v3_18) (x := gI u_17 35 (ix (v3_18 - (1 : Int32)))) C hw rfl g_22 rfl dX11_calls_67 (fun H locs hw => ?_)
            obtain ⟨u_23, e_u_23, hf⟩ := gm_le hf
            rw [← e_u_23] at hw
            refine lv_iinc (v := v3_18 + (-1 : Int32)) (lv' := [(3, .int (v3_18 + (-1 : Int32))), (0, rv Z 1), (1, .int v1_2), (2, .int v2_10)]) hx hb dX11_calls_68 hl (k := 3) rfl rfl (by decide) rfl (fun ls hl => ?_)
            refine lv_goto (tgt := 34) hx hb dX11_calls_71 (by decide) ?_
            exact Kc _ (gm_si hf) _ _ _ (lv_sub hl [1, 2, 3, 0] rfl) hw)
      refine L34_2 _ _ _ hlp ?_ _ _ _ (lv_sub hl [2, 3, 1, 0] rfl) hw
      obtain ⟨w3_24, u_25⟩ := o2
      intro H locs ls hl hw
      try dsimp only at hf
      exact J74 v1_2 v2_10 w3_24 u_25 _ _ _ hf  (lv_sub hl [0, 1, 2, 3] rfl) hw)
  refine L2_2 _ _ _ hlp ?_ _ _ _ (lv_sub hl [1, 0] rfl) hw
  obtain ⟨u_26, rfl⟩ : ∃ y, y = o1 := ⟨_, rfl⟩
  intro H locs ls hl hw
  try dsimp only at hf
  exact gm_vret C E hw rfl rfl (Option.some.inj hf).symm dX11_calls_87
/-! LeapCapitalModel.asksOf -/
def f_X11_asksOf (a1 : Int32) (a2 : Int32) (u : gm_M) : Option Int32 := if ib a1 12 = true then if (gI u 5 (ix a1)) = (3 : Int32) then if a2 = 0 then some (gI u 7 (ix a1)) else gm_let (if (1 : Int32) < ((gI u 7 (ix a1)) / (2 : Int32)) then ((gI u 7 (ix a1)) / (2 : Int32)) else (1 : Int32)) fun v_2 => some v_2 else some (gI u 7 (ix a1)) else none
set_option maxRecDepth 100000 in
set_option maxHeartbeats 4000000 in
theorem ok_X11_asksOf (l : Launch) (Z : gm_Z) (a1 : Int32) (a2 : Int32) (u : gm_M)  (r : Int32) (hf : f_X11_asksOf a1 a2 u = some r) : gm_Met l GM Z yX11_asksOf cX11_asksOf 3 (some .int) ({ frames := 1, cells := 0, slots := 0, locals := 32 }) [rv Z 1, .int a1, .int a2] u (some (.int r)) u := by
  unfold f_X11_asksOf at hf
  refine gm_ofW (by decide +kernel) (Nat.le_of_ble_eq_true rfl) ?_
  intro p e s m args below meth c A ls Q R hRf hRl C E hl hw
  obtain ⟨hx, hb, -⟩ := id C
  have hl : lv_has ls 3 [(0, rv Z 1), (1, .int a1), (2, .int a2)] := hl
  refine gm_aload_n (G := GM) (r := 1) C rfl dX11_asksOf_0 rfl (lv_at hl 0 rfl) ?_
  refine gm_getS (G := GM) (u := u) (r := 1) (ci := 10) (k := 12) C hw rfl fl_X11_20 dX11_asksOf_1 rfl (q := 5) rfl ?_
  refine lv_iload_n hx hb dX11_asksOf_4 rfl (lv_at hl 1 rfl) ?_
  obtain ⟨g_1, hf⟩ := gm_grd hf
  refine gm_iald (G := GM) (u := u) (r := 5) (n := 12) (i := a1) C hw rfl g_1 rfl dX11_asksOf_5 ?_
  refine lv_iconst (v := 3) hx hb dX11_asksOf_6 (by decide) ?_
  refine lv_icmp_ne (tgt := 14) hx hb dX11_asksOf_7 (by decide) (fun hc => ?_) (fun hc => ?_)
  · replace hf := (if_neg hc).symm.trans hf
    refine gm_aload_n (G := GM) (r := 1) C rfl dX11_asksOf_14 rfl (lv_at hl 0 rfl) ?_
    refine gm_getS (G := GM) (u := u) (r := 1) (ci := 10) (k := 14) C hw rfl fl_X11_26 dX11_asksOf_15 rfl (q := 7) rfl ?_
    refine lv_iload_n hx hb dX11_asksOf_18 rfl (lv_at hl 1 rfl) ?_
    refine gm_iald (G := GM) (u := u) (r := 7) (n := 12) (i := a1) C hw rfl g_1 rfl dX11_asksOf_19 ?_
    exact gm_iret C E hw rfl ((congrArg (fun z => some (Value.int z)) (Option.some.inj hf)).symm) rfl dX11_asksOf_20
  · replace hf := (if_pos hc).symm.trans hf
    refine lv_iload_n hx hb dX11_asksOf_10 rfl (lv_at hl 2 rfl) ?_
    refine lv_if_ne (tgt := 21) hx hb dX11_asksOf_11 (by decide) (fun hc => ?_) (fun hc => ?_)
    · replace hf := (if_neg hc).symm.trans hf
      refine lv_iconst (v := 1) hx hb dX11_asksOf_21 (by decide) ?_
      refine gm_aload_n (G := GM) (r := 1) C rfl dX11_asksOf_22 rfl (lv_at hl 0 rfl) ?_
      refine gm_getS (G := GM) (u := u) (r := 1) (ci := 10) (k := 14) C hw rfl fl_X11_26 dX11_asksOf_23 rfl (q := 7) rfl ?_
      refine lv_iload_n hx hb dX11_asksOf_26 rfl (lv_at hl 1 rfl) ?_
      refine gm_iald (G := GM) (u := u) (r := 7) (n := 12) (i := a1) C hw rfl g_1 rfl dX11_asksOf_27 ?_
      refine lv_iconst (v := 2) hx hb dX11_asksOf_28 (by decide) ?_
      refine lv_idiv hx hb dX11_asksOf_29 (by decide) ?_
      refine gm_max C hl mw_X11_342 (Nat.le_trans (Nat.le_of_ble_eq_true rfl) hRf) (Nat.le_trans (Nat.le_of_ble_eq_true rfl) hRl) (Nat.le_of_ble_eq_true rfl) dX11_asksOf_30 ?_
      obtain ⟨v_2, e_v_2, hf⟩ := gm_le hf
      refine gm_topI e_v_2 ?_
      exact gm_iret C E hw rfl ((congrArg (fun z => some (Value.int z)) (Option.some.inj hf)).symm) rfl dX11_asksOf_33
    · replace hf := (if_pos hc).symm.trans hf
      refine gm_aload_n (G := GM) (r := 1) C rfl dX11_asksOf_14 rfl (lv_at hl 0 rfl) ?_
      refine gm_getS (G := GM) (u := u) (r := 1) (ci := 10) (k := 14) C hw rfl fl_X11_26 dX11_asksOf_15 rfl (q := 7) rfl ?_
      refine lv_iload_n hx hb dX11_asksOf_18 rfl (lv_at hl 1 rfl) ?_
      refine gm_iald (G := GM) (u := u) (r := 7) (n := 12) (i := a1) C hw rfl g_1 rfl dX11_asksOf_19 ?_
      exact gm_iret C E hw rfl ((congrArg (fun z => some (Value.int z)) (Option.some.inj hf)).symm) rfl dX11_asksOf_20
/-! LeapCapitalModel.holdsDay -/
def j_X11_holdsDay_110 (v1_3 : Int32) (v2_12 : Int32) (v4_13 : Int32) (v5_14 : Int32) (t_15 : Int32) (u_11 : gm_M) : Option ((Int32 × Int32 × Int32 × gm_M) ⊕ ((Int32 × gm_M))) := gm_let (sI u_11 29 3 ((gI u_11 29 3) ||| ((1 : Int32) <<< (v5_14 &&& 31)))) fun u_16 => (f_X11_leaves v5_14 u_16).bind fun u_17 => some (.inl (v2_12, t_15, v4_13 + (1 : Int32), u_17))
def j_X11_holdsDay_105 (v1_3 : Int32) (v2_20 : Int32) (v4_21 : Int32) (v5_22 : Int32) (u_19 : gm_M) : Option ((Int32 × Int32 × Int32 × gm_M) ⊕ ((Int32 × gm_M))) := j_X11_holdsDay_110 v1_3 v2_20 v4_21 v5_22 (1 : Int32) u_19
def b_X11_holdsDay_38 (v1_3 : Int32) : (Int32 × Int32 × Int32 × gm_M) → Option ((Int32 × Int32 × Int32 × gm_M) ⊕ ((Int32 × gm_M))) := fun x => match x with | (v2_8, v3_9, v4_10, u_7) => if v1_3 ≤ v4_10 then some (.inr (v2_8, u_7)) else if ib v4_10 6 = true then gm_let (gI u_7 35 (ix v4_10)) fun v5_24 => (f_X11_asksOf v5_24 v3_9 u_7).bind fun r_25 => if ib ((16 : Int32) + v5_24) 22 = true then gm_let (sI u_7 29 (ix ((16 : Int32) + v5_24)) ((gI u_7 29 (ix ((16 : Int32) + v5_24))) + (1 : Int32))) fun u_28 => if r_25 ≤ v2_8 then gm_let (v2_8 - r_25) fun v2_29 => if v3_9 = 0 then if ib v5_24 12 = true then if (gI u_28 5 (ix v5_24)) = (3 : Int32) then j_X11_holdsDay_105 v1_3 v2_29 v4_10 v5_24 u_28 else j_X11_holdsDay_110 v1_3 v2_29 v4_10 v5_24 (0 : Int32) u_28 else none else j_X11_holdsDay_105 v1_3 v2_29 v4_10 v5_24 u_28 else some (.inl (v2_8, v3_9, v4_10 + (1 : Int32), u_28)) else none else none
def f_X11_holdsDay  (u : gm_M) : Option gm_M := (f_X11_calls u).bind fun u_1 => gm_let (gI u_1 29 2) fun v1_3 => gm_let ((gI u_1 1 49) + (gI u_1 29 1)) fun v2_4 => gm_let (sI u_1 1 50 v1_3) fun u_5 => gm_let (sI u_5 1 51 v2_4) fun u_6 => ((gm_lp (b_X11_holdsDay_38 v1_3) gm_FU (v2_4, (0 : Int32), (0 : Int32), u_6)).bind fun o => match o with | (w2_31, u_32) => gm_let (sI u_32 29 1 (0 : Int32)) fun u_33 => gm_let (sI u_33 1 51 ((gI u_33 1 51) - w2_31)) fun u_34 => some u_34)
set_option maxRecDepth 100000 in
set_option maxHeartbeats 4000000 in
theorem ok_X11_holdsDay (l : Launch) (Z : gm_Z)  (u : gm_M)  (u' : gm_M) (hf : f_X11_holdsDay u = some (u')) : gm_Met l GM Z yX11_holdsDay cX11_holdsDay 7 none ({ frames := 5, cells := 0, slots := 0, locals := 113 }) [rv Z 1] u none u' := by
  unfold f_X11_holdsDay at hf
  refine gm_ofW (by decide +kernel) (Nat.le_of_ble_eq_true rfl) ?_
  intro p e s m args below meth c A ls Q R hRf hRl C E hl hw
  obtain ⟨hx, hb, -⟩ := id C
  have hl : lv_has ls 7 [(0, rv Z 1)] := hl
  refine gm_aload_n (G := GM) (r := 1) C rfl dX11_holdsDay_0 rfl (lv_at hl 0 rfl) ?_
  obtain ⟨u_1, hc_2, hf⟩ := gm_bnd hf
  refine gm_callV (G := GM) (u := u) (u' := u_1) (r := 1) (ci := 10) (As := []) (rest := []) (res := none) C hw hl (ok_X11_calls l Z u u_1 hc_2) cw_X11_348 im_X11_calls rfl se_X11_calls rfl rfl rfl ⟨Nat.le_trans (Nat.le_of_ble_eq_true rfl) hRf, Nat.le_trans (Nat.le_of_ble_eq_true rfl) hRl⟩ rfl rfl (Nat.le_of_ble_eq_true rfl) dX11_holdsDay_1 (fun H locs hw => ?_)
  refine gm_aload_n (G := GM) (r := 1) C rfl dX11_holdsDay_4 rfl (lv_at hl 0 rfl) ?_
  refine gm_getS (G := GM) (u := u_1) (r := 1) (ci := 10) (k := 39) C hw rfl fl_X11_93 dX11_holdsDay_5 rfl (q := 29) rfl ?_
  refine lv_iconst (v := 2) hx hb dX11_holdsDay_8 (by decide) ?_
  refine gm_iald (G := GM) (u := u_1) (r := 29) (n := 22) (i := (2 : Int32)) C hw rfl (by decide) (j := 2) (by decide) dX11_holdsDay_9 ?_
  obtain ⟨v1_3, e_v1_3, hf⟩ := gm_le hf
  refine gm_topI e_v1_3 ?_
  refine lv_istore_n (i := 1) (lv' := [(1, .int v1_3), (0, rv Z 1)]) hx hb dX11_holdsDay_10 rfl hl (by decide) rfl (fun ls hl => ?_)
  refine gm_aload_n (G := GM) (r := 1) C rfl dX11_holdsDay_11 rfl (lv_at hl 1 rfl) ?_
  refine gm_getI (G := GM) (u := u_1) (r := 1) (ci := 10) (k := 49) C hw rfl fl_X11_117 dX11_holdsDay_12 rfl ?_
  refine gm_aload_n (G := GM) (r := 1) C rfl dX11_holdsDay_15 rfl (lv_at hl 1 rfl) ?_
  refine gm_getS (G := GM) (u := u_1) (r := 1) (ci := 10) (k := 39) C hw rfl fl_X11_93 dX11_holdsDay_16 rfl (q := 29) rfl ?_
  refine lv_iconst (v := 1) hx hb dX11_holdsDay_19 (by decide) ?_
  refine gm_iald (G := GM) (u := u_1) (r := 29) (n := 22) (i := (1 : Int32)) C hw rfl (by decide) (j := 1) (by decide) dX11_holdsDay_20 ?_
  refine lv_iadd hx hb dX11_holdsDay_21 ?_
  obtain ⟨v2_4, e_v2_4, hf⟩ := gm_le hf
  refine gm_topI e_v2_4 ?_
  refine lv_istore_n (i := 2) (lv' := [(2, .int v2_4), (1, .int v1_3), (0, rv Z 1)]) hx hb dX11_holdsDay_22 rfl hl (by decide) rfl (fun ls hl => ?_)
  refine gm_aload_n (G := GM) (r := 1) C rfl dX11_holdsDay_23 rfl (lv_at hl 2 rfl) ?_
  refine lv_iload_n hx hb dX11_holdsDay_24 rfl (lv_at hl 1 rfl) ?_
  refine gm_putI (G := GM) (u := u_1) (r := 1) (ci := 10) (k := 50) (v := v1_3) C hw rfl fl_X11_351 fp_10_50 dX11_holdsDay_25 rfl (fun H locs hw => ?_)
  obtain ⟨u_5, e_u_5, hf⟩ := gm_le hf
  rw [← e_u_5] at hw
  refine gm_aload_n (G := GM) (r := 1) C rfl dX11_holdsDay_28 rfl (lv_at hl 2 rfl) ?_
  refine lv_iload_n hx hb dX11_holdsDay_29 rfl (lv_at hl 0 rfl) ?_
  refine gm_putI (G := GM) (u := u_5) (r := 1) (ci := 10) (k := 51) (v := v2_4) C hw rfl fl_X11_354 fp_10_51 dX11_holdsDay_30 rfl (fun H locs hw => ?_)
  obtain ⟨u_6, e_u_6, hf⟩ := gm_le hf
  rw [← e_u_6] at hw
  refine lv_iconst (v := 0) hx hb dX11_holdsDay_33 (by decide) ?_
  refine lv_istore_n (i := 3) (lv' := [(3, .int (0 : Int32)), (2, .int v2_4), (1, .int v1_3), (0, rv Z 1)]) hx hb dX11_holdsDay_34 rfl hl (by decide) rfl (fun ls hl => ?_)
  refine lv_iconst (v := 0) hx hb dX11_holdsDay_35 (by decide) ?_
  refine lv_istore (i := 4) (lv' := [(4, .int (0 : Int32)), (3, .int (0 : Int32)), (2, .int v2_4), (1, .int v1_3), (0, rv Z 1)]) hx hb dX11_holdsDay_36 hl (by decide) rfl (fun ls hl => ?_)
  obtain ⟨o1, hlp, hf⟩ := gm_bnd hf
  have L38_1 := gm_loop (b_X11_holdsDay_38 v1_3) (fun x : (Int32 × Int32 × Int32 × gm_M) => ∀ (H : Heap) (locs : List Loc) (ls : Array Slot), lv_has ls 7 [(0, rv Z 1), (1, .int v1_3), (2, .int x.1), (3, .int x.2.1), (4, .int x.2.2.1)] → wd GM Z x.2.2.2 A s.heap H locs → W p l e R s m args below meth c H locs 0 0 Q (F0 m 38 ls [])) (fun z : ((Int32 × gm_M)) => ∀ (H : Heap) (locs : List Loc) (ls : Array Slot), lv_has ls 7 [(0, rv Z 1), (2, .int z.1)] → wd GM Z z.2 A s.heap H locs → W p l e R s m args below meth c H locs 0 0 Q (F0 m 136 ls [])) (by
    intro x o1 hf Kc Kx
    obtain ⟨v2_8, v3_9, v4_10, u_7⟩ := x
    intro H locs ls hl hw
    unfold b_X11_holdsDay_38 at hf
    try dsimp only at hf
    have J110 : ∀ (v2_12 : Int32) (v4_13 : Int32) (v5_14 : Int32) (t_15 : Int32) (u_11 : gm_M) (H : Heap) (locs : List Loc) (ls : Array Slot), j_X11_holdsDay_110 v1_3 v2_12 v4_13 v5_14 t_15 u_11 = some o1 → lv_has ls 7 [(0, rv Z 1), (1, .int v1_3), (2, .int v2_12), (4, .int v4_13), (5, .int v5_14)] → wd GM Z u_11 A s.heap H locs → W p l e R s m args below meth c H locs 0 0 Q (F0 m 110 ls [.int t_15]) := by
      intro v2_12 v4_13 v5_14 t_15 u_11 H locs ls hf  hl hw
      unfold j_X11_holdsDay_110 at hf
      refine lv_istore_n (i := 3) (lv' := [(3, .int t_15), (0, rv Z 1), (1, .int v1_3), (2, .int v2_12), (4, .int v4_13), (5, .int v5_14)]) hx hb dX11_holdsDay_110 rfl hl (by decide) rfl (fun ls hl => ?_)
      refine gm_aload_n (G := GM) (r := 1) C rfl dX11_holdsDay_111 rfl (lv_at hl 1 rfl) ?_
      refine gm_getS (G := GM) (u := u_11) (r := 1) (ci := 10) (k := 39) C hw rfl fl_X11_93 dX11_holdsDay_112 rfl (q := 29) rfl ?_
      refine lv_iconst (v := 3) hx hb dX11_holdsDay_115 (by decide) ?_
      refine lv_dup2_11 hx hb dX11_holdsDay_116 rfl (gm_cat _ _) ?_
      refine gm_iald (G := GM) (u := u_11) (r := 29) (n := 22) (i := (3 : Int32)) C hw rfl (by decide) (j := 3) (by decide) dX11_holdsDay_117 ?_
      refine lv_iconst (v := 1) hx hb dX11_holdsDay_118 (by decide) ?_
      refine lv_iload hx hb dX11_holdsDay_119 (lv_at hl 5 rfl) ?_
      refine lv_ishl hx hb dX11_holdsDay_121 ?_
      refine lv_ior hx hb dX11_holdsDay_122 ?_
      refine gm_iast (G := GM) (u := u_11) (r := 29) (n := 22) (i := (3 : Int32)) (x := (gI u_11 29 3) ||| ((1 : Int32) <<< (v5_14 &&& 31))) C hw rfl (by decide) (j := 3) (by decide) dX11_holdsDay_123 (fun H locs hw => ?_)
      obtain ⟨u_16, e_u_16, hf⟩ := gm_le hf
      rw [← e_u_16] at hw
      refine gm_aload_n (G := GM) (r := 1) C rfl dX11_holdsDay_124 rfl (lv_at hl 1 rfl) ?_
      refine lv_iload hx hb dX11_holdsDay_125 (lv_at hl 5 rfl) ?_
      obtain ⟨u_17, hc_18, hf⟩ := gm_bnd hf
      refine gm_callV (G := GM) (u := u_16) (u' := u_17) (r := 1) (ci := 10) (As := [.int v5_14]) (rest := []) (res := none) C hw hl (ok_X11_leaves l Z v5_14 u_16 u_17 hc_18) cw_X11_361 im_X11_leaves rfl se_X11_leaves rfl rfl rfl ⟨Nat.le_trans (Nat.le_of_ble_eq_true rfl) hRf, Nat.le_trans (Nat.le_of_ble_eq_true rfl) hRl⟩ rfl rfl (Nat.le_of_ble_eq_true rfl) dX11_holdsDay_127 (fun H locs hw => ?_)
      refine lv_iinc (v := v4_13 + (1 : Int32)) (lv' := [(4, .int (v4_13 + (1 : Int32))), (3, .int t_15), (0, rv Z 1), (1, .int v1_3), (2, .int v2_12), (5, .int v5_14)]) hx hb dX11_holdsDay_130 hl (k := 4) rfl rfl (by decide) rfl (fun ls hl => ?_)
      refine lv_goto (tgt := 38) hx hb dX11_holdsDay_133 (by decide) ?_
      exact Kc _ (gm_si hf) _ _ _ (lv_sub hl [2, 3, 4, 1, 0] rfl) hw
    have J105 : ∀ (v2_20 : Int32) (v4_21 : Int32) (v5_22 : Int32) (u_19 : gm_M) (H : Heap) (locs : List Loc) (ls : Array Slot), j_X11_holdsDay_105 v1_3 v2_20 v4_21 v5_22 u_19 = some o1 → lv_has ls 7 [(0, rv Z 1), (1, .int v1_3), (2, .int v2_20), (4, .int v4_21), (5, .int v5_22)] → wd GM Z u_19 A s.heap H locs → W p l e R s m args below meth c H locs 0 0 Q (F0 m 105 ls []) := by
      intro v2_20 v4_21 v5_22 u_19 H locs ls hf  hl hw
      unfold j_X11_holdsDay_105 at hf
      refine lv_iconst (v := 1) hx hb dX11_holdsDay_105 (by decide) ?_
      refine lv_goto (tgt := 110) hx hb dX11_holdsDay_106 (by decide) ?_
      exact J110 v2_20 v4_21 v5_22 (1 : Int32) u_19 _ _ _ hf  (lv_sub hl [0, 1, 2, 3, 4] rfl) hw
    refine lv_iload hx hb dX11_holdsDay_38 (lv_at hl 4 rfl) ?_
    refine lv_iload_n hx hb dX11_holdsDay_40 rfl (lv_at hl 1 rfl) ?_
    refine lv_icmp_ge (tgt := 136) hx hb dX11_holdsDay_41 (by decide) (fun hc => ?_) (fun hc => ?_)
    · replace hf := (if_pos hc).symm.trans hf
      exact Kx _ (gm_si hf) _ _ _ (lv_sub hl [0, 2] rfl) hw
    · replace hf := (if_neg hc).symm.trans hf
      refine gm_aload_n (G := GM) (r := 1) C rfl dX11_holdsDay_44 rfl (lv_at hl 0 rfl) ?_
      refine gm_getS (G := GM) (u := u_7) (r := 1) (ci := 10) (k := 47) C hw rfl fl_X11_111 dX11_holdsDay_45 rfl (q := 35) rfl ?_
      refine lv_iload hx hb dX11_holdsDay_48 (lv_at hl 4 rfl) ?_
      obtain ⟨g_23, hf⟩ := gm_grd hf
      refine gm_iald (G := GM) (u := u_7) (r := 35) (n := 6) (i := v4_10) C hw rfl g_23 rfl dX11_holdsDay_50 ?_
      obtain ⟨v5_24, e_v5_24, hf⟩ := gm_le hf
      refine gm_topI e_v5_24 ?_
      refine lv_istore (i := 5) (lv' := [(5, .int v5_24), (0, rv Z 1), (1, .int v1_3), (2, .int v2_8), (3, .int v3_9), (4, .int v4_10)]) hx hb dX11_holdsDay_51 hl (by decide) rfl (fun ls hl => ?_)
      refine gm_aload_n (G := GM) (r := 1) C rfl dX11_holdsDay_53 rfl (lv_at hl 1 rfl) ?_
      refine lv_iload hx hb dX11_holdsDay_54 (lv_at hl 0 rfl) ?_
      refine lv_iload_n hx hb dX11_holdsDay_56 rfl (lv_at hl 4 rfl) ?_
      obtain ⟨r_25, hc_26, hf⟩ := gm_bnd hf
      refine gm_callV (G := GM) (u := u_7) (u' := u_7) (r := 1) (ci := 10) (As := [.int v5_24, .int v3_9]) (rest := []) (res := (some (.int r_25))) C hw hl (ok_X11_asksOf l Z v5_24 v3_9 u_7 r_25 hc_26) cw_X11_357 im_X11_asksOf rfl se_X11_asksOf rfl rfl rfl ⟨Nat.le_trans (Nat.le_of_ble_eq_true rfl) hRf, Nat.le_trans (Nat.le_of_ble_eq_true rfl) hRl⟩ rfl rfl (Nat.le_of_ble_eq_true rfl) dX11_holdsDay_57 (fun H locs hw => ?_)
      refine lv_istore (i := 6) (lv' := [(6, .int r_25), (5, .int v5_24), (0, rv Z 1), (1, .int v1_3), (2, .int v2_8), (3, .int v3_9), (4, .int v4_10)]) hx hb dX11_holdsDay_60 hl (by decide) rfl (fun ls hl => ?_)
      refine gm_aload_n (G := GM) (r := 1) C rfl dX11_holdsDay_62 rfl (lv_at hl 2 rfl) ?_
      refine gm_getS (G := GM) (u := u_7) (r := 1) (ci := 10) (k := 39) C hw rfl fl_X11_93 dX11_holdsDay_63 rfl (q := 29) rfl ?_
      refine lv_bipush (v := 16) hx hb dX11_holdsDay_66 (by decide) ?_
      refine lv_iload hx hb dX11_holdsDay_68 (lv_at hl 1 rfl) ?_
      refine lv_iadd hx hb dX11_holdsDay_70 ?_
      refine lv_dup2_11 hx hb dX11_holdsDay_71 rfl (gm_cat _ _) ?_
      obtain ⟨g_27, hf⟩ := gm_grd hf
      refine gm_iald (G := GM) (u := u_7) (r := 29) (n := 22) (i := (16 : Int32) + v5_24) C hw rfl g_27 rfl dX11_holdsDay_72 ?_
      refine lv_iconst (v := 1) hx hb dX11_holdsDay_73 (by decide) ?_
      refine lv_iadd hx hb dX11_holdsDay_74 ?_
      refine gm_iast (G := GM) (u := u_7) (r := 29) (n := 22) (i := (16 : Int32) + v5_24) (x := (gI u_7 29 (ix ((16 : Int32) + v5_24))) + (1 : Int32)) C hw rfl g_27 rfl dX11_holdsDay_75 (fun H locs hw => ?_)
      obtain ⟨u_28, e_u_28, hf⟩ := gm_le hf
      rw [← e_u_28] at hw
      refine lv_iload hx hb dX11_holdsDay_76 (lv_at hl 0 rfl) ?_
      refine lv_iload_n hx hb dX11_holdsDay_78 rfl (lv_at hl 4 rfl) ?_
      refine lv_icmp_le (tgt := 85) hx hb dX11_holdsDay_79 (by decide) (fun hc => ?_) (fun hc => ?_)
      · replace hf := (if_pos hc).symm.trans hf
        refine lv_iload_n hx hb dX11_holdsDay_85 rfl (lv_at hl 4 rfl) ?_
        refine lv_iload hx hb dX11_holdsDay_86 (lv_at hl 0 rfl) ?_
        refine lv_isub hx hb dX11_holdsDay_88 ?_
        obtain ⟨v2_29, e_v2_29, hf⟩ := gm_le hf
        refine gm_topI e_v2_29 ?_
        refine lv_istore_n (i := 2) (lv' := [(2, .int v2_29), (6, .int r_25), (5, .int v5_24), (0, rv Z 1), (1, .int v1_3), (3, .int v3_9), (4, .int v4_10)]) hx hb dX11_holdsDay_89 rfl hl (by decide) rfl (fun ls hl => ?_)
        refine lv_iload_n hx hb dX11_holdsDay_90 rfl (lv_at hl 5 rfl) ?_
        refine lv_if_ne (tgt := 105) hx hb dX11_holdsDay_91 (by decide) (fun hc => ?_) (fun hc => ?_)
        · replace hf := (if_neg hc).symm.trans hf
          exact J105 v2_29 v4_10 v5_24 u_28 _ _ _ hf  (lv_sub hl [3, 4, 0, 6, 2] rfl) hw
        · replace hf := (if_pos hc).symm.trans hf
          refine gm_aload_n (G := GM) (r := 1) C rfl dX11_holdsDay_94 rfl (lv_at hl 3 rfl) ?_
          refine gm_getS (G := GM) (u := u_28) (r := 1) (ci := 10) (k := 12) C hw rfl fl_X11_20 dX11_holdsDay_95 rfl (q := 5) rfl ?_
          refine lv_iload hx hb dX11_holdsDay_98 (lv_at hl 2 rfl) ?_
          obtain ⟨g_30, hf⟩ := gm_grd hf
          refine gm_iald (G := GM) (u := u_28) (r := 5) (n := 12) (i := v5_24) C hw rfl g_30 rfl dX11_holdsDay_100 ?_
          refine lv_iconst (v := 3) hx hb dX11_holdsDay_101 (by decide) ?_
          refine lv_icmp_ne (tgt := 109) hx hb dX11_holdsDay_102 (by decide) (fun hc => ?_) (fun hc => ?_)
          · replace hf := (if_neg hc).symm.trans hf
            refine lv_iconst (v := 0) hx hb dX11_holdsDay_109 (by decide) ?_
            exact J110 v2_29 v4_10 v5_24 (0 : Int32) u_28 _ _ _ hf  (lv_sub hl [3, 4, 0, 6, 2] rfl) hw
          · replace hf := (if_pos hc).symm.trans hf
            exact J105 v2_29 v4_10 v5_24 u_28 _ _ _ hf  (lv_sub hl [3, 4, 0, 6, 2] rfl) hw
      · replace hf := (if_neg hc).symm.trans hf
        refine lv_goto (tgt := 130) hx hb dX11_holdsDay_82 (by decide) ?_
        refine lv_iinc (v := v4_10 + (1 : Int32)) (lv' := [(4, .int (v4_10 + (1 : Int32))), (6, .int r_25), (5, .int v5_24), (0, rv Z 1), (1, .int v1_3), (2, .int v2_8), (3, .int v3_9)]) hx hb dX11_holdsDay_130 hl (k := 6) rfl rfl (by decide) rfl (fun ls hl => ?_)
        refine lv_goto (tgt := 38) hx hb dX11_holdsDay_133 (by decide) ?_
        exact Kc _ (gm_si hf) _ _ _ (lv_sub hl [3, 4, 5, 6, 0] rfl) hw)
  refine L38_1 _ _ _ hlp ?_ _ _ _ (lv_sub hl [4, 3, 2, 1, 0] rfl) hw
  obtain ⟨w2_31, u_32⟩ := o1
  intro H locs ls hl hw
  try dsimp only at hf
  refine gm_aload_n (G := GM) (r := 1) C rfl dX11_holdsDay_136 rfl (lv_at hl 0 rfl) ?_
  refine gm_getS (G := GM) (u := u_32) (r := 1) (ci := 10) (k := 39) C hw rfl fl_X11_93 dX11_holdsDay_137 rfl (q := 29) rfl ?_
  refine lv_iconst (v := 1) hx hb dX11_holdsDay_140 (by decide) ?_
  refine lv_iconst (v := 0) hx hb dX11_holdsDay_141 (by decide) ?_
  refine gm_iast (G := GM) (u := u_32) (r := 29) (n := 22) (i := (1 : Int32)) (x := (0 : Int32)) C hw rfl (by decide) (j := 1) (by decide) dX11_holdsDay_142 (fun H locs hw => ?_)
  obtain ⟨u_33, e_u_33, hf⟩ := gm_le hf
  rw [← e_u_33] at hw
  refine gm_aload_n (G := GM) (r := 1) C rfl dX11_holdsDay_143 rfl (lv_at hl 0 rfl) ?_
  refine lv_dup hx hb dX11_holdsDay_144 (gm_cat _ _) ?_
  refine gm_getI (G := GM) (u := u_33) (r := 1) (ci := 10) (k := 51) C hw rfl fl_X11_354 dX11_holdsDay_145 rfl ?_
  refine lv_iload_n hx hb dX11_holdsDay_148 rfl (lv_at hl 1 rfl) ?_
  refine lv_isub hx hb dX11_holdsDay_149 ?_
  refine gm_putI (G := GM) (u := u_33) (r := 1) (ci := 10) (k := 51) (v := (gI u_33 1 51) - w2_31) C hw rfl fl_X11_354 fp_10_51 dX11_holdsDay_150 rfl (fun H locs hw => ?_)
  obtain ⟨u_34, e_u_34, hf⟩ := gm_le hf
  rw [← e_u_34] at hw
  exact gm_vret C E hw rfl rfl (Option.some.inj hf).symm dX11_holdsDay_153
/-! LeapCapitalModel.passes -/
def b_X11_passes_12 : (Int32 × gm_M) → Option ((Int32 × gm_M) ⊕ gm_M) := fun x => match x with | (v1_3, u_2) => if (gI u_2 3 0) ≤ v1_3 then some (.inr u_2) else (f_X11_placeOf v1_3 u_2).bind fun r_4 => if r_4 < 0 then some (.inl (v1_3 + (1 : Int32), u_2)) else (f_X11_isDead v1_3 u_2).bind fun r_6 => if r_6 = 0 then some (.inl (v1_3 + (1 : Int32), u_2)) else (f_X11_leaves v1_3 u_2).bind fun u_8 => some (.inl (v1_3 + (1 : Int32), u_8))
def f_X11_passes  (u : gm_M) : Option (Int32 × gm_M) := gm_let (sI u 29 0 ((gI u 29 0) + (1 : Int32))) fun u_1 => ((gm_lp (b_X11_passes_12) gm_FU ((0 : Int32), u_1)).bind fun o => match o with | u_10 => gm_let (f_X11_hasDay (gI u_10 29 0) u_10) fun r_11 => if r_11 = 0 then some ((0 : Int32), u_10) else (f_X11_holdsDay u_10).bind fun u_12 => some ((1 : Int32), u_12))
set_option maxRecDepth 100000 in
set_option maxHeartbeats 4000000 in
theorem ok_X11_passes (l : Launch) (Z : gm_Z)  (u : gm_M)  (r : Int32) (u' : gm_M) (hf : f_X11_passes u = some (r, u')) : gm_Met l GM Z yX11_passes cX11_passes 2 (some .boolean) ({ frames := 6, cells := 0, slots := 0, locals := 139 }) [rv Z 1] u (some (.int r)) u' := by
  unfold f_X11_passes at hf
  refine gm_ofW (by decide +kernel) (Nat.le_of_ble_eq_true rfl) ?_
  intro p e s m args below meth c A ls Q R hRf hRl C E hl hw
  obtain ⟨hx, hb, -⟩ := id C
  have hl : lv_has ls 2 [(0, rv Z 1)] := hl
  refine gm_aload_n (G := GM) (r := 1) C rfl dX11_passes_0 rfl (lv_at hl 0 rfl) ?_
  refine gm_getS (G := GM) (u := u) (r := 1) (ci := 10) (k := 39) C hw rfl fl_X11_93 dX11_passes_1 rfl (q := 29) rfl ?_
  refine lv_iconst (v := 0) hx hb dX11_passes_4 (by decide) ?_
  refine lv_dup2_11 hx hb dX11_passes_5 rfl (gm_cat _ _) ?_
  refine gm_iald (G := GM) (u := u) (r := 29) (n := 22) (i := (0 : Int32)) C hw rfl (by decide) (j := 0) (by decide) dX11_passes_6 ?_
  refine lv_iconst (v := 1) hx hb dX11_passes_7 (by decide) ?_
  refine lv_iadd hx hb dX11_passes_8 ?_
  refine gm_iast (G := GM) (u := u) (r := 29) (n := 22) (i := (0 : Int32)) (x := (gI u 29 0) + (1 : Int32)) C hw rfl (by decide) (j := 0) (by decide) dX11_passes_9 (fun H locs hw => ?_)
  obtain ⟨u_1, e_u_1, hf⟩ := gm_le hf
  rw [← e_u_1] at hw
  refine lv_iconst (v := 0) hx hb dX11_passes_10 (by decide) ?_
  refine lv_istore_n (i := 1) (lv' := [(1, .int (0 : Int32)), (0, rv Z 1)]) hx hb dX11_passes_11 rfl hl (by decide) rfl (fun ls hl => ?_)
  obtain ⟨o1, hlp, hf⟩ := gm_bnd hf
  have L12_1 := gm_loop (b_X11_passes_12) (fun x : (Int32 × gm_M) => ∀ (H : Heap) (locs : List Loc) (ls : Array Slot), lv_has ls 2 [(0, rv Z 1), (1, .int x.1)] → wd GM Z x.2 A s.heap H locs → W p l e R s m args below meth c H locs 0 0 Q (F0 m 12 ls [])) (fun z : gm_M => ∀ (H : Heap) (locs : List Loc) (ls : Array Slot), lv_has ls 2 [(0, rv Z 1)] → wd GM Z z A s.heap H locs → W p l e R s m args below meth c H locs 0 0 Q (F0 m 49 ls [])) (by
    intro x o1 hf Kc Kx
    obtain ⟨v1_3, u_2⟩ := x
    intro H locs ls hl hw
    unfold b_X11_passes_12 at hf
    try dsimp only at hf
    refine lv_iload_n hx hb dX11_passes_12 rfl (lv_at hl 1 rfl) ?_
    refine gm_aload_n (G := GM) (r := 1) C rfl dX11_passes_13 rfl (lv_at hl 0 rfl) ?_
    refine gm_getS (G := GM) (u := u_2) (r := 1) (ci := 10) (k := 10) C hw rfl fl_X11_13 dX11_passes_14 rfl (q := 3) rfl ?_
    refine lv_iconst (v := 0) hx hb dX11_passes_17 (by decide) ?_
    refine gm_iald (G := GM) (u := u_2) (r := 3) (n := 8) (i := (0 : Int32)) C hw rfl (by decide) (j := 0) (by decide) dX11_passes_18 ?_
    refine lv_icmp_ge (tgt := 49) hx hb dX11_passes_19 (by decide) (fun hc => ?_) (fun hc => ?_)
    · replace hf := (if_pos hc).symm.trans hf
      exact Kx _ (gm_si hf) _ _ _ (lv_sub hl [0] rfl) hw
    · replace hf := (if_neg hc).symm.trans hf
      refine gm_aload_n (G := GM) (r := 1) C rfl dX11_passes_22 rfl (lv_at hl 0 rfl) ?_
      refine lv_iload_n hx hb dX11_passes_23 rfl (lv_at hl 1 rfl) ?_
      obtain ⟨r_4, hc_5, hf⟩ := gm_bnd hf
      refine gm_callV (G := GM) (u := u_2) (u' := u_2) (r := 1) (ci := 10) (As := [.int v1_3]) (rest := []) (res := (some (.int r_4))) C hw hl (ok_X11_placeOf l Z v1_3 u_2 r_4 hc_5) cw_X11_324 im_X11_placeOf rfl se_X11_placeOf rfl rfl rfl ⟨Nat.le_trans (Nat.le_of_ble_eq_true rfl) hRf, Nat.le_trans (Nat.le_of_ble_eq_true rfl) hRl⟩ rfl rfl (Nat.le_of_ble_eq_true rfl) dX11_passes_24 (fun H locs hw => ?_)
      refine lv_if_lt (tgt := 43) hx hb dX11_passes_27 (by decide) (fun hc => ?_) (fun hc => ?_)
      · replace hf := (if_pos hc).symm.trans hf
        refine lv_iinc (v := v1_3 + (1 : Int32)) (lv' := [(1, .int (v1_3 + (1 : Int32))), (0, rv Z 1)]) hx hb dX11_passes_43 hl (k := 1) rfl rfl (by decide) rfl (fun ls hl => ?_)
        refine lv_goto (tgt := 12) hx hb dX11_passes_46 (by decide) ?_
        exact Kc _ (gm_si hf) _ _ _ (lv_sub hl [1, 0] rfl) hw
      · replace hf := (if_neg hc).symm.trans hf
        refine gm_aload_n (G := GM) (r := 1) C rfl dX11_passes_30 rfl (lv_at hl 0 rfl) ?_
        refine lv_iload_n hx hb dX11_passes_31 rfl (lv_at hl 1 rfl) ?_
        obtain ⟨r_6, hc_7, hf⟩ := gm_bnd hf
        refine gm_callV (G := GM) (u := u_2) (u' := u_2) (r := 1) (ci := 10) (As := [.int v1_3]) (rest := []) (res := (some (.int r_6))) C hw hl (ok_X11_isDead l Z v1_3 u_2 r_6 hc_7) cw_X11_330 im_X11_isDead rfl se_X11_isDead rfl rfl rfl ⟨Nat.le_trans (Nat.le_of_ble_eq_true rfl) hRf, Nat.le_trans (Nat.le_of_ble_eq_true rfl) hRl⟩ rfl rfl (Nat.le_of_ble_eq_true rfl) dX11_passes_32 (fun H locs hw => ?_)
        refine lv_if_eq (tgt := 43) hx hb dX11_passes_35 (by decide) (fun hc => ?_) (fun hc => ?_)
        · replace hf := (if_pos hc).symm.trans hf
          refine lv_iinc (v := v1_3 + (1 : Int32)) (lv' := [(1, .int (v1_3 + (1 : Int32))), (0, rv Z 1)]) hx hb dX11_passes_43 hl (k := 1) rfl rfl (by decide) rfl (fun ls hl => ?_)
          refine lv_goto (tgt := 12) hx hb dX11_passes_46 (by decide) ?_
          exact Kc _ (gm_si hf) _ _ _ (lv_sub hl [1, 0] rfl) hw
        · replace hf := (if_neg hc).symm.trans hf
          refine gm_aload_n (G := GM) (r := 1) C rfl dX11_passes_38 rfl (lv_at hl 0 rfl) ?_
          refine lv_iload_n hx hb dX11_passes_39 rfl (lv_at hl 1 rfl) ?_
          obtain ⟨u_8, hc_9, hf⟩ := gm_bnd hf
          refine gm_callV (G := GM) (u := u_2) (u' := u_8) (r := 1) (ci := 10) (As := [.int v1_3]) (rest := []) (res := none) C hw hl (ok_X11_leaves l Z v1_3 u_2 u_8 hc_9) cw_X11_361 im_X11_leaves rfl se_X11_leaves rfl rfl rfl ⟨Nat.le_trans (Nat.le_of_ble_eq_true rfl) hRf, Nat.le_trans (Nat.le_of_ble_eq_true rfl) hRl⟩ rfl rfl (Nat.le_of_ble_eq_true rfl) dX11_passes_40 (fun H locs hw => ?_)
          refine lv_iinc (v := v1_3 + (1 : Int32)) (lv' := [(1, .int (v1_3 + (1 : Int32))), (0, rv Z 1)]) hx hb dX11_passes_43 hl (k := 1) rfl rfl (by decide) rfl (fun ls hl => ?_)
          refine lv_goto (tgt := 12) hx hb dX11_passes_46 (by decide) ?_
          exact Kc _ (gm_si hf) _ _ _ (lv_sub hl [1, 0] rfl) hw)
  refine L12_1 _ _ _ hlp ?_ _ _ _ (lv_sub hl [1, 0] rfl) hw
  obtain ⟨u_10, rfl⟩ : ∃ y, y = o1 := ⟨_, rfl⟩
  intro H locs ls hl hw
  try dsimp only at hf
  refine gm_aload_n (G := GM) (r := 1) C rfl dX11_passes_49 rfl (lv_at hl 0 rfl) ?_
  refine gm_aload_n (G := GM) (r := 1) C rfl dX11_passes_50 rfl (lv_at hl 0 rfl) ?_
  refine gm_getS (G := GM) (u := u_10) (r := 1) (ci := 10) (k := 39) C hw rfl fl_X11_93 dX11_passes_51 rfl (q := 29) rfl ?_
  refine lv_iconst (v := 0) hx hb dX11_passes_54 (by decide) ?_
  refine gm_iald (G := GM) (u := u_10) (r := 29) (n := 22) (i := (0 : Int32)) C hw rfl (by decide) (j := 0) (by decide) dX11_passes_55 ?_
  obtain ⟨r_11, e_r_11, hf⟩ := gm_le hf
  refine gm_callV (G := GM) (u := u_10) (u' := u_10) (r := 1) (ci := 10) (As := [.int (gI u_10 29 0)]) (rest := []) (res := (some (.int (f_X11_hasDay (gI u_10 29 0) u_10)))) C hw hl (ok_X11_hasDay l Z (gI u_10 29 0) u_10) cw_X11_364 im_X11_hasDay rfl se_X11_hasDay rfl rfl rfl ⟨Nat.le_trans (Nat.le_of_ble_eq_true rfl) hRf, Nat.le_trans (Nat.le_of_ble_eq_true rfl) hRl⟩ rfl rfl (Nat.le_of_ble_eq_true rfl) dX11_passes_56 (fun H locs hw => ?_)
  refine gm_topI e_r_11 ?_
  refine lv_if_ne (tgt := 64) hx hb dX11_passes_59 (by decide) (fun hc => ?_) (fun hc => ?_)
  · replace hf := (if_neg hc).symm.trans hf
    refine gm_aload_n (G := GM) (r := 1) C rfl dX11_passes_64 rfl (lv_at hl 0 rfl) ?_
    obtain ⟨u_12, hc_13, hf⟩ := gm_bnd hf
    refine gm_callV (G := GM) (u := u_10) (u' := u_12) (r := 1) (ci := 10) (As := []) (rest := []) (res := none) C hw hl (ok_X11_holdsDay l Z u_10 u_12 hc_13) cw_X11_367 im_X11_holdsDay rfl se_X11_holdsDay rfl rfl rfl ⟨Nat.le_trans (Nat.le_of_ble_eq_true rfl) hRf, Nat.le_trans (Nat.le_of_ble_eq_true rfl) hRl⟩ rfl rfl (Nat.le_of_ble_eq_true rfl) dX11_passes_65 (fun H locs hw => ?_)
    refine lv_iconst (v := 1) hx hb dX11_passes_68 (by decide) ?_
    exact gm_zret C E hw rfl rfl ((congrArg (fun z => some (Value.int z)) (gm_sp hf).1).symm) (gm_sp hf).2.symm dX11_passes_69
  · replace hf := (if_pos hc).symm.trans hf
    refine lv_iconst (v := 0) hx hb dX11_passes_62 (by decide) ?_
    exact gm_zret C E hw rfl rfl ((congrArg (fun z => some (Value.int z)) (gm_sp hf).1).symm) (gm_sp hf).2.symm dX11_passes_63
/-! LeapCapitalModel.rides -/
def b_X11_rides_2 : (Int32 × gm_M) → Option ((Int32 × gm_M) ⊕ gm_M) := fun x => match x with | (v1_2, u_1) => if v1_2 = 0 then (f_X11_passes u_1).bind fun o => match o with | (r_3, u_4) => some (.inl (r_3, u_4)) else some (.inr u_1)
def f_X11_rides  (u : gm_M) : Option gm_M := ((gm_lp (b_X11_rides_2) gm_FU ((0 : Int32), u)).bind fun o => match o with | u_7 => some u_7)
set_option maxRecDepth 100000 in
set_option maxHeartbeats 4000000 in
theorem ok_X11_rides (l : Launch) (Z : gm_Z)  (u : gm_M)  (u' : gm_M) (hf : f_X11_rides u = some (u')) : gm_Met l GM Z yX11_rides cX11_rides 2 none ({ frames := 7, cells := 0, slots := 0, locals := 160 }) [rv Z 1] u none u' := by
  unfold f_X11_rides at hf
  refine gm_ofW (by decide +kernel) (Nat.le_of_ble_eq_true rfl) ?_
  intro p e s m args below meth c A ls Q R hRf hRl C E hl hw
  obtain ⟨hx, hb, -⟩ := id C
  have hl : lv_has ls 2 [(0, rv Z 1)] := hl
  refine lv_iconst (v := 0) hx hb dX11_rides_0 (by decide) ?_
  refine lv_istore_n (i := 1) (lv' := [(1, .int (0 : Int32)), (0, rv Z 1)]) hx hb dX11_rides_1 rfl hl (by decide) rfl (fun ls hl => ?_)
  obtain ⟨o1, hlp, hf⟩ := gm_bnd hf
  have L2_1 := gm_loop (b_X11_rides_2) (fun x : (Int32 × gm_M) => ∀ (H : Heap) (locs : List Loc) (ls : Array Slot), lv_has ls 2 [(0, rv Z 1), (1, .int x.1)] → wd GM Z x.2 A s.heap H locs → W p l e R s m args below meth c H locs 0 0 Q (F0 m 2 ls [])) (fun z : gm_M => ∀ (H : Heap) (locs : List Loc) (ls : Array Slot), lv_has ls 2 [] → wd GM Z z A s.heap H locs → W p l e R s m args below meth c H locs 0 0 Q (F0 m 14 ls [])) (by
    intro x o1 hf Kc Kx
    obtain ⟨v1_2, u_1⟩ := x
    intro H locs ls hl hw
    unfold b_X11_rides_2 at hf
    try dsimp only at hf
    refine lv_iload_n hx hb dX11_rides_2 rfl (lv_at hl 1 rfl) ?_
    refine lv_if_ne (tgt := 14) hx hb dX11_rides_3 (by decide) (fun hc => ?_) (fun hc => ?_)
    · replace hf := (if_neg hc).symm.trans hf
      exact Kx _ (gm_si hf) _ _ _ (lv_sub hl [] rfl) hw
    · replace hf := (if_pos hc).symm.trans hf
      refine gm_aload_n (G := GM) (r := 1) C rfl dX11_rides_6 rfl (lv_at hl 0 rfl) ?_
      obtain ⟨⟨r_3, u_4⟩, hc_5, hf⟩ := gm_bnd hf
      try dsimp only at hf
      refine gm_callV (G := GM) (u := u_1) (u' := u_4) (r := 1) (ci := 10) (As := []) (rest := []) (res := (some (.int r_3))) C hw hl (ok_X11_passes l Z u_1 r_3 u_4 hc_5) cw_X11_370 im_X11_passes rfl se_X11_passes rfl rfl rfl ⟨Nat.le_trans (Nat.le_of_ble_eq_true rfl) hRf, Nat.le_trans (Nat.le_of_ble_eq_true rfl) hRl⟩ rfl rfl (Nat.le_of_ble_eq_true rfl) dX11_rides_7 (fun H locs hw => ?_)
      refine lv_istore_n (i := 1) (lv' := [(1, .int r_3), (0, rv Z 1)]) hx hb dX11_rides_10 rfl hl (by decide) rfl (fun ls hl => ?_)
      refine lv_goto (tgt := 2) hx hb dX11_rides_11 (by decide) ?_
      exact Kc _ (gm_si hf) _ _ _ (lv_sub hl [1, 0] rfl) hw)
  refine L2_1 _ _ _ hlp ?_ _ _ _ (lv_sub hl [1, 0] rfl) hw
  obtain ⟨u_7, rfl⟩ : ∃ y, y = o1 := ⟨_, rfl⟩
  intro H locs ls hl hw
  try dsimp only at hf
  exact gm_vret C E hw rfl rfl (Option.some.inj hf).symm dX11_rides_14
/-! LeapCapitalModel.deads -/
def b_X11_deads_4 (u : gm_M) : (Int32 × Int32) → Option ((Int32 × Int32) ⊕ Int32) := fun x => match x with | (v1_1, v2_2) => if (gI u 3 0) ≤ v2_2 then some (.inr v1_1) else (f_X11_isDead v2_2 u).bind fun r_3 => if r_3 = 0 then gm_let (v1_1 ||| (0 : Int32)) fun v1_5 => some (.inl (v1_5, v2_2 + (1 : Int32))) else gm_let (v1_1 ||| ((1 : Int32) <<< (v2_2 &&& 31))) fun v1_6 => some (.inl (v1_6, v2_2 + (1 : Int32)))
def f_X11_deads  (u : gm_M) : Option Int32 := ((gm_lp (b_X11_deads_4 u) gm_FU ((0 : Int32), (0 : Int32))).bind fun o => match o with | w1_7 => some w1_7)
set_option maxRecDepth 100000 in
set_option maxHeartbeats 4000000 in
theorem ok_X11_deads (l : Launch) (Z : gm_Z)  (u : gm_M)  (r : Int32) (hf : f_X11_deads u = some r) : gm_Met l GM Z yX11_deads cX11_deads 3 (some .int) ({ frames := 1, cells := 0, slots := 0, locals := 21 }) [rv Z 1] u (some (.int r)) u := by
  unfold f_X11_deads at hf
  refine gm_ofW (by decide +kernel) (Nat.le_of_ble_eq_true rfl) ?_
  intro p e s m args below meth c A ls Q R hRf hRl C E hl hw
  obtain ⟨hx, hb, -⟩ := id C
  have hl : lv_has ls 3 [(0, rv Z 1)] := hl
  refine lv_iconst (v := 0) hx hb dX11_deads_0 (by decide) ?_
  refine lv_istore_n (i := 1) (lv' := [(1, .int (0 : Int32)), (0, rv Z 1)]) hx hb dX11_deads_1 rfl hl (by decide) rfl (fun ls hl => ?_)
  refine lv_iconst (v := 0) hx hb dX11_deads_2 (by decide) ?_
  refine lv_istore_n (i := 2) (lv' := [(2, .int (0 : Int32)), (1, .int (0 : Int32)), (0, rv Z 1)]) hx hb dX11_deads_3 rfl hl (by decide) rfl (fun ls hl => ?_)
  obtain ⟨o1, hlp, hf⟩ := gm_bnd hf
  have L4_1 := gm_loop (b_X11_deads_4 u) (fun x : (Int32 × Int32) => ∀ (H : Heap) (locs : List Loc) (ls : Array Slot), lv_has ls 3 [(0, rv Z 1), (1, .int x.1), (2, .int x.2)] → wd GM Z u A s.heap H locs → W p l e R s m args below meth c H locs 0 0 Q (F0 m 4 ls [])) (fun z : Int32 => ∀ (H : Heap) (locs : List Loc) (ls : Array Slot), lv_has ls 3 [(1, .int z)] → wd GM Z u A s.heap H locs → W p l e R s m args below meth c H locs 0 0 Q (F0 m 38 ls [])) (by
    intro x o1 hf Kc Kx
    obtain ⟨v1_1, v2_2⟩ := x
    intro H locs ls hl hw
    unfold b_X11_deads_4 at hf
    try dsimp only at hf
    refine lv_iload_n hx hb dX11_deads_4 rfl (lv_at hl 2 rfl) ?_
    refine gm_aload_n (G := GM) (r := 1) C rfl dX11_deads_5 rfl (lv_at hl 0 rfl) ?_
    refine gm_getS (G := GM) (u := u) (r := 1) (ci := 10) (k := 10) C hw rfl fl_X11_13 dX11_deads_6 rfl (q := 3) rfl ?_
    refine lv_iconst (v := 0) hx hb dX11_deads_9 (by decide) ?_
    refine gm_iald (G := GM) (u := u) (r := 3) (n := 8) (i := (0 : Int32)) C hw rfl (by decide) (j := 0) (by decide) dX11_deads_10 ?_
    refine lv_icmp_ge (tgt := 38) hx hb dX11_deads_11 (by decide) (fun hc => ?_) (fun hc => ?_)
    · replace hf := (if_pos hc).symm.trans hf
      exact Kx _ (gm_si hf) _ _ _ (lv_sub hl [1] rfl) hw
    · replace hf := (if_neg hc).symm.trans hf
      refine lv_iload_n hx hb dX11_deads_14 rfl (lv_at hl 1 rfl) ?_
      refine gm_aload_n (G := GM) (r := 1) C rfl dX11_deads_15 rfl (lv_at hl 0 rfl) ?_
      refine lv_iload_n hx hb dX11_deads_16 rfl (lv_at hl 2 rfl) ?_
      obtain ⟨r_3, hc_4, hf⟩ := gm_bnd hf
      refine gm_callV (G := GM) (u := u) (u' := u) (r := 1) (ci := 10) (As := [.int v2_2]) (rest := [.int v1_1]) (res := (some (.int r_3))) C hw hl (ok_X11_isDead l Z v2_2 u r_3 hc_4) cw_X11_330 im_X11_isDead rfl se_X11_isDead rfl rfl rfl ⟨Nat.le_trans (Nat.le_of_ble_eq_true rfl) hRf, Nat.le_trans (Nat.le_of_ble_eq_true rfl) hRl⟩ rfl rfl (Nat.le_of_ble_eq_true rfl) dX11_deads_17 (fun H locs hw => ?_)
      refine lv_if_eq (tgt := 29) hx hb dX11_deads_20 (by decide) (fun hc => ?_) (fun hc => ?_)
      · replace hf := (if_pos hc).symm.trans hf
        refine lv_iconst (v := 0) hx hb dX11_deads_29 (by decide) ?_
        refine lv_ior hx hb dX11_deads_30 ?_
        obtain ⟨v1_5, e_v1_5, hf⟩ := gm_le hf
        refine gm_topI e_v1_5 ?_
        refine lv_istore_n (i := 1) (lv' := [(1, .int v1_5), (0, rv Z 1), (2, .int v2_2)]) hx hb dX11_deads_31 rfl hl (by decide) rfl (fun ls hl => ?_)
        refine lv_iinc (v := v2_2 + (1 : Int32)) (lv' := [(2, .int (v2_2 + (1 : Int32))), (1, .int v1_5), (0, rv Z 1)]) hx hb dX11_deads_32 hl (k := 2) rfl rfl (by decide) rfl (fun ls hl => ?_)
        refine lv_goto (tgt := 4) hx hb dX11_deads_35 (by decide) ?_
        exact Kc _ (gm_si hf) _ _ _ (lv_sub hl [2, 1, 0] rfl) hw
      · replace hf := (if_neg hc).symm.trans hf
        refine lv_iconst (v := 1) hx hb dX11_deads_23 (by decide) ?_
        refine lv_iload_n hx hb dX11_deads_24 rfl (lv_at hl 2 rfl) ?_
        refine lv_ishl hx hb dX11_deads_25 ?_
        refine lv_goto (tgt := 30) hx hb dX11_deads_26 (by decide) ?_
        refine lv_ior hx hb dX11_deads_30 ?_
        obtain ⟨v1_6, e_v1_6, hf⟩ := gm_le hf
        refine gm_topI e_v1_6 ?_
        refine lv_istore_n (i := 1) (lv' := [(1, .int v1_6), (0, rv Z 1), (2, .int v2_2)]) hx hb dX11_deads_31 rfl hl (by decide) rfl (fun ls hl => ?_)
        refine lv_iinc (v := v2_2 + (1 : Int32)) (lv' := [(2, .int (v2_2 + (1 : Int32))), (1, .int v1_6), (0, rv Z 1)]) hx hb dX11_deads_32 hl (k := 2) rfl rfl (by decide) rfl (fun ls hl => ?_)
        refine lv_goto (tgt := 4) hx hb dX11_deads_35 (by decide) ?_
        exact Kc _ (gm_si hf) _ _ _ (lv_sub hl [2, 1, 0] rfl) hw)
  refine L4_1 _ _ _ hlp ?_ _ _ _ (lv_sub hl [2, 1, 0] rfl) hw
  obtain ⟨w1_7, rfl⟩ : ∃ y, y = o1 := ⟨_, rfl⟩
  intro H locs ls hl hw
  try dsimp only at hf
  refine lv_iload_n hx hb dX11_deads_38 rfl (lv_at hl 0 rfl) ?_
  exact gm_iret C E hw rfl ((congrArg (fun z => some (Value.int z)) (Option.some.inj hf)).symm) rfl dX11_deads_39
/-! LeapCapitalModel.person -/
def f_X11_person (a1 : Int32) (a2 : Int32) (u : gm_M) : Option (Int32 × gm_M) := gm_let (sI u 1 0 (0 : Int32)) fun u_1 => gm_let (f_X11_isPerson a1 u_1) fun r_2 => if r_2 = 0 then some ((-2 : Int32), u_1) else gm_let (f_X11_within a2 (0 : Int32) (7 : Int32)) fun r_3 => if r_3 = 0 then some ((-2 : Int32), u_1) else if (3 : Int32) ≤ a2 then (f_X11_placeOf a1 u_1).bind fun r_4 => if (6 : Int32) ≤ a2 then if 0 ≤ r_4 then if a2 = (6 : Int32) then if ib ((10 : Int32) + a1) 22 = true then some ((gI u_1 29 0) - (gI u_1 29 (ix ((10 : Int32) + a1))), u_1) else none else if ib ((16 : Int32) + a1) 22 = true then some (gI u_1 29 (ix ((16 : Int32) + a1)), u_1) else none else some ((0 : Int32), u_1) else if a2 = (3 : Int32) then some (r_4, u_1) else if a2 = (4 : Int32) then some (((gI u_1 29 3) >>> (a1 &&& 31)) &&& (1 : Int32), u_1) else (f_X11_isDead a1 u_1).bind fun r_8 => if r_8 = 0 then some ((0 : Int32), u_1) else some ((1 : Int32), u_1) else if a2 = 0 then if ib a1 12 = true then some (gI u_1 5 (ix a1), u_1) else none else if a2 = (1 : Int32) then if ib a1 12 = true then some (gI u_1 6 (ix a1), u_1) else none else if ib a1 12 = true then some (gI u_1 7 (ix a1), u_1) else none
set_option maxRecDepth 100000 in
set_option maxHeartbeats 4000000 in
theorem ok_X11_person (l : Launch) (Z : gm_Z) (a1 : Int32) (a2 : Int32) (u : gm_M)  (r : Int32) (u' : gm_M) (hf : f_X11_person a1 a2 u = some (r, u')) : gm_Met l GM Z yX11_person cX11_person 4 (some .int) ({ frames := 1, cells := 0, slots := 0, locals := 22 }) [rv Z 1, .int a1, .int a2] u (some (.int r)) u' := by
  unfold f_X11_person at hf
  refine gm_ofW (by decide +kernel) (Nat.le_of_ble_eq_true rfl) ?_
  intro p e s m args below meth c A ls Q R hRf hRl C E hl hw
  obtain ⟨hx, hb, -⟩ := id C
  have hl : lv_has ls 4 [(0, rv Z 1), (1, .int a1), (2, .int a2)] := hl
  refine gm_aload_n (G := GM) (r := 1) C rfl dX11_person_0 rfl (lv_at hl 0 rfl) ?_
  refine lv_iconst (v := 0) hx hb dX11_person_1 (by decide) ?_
  refine gm_putI (G := GM) (u := u) (r := 1) (ci := 10) (k := 0) (v := (0 : Int32)) C hw rfl fl_X11_137 fp_10_0 dX11_person_2 rfl (fun H locs hw => ?_)
  obtain ⟨u_1, e_u_1, hf⟩ := gm_le hf
  rw [← e_u_1] at hw
  refine gm_aload_n (G := GM) (r := 1) C rfl dX11_person_5 rfl (lv_at hl 0 rfl) ?_
  refine lv_iload_n hx hb dX11_person_6 rfl (lv_at hl 1 rfl) ?_
  obtain ⟨r_2, e_r_2, hf⟩ := gm_le hf
  refine gm_callV (G := GM) (u := u_1) (u' := u_1) (r := 1) (ci := 10) (As := [.int a1]) (rest := []) (res := (some (.int (f_X11_isPerson a1 u_1)))) C hw hl (ok_X11_isPerson l Z a1 u_1) cw_X11_373 im_X11_isPerson rfl se_X11_isPerson rfl rfl rfl ⟨Nat.le_trans (Nat.le_of_ble_eq_true rfl) hRf, Nat.le_trans (Nat.le_of_ble_eq_true rfl) hRl⟩ rfl rfl (Nat.le_of_ble_eq_true rfl) dX11_person_7 (fun H locs hw => ?_)
  refine gm_topI e_r_2 ?_
  refine lv_if_eq (tgt := 23) hx hb dX11_person_10 (by decide) (fun hc => ?_) (fun hc => ?_)
  · replace hf := (if_pos hc).symm.trans hf
    refine lv_bipush (v := -2) hx hb dX11_person_23 (by decide) ?_
    exact gm_iret C E hw rfl ((congrArg (fun z => some (Value.int z)) (gm_sp hf).1).symm) (gm_sp hf).2.symm dX11_person_25
  · replace hf := (if_neg hc).symm.trans hf
    refine lv_iload_n hx hb dX11_person_13 rfl (lv_at hl 2 rfl) ?_
    refine lv_iconst (v := 0) hx hb dX11_person_14 (by decide) ?_
    refine lv_bipush (v := 7) hx hb dX11_person_15 (by decide) ?_
    obtain ⟨r_3, e_r_3, hf⟩ := gm_le hf
    refine gm_callS (G := GM) (u := u_1) (u' := u_1) (As := [.int a2, .int (0 : Int32), .int (7 : Int32)]) (rest := []) (res := (some (.int (f_X11_within a2 (0 : Int32) (7 : Int32))))) C hw hl (ok_X11_within l Z a2 (0 : Int32) (7 : Int32) u_1) cw_X11_254 st_X11_within rfl rfl ⟨Nat.le_trans (Nat.le_of_ble_eq_true rfl) hRf, Nat.le_trans (Nat.le_of_ble_eq_true rfl) hRl⟩ rfl rfl (Nat.le_of_ble_eq_true rfl) dX11_person_17 (fun H locs hw => ?_)
    refine gm_topI e_r_3 ?_
    refine lv_if_ne (tgt := 26) hx hb dX11_person_20 (by decide) (fun hc => ?_) (fun hc => ?_)
    · replace hf := (if_neg hc).symm.trans hf
      refine lv_iload_n hx hb dX11_person_26 rfl (lv_at hl 2 rfl) ?_
      refine lv_iconst (v := 3) hx hb dX11_person_27 (by decide) ?_
      refine lv_icmp_ge (tgt := 65) hx hb dX11_person_28 (by decide) (fun hc => ?_) (fun hc => ?_)
      · replace hf := (if_pos hc).symm.trans hf
        refine gm_aload_n (G := GM) (r := 1) C rfl dX11_person_65 rfl (lv_at hl 0 rfl) ?_
        refine lv_iload_n hx hb dX11_person_66 rfl (lv_at hl 1 rfl) ?_
        obtain ⟨r_4, hc_5, hf⟩ := gm_bnd hf
        refine gm_callV (G := GM) (u := u_1) (u' := u_1) (r := 1) (ci := 10) (As := [.int a1]) (rest := []) (res := (some (.int r_4))) C hw hl (ok_X11_placeOf l Z a1 u_1 r_4 hc_5) cw_X11_324 im_X11_placeOf rfl se_X11_placeOf rfl rfl rfl ⟨Nat.le_trans (Nat.le_of_ble_eq_true rfl) hRf, Nat.le_trans (Nat.le_of_ble_eq_true rfl) hRl⟩ rfl rfl (Nat.le_of_ble_eq_true rfl) dX11_person_67 (fun H locs hw => ?_)
        refine lv_istore_n (i := 3) (lv' := [(3, .int r_4), (0, rv Z 1), (1, .int a1), (2, .int a2)]) hx hb dX11_person_70 rfl hl (by decide) rfl (fun ls hl => ?_)
        refine lv_iload_n hx hb dX11_person_71 rfl (lv_at hl 3 rfl) ?_
        refine lv_bipush (v := 6) hx hb dX11_person_72 (by decide) ?_
        refine lv_icmp_ge (tgt := 118) hx hb dX11_person_74 (by decide) (fun hc => ?_) (fun hc => ?_)
        · replace hf := (if_pos hc).symm.trans hf
          refine lv_iload_n hx hb dX11_person_118 rfl (lv_at hl 0 rfl) ?_
          refine lv_if_ge (tgt := 126) hx hb dX11_person_119 (by decide) (fun hc => ?_) (fun hc => ?_)
          · replace hf := (if_pos hc).symm.trans hf
            refine lv_iload_n hx hb dX11_person_126 rfl (lv_at hl 3 rfl) ?_
            refine lv_bipush (v := 6) hx hb dX11_person_127 (by decide) ?_
            refine lv_icmp_ne (tgt := 151) hx hb dX11_person_129 (by decide) (fun hc => ?_) (fun hc => ?_)
            · replace hf := (if_neg hc).symm.trans hf
              refine gm_aload_n (G := GM) (r := 1) C rfl dX11_person_151 rfl (lv_at hl 1 rfl) ?_
              refine gm_getS (G := GM) (u := u_1) (r := 1) (ci := 10) (k := 39) C hw rfl fl_X11_93 dX11_person_152 rfl (q := 29) rfl ?_
              refine lv_bipush (v := 16) hx hb dX11_person_155 (by decide) ?_
              refine lv_iload_n hx hb dX11_person_157 rfl (lv_at hl 2 rfl) ?_
              refine lv_iadd hx hb dX11_person_158 ?_
              obtain ⟨g_6, hf⟩ := gm_grd hf
              refine gm_iald (G := GM) (u := u_1) (r := 29) (n := 22) (i := (16 : Int32) + a1) C hw rfl g_6 rfl dX11_person_159 ?_
              exact gm_iret C E hw rfl ((congrArg (fun z => some (Value.int z)) (gm_sp hf).1).symm) (gm_sp hf).2.symm dX11_person_160
            · replace hf := (if_pos hc).symm.trans hf
              refine gm_aload_n (G := GM) (r := 1) C rfl dX11_person_132 rfl (lv_at hl 1 rfl) ?_
              refine gm_getS (G := GM) (u := u_1) (r := 1) (ci := 10) (k := 39) C hw rfl fl_X11_93 dX11_person_133 rfl (q := 29) rfl ?_
              refine lv_iconst (v := 0) hx hb dX11_person_136 (by decide) ?_
              refine gm_iald (G := GM) (u := u_1) (r := 29) (n := 22) (i := (0 : Int32)) C hw rfl (by decide) (j := 0) (by decide) dX11_person_137 ?_
              refine gm_aload_n (G := GM) (r := 1) C rfl dX11_person_138 rfl (lv_at hl 1 rfl) ?_
              refine gm_getS (G := GM) (u := u_1) (r := 1) (ci := 10) (k := 39) C hw rfl fl_X11_93 dX11_person_139 rfl (q := 29) rfl ?_
              refine lv_bipush (v := 10) hx hb dX11_person_142 (by decide) ?_
              refine lv_iload_n hx hb dX11_person_144 rfl (lv_at hl 2 rfl) ?_
              refine lv_iadd hx hb dX11_person_145 ?_
              obtain ⟨g_7, hf⟩ := gm_grd hf
              refine gm_iald (G := GM) (u := u_1) (r := 29) (n := 22) (i := (10 : Int32) + a1) C hw rfl g_7 rfl dX11_person_146 ?_
              refine lv_isub hx hb dX11_person_147 ?_
              refine lv_goto (tgt := 160) hx hb dX11_person_148 (by decide) ?_
              exact gm_iret C E hw rfl ((congrArg (fun z => some (Value.int z)) (gm_sp hf).1).symm) (gm_sp hf).2.symm dX11_person_160
          · replace hf := (if_neg hc).symm.trans hf
            refine lv_iconst (v := 0) hx hb dX11_person_122 (by decide) ?_
            refine lv_goto (tgt := 160) hx hb dX11_person_123 (by decide) ?_
            exact gm_iret C E hw rfl ((congrArg (fun z => some (Value.int z)) (gm_sp hf).1).symm) (gm_sp hf).2.symm dX11_person_160
        · replace hf := (if_neg hc).symm.trans hf
          refine lv_iload_n hx hb dX11_person_77 rfl (lv_at hl 3 rfl) ?_
          refine lv_iconst (v := 3) hx hb dX11_person_78 (by decide) ?_
          refine lv_icmp_ne (tgt := 86) hx hb dX11_person_79 (by decide) (fun hc => ?_) (fun hc => ?_)
          · replace hf := (if_neg hc).symm.trans hf
            refine lv_iload_n hx hb dX11_person_86 rfl (lv_at hl 3 rfl) ?_
            refine lv_iconst (v := 4) hx hb dX11_person_87 (by decide) ?_
            refine lv_icmp_ne (tgt := 104) hx hb dX11_person_88 (by decide) (fun hc => ?_) (fun hc => ?_)
            · replace hf := (if_neg hc).symm.trans hf
              refine gm_aload_n (G := GM) (r := 1) C rfl dX11_person_104 rfl (lv_at hl 1 rfl) ?_
              refine lv_iload_n hx hb dX11_person_105 rfl (lv_at hl 2 rfl) ?_
              obtain ⟨r_8, hc_9, hf⟩ := gm_bnd hf
              refine gm_callV (G := GM) (u := u_1) (u' := u_1) (r := 1) (ci := 10) (As := [.int a1]) (rest := []) (res := (some (.int r_8))) C hw hl (ok_X11_isDead l Z a1 u_1 r_8 hc_9) cw_X11_330 im_X11_isDead rfl se_X11_isDead rfl rfl rfl ⟨Nat.le_trans (Nat.le_of_ble_eq_true rfl) hRf, Nat.le_trans (Nat.le_of_ble_eq_true rfl) hRl⟩ rfl rfl (Nat.le_of_ble_eq_true rfl) dX11_person_106 (fun H locs hw => ?_)
              refine lv_if_eq (tgt := 116) hx hb dX11_person_109 (by decide) (fun hc => ?_) (fun hc => ?_)
              · replace hf := (if_pos hc).symm.trans hf
                refine lv_iconst (v := 0) hx hb dX11_person_116 (by decide) ?_
                exact gm_iret C E hw rfl ((congrArg (fun z => some (Value.int z)) (gm_sp hf).1).symm) (gm_sp hf).2.symm dX11_person_117
              · replace hf := (if_neg hc).symm.trans hf
                refine lv_iconst (v := 1) hx hb dX11_person_112 (by decide) ?_
                refine lv_goto (tgt := 117) hx hb dX11_person_113 (by decide) ?_
                exact gm_iret C E hw rfl ((congrArg (fun z => some (Value.int z)) (gm_sp hf).1).symm) (gm_sp hf).2.symm dX11_person_117
            · replace hf := (if_pos hc).symm.trans hf
              refine gm_aload_n (G := GM) (r := 1) C rfl dX11_person_91 rfl (lv_at hl 1 rfl) ?_
              refine gm_getS (G := GM) (u := u_1) (r := 1) (ci := 10) (k := 39) C hw rfl fl_X11_93 dX11_person_92 rfl (q := 29) rfl ?_
              refine lv_iconst (v := 3) hx hb dX11_person_95 (by decide) ?_
              refine gm_iald (G := GM) (u := u_1) (r := 29) (n := 22) (i := (3 : Int32)) C hw rfl (by decide) (j := 3) (by decide) dX11_person_96 ?_
              refine lv_iload_n hx hb dX11_person_97 rfl (lv_at hl 2 rfl) ?_
              refine lv_ishr hx hb dX11_person_98 ?_
              refine lv_iconst (v := 1) hx hb dX11_person_99 (by decide) ?_
              refine lv_iand hx hb dX11_person_100 ?_
              refine lv_goto (tgt := 117) hx hb dX11_person_101 (by decide) ?_
              exact gm_iret C E hw rfl ((congrArg (fun z => some (Value.int z)) (gm_sp hf).1).symm) (gm_sp hf).2.symm dX11_person_117
          · replace hf := (if_pos hc).symm.trans hf
            refine lv_iload_n hx hb dX11_person_82 rfl (lv_at hl 0 rfl) ?_
            refine lv_goto (tgt := 117) hx hb dX11_person_83 (by decide) ?_
            exact gm_iret C E hw rfl ((congrArg (fun z => some (Value.int z)) (gm_sp hf).1).symm) (gm_sp hf).2.symm dX11_person_117
      · replace hf := (if_neg hc).symm.trans hf
        refine lv_iload_n hx hb dX11_person_31 rfl (lv_at hl 2 rfl) ?_
        refine lv_if_ne (tgt := 44) hx hb dX11_person_32 (by decide) (fun hc => ?_) (fun hc => ?_)
        · replace hf := (if_neg hc).symm.trans hf
          refine lv_iload_n hx hb dX11_person_44 rfl (lv_at hl 2 rfl) ?_
          refine lv_iconst (v := 1) hx hb dX11_person_45 (by decide) ?_
          refine lv_icmp_ne (tgt := 58) hx hb dX11_person_46 (by decide) (fun hc => ?_) (fun hc => ?_)
          · replace hf := (if_neg hc).symm.trans hf
            refine gm_aload_n (G := GM) (r := 1) C rfl dX11_person_58 rfl (lv_at hl 0 rfl) ?_
            refine gm_getS (G := GM) (u := u_1) (r := 1) (ci := 10) (k := 14) C hw rfl fl_X11_26 dX11_person_59 rfl (q := 7) rfl ?_
            refine lv_iload_n hx hb dX11_person_62 rfl (lv_at hl 1 rfl) ?_
            obtain ⟨g_10, hf⟩ := gm_grd hf
            refine gm_iald (G := GM) (u := u_1) (r := 7) (n := 12) (i := a1) C hw rfl g_10 rfl dX11_person_63 ?_
            exact gm_iret C E hw rfl ((congrArg (fun z => some (Value.int z)) (gm_sp hf).1).symm) (gm_sp hf).2.symm dX11_person_64
          · replace hf := (if_pos hc).symm.trans hf
            refine gm_aload_n (G := GM) (r := 1) C rfl dX11_person_49 rfl (lv_at hl 0 rfl) ?_
            refine gm_getS (G := GM) (u := u_1) (r := 1) (ci := 10) (k := 13) C hw rfl fl_X11_23 dX11_person_50 rfl (q := 6) rfl ?_
            refine lv_iload_n hx hb dX11_person_53 rfl (lv_at hl 1 rfl) ?_
            obtain ⟨g_11, hf⟩ := gm_grd hf
            refine gm_iald (G := GM) (u := u_1) (r := 6) (n := 12) (i := a1) C hw rfl g_11 rfl dX11_person_54 ?_
            refine lv_goto (tgt := 64) hx hb dX11_person_55 (by decide) ?_
            exact gm_iret C E hw rfl ((congrArg (fun z => some (Value.int z)) (gm_sp hf).1).symm) (gm_sp hf).2.symm dX11_person_64
        · replace hf := (if_pos hc).symm.trans hf
          refine gm_aload_n (G := GM) (r := 1) C rfl dX11_person_35 rfl (lv_at hl 0 rfl) ?_
          refine gm_getS (G := GM) (u := u_1) (r := 1) (ci := 10) (k := 12) C hw rfl fl_X11_20 dX11_person_36 rfl (q := 5) rfl ?_
          refine lv_iload_n hx hb dX11_person_39 rfl (lv_at hl 1 rfl) ?_
          obtain ⟨g_12, hf⟩ := gm_grd hf
          refine gm_iald (G := GM) (u := u_1) (r := 5) (n := 12) (i := a1) C hw rfl g_12 rfl dX11_person_40 ?_
          refine lv_goto (tgt := 64) hx hb dX11_person_41 (by decide) ?_
          exact gm_iret C E hw rfl ((congrArg (fun z => some (Value.int z)) (gm_sp hf).1).symm) (gm_sp hf).2.symm dX11_person_64
    · replace hf := (if_pos hc).symm.trans hf
      refine lv_bipush (v := -2) hx hb dX11_person_23 (by decide) ?_
      exact gm_iret C E hw rfl ((congrArg (fun z => some (Value.int z)) (gm_sp hf).1).symm) (gm_sp hf).2.symm dX11_person_25
/-! LeapCapitalModel.keeps -/
def j_X11_keeps_49 (u_1 : gm_M) : Option gm_M := (f_X11_copies 29 22 (0 : Int32) 33 352 ((22 : Int32) * (gI u_1 1 45)) u_1).bind fun u_2 => gm_let (sI u_2 1 45 ((gI u_2 1 45) + (1 : Int32))) fun u_4 => gm_let (sI u_4 1 49 (gI u_4 3 2)) fun u_5 => some u_5
def b_X11_keeps_11 : (Int32 × gm_M) → Option ((Int32 × gm_M) ⊕ gm_M) := fun x => match x with | (v1_7, u_6) => if (330 : Int32) ≤ v1_7 then some (.inr u_6) else if ib (v1_7 + (22 : Int32)) 352 = true then if ib v1_7 352 = true then gm_let (sI u_6 33 (ix v1_7) (gI u_6 33 (ix (v1_7 + (22 : Int32))))) fun u_10 => some (.inl (v1_7 + (1 : Int32), u_10)) else none else none
def f_X11_keeps  (u : gm_M) : Option gm_M := if (gI u 1 45) = (16 : Int32) then ((gm_lp (b_X11_keeps_11) gm_FU ((0 : Int32), u)).bind fun o => match o with | u_11 => gm_let (sI u_11 1 45 ((gI u_11 1 45) - (1 : Int32))) fun u_12 => j_X11_keeps_49 u_12) else j_X11_keeps_49 u
set_option maxRecDepth 100000 in
set_option maxHeartbeats 4000000 in
theorem ok_X11_keeps (l : Launch) (Z : gm_Z)  (u : gm_M)  (u' : gm_M) (hf : f_X11_keeps u = some (u')) : gm_Met l GM Z yX11_keeps cX11_keeps 2 none ({ frames := 1, cells := 0, slots := 0, locals := 24 }) [rv Z 1] u none u' := by
  unfold f_X11_keeps at hf
  refine gm_ofW (by decide +kernel) (Nat.le_of_ble_eq_true rfl) ?_
  intro p e s m args below meth c A ls Q R hRf hRl C E hl hw
  obtain ⟨hx, hb, -⟩ := id C
  have hl : lv_has ls 2 [(0, rv Z 1)] := hl
  have J49 : ∀  (u_1 : gm_M) (H : Heap) (locs : List Loc) (ls : Array Slot), j_X11_keeps_49 u_1 = some (u') → lv_has ls 2 [(0, rv Z 1)] → wd GM Z u_1 A s.heap H locs → W p l e R s m args below meth c H locs 0 0 Q (F0 m 49 ls []) := by
    intro  u_1 H locs ls hf  hl hw
    unfold j_X11_keeps_49 at hf
    refine gm_aload_n (G := GM) (r := 1) C rfl dX11_keeps_49 rfl (lv_at hl 0 rfl) ?_
    refine gm_getS (G := GM) (u := u_1) (r := 1) (ci := 10) (k := 39) C hw rfl fl_X11_93 dX11_keeps_50 rfl (q := 29) rfl ?_
    refine lv_iconst (v := 0) hx hb dX11_keeps_53 (by decide) ?_
    refine gm_aload_n (G := GM) (r := 1) C rfl dX11_keeps_54 rfl (lv_at hl 0 rfl) ?_
    refine gm_getS (G := GM) (u := u_1) (r := 1) (ci := 10) (k := 43) C hw rfl fl_X11_105 dX11_keeps_55 rfl (q := 33) rfl ?_
    refine lv_bipush (v := 22) hx hb dX11_keeps_58 (by decide) ?_
    refine gm_aload_n (G := GM) (r := 1) C rfl dX11_keeps_60 rfl (lv_at hl 0 rfl) ?_
    refine gm_getI (G := GM) (u := u_1) (r := 1) (ci := 10) (k := 45) C hw rfl fl_X11_307 dX11_keeps_61 rfl ?_
    refine lv_imul hx hb dX11_keeps_64 ?_
    obtain ⟨u_2, hc_3, hf⟩ := gm_bnd hf
    refine gm_callS (G := GM) (u := u_1) (u' := u_2) (As := [rv Z 29, .int (0 : Int32), rv Z 33, .int ((22 : Int32) * (gI u_1 1 45))]) (rest := []) (res := none) C hw hl (ok_X11_copies l Z 29 22 (0 : Int32) 33 352 ((22 : Int32) * (gI u_1 1 45)) u_1 rfl rfl u_2 hc_3) cw_X11_376 st_X11_copies rfl rfl ⟨Nat.le_trans (Nat.le_of_ble_eq_true rfl) hRf, Nat.le_trans (Nat.le_of_ble_eq_true rfl) hRl⟩ rfl rfl (Nat.le_of_ble_eq_true rfl) dX11_keeps_65 (fun H locs hw => ?_)
    refine gm_aload_n (G := GM) (r := 1) C rfl dX11_keeps_68 rfl (lv_at hl 0 rfl) ?_
    refine lv_dup hx hb dX11_keeps_69 (gm_cat _ _) ?_
    refine gm_getI (G := GM) (u := u_2) (r := 1) (ci := 10) (k := 45) C hw rfl fl_X11_307 dX11_keeps_70 rfl ?_
    refine lv_iconst (v := 1) hx hb dX11_keeps_73 (by decide) ?_
    refine lv_iadd hx hb dX11_keeps_74 ?_
    refine gm_putI (G := GM) (u := u_2) (r := 1) (ci := 10) (k := 45) (v := (gI u_2 1 45) + (1 : Int32)) C hw rfl fl_X11_307 fp_10_45 dX11_keeps_75 rfl (fun H locs hw => ?_)
    obtain ⟨u_4, e_u_4, hf⟩ := gm_le hf
    rw [← e_u_4] at hw
    refine gm_aload_n (G := GM) (r := 1) C rfl dX11_keeps_78 rfl (lv_at hl 0 rfl) ?_
    refine gm_aload_n (G := GM) (r := 1) C rfl dX11_keeps_79 rfl (lv_at hl 0 rfl) ?_
    refine gm_getS (G := GM) (u := u_4) (r := 1) (ci := 10) (k := 10) C hw rfl fl_X11_13 dX11_keeps_80 rfl (q := 3) rfl ?_
    refine lv_iconst (v := 2) hx hb dX11_keeps_83 (by decide) ?_
    refine gm_iald (G := GM) (u := u_4) (r := 3) (n := 8) (i := (2 : Int32)) C hw rfl (by decide) (j := 2) (by decide) dX11_keeps_84 ?_
    refine gm_putI (G := GM) (u := u_4) (r := 1) (ci := 10) (k := 49) (v := gI u_4 3 2) C hw rfl fl_X11_117 fp_10_49 dX11_keeps_85 rfl (fun H locs hw => ?_)
    obtain ⟨u_5, e_u_5, hf⟩ := gm_le hf
    rw [← e_u_5] at hw
    exact gm_vret C E hw rfl rfl (Option.some.inj hf).symm dX11_keeps_88
  refine gm_aload_n (G := GM) (r := 1) C rfl dX11_keeps_0 rfl (lv_at hl 0 rfl) ?_
  refine gm_getI (G := GM) (u := u) (r := 1) (ci := 10) (k := 45) C hw rfl fl_X11_307 dX11_keeps_1 rfl ?_
  refine lv_bipush (v := 16) hx hb dX11_keeps_4 (by decide) ?_
  refine lv_icmp_ne (tgt := 49) hx hb dX11_keeps_6 (by decide) (fun hc => ?_) (fun hc => ?_)
  · replace hf := (if_neg hc).symm.trans hf
    exact J49 u _ _ _ hf  (lv_sub hl [0] rfl) hw
  · replace hf := (if_pos hc).symm.trans hf
    refine lv_iconst (v := 0) hx hb dX11_keeps_9 (by decide) ?_
    refine lv_istore_n (i := 1) (lv' := [(1, .int (0 : Int32)), (0, rv Z 1)]) hx hb dX11_keeps_10 rfl hl (by decide) rfl (fun ls hl => ?_)
    obtain ⟨o1, hlp, hf⟩ := gm_bnd hf
    have L11_1 := gm_loop (b_X11_keeps_11) (fun x : (Int32 × gm_M) => ∀ (H : Heap) (locs : List Loc) (ls : Array Slot), lv_has ls 2 [(0, rv Z 1), (1, .int x.1)] → wd GM Z x.2 A s.heap H locs → W p l e R s m args below meth c H locs 0 0 Q (F0 m 11 ls [])) (fun z : gm_M => ∀ (H : Heap) (locs : List Loc) (ls : Array Slot), lv_has ls 2 [(0, rv Z 1)] → wd GM Z z A s.heap H locs → W p l e R s m args below meth c H locs 0 0 Q (F0 m 39 ls [])) (by
      intro x o1 hf Kc Kx
      obtain ⟨v1_7, u_6⟩ := x
      intro H locs ls hl hw
      unfold b_X11_keeps_11 at hf
      try dsimp only at hf
      refine lv_iload_n hx hb dX11_keeps_11 rfl (lv_at hl 1 rfl) ?_
      refine lv_sipush (v := 330) hx hb dX11_keeps_12 (by decide) ?_
      refine lv_icmp_ge (tgt := 39) hx hb dX11_keeps_15 (by decide) (fun hc => ?_) (fun hc => ?_)
      · replace hf := (if_pos hc).symm.trans hf
        exact Kx _ (gm_si hf) _ _ _ (lv_sub hl [0] rfl) hw
      · replace hf := (if_neg hc).symm.trans hf
        refine gm_aload_n (G := GM) (r := 1) C rfl dX11_keeps_18 rfl (lv_at hl 0 rfl) ?_
        refine gm_getS (G := GM) (u := u_6) (r := 1) (ci := 10) (k := 43) C hw rfl fl_X11_105 dX11_keeps_19 rfl (q := 33) rfl ?_
        refine lv_iload_n hx hb dX11_keeps_22 rfl (lv_at hl 1 rfl) ?_
        refine gm_aload_n (G := GM) (r := 1) C rfl dX11_keeps_23 rfl (lv_at hl 0 rfl) ?_
        refine gm_getS (G := GM) (u := u_6) (r := 1) (ci := 10) (k := 43) C hw rfl fl_X11_105 dX11_keeps_24 rfl (q := 33) rfl ?_
        refine lv_iload_n hx hb dX11_keeps_27 rfl (lv_at hl 1 rfl) ?_
        refine lv_bipush (v := 22) hx hb dX11_keeps_28 (by decide) ?_
        refine lv_iadd hx hb dX11_keeps_30 ?_
        obtain ⟨g_8, hf⟩ := gm_grd hf
        refine gm_iald (G := GM) (u := u_6) (r := 33) (n := 352) (i := v1_7 + (22 : Int32)) C hw rfl g_8 rfl dX11_keeps_31 ?_
        obtain ⟨g_9, hf⟩ := gm_grd hf
        refine gm_iast (G := GM) (u := u_6) (r := 33) (n := 352) (i := v1_7) (x := gI u_6 33 (ix (v1_7 + (22 : Int32)))) C hw rfl g_9 rfl dX11_keeps_32 (fun H locs hw => ?_)
        obtain ⟨u_10, e_u_10, hf⟩ := gm_le hf
        rw [← e_u_10] at hw
        refine lv_iinc (v := v1_7 + (1 : Int32)) (lv' := [(1, .int (v1_7 + (1 : Int32))), (0, rv Z 1)]) hx hb dX11_keeps_33 hl (k := 1) rfl rfl (by decide) rfl (fun ls hl => ?_)
        refine lv_goto (tgt := 11) hx hb dX11_keeps_36 (by decide) ?_
        exact Kc _ (gm_si hf) _ _ _ (lv_sub hl [1, 0] rfl) hw)
    refine L11_1 _ _ _ hlp ?_ _ _ _ (lv_sub hl [1, 0] rfl) hw
    obtain ⟨u_11, rfl⟩ : ∃ y, y = o1 := ⟨_, rfl⟩
    intro H locs ls hl hw
    try dsimp only at hf
    refine gm_aload_n (G := GM) (r := 1) C rfl dX11_keeps_39 rfl (lv_at hl 0 rfl) ?_
    refine lv_dup hx hb dX11_keeps_40 (gm_cat _ _) ?_
    refine gm_getI (G := GM) (u := u_11) (r := 1) (ci := 10) (k := 45) C hw rfl fl_X11_307 dX11_keeps_41 rfl ?_
    refine lv_iconst (v := 1) hx hb dX11_keeps_44 (by decide) ?_
    refine lv_isub hx hb dX11_keeps_45 ?_
    refine gm_putI (G := GM) (u := u_11) (r := 1) (ci := 10) (k := 45) (v := (gI u_11 1 45) - (1 : Int32)) C hw rfl fl_X11_307 fp_10_45 dX11_keeps_46 rfl (fun H locs hw => ?_)
    obtain ⟨u_12, e_u_12, hf⟩ := gm_le hf
    rw [← e_u_12] at hw
    exact J49 u_12 _ _ _ hf  (lv_sub hl [0] rfl) hw
/-! LeapCapitalModel.come -/
def f_X11_come (a1 : Int32) (u : gm_M) : Option (Int32 × gm_M) := gm_let (sI u 1 0 (0 : Int32)) fun u_1 => gm_let (f_X11_isPerson a1 u_1) fun r_2 => if r_2 = 0 then some ((-1 : Int32), u_1) else (f_X11_canCome a1 u_1).bind fun r_3 => if r_3 = 0 then some ((-1 : Int32), u_1) else (f_X11_keeps u_1).bind fun u_5 => (f_X11_comes a1 u_5).bind fun u_7 => some ((gI u_7 29 2) - (1 : Int32), u_7)
set_option maxRecDepth 100000 in
set_option maxHeartbeats 4000000 in
theorem ok_X11_come (l : Launch) (Z : gm_Z) (a1 : Int32) (u : gm_M)  (r : Int32) (u' : gm_M) (hf : f_X11_come a1 u = some (r, u')) : gm_Met l GM Z yX11_come cX11_come 2 (some .int) ({ frames := 2, cells := 0, slots := 0, locals := 45 }) [rv Z 1, .int a1] u (some (.int r)) u' := by
  unfold f_X11_come at hf
  refine gm_ofW (by decide +kernel) (Nat.le_of_ble_eq_true rfl) ?_
  intro p e s m args below meth c A ls Q R hRf hRl C E hl hw
  obtain ⟨hx, hb, -⟩ := id C
  have hl : lv_has ls 2 [(0, rv Z 1), (1, .int a1)] := hl
  refine gm_aload_n (G := GM) (r := 1) C rfl dX11_come_0 rfl (lv_at hl 0 rfl) ?_
  refine lv_iconst (v := 0) hx hb dX11_come_1 (by decide) ?_
  refine gm_putI (G := GM) (u := u) (r := 1) (ci := 10) (k := 0) (v := (0 : Int32)) C hw rfl fl_X11_137 fp_10_0 dX11_come_2 rfl (fun H locs hw => ?_)
  obtain ⟨u_1, e_u_1, hf⟩ := gm_le hf
  rw [← e_u_1] at hw
  refine gm_aload_n (G := GM) (r := 1) C rfl dX11_come_5 rfl (lv_at hl 0 rfl) ?_
  refine lv_iload_n hx hb dX11_come_6 rfl (lv_at hl 1 rfl) ?_
  obtain ⟨r_2, e_r_2, hf⟩ := gm_le hf
  refine gm_callV (G := GM) (u := u_1) (u' := u_1) (r := 1) (ci := 10) (As := [.int a1]) (rest := []) (res := (some (.int (f_X11_isPerson a1 u_1)))) C hw hl (ok_X11_isPerson l Z a1 u_1) cw_X11_373 im_X11_isPerson rfl se_X11_isPerson rfl rfl rfl ⟨Nat.le_trans (Nat.le_of_ble_eq_true rfl) hRf, Nat.le_trans (Nat.le_of_ble_eq_true rfl) hRl⟩ rfl rfl (Nat.le_of_ble_eq_true rfl) dX11_come_7 (fun H locs hw => ?_)
  refine gm_topI e_r_2 ?_
  refine lv_if_eq (tgt := 21) hx hb dX11_come_10 (by decide) (fun hc => ?_) (fun hc => ?_)
  · replace hf := (if_pos hc).symm.trans hf
    refine lv_iconst (v := -1) hx hb dX11_come_21 (by decide) ?_
    exact gm_iret C E hw rfl ((congrArg (fun z => some (Value.int z)) (gm_sp hf).1).symm) (gm_sp hf).2.symm dX11_come_22
  · replace hf := (if_neg hc).symm.trans hf
    refine gm_aload_n (G := GM) (r := 1) C rfl dX11_come_13 rfl (lv_at hl 0 rfl) ?_
    refine lv_iload_n hx hb dX11_come_14 rfl (lv_at hl 1 rfl) ?_
    obtain ⟨r_3, hc_4, hf⟩ := gm_bnd hf
    refine gm_callV (G := GM) (u := u_1) (u' := u_1) (r := 1) (ci := 10) (As := [.int a1]) (rest := []) (res := (some (.int r_3))) C hw hl (ok_X11_canCome l Z a1 u_1 r_3 hc_4) cw_X11_380 im_X11_canCome rfl se_X11_canCome rfl rfl rfl ⟨Nat.le_trans (Nat.le_of_ble_eq_true rfl) hRf, Nat.le_trans (Nat.le_of_ble_eq_true rfl) hRl⟩ rfl rfl (Nat.le_of_ble_eq_true rfl) dX11_come_15 (fun H locs hw => ?_)
    refine lv_if_ne (tgt := 23) hx hb dX11_come_18 (by decide) (fun hc => ?_) (fun hc => ?_)
    · replace hf := (if_neg hc).symm.trans hf
      refine gm_aload_n (G := GM) (r := 1) C rfl dX11_come_23 rfl (lv_at hl 0 rfl) ?_
      obtain ⟨u_5, hc_6, hf⟩ := gm_bnd hf
      refine gm_callV (G := GM) (u := u_1) (u' := u_5) (r := 1) (ci := 10) (As := []) (rest := []) (res := none) C hw hl (ok_X11_keeps l Z u_1 u_5 hc_6) cw_X11_383 im_X11_keeps rfl se_X11_keeps rfl rfl rfl ⟨Nat.le_trans (Nat.le_of_ble_eq_true rfl) hRf, Nat.le_trans (Nat.le_of_ble_eq_true rfl) hRl⟩ rfl rfl (Nat.le_of_ble_eq_true rfl) dX11_come_24 (fun H locs hw => ?_)
      refine gm_aload_n (G := GM) (r := 1) C rfl dX11_come_27 rfl (lv_at hl 0 rfl) ?_
      refine lv_iload_n hx hb dX11_come_28 rfl (lv_at hl 1 rfl) ?_
      obtain ⟨u_7, hc_8, hf⟩ := gm_bnd hf
      refine gm_callV (G := GM) (u := u_5) (u' := u_7) (r := 1) (ci := 10) (As := [.int a1]) (rest := []) (res := none) C hw hl (ok_X11_comes l Z a1 u_5 u_7 hc_8) cw_X11_386 im_X11_comes rfl se_X11_comes rfl rfl rfl ⟨Nat.le_trans (Nat.le_of_ble_eq_true rfl) hRf, Nat.le_trans (Nat.le_of_ble_eq_true rfl) hRl⟩ rfl rfl (Nat.le_of_ble_eq_true rfl) dX11_come_29 (fun H locs hw => ?_)
      refine gm_aload_n (G := GM) (r := 1) C rfl dX11_come_32 rfl (lv_at hl 0 rfl) ?_
      refine gm_getS (G := GM) (u := u_7) (r := 1) (ci := 10) (k := 39) C hw rfl fl_X11_93 dX11_come_33 rfl (q := 29) rfl ?_
      refine lv_iconst (v := 2) hx hb dX11_come_36 (by decide) ?_
      refine gm_iald (G := GM) (u := u_7) (r := 29) (n := 22) (i := (2 : Int32)) C hw rfl (by decide) (j := 2) (by decide) dX11_come_37 ?_
      refine lv_iconst (v := 1) hx hb dX11_come_38 (by decide) ?_
      refine lv_isub hx hb dX11_come_39 ?_
      exact gm_iret C E hw rfl ((congrArg (fun z => some (Value.int z)) (gm_sp hf).1).symm) (gm_sp hf).2.symm dX11_come_40
    · replace hf := (if_pos hc).symm.trans hf
      refine lv_iconst (v := -1) hx hb dX11_come_21 (by decide) ?_
      exact gm_iret C E hw rfl ((congrArg (fun z => some (Value.int z)) (gm_sp hf).1).symm) (gm_sp hf).2.symm dX11_come_22
/-! LeapCapitalModel.leave -/
def f_X11_leave (a1 : Int32) (u : gm_M) : Option (Int32 × gm_M) := gm_let (sI u 1 0 (0 : Int32)) fun u_1 => gm_let (f_X11_isPerson a1 u_1) fun r_2 => if r_2 = 0 then some ((0 : Int32), u_1) else (f_X11_placeOf a1 u_1).bind fun r_3 => if 0 ≤ r_3 then (f_X11_keeps u_1).bind fun u_5 => (f_X11_leaves a1 u_5).bind fun u_7 => some ((1 : Int32), u_7) else some ((0 : Int32), u_1)
set_option maxRecDepth 100000 in
set_option maxHeartbeats 4000000 in
theorem ok_X11_leave (l : Launch) (Z : gm_Z) (a1 : Int32) (u : gm_M)  (r : Int32) (u' : gm_M) (hf : f_X11_leave a1 u = some (r, u')) : gm_Met l GM Z yX11_leave cX11_leave 2 (some .boolean) ({ frames := 2, cells := 0, slots := 0, locals := 45 }) [rv Z 1, .int a1] u (some (.int r)) u' := by
  unfold f_X11_leave at hf
  refine gm_ofW (by decide +kernel) (Nat.le_of_ble_eq_true rfl) ?_
  intro p e s m args below meth c A ls Q R hRf hRl C E hl hw
  obtain ⟨hx, hb, -⟩ := id C
  have hl : lv_has ls 2 [(0, rv Z 1), (1, .int a1)] := hl
  refine gm_aload_n (G := GM) (r := 1) C rfl dX11_leave_0 rfl (lv_at hl 0 rfl) ?_
  refine lv_iconst (v := 0) hx hb dX11_leave_1 (by decide) ?_
  refine gm_putI (G := GM) (u := u) (r := 1) (ci := 10) (k := 0) (v := (0 : Int32)) C hw rfl fl_X11_137 fp_10_0 dX11_leave_2 rfl (fun H locs hw => ?_)
  obtain ⟨u_1, e_u_1, hf⟩ := gm_le hf
  rw [← e_u_1] at hw
  refine gm_aload_n (G := GM) (r := 1) C rfl dX11_leave_5 rfl (lv_at hl 0 rfl) ?_
  refine lv_iload_n hx hb dX11_leave_6 rfl (lv_at hl 1 rfl) ?_
  obtain ⟨r_2, e_r_2, hf⟩ := gm_le hf
  refine gm_callV (G := GM) (u := u_1) (u' := u_1) (r := 1) (ci := 10) (As := [.int a1]) (rest := []) (res := (some (.int (f_X11_isPerson a1 u_1)))) C hw hl (ok_X11_isPerson l Z a1 u_1) cw_X11_373 im_X11_isPerson rfl se_X11_isPerson rfl rfl rfl ⟨Nat.le_trans (Nat.le_of_ble_eq_true rfl) hRf, Nat.le_trans (Nat.le_of_ble_eq_true rfl) hRl⟩ rfl rfl (Nat.le_of_ble_eq_true rfl) dX11_leave_7 (fun H locs hw => ?_)
  refine gm_topI e_r_2 ?_
  refine lv_if_eq (tgt := 21) hx hb dX11_leave_10 (by decide) (fun hc => ?_) (fun hc => ?_)
  · replace hf := (if_pos hc).symm.trans hf
    refine lv_iconst (v := 0) hx hb dX11_leave_21 (by decide) ?_
    exact gm_zret C E hw rfl rfl ((congrArg (fun z => some (Value.int z)) (gm_sp hf).1).symm) (gm_sp hf).2.symm dX11_leave_22
  · replace hf := (if_neg hc).symm.trans hf
    refine gm_aload_n (G := GM) (r := 1) C rfl dX11_leave_13 rfl (lv_at hl 0 rfl) ?_
    refine lv_iload_n hx hb dX11_leave_14 rfl (lv_at hl 1 rfl) ?_
    obtain ⟨r_3, hc_4, hf⟩ := gm_bnd hf
    refine gm_callV (G := GM) (u := u_1) (u' := u_1) (r := 1) (ci := 10) (As := [.int a1]) (rest := []) (res := (some (.int r_3))) C hw hl (ok_X11_placeOf l Z a1 u_1 r_3 hc_4) cw_X11_324 im_X11_placeOf rfl se_X11_placeOf rfl rfl rfl ⟨Nat.le_trans (Nat.le_of_ble_eq_true rfl) hRf, Nat.le_trans (Nat.le_of_ble_eq_true rfl) hRl⟩ rfl rfl (Nat.le_of_ble_eq_true rfl) dX11_leave_15 (fun H locs hw => ?_)
    refine lv_if_ge (tgt := 23) hx hb dX11_leave_18 (by decide) (fun hc => ?_) (fun hc => ?_)
    · replace hf := (if_pos hc).symm.trans hf
      refine gm_aload_n (G := GM) (r := 1) C rfl dX11_leave_23 rfl (lv_at hl 0 rfl) ?_
      obtain ⟨u_5, hc_6, hf⟩ := gm_bnd hf
      refine gm_callV (G := GM) (u := u_1) (u' := u_5) (r := 1) (ci := 10) (As := []) (rest := []) (res := none) C hw hl (ok_X11_keeps l Z u_1 u_5 hc_6) cw_X11_383 im_X11_keeps rfl se_X11_keeps rfl rfl rfl ⟨Nat.le_trans (Nat.le_of_ble_eq_true rfl) hRf, Nat.le_trans (Nat.le_of_ble_eq_true rfl) hRl⟩ rfl rfl (Nat.le_of_ble_eq_true rfl) dX11_leave_24 (fun H locs hw => ?_)
      refine gm_aload_n (G := GM) (r := 1) C rfl dX11_leave_27 rfl (lv_at hl 0 rfl) ?_
      refine lv_iload_n hx hb dX11_leave_28 rfl (lv_at hl 1 rfl) ?_
      obtain ⟨u_7, hc_8, hf⟩ := gm_bnd hf
      refine gm_callV (G := GM) (u := u_5) (u' := u_7) (r := 1) (ci := 10) (As := [.int a1]) (rest := []) (res := none) C hw hl (ok_X11_leaves l Z a1 u_5 u_7 hc_8) cw_X11_361 im_X11_leaves rfl se_X11_leaves rfl rfl rfl ⟨Nat.le_trans (Nat.le_of_ble_eq_true rfl) hRf, Nat.le_trans (Nat.le_of_ble_eq_true rfl) hRl⟩ rfl rfl (Nat.le_of_ble_eq_true rfl) dX11_leave_29 (fun H locs hw => ?_)
      refine lv_iconst (v := 1) hx hb dX11_leave_32 (by decide) ?_
      exact gm_zret C E hw rfl rfl ((congrArg (fun z => some (Value.int z)) (gm_sp hf).1).symm) (gm_sp hf).2.symm dX11_leave_33
    · replace hf := (if_neg hc).symm.trans hf
      refine lv_iconst (v := 0) hx hb dX11_leave_21 (by decide) ?_
      exact gm_zret C E hw rfl rfl ((congrArg (fun z => some (Value.int z)) (gm_sp hf).1).symm) (gm_sp hf).2.symm dX11_leave_22
