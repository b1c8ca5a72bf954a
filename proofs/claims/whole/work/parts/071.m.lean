/-! LeapCapital$Scribe.readProduct -/
def b_X8_readProduct_8 (rp : Nat → Int32 → gm_M → Option gm_M) (a1 : Nat) (a2 : Int32) : (Int32 × gm_M) → Option ((Int32 × gm_M) ⊕ gm_M) := fun x => match x with | (v3_5, u_4) => if (1000 : Int32) ≤ v3_5 then some (.inr u_4) else if (gI u_4 2 1) = 0 then gm_let (f_X9_isSignOf (42 : Int32) u_4) fun r_6 => if r_6 = 0 then some (.inr u_4) else (f_X9_advance u_4).bind fun u_7 => (rp a1 a2 u_7).bind fun u_9 => (f_X3_add a1 (-8 : Int32) u_9).bind fun u_11 => some (.inl (v3_5 + (1 : Int32), u_11)) else some (.inr u_4)
def f_X8_readProductO (rp : Nat → Int32 → gm_M → Option gm_M) (a1 : Nat) (a2 : Int32) (u : gm_M) : Option gm_M := (rp a1 a2 u).bind fun u_2 => ((gm_lp (b_X8_readProduct_8 rp a1 a2) gm_FU ((0 : Int32), u_2)).bind fun o => match o with | u_13 => some u_13)
set_option maxRecDepth 100000 in
set_option maxHeartbeats 4000000 in
theorem ok_X8_readProductO (l : Launch) (Z : gm_Z) (rp : Nat → Int32 → gm_M → Option gm_M) (F Lc : Nat) (hrp : ∀ (a1 : Nat) (a2 : Int32) (u u' : gm_M) (h1 : isLaw a1 = true), rp a1 a2 u = some u' → gm_Met l GC Z yX8_readPart cX8_readPart 7 none ({ frames := F, cells := 0, slots := 0, locals := Lc }) [rv Z 2, rv Z a1, .int a2] u none u') (a1 : Nat) (a2 : Int32) (u : gm_M) (h1 : isLaw a1 = true) (u' : gm_M) (hf : f_X8_readProductO rp a1 a2 u = some (u')) : gm_Met l GC Z yX8_readProduct cX8_readProduct 4 none ({ frames := F + 7, cells := 0, slots := 0, locals := Lc + 154 }) [rv Z 2, rv Z a1, .int a2] u none u' := by
  unfold f_X8_readProductO at hf
  refine gm_ofW (by decide +kernel) (by simp [lg_sl, gm_cat, gm_catI, gm_catJ]) ?_
  intro p e s m args below meth c A ls Q R hRf hRl C E hl hw
  have hRf : F + 7 ≤ R.frames := hRf
  have hRl : Lc + 154 ≤ R.locals := hRl
  obtain ⟨hx, hb, -⟩ := id C
  have hl : lv_has ls 4 [(0, rv Z 2), (1, rv Z a1), (2, .int a2)] := by simpa [lv_args, gm_cat, gm_catI, gm_catJ] using hl
  obtain ⟨k_1_0, k_1_1, k_1_2, k_1_3, k_1_4⟩ := fc_Law h1
  refine gm_aload_n (G := GC) (r := 2) C rfl dX8_readProduct_0 rfl (lv_at hl 0 rfl) ?_
  refine gm_aload_n (G := GC) (r := a1) C k_1_0 dX8_readProduct_1 rfl (lv_at hl 1 rfl) ?_
  refine lv_iload_n hx hb dX8_readProduct_2 rfl (lv_at hl 2 rfl) ?_
  obtain ⟨u_2, hc_3, hf⟩ := gm_bnd hf
  refine gm_callV (G := GC) (u := u) (u' := u_2) (r := 2) (ci := 7) (As := [rv Z a1, .int a2]) (rest := []) (res := none) C hw hl (hrp a1 a2 u u_2 h1 hc_3) cw_X8_144 im_X8_readPart rfl se_X8_readPart rfl rfl rfl ⟨(by omega : F + 1 ≤ R.frames), (by omega : 8 + (7 + 11) + (Lc) ≤ R.locals)⟩ rfl rfl (Nat.le_of_ble_eq_true rfl) dX8_readProduct_3 (fun H locs hw => ?_)
  refine lv_iconst (v := 0) hx hb dX8_readProduct_6 (by decide) ?_
  refine lv_istore_n (i := 3) (lv' := [(3, .int (0 : Int32)), (0, rv Z 2), (1, rv Z a1), (2, .int a2)]) hx hb dX8_readProduct_7 rfl hl (by decide) rfl (fun ls hl => ?_)
  obtain ⟨o1, hlp, hf⟩ := gm_bnd hf
  have L8_1 := gm_loop (b_X8_readProduct_8 rp a1 a2) (fun x : (Int32 × gm_M) => ∀ (H : Heap) (locs : List Loc) (ls : Array Slot), lv_has ls 4 [(0, rv Z 2), (1, rv Z a1), (2, .int a2), (3, .int x.1)] → wd GC Z x.2 A s.heap H locs → W p l e R s m args below meth c H locs 0 0 Q (F0 m 8 ls [])) (fun z : gm_M => ∀ (H : Heap) (locs : List Loc) (ls : Array Slot), lv_has ls 4 [] → wd GC Z z A s.heap H locs → W p l e R s m args below meth c H locs 0 0 Q (F0 m 59 ls [])) (by
    intro x o1 hf Kc Kx
    obtain ⟨v3_5, u_4⟩ := x
    intro H locs ls hl hw
    unfold b_X8_readProduct_8 at hf
    try dsimp only at hf
    refine lv_iload_n hx hb dX8_readProduct_8 rfl (lv_at hl 3 rfl) ?_
    refine lv_sipush (v := 1000) hx hb dX8_readProduct_9 (by decide) ?_
    refine lv_icmp_ge (tgt := 59) hx hb dX8_readProduct_12 (by decide) (fun hc => ?_) (fun hc => ?_)
    · replace hf := (if_pos hc).symm.trans hf
      exact Kx _ (gm_si hf) _ _ _ (lv_sub hl [] rfl) hw
    · replace hf := (if_neg hc).symm.trans hf
      refine gm_aload_n (G := GC) (r := 2) C rfl dX8_readProduct_15 rfl (lv_at hl 0 rfl) ?_
      refine gm_getI (G := GC) (u := u_4) (r := 2) (ci := 7) (k := 1) C hw rfl fl_X8_18 dX8_readProduct_16 rfl ?_
      refine lv_if_ne (tgt := 59) hx hb dX8_readProduct_19 (by decide) (fun hc => ?_) (fun hc => ?_)
      · replace hf := (if_neg hc).symm.trans hf
        exact Kx _ (gm_si hf) _ _ _ (lv_sub hl [] rfl) hw
      · replace hf := (if_pos hc).symm.trans hf
        refine gm_aload_n (G := GC) (r := 2) C rfl dX8_readProduct_22 rfl (lv_at hl 0 rfl) ?_
        refine gm_getS (G := GC) (u := u_4) (r := 2) (ci := 7) (k := 0) C hw rfl fl_X8_12 dX8_readProduct_23 rfl (q := 3) rfl ?_
        refine lv_bipush (v := 42) hx hb dX8_readProduct_26 (by decide) ?_
        obtain ⟨r_6, e_r_6, hf⟩ := gm_le hf
        refine gm_callV (G := GC) (u := u_4) (u' := u_4) (r := 3) (ci := 8) (As := [.int (42 : Int32)]) (rest := []) (res := (some (.int (f_X9_isSignOf (42 : Int32) u_4)))) C hw hl (ok_X9_isSignOf l Z (42 : Int32) u_4) cw_X8_137 im_X9_isSignOf rfl se_X9_isSignOf rfl rfl rfl ⟨(by omega : 0 + 1 ≤ R.frames), (by omega : 8 + (2 + 11) + (0) ≤ R.locals)⟩ rfl rfl (Nat.le_of_ble_eq_true rfl) dX8_readProduct_28 (fun H locs hw => ?_)
        refine gm_topI e_r_6 ?_
        refine lv_if_eq (tgt := 59) hx hb dX8_readProduct_31 (by decide) (fun hc => ?_) (fun hc => ?_)
        · replace hf := (if_pos hc).symm.trans hf
          exact Kx _ (gm_si hf) _ _ _ (lv_sub hl [] rfl) hw
        · replace hf := (if_neg hc).symm.trans hf
          refine gm_aload_n (G := GC) (r := 2) C rfl dX8_readProduct_34 rfl (lv_at hl 0 rfl) ?_
          refine gm_getS (G := GC) (u := u_4) (r := 2) (ci := 7) (k := 0) C hw rfl fl_X8_12 dX8_readProduct_35 rfl (q := 3) rfl ?_
          obtain ⟨u_7, hc_8, hf⟩ := gm_bnd hf
          refine gm_callV (G := GC) (u := u_4) (u' := u_7) (r := 3) (ci := 8) (As := []) (rest := []) (res := none) C hw hl (ok_X9_advance l Z u_4 u_7 hc_8) cw_X8_129 im_X9_advance rfl se_X9_advance rfl rfl rfl ⟨(by omega : 6 + 1 ≤ R.frames), (by omega : 8 + (3 + 11) + (132) ≤ R.locals)⟩ rfl rfl (Nat.le_of_ble_eq_true rfl) dX8_readProduct_38 (fun H locs hw => ?_)
          refine gm_aload_n (G := GC) (r := 2) C rfl dX8_readProduct_41 rfl (lv_at hl 0 rfl) ?_
          refine gm_aload_n (G := GC) (r := a1) C k_1_0 dX8_readProduct_42 rfl (lv_at hl 1 rfl) ?_
          refine lv_iload_n hx hb dX8_readProduct_43 rfl (lv_at hl 2 rfl) ?_
          obtain ⟨u_9, hc_10, hf⟩ := gm_bnd hf
          refine gm_callV (G := GC) (u := u_7) (u' := u_9) (r := 2) (ci := 7) (As := [rv Z a1, .int a2]) (rest := []) (res := none) C hw hl (hrp a1 a2 u_7 u_9 h1 hc_10) cw_X8_144 im_X8_readPart rfl se_X8_readPart rfl rfl rfl ⟨(by omega : F + 1 ≤ R.frames), (by omega : 8 + (7 + 11) + (Lc) ≤ R.locals)⟩ rfl rfl (Nat.le_of_ble_eq_true rfl) dX8_readProduct_44 (fun H locs hw => ?_)
          refine gm_aload_n (G := GC) (r := a1) C k_1_0 dX8_readProduct_47 rfl (lv_at hl 1 rfl) ?_
          refine lv_bipush (v := -8) hx hb dX8_readProduct_48 (by decide) ?_
          obtain ⟨u_11, hc_12, hf⟩ := gm_bnd hf
          refine gm_callV (G := GC) (u := u_9) (u' := u_11) (r := a1) (ci := 2) (As := [.int (-8 : Int32)]) (rest := []) (res := none) C hw hl (ok_X3_add l Z a1 (-8 : Int32) u_9 h1 u_11 hc_12) cw_X8_132 im_X3_add rfl se_X3_add k_1_0 rfl rfl ⟨(by omega : 0 + 1 ≤ R.frames), (by omega : 8 + (2 + 11) + (0) ≤ R.locals)⟩ rfl rfl (Nat.le_of_ble_eq_true rfl) dX8_readProduct_50 (fun H locs hw => ?_)
          refine lv_iinc (v := v3_5 + (1 : Int32)) (lv' := [(3, .int (v3_5 + (1 : Int32))), (0, rv Z 2), (1, rv Z a1), (2, .int a2)]) hx hb dX8_readProduct_53 hl (k := 3) rfl rfl (by decide) rfl (fun ls hl => ?_)
          refine lv_goto (tgt := 8) hx hb dX8_readProduct_56 (by decide) ?_
          exact Kc _ (gm_si hf) _ _ _ (lv_sub hl [1, 2, 3, 0] rfl) hw)
  refine L8_1 _ _ _ hlp ?_ _ _ _ (lv_sub hl [1, 2, 3, 0] rfl) hw
  obtain ⟨u_13, rfl⟩ : ∃ y, y = o1 := ⟨_, rfl⟩
  intro H locs ls hl hw
  try dsimp only at hf
  exact gm_vret C E hw rfl rfl (Option.some.inj hf).symm dX8_readProduct_59
/-! LeapCapital$Scribe.readSum -/
def j_X8_readSum_77 (rp : Nat → Int32 → gm_M → Option gm_M) (a1 : Nat) (a2 : Int32) (v3_7 : Int32) (t_8 : Int32) (u_6 : gm_M) : Option ((Int32 × gm_M) ⊕ (gm_M ⊕ gm_M)) := (f_X3_add a1 t_8 u_6).bind fun u_9 => some (.inl (v3_7 + (1 : Int32), u_9))
def j_X8_readSum_51 (rp : Nat → Int32 → gm_M → Option gm_M) (a1 : Nat) (a2 : Int32) (v3_12 : Int32) (v4_13 : Int32) (u_11 : gm_M) : Option ((Int32 × gm_M) ⊕ (gm_M ⊕ gm_M)) := (f_X9_advance u_11).bind fun u_14 => (f_X8_readProductO rp a1 a2 u_14).bind fun u_16 => if v4_13 = 0 then j_X8_readSum_77 rp a1 a2 v3_12 (-7 : Int32) u_16 else j_X8_readSum_77 rp a1 a2 v3_12 (-6 : Int32) u_16
def b_X8_readSum_8 (rp : Nat → Int32 → gm_M → Option gm_M) (a1 : Nat) (a2 : Int32) : (Int32 × gm_M) → Option ((Int32 × gm_M) ⊕ (gm_M ⊕ gm_M)) := fun x => match x with | (v3_5, u_4) => if (1000 : Int32) ≤ v3_5 then some (.inr (.inr u_4)) else if (gI u_4 2 1) = 0 then gm_let (f_X9_isSignOf (43 : Int32) u_4) fun r_18 => if r_18 = 0 then gm_let (f_X9_isSignOf (45 : Int32) u_4) fun r_19 => if r_19 = 0 then some (.inr (.inl u_4)) else j_X8_readSum_51 rp a1 a2 v3_5 r_18 u_4 else j_X8_readSum_51 rp a1 a2 v3_5 r_18 u_4 else some (.inr (.inr u_4))
def f_X8_readSumO (rp : Nat → Int32 → gm_M → Option gm_M) (a1 : Nat) (a2 : Int32) (u : gm_M) : Option gm_M := (f_X8_readProductO rp a1 a2 u).bind fun u_2 => ((gm_lp (b_X8_readSum_8 rp a1 a2) gm_FU ((0 : Int32), u_2)).bind fun o => match o with | .inl u_20 => (some u_20) | .inr (u_21) => (some u_21))
set_option maxRecDepth 100000 in
set_option maxHeartbeats 4000000 in
theorem ok_X8_readSumO (l : Launch) (Z : gm_Z) (rp : Nat → Int32 → gm_M → Option gm_M) (F Lc : Nat) (hrp : ∀ (a1 : Nat) (a2 : Int32) (u u' : gm_M) (h1 : isLaw a1 = true), rp a1 a2 u = some u' → gm_Met l GC Z yX8_readPart cX8_readPart 7 none ({ frames := F, cells := 0, slots := 0, locals := Lc }) [rv Z 2, rv Z a1, .int a2] u none u') (a1 : Nat) (a2 : Int32) (u : gm_M) (h1 : isLaw a1 = true) (u' : gm_M) (hf : f_X8_readSumO rp a1 a2 u = some (u')) : gm_Met l GC Z yX8_readSum cX8_readSum 5 none ({ frames := F + 8, cells := 0, slots := 0, locals := Lc + 177 }) [rv Z 2, rv Z a1, .int a2] u none u' := by
  unfold f_X8_readSumO at hf
  refine gm_ofW (by decide +kernel) (by simp [lg_sl, gm_cat, gm_catI, gm_catJ]) ?_
  intro p e s m args below meth c A ls Q R hRf hRl C E hl hw
  have hRf : F + 8 ≤ R.frames := hRf
  have hRl : Lc + 177 ≤ R.locals := hRl
  obtain ⟨hx, hb, -⟩ := id C
  have hl : lv_has ls 5 [(0, rv Z 2), (1, rv Z a1), (2, .int a2)] := by simpa [lv_args, gm_cat, gm_catI, gm_catJ] using hl
  obtain ⟨k_1_0, k_1_1, k_1_2, k_1_3, k_1_4⟩ := fc_Law h1
  refine gm_aload_n (G := GC) (r := 2) C rfl dX8_readSum_0 rfl (lv_at hl 0 rfl) ?_
  refine gm_aload_n (G := GC) (r := a1) C k_1_0 dX8_readSum_1 rfl (lv_at hl 1 rfl) ?_
  refine lv_iload_n hx hb dX8_readSum_2 rfl (lv_at hl 2 rfl) ?_
  obtain ⟨u_2, hc_3, hf⟩ := gm_bnd hf
  refine gm_callV (G := GC) (u := u) (u' := u_2) (r := 2) (ci := 7) (As := [rv Z a1, .int a2]) (rest := []) (res := none) C hw hl (ok_X8_readProductO l Z rp F Lc hrp a1 a2 u h1 u_2 hc_3) cw_X8_141 im_X8_readProduct rfl se_X8_readProduct rfl rfl rfl ⟨(by omega : F + 7 + 1 ≤ R.frames), (by omega : 8 + (4 + 11) + (Lc + 154) ≤ R.locals)⟩ rfl rfl (Nat.le_of_ble_eq_true rfl) dX8_readSum_3 (fun H locs hw => ?_)
  refine lv_iconst (v := 0) hx hb dX8_readSum_6 (by decide) ?_
  refine lv_istore_n (i := 3) (lv' := [(3, .int (0 : Int32)), (0, rv Z 2), (1, rv Z a1), (2, .int a2)]) hx hb dX8_readSum_7 rfl hl (by decide) rfl (fun ls hl => ?_)
  obtain ⟨o1, hlp, hf⟩ := gm_bnd hf
  have L8_1 := gm_loop (b_X8_readSum_8 rp a1 a2) (fun x : (Int32 × gm_M) => ∀ (H : Heap) (locs : List Loc) (ls : Array Slot), lv_has ls 5 [(0, rv Z 2), (1, rv Z a1), (2, .int a2), (3, .int x.1)] → wd GC Z x.2 A s.heap H locs → W p l e R s m args below meth c H locs 0 0 Q (F0 m 8 ls [])) (fun z : (gm_M ⊕ gm_M) => match z with | .inl q0 => ∀ (H : Heap) (locs : List Loc) (ls : Array Slot), lv_has ls 5 [] → wd GC Z q0 A s.heap H locs → W p l e R s m args below meth c H locs 0 0 Q (F0 m 50 ls []) | .inr p0 => ∀ (H : Heap) (locs : List Loc) (ls : Array Slot), lv_has ls 5 [] → wd GC Z p0 A s.heap H locs → W p l e R s m args below meth c H locs 0 0 Q (F0 m 86 ls [])) (by
    intro x o1 hf Kc Kx
    obtain ⟨v3_5, u_4⟩ := x
    intro H locs ls hl hw
    unfold b_X8_readSum_8 at hf
    try dsimp only at hf
    have J77 : ∀ (v3_7 : Int32) (t_8 : Int32) (u_6 : gm_M) (H : Heap) (locs : List Loc) (ls : Array Slot), j_X8_readSum_77 rp a1 a2 v3_7 t_8 u_6 = some o1 → lv_has ls 5 [(0, rv Z 2), (1, rv Z a1), (2, .int a2), (3, .int v3_7)] → wd GC Z u_6 A s.heap H locs → W p l e R s m args below meth c H locs 0 0 Q (F0 m 77 ls [.int t_8, rv Z a1]) := by
      intro v3_7 t_8 u_6 H locs ls hf  hl hw
      unfold j_X8_readSum_77 at hf
      obtain ⟨u_9, hc_10, hf⟩ := gm_bnd hf
      refine gm_callV (G := GC) (u := u_6) (u' := u_9) (r := a1) (ci := 2) (As := [.int t_8]) (rest := []) (res := none) C hw hl (ok_X3_add l Z a1 t_8 u_6 h1 u_9 hc_10) cw_X8_132 im_X3_add rfl se_X3_add k_1_0 rfl rfl ⟨(by omega : 0 + 1 ≤ R.frames), (by omega : 8 + (2 + 11) + (0) ≤ R.locals)⟩ rfl rfl (Nat.le_of_ble_eq_true rfl) dX8_readSum_77 (fun H locs hw => ?_)
      refine lv_iinc (v := v3_7 + (1 : Int32)) (lv' := [(3, .int (v3_7 + (1 : Int32))), (0, rv Z 2), (1, rv Z a1), (2, .int a2)]) hx hb dX8_readSum_80 hl (k := 3) rfl rfl (by decide) rfl (fun ls hl => ?_)
      refine lv_goto (tgt := 8) hx hb dX8_readSum_83 (by decide) ?_
      exact Kc _ (gm_si hf) _ _ _ (lv_sub hl [1, 2, 3, 0] rfl) hw
    have J51 : ∀ (v3_12 : Int32) (v4_13 : Int32) (u_11 : gm_M) (H : Heap) (locs : List Loc) (ls : Array Slot), j_X8_readSum_51 rp a1 a2 v3_12 v4_13 u_11 = some o1 → lv_has ls 5 [(0, rv Z 2), (1, rv Z a1), (2, .int a2), (3, .int v3_12), (4, .int v4_13)] → wd GC Z u_11 A s.heap H locs → W p l e R s m args below meth c H locs 0 0 Q (F0 m 51 ls []) := by
      intro v3_12 v4_13 u_11 H locs ls hf  hl hw
      unfold j_X8_readSum_51 at hf
      refine gm_aload_n (G := GC) (r := 2) C rfl dX8_readSum_51 rfl (lv_at hl 0 rfl) ?_
      refine gm_getS (G := GC) (u := u_11) (r := 2) (ci := 7) (k := 0) C hw rfl fl_X8_12 dX8_readSum_52 rfl (q := 3) rfl ?_
      obtain ⟨u_14, hc_15, hf⟩ := gm_bnd hf
      refine gm_callV (G := GC) (u := u_11) (u' := u_14) (r := 3) (ci := 8) (As := []) (rest := []) (res := none) C hw hl (ok_X9_advance l Z u_11 u_14 hc_15) cw_X8_129 im_X9_advance rfl se_X9_advance rfl rfl rfl ⟨(by omega : 6 + 1 ≤ R.frames), (by omega : 8 + (3 + 11) + (132) ≤ R.locals)⟩ rfl rfl (Nat.le_of_ble_eq_true rfl) dX8_readSum_55 (fun H locs hw => ?_)
      refine gm_aload_n (G := GC) (r := 2) C rfl dX8_readSum_58 rfl (lv_at hl 0 rfl) ?_
      refine gm_aload_n (G := GC) (r := a1) C k_1_0 dX8_readSum_59 rfl (lv_at hl 1 rfl) ?_
      refine lv_iload_n hx hb dX8_readSum_60 rfl (lv_at hl 2 rfl) ?_
      obtain ⟨u_16, hc_17, hf⟩ := gm_bnd hf
      refine gm_callV (G := GC) (u := u_14) (u' := u_16) (r := 2) (ci := 7) (As := [rv Z a1, .int a2]) (rest := []) (res := none) C hw hl (ok_X8_readProductO l Z rp F Lc hrp a1 a2 u_14 h1 u_16 hc_17) cw_X8_141 im_X8_readProduct rfl se_X8_readProduct rfl rfl rfl ⟨(by omega : F + 7 + 1 ≤ R.frames), (by omega : 8 + (4 + 11) + (Lc + 154) ≤ R.locals)⟩ rfl rfl (Nat.le_of_ble_eq_true rfl) dX8_readSum_61 (fun H locs hw => ?_)
      refine gm_aload_n (G := GC) (r := a1) C k_1_0 dX8_readSum_64 rfl (lv_at hl 1 rfl) ?_
      refine lv_iload hx hb dX8_readSum_65 (lv_at hl 4 rfl) ?_
      refine lv_if_eq (tgt := 75) hx hb dX8_readSum_67 (by decide) (fun hc => ?_) (fun hc => ?_)
      · replace hf := (if_pos hc).symm.trans hf
        refine lv_bipush (v := -7) hx hb dX8_readSum_75 (by decide) ?_
        exact J77 v3_12 (-7 : Int32) u_16 _ _ _ hf  (lv_sub hl [0, 1, 2, 3] rfl) hw
      · replace hf := (if_neg hc).symm.trans hf
        refine lv_bipush (v := -6) hx hb dX8_readSum_70 (by decide) ?_
        refine lv_goto (tgt := 77) hx hb dX8_readSum_72 (by decide) ?_
        exact J77 v3_12 (-6 : Int32) u_16 _ _ _ hf  (lv_sub hl [0, 1, 2, 3] rfl) hw
    refine lv_iload_n hx hb dX8_readSum_8 rfl (lv_at hl 3 rfl) ?_
    refine lv_sipush (v := 1000) hx hb dX8_readSum_9 (by decide) ?_
    refine lv_icmp_ge (tgt := 86) hx hb dX8_readSum_12 (by decide) (fun hc => ?_) (fun hc => ?_)
    · replace hf := (if_pos hc).symm.trans hf
      exact Kx _ (gm_si hf) _ _ _ (lv_sub hl [] rfl) hw
    · replace hf := (if_neg hc).symm.trans hf
      refine gm_aload_n (G := GC) (r := 2) C rfl dX8_readSum_15 rfl (lv_at hl 0 rfl) ?_
      refine gm_getI (G := GC) (u := u_4) (r := 2) (ci := 7) (k := 1) C hw rfl fl_X8_18 dX8_readSum_16 rfl ?_
      refine lv_if_ne (tgt := 86) hx hb dX8_readSum_19 (by decide) (fun hc => ?_) (fun hc => ?_)
      · replace hf := (if_neg hc).symm.trans hf
        exact Kx _ (gm_si hf) _ _ _ (lv_sub hl [] rfl) hw
      · replace hf := (if_pos hc).symm.trans hf
        refine gm_aload_n (G := GC) (r := 2) C rfl dX8_readSum_22 rfl (lv_at hl 0 rfl) ?_
        refine gm_getS (G := GC) (u := u_4) (r := 2) (ci := 7) (k := 0) C hw rfl fl_X8_12 dX8_readSum_23 rfl (q := 3) rfl ?_
        refine lv_bipush (v := 43) hx hb dX8_readSum_26 (by decide) ?_
        obtain ⟨r_18, e_r_18, hf⟩ := gm_le hf
        refine gm_callV (G := GC) (u := u_4) (u' := u_4) (r := 3) (ci := 8) (As := [.int (43 : Int32)]) (rest := []) (res := (some (.int (f_X9_isSignOf (43 : Int32) u_4)))) C hw hl (ok_X9_isSignOf l Z (43 : Int32) u_4) cw_X8_137 im_X9_isSignOf rfl se_X9_isSignOf rfl rfl rfl ⟨(by omega : 0 + 1 ≤ R.frames), (by omega : 8 + (2 + 11) + (0) ≤ R.locals)⟩ rfl rfl (Nat.le_of_ble_eq_true rfl) dX8_readSum_28 (fun H locs hw => ?_)
        refine gm_topI e_r_18 ?_
        refine lv_istore (i := 4) (lv' := [(4, .int r_18), (0, rv Z 2), (1, rv Z a1), (2, .int a2), (3, .int v3_5)]) hx hb dX8_readSum_31 hl (by decide) rfl (fun ls hl => ?_)
        refine lv_iload hx hb dX8_readSum_33 (lv_at hl 0 rfl) ?_
        refine lv_if_ne (tgt := 51) hx hb dX8_readSum_35 (by decide) (fun hc => ?_) (fun hc => ?_)
        · replace hf := (if_neg hc).symm.trans hf
          exact J51 v3_5 r_18 u_4 _ _ _ hf  (lv_sub hl [1, 2, 3, 4, 0] rfl) hw
        · replace hf := (if_pos hc).symm.trans hf
          refine gm_aload_n (G := GC) (r := 2) C rfl dX8_readSum_38 rfl (lv_at hl 1 rfl) ?_
          refine gm_getS (G := GC) (u := u_4) (r := 2) (ci := 7) (k := 0) C hw rfl fl_X8_12 dX8_readSum_39 rfl (q := 3) rfl ?_
          refine lv_bipush (v := 45) hx hb dX8_readSum_42 (by decide) ?_
          obtain ⟨r_19, e_r_19, hf⟩ := gm_le hf
          refine gm_callV (G := GC) (u := u_4) (u' := u_4) (r := 3) (ci := 8) (As := [.int (45 : Int32)]) (rest := []) (res := (some (.int (f_X9_isSignOf (45 : Int32) u_4)))) C hw hl (ok_X9_isSignOf l Z (45 : Int32) u_4) cw_X8_137 im_X9_isSignOf rfl se_X9_isSignOf rfl rfl rfl ⟨(by omega : 0 + 1 ≤ R.frames), (by omega : 8 + (2 + 11) + (0) ≤ R.locals)⟩ rfl rfl (Nat.le_of_ble_eq_true rfl) dX8_readSum_44 (fun H locs hw => ?_)
          refine gm_topI e_r_19 ?_
          refine lv_if_ne (tgt := 51) hx hb dX8_readSum_47 (by decide) (fun hc => ?_) (fun hc => ?_)
          · replace hf := (if_neg hc).symm.trans hf
            exact J51 v3_5 r_18 u_4 _ _ _ hf  (lv_sub hl [1, 2, 3, 4, 0] rfl) hw
          · replace hf := (if_pos hc).symm.trans hf
            exact Kx _ (gm_si hf) _ _ _ (lv_sub hl [] rfl) hw)
  refine L8_1 _ _ _ hlp ?_ _ _ _ (lv_sub hl [1, 2, 3, 0] rfl) hw
  cases o1 with
  | inl q0_z_22 =>
    obtain ⟨u_20, rfl⟩ : ∃ y, y = q0_z_22 := ⟨_, rfl⟩
    intro H locs ls hl hw
    try dsimp only at hf
    exact gm_vret C E hw rfl rfl (Option.some.inj hf).symm dX8_readSum_50
  | inr p0_z_22 =>
    obtain ⟨u_21, rfl⟩ : ∃ y, y = p0_z_22 := ⟨_, rfl⟩
    intro H locs ls hl hw
    try dsimp only at hf
    exact gm_vret C E hw rfl rfl (Option.some.inj hf).symm dX8_readSum_86
/-! LeapCapital$Scribe.readTest -/
def j_X8_readTest_64 (rp : Nat → Int32 → gm_M → Option gm_M) (a1 : Nat) (a2 : Int32) (t_3 : Int32) (u_2 : gm_M) : Option gm_M := (f_X3_add a1 t_3 u_2).bind fun u_4 => some u_4
def j_X8_readTest_39 (rp : Nat → Int32 → gm_M → Option gm_M) (a1 : Nat) (a2 : Int32) (v3_7 : Int32) (u_6 : gm_M) : Option gm_M := (f_X9_advance u_6).bind fun u_8 => (f_X8_readSumO rp a1 a2 u_8).bind fun u_10 => if v3_7 = 0 then j_X8_readTest_64 rp a1 a2 (-10 : Int32) u_10 else j_X8_readTest_64 rp a1 a2 (-9 : Int32) u_10
def f_X8_readTestO (rp : Nat → Int32 → gm_M → Option gm_M) (a1 : Nat) (a2 : Int32) (u : gm_M) : Option gm_M := (f_X8_readSumO rp a1 a2 u).bind fun u_12 => gm_let (f_X9_isSignOf (60 : Int32) u_12) fun r_14 => if (gI u_12 2 1) = 0 then if r_14 = 0 then gm_let (f_X9_isSignOf (61 : Int32) u_12) fun r_15 => if r_15 = 0 then some u_12 else j_X8_readTest_39 rp a1 a2 r_14 u_12 else j_X8_readTest_39 rp a1 a2 r_14 u_12 else some u_12
set_option maxRecDepth 100000 in
set_option maxHeartbeats 4000000 in
theorem ok_X8_readTestO (l : Launch) (Z : gm_Z) (rp : Nat → Int32 → gm_M → Option gm_M) (F Lc : Nat) (hrp : ∀ (a1 : Nat) (a2 : Int32) (u u' : gm_M) (h1 : isLaw a1 = true), rp a1 a2 u = some u' → gm_Met l GC Z yX8_readPart cX8_readPart 7 none ({ frames := F, cells := 0, slots := 0, locals := Lc }) [rv Z 2, rv Z a1, .int a2] u none u') (a1 : Nat) (a2 : Int32) (u : gm_M) (h1 : isLaw a1 = true) (u' : gm_M) (hf : f_X8_readTestO rp a1 a2 u = some (u')) : gm_Met l GC Z yX8_readTest cX8_readTest 4 none ({ frames := F + 9, cells := 0, slots := 0, locals := Lc + 201 }) [rv Z 2, rv Z a1, .int a2] u none u' := by
  unfold f_X8_readTestO at hf
  refine gm_ofW (by decide +kernel) (by simp [lg_sl, gm_cat, gm_catI, gm_catJ]) ?_
  intro p e s m args below meth c A ls Q R hRf hRl C E hl hw
  have hRf : F + 9 ≤ R.frames := hRf
  have hRl : Lc + 201 ≤ R.locals := hRl
  obtain ⟨hx, hb, -⟩ := id C
  have hl : lv_has ls 4 [(0, rv Z 2), (1, rv Z a1), (2, .int a2)] := by simpa [lv_args, gm_cat, gm_catI, gm_catJ] using hl
  obtain ⟨k_1_0, k_1_1, k_1_2, k_1_3, k_1_4⟩ := fc_Law h1
  have J64 : ∀ (t_3 : Int32) (u_2 : gm_M) (H : Heap) (locs : List Loc) (ls : Array Slot), j_X8_readTest_64 rp a1 a2 t_3 u_2 = some (u') → lv_has ls 4 [] → wd GC Z u_2 A s.heap H locs → W p l e R s m args below meth c H locs 0 0 Q (F0 m 64 ls [.int t_3, rv Z a1]) := by
    intro t_3 u_2 H locs ls hf  hl hw
    unfold j_X8_readTest_64 at hf
    obtain ⟨u_4, hc_5, hf⟩ := gm_bnd hf
    refine gm_callV (G := GC) (u := u_2) (u' := u_4) (r := a1) (ci := 2) (As := [.int t_3]) (rest := []) (res := none) C hw hl (ok_X3_add l Z a1 t_3 u_2 h1 u_4 hc_5) cw_X8_132 im_X3_add rfl se_X3_add k_1_0 rfl rfl ⟨(by omega : 0 + 1 ≤ R.frames), (by omega : 8 + (2 + 11) + (0) ≤ R.locals)⟩ rfl rfl (Nat.le_of_ble_eq_true rfl) dX8_readTest_64 (fun H locs hw => ?_)
    exact gm_vret C E hw rfl rfl (Option.some.inj hf).symm dX8_readTest_67
  have J39 : ∀ (v3_7 : Int32) (u_6 : gm_M) (H : Heap) (locs : List Loc) (ls : Array Slot), j_X8_readTest_39 rp a1 a2 v3_7 u_6 = some (u') → lv_has ls 4 [(0, rv Z 2), (1, rv Z a1), (2, .int a2), (3, .int v3_7)] → wd GC Z u_6 A s.heap H locs → W p l e R s m args below meth c H locs 0 0 Q (F0 m 39 ls []) := by
    intro v3_7 u_6 H locs ls hf  hl hw
    unfold j_X8_readTest_39 at hf
    refine gm_aload_n (G := GC) (r := 2) C rfl dX8_readTest_39 rfl (lv_at hl 0 rfl) ?_
    refine gm_getS (G := GC) (u := u_6) (r := 2) (ci := 7) (k := 0) C hw rfl fl_X8_12 dX8_readTest_40 rfl (q := 3) rfl ?_
    obtain ⟨u_8, hc_9, hf⟩ := gm_bnd hf
    refine gm_callV (G := GC) (u := u_6) (u' := u_8) (r := 3) (ci := 8) (As := []) (rest := []) (res := none) C hw hl (ok_X9_advance l Z u_6 u_8 hc_9) cw_X8_129 im_X9_advance rfl se_X9_advance rfl rfl rfl ⟨(by omega : 6 + 1 ≤ R.frames), (by omega : 8 + (3 + 11) + (132) ≤ R.locals)⟩ rfl rfl (Nat.le_of_ble_eq_true rfl) dX8_readTest_43 (fun H locs hw => ?_)
    refine gm_aload_n (G := GC) (r := 2) C rfl dX8_readTest_46 rfl (lv_at hl 0 rfl) ?_
    refine gm_aload_n (G := GC) (r := a1) C k_1_0 dX8_readTest_47 rfl (lv_at hl 1 rfl) ?_
    refine lv_iload_n hx hb dX8_readTest_48 rfl (lv_at hl 2 rfl) ?_
    obtain ⟨u_10, hc_11, hf⟩ := gm_bnd hf
    refine gm_callV (G := GC) (u := u_8) (u' := u_10) (r := 2) (ci := 7) (As := [rv Z a1, .int a2]) (rest := []) (res := none) C hw hl (ok_X8_readSumO l Z rp F Lc hrp a1 a2 u_8 h1 u_10 hc_11) cw_X8_134 im_X8_readSum rfl se_X8_readSum rfl rfl rfl ⟨(by omega : F + 8 + 1 ≤ R.frames), (by omega : 8 + (5 + 11) + (Lc + 177) ≤ R.locals)⟩ rfl rfl (Nat.le_of_ble_eq_true rfl) dX8_readTest_49 (fun H locs hw => ?_)
    refine gm_aload_n (G := GC) (r := a1) C k_1_0 dX8_readTest_52 rfl (lv_at hl 1 rfl) ?_
    refine lv_iload_n hx hb dX8_readTest_53 rfl (lv_at hl 3 rfl) ?_
    refine lv_if_eq (tgt := 62) hx hb dX8_readTest_54 (by decide) (fun hc => ?_) (fun hc => ?_)
    · replace hf := (if_pos hc).symm.trans hf
      refine lv_bipush (v := -10) hx hb dX8_readTest_62 (by decide) ?_
      exact J64 (-10 : Int32) u_10 _ _ _ hf  (lv_sub hl [] rfl) hw
    · replace hf := (if_neg hc).symm.trans hf
      refine lv_bipush (v := -9) hx hb dX8_readTest_57 (by decide) ?_
      refine lv_goto (tgt := 64) hx hb dX8_readTest_59 (by decide) ?_
      exact J64 (-9 : Int32) u_10 _ _ _ hf  (lv_sub hl [] rfl) hw
  refine gm_aload_n (G := GC) (r := 2) C rfl dX8_readTest_0 rfl (lv_at hl 0 rfl) ?_
  refine gm_aload_n (G := GC) (r := a1) C k_1_0 dX8_readTest_1 rfl (lv_at hl 1 rfl) ?_
  refine lv_iload_n hx hb dX8_readTest_2 rfl (lv_at hl 2 rfl) ?_
  obtain ⟨u_12, hc_13, hf⟩ := gm_bnd hf
  refine gm_callV (G := GC) (u := u) (u' := u_12) (r := 2) (ci := 7) (As := [rv Z a1, .int a2]) (rest := []) (res := none) C hw hl (ok_X8_readSumO l Z rp F Lc hrp a1 a2 u h1 u_12 hc_13) cw_X8_134 im_X8_readSum rfl se_X8_readSum rfl rfl rfl ⟨(by omega : F + 8 + 1 ≤ R.frames), (by omega : 8 + (5 + 11) + (Lc + 177) ≤ R.locals)⟩ rfl rfl (Nat.le_of_ble_eq_true rfl) dX8_readTest_3 (fun H locs hw => ?_)
  refine gm_aload_n (G := GC) (r := 2) C rfl dX8_readTest_6 rfl (lv_at hl 0 rfl) ?_
  refine gm_getS (G := GC) (u := u_12) (r := 2) (ci := 7) (k := 0) C hw rfl fl_X8_12 dX8_readTest_7 rfl (q := 3) rfl ?_
  refine lv_bipush (v := 60) hx hb dX8_readTest_10 (by decide) ?_
  obtain ⟨r_14, e_r_14, hf⟩ := gm_le hf
  refine gm_callV (G := GC) (u := u_12) (u' := u_12) (r := 3) (ci := 8) (As := [.int (60 : Int32)]) (rest := []) (res := (some (.int (f_X9_isSignOf (60 : Int32) u_12)))) C hw hl (ok_X9_isSignOf l Z (60 : Int32) u_12) cw_X8_137 im_X9_isSignOf rfl se_X9_isSignOf rfl rfl rfl ⟨(by omega : 0 + 1 ≤ R.frames), (by omega : 8 + (2 + 11) + (0) ≤ R.locals)⟩ rfl rfl (Nat.le_of_ble_eq_true rfl) dX8_readTest_12 (fun H locs hw => ?_)
  refine gm_topI e_r_14 ?_
  refine lv_istore_n (i := 3) (lv' := [(3, .int r_14), (0, rv Z 2), (1, rv Z a1), (2, .int a2)]) hx hb dX8_readTest_15 rfl hl (by decide) rfl (fun ls hl => ?_)
  refine gm_aload_n (G := GC) (r := 2) C rfl dX8_readTest_16 rfl (lv_at hl 1 rfl) ?_
  refine gm_getI (G := GC) (u := u_12) (r := 2) (ci := 7) (k := 1) C hw rfl fl_X8_18 dX8_readTest_17 rfl ?_
  refine lv_if_ne (tgt := 67) hx hb dX8_readTest_20 (by decide) (fun hc => ?_) (fun hc => ?_)
  · replace hf := (if_neg hc).symm.trans hf
    exact gm_vret C E hw rfl rfl (Option.some.inj hf).symm dX8_readTest_67
  · replace hf := (if_pos hc).symm.trans hf
    refine lv_iload_n hx hb dX8_readTest_23 rfl (lv_at hl 0 rfl) ?_
    refine lv_if_ne (tgt := 39) hx hb dX8_readTest_24 (by decide) (fun hc => ?_) (fun hc => ?_)
    · replace hf := (if_neg hc).symm.trans hf
      exact J39 r_14 u_12 _ _ _ hf  (lv_sub hl [1, 2, 3, 0] rfl) hw
    · replace hf := (if_pos hc).symm.trans hf
      refine gm_aload_n (G := GC) (r := 2) C rfl dX8_readTest_27 rfl (lv_at hl 1 rfl) ?_
      refine gm_getS (G := GC) (u := u_12) (r := 2) (ci := 7) (k := 0) C hw rfl fl_X8_12 dX8_readTest_28 rfl (q := 3) rfl ?_
      refine lv_bipush (v := 61) hx hb dX8_readTest_31 (by decide) ?_
      obtain ⟨r_15, e_r_15, hf⟩ := gm_le hf
      refine gm_callV (G := GC) (u := u_12) (u' := u_12) (r := 3) (ci := 8) (As := [.int (61 : Int32)]) (rest := []) (res := (some (.int (f_X9_isSignOf (61 : Int32) u_12)))) C hw hl (ok_X9_isSignOf l Z (61 : Int32) u_12) cw_X8_137 im_X9_isSignOf rfl se_X9_isSignOf rfl rfl rfl ⟨(by omega : 0 + 1 ≤ R.frames), (by omega : 8 + (2 + 11) + (0) ≤ R.locals)⟩ rfl rfl (Nat.le_of_ble_eq_true rfl) dX8_readTest_33 (fun H locs hw => ?_)
      refine gm_topI e_r_15 ?_
      refine lv_if_eq (tgt := 67) hx hb dX8_readTest_36 (by decide) (fun hc => ?_) (fun hc => ?_)
      · replace hf := (if_pos hc).symm.trans hf
        exact gm_vret C E hw rfl rfl (Option.some.inj hf).symm dX8_readTest_67
      · replace hf := (if_neg hc).symm.trans hf
        exact J39 r_14 u_12 _ _ _ hf  (lv_sub hl [1, 2, 3, 0] rfl) hw
/-! LeapCapital$Scribe.readWhole -/
def j_X8_readWhole_63 (rp : Nat → Int32 → gm_M → Option gm_M) (a1 : Nat) (a2 : Int32) (v3_7 : Int32) (v4_8 : Int32) (u_6 : gm_M) : Option ((Int32 × gm_M) ⊕ (gm_M ⊕ gm_M)) := (f_X9_advance u_6).bind fun u_9 => (f_X8_readTestO rp a1 a2 u_9).bind fun u_11 => (f_X3_add a1 v4_8 u_11).bind fun u_13 => some (.inl (v3_7 + (1 : Int32), u_13))
def j_X8_readWhole_41 (rp : Nat → Int32 → gm_M → Option gm_M) (a1 : Nat) (a2 : Int32) (v3_16 : Int32) (t_17 : Int32) (u_15 : gm_M) : Option ((Int32 × gm_M) ⊕ (gm_M ⊕ gm_M)) := if t_17 = (-12 : Int32) then gm_let (f_X9_isWord (18 : Int32) u_15) fun r_18 => if r_18 = 0 then some (.inr (.inl u_15)) else j_X8_readWhole_63 rp a1 a2 v3_16 t_17 u_15 else j_X8_readWhole_63 rp a1 a2 v3_16 t_17 u_15
def b_X8_readWhole_8 (rp : Nat → Int32 → gm_M → Option gm_M) (a1 : Nat) (a2 : Int32) : (Int32 × gm_M) → Option ((Int32 × gm_M) ⊕ (gm_M ⊕ gm_M)) := fun x => match x with | (v3_5, u_4) => if (1000 : Int32) ≤ v3_5 then some (.inr (.inr u_4)) else if (gI u_4 2 1) = 0 then gm_let (f_X9_isWord (17 : Int32) u_4) fun r_19 => if r_19 = 0 then j_X8_readWhole_41 rp a1 a2 v3_5 (-12 : Int32) u_4 else j_X8_readWhole_41 rp a1 a2 v3_5 (-11 : Int32) u_4 else some (.inr (.inr u_4))
def f_X8_readWholeO (rp : Nat → Int32 → gm_M → Option gm_M) (a1 : Nat) (a2 : Int32) (u : gm_M) : Option gm_M := (f_X8_readTestO rp a1 a2 u).bind fun u_2 => ((gm_lp (b_X8_readWhole_8 rp a1 a2) gm_FU ((0 : Int32), u_2)).bind fun o => match o with | .inl u_20 => (some u_20) | .inr (u_21) => (some u_21))
set_option maxRecDepth 100000 in
set_option maxHeartbeats 4000000 in
theorem ok_X8_readWholeO (l : Launch) (Z : gm_Z) (rp : Nat → Int32 → gm_M → Option gm_M) (F Lc : Nat) (hrp : ∀ (a1 : Nat) (a2 : Int32) (u u' : gm_M) (h1 : isLaw a1 = true), rp a1 a2 u = some u' → gm_Met l GC Z yX8_readPart cX8_readPart 7 none ({ frames := F, cells := 0, slots := 0, locals := Lc }) [rv Z 2, rv Z a1, .int a2] u none u') (a1 : Nat) (a2 : Int32) (u : gm_M) (h1 : isLaw a1 = true) (u' : gm_M) (hf : f_X8_readWholeO rp a1 a2 u = some (u')) : gm_Met l GC Z yX8_readWhole cX8_readWhole 5 none ({ frames := F + 10, cells := 0, slots := 0, locals := Lc + 224 }) [rv Z 2, rv Z a1, .int a2] u none u' := by
  unfold f_X8_readWholeO at hf
  refine gm_ofW (by decide +kernel) (by simp [lg_sl, gm_cat, gm_catI, gm_catJ]) ?_
  intro p e s m args below meth c A ls Q R hRf hRl C E hl hw
  have hRf : F + 10 ≤ R.frames := hRf
  have hRl : Lc + 224 ≤ R.locals := hRl
  obtain ⟨hx, hb, -⟩ := id C
  have hl : lv_has ls 5 [(0, rv Z 2), (1, rv Z a1), (2, .int a2)] := by simpa [lv_args, gm_cat, gm_catI, gm_catJ] using hl
  obtain ⟨k_1_0, k_1_1, k_1_2, k_1_3, k_1_4⟩ := fc_Law h1
  refine gm_aload_n (G := GC) (r := 2) C rfl dX8_readWhole_0 rfl (lv_at hl 0 rfl) ?_
  refine gm_aload_n (G := GC) (r := a1) C k_1_0 dX8_readWhole_1 rfl (lv_at hl 1 rfl) ?_
  refine lv_iload_n hx hb dX8_readWhole_2 rfl (lv_at hl 2 rfl) ?_
  obtain ⟨u_2, hc_3, hf⟩ := gm_bnd hf
  refine gm_callV (G := GC) (u := u) (u' := u_2) (r := 2) (ci := 7) (As := [rv Z a1, .int a2]) (rest := []) (res := none) C hw hl (ok_X8_readTestO l Z rp F Lc hrp a1 a2 u h1 u_2 hc_3) cw_X8_122 im_X8_readTest rfl se_X8_readTest rfl rfl rfl ⟨(by omega : F + 9 + 1 ≤ R.frames), (by omega : 8 + (4 + 11) + (Lc + 201) ≤ R.locals)⟩ rfl rfl (Nat.le_of_ble_eq_true rfl) dX8_readWhole_3 (fun H locs hw => ?_)
  refine lv_iconst (v := 0) hx hb dX8_readWhole_6 (by decide) ?_
  refine lv_istore_n (i := 3) (lv' := [(3, .int (0 : Int32)), (0, rv Z 2), (1, rv Z a1), (2, .int a2)]) hx hb dX8_readWhole_7 rfl hl (by decide) rfl (fun ls hl => ?_)
  obtain ⟨o1, hlp, hf⟩ := gm_bnd hf
  have L8_1 := gm_loop (b_X8_readWhole_8 rp a1 a2) (fun x : (Int32 × gm_M) => ∀ (H : Heap) (locs : List Loc) (ls : Array Slot), lv_has ls 5 [(0, rv Z 2), (1, rv Z a1), (2, .int a2), (3, .int x.1)] → wd GC Z x.2 A s.heap H locs → W p l e R s m args below meth c H locs 0 0 Q (F0 m 8 ls [])) (fun z : (gm_M ⊕ gm_M) => match z with | .inl q0 => ∀ (H : Heap) (locs : List Loc) (ls : Array Slot), lv_has ls 5 [] → wd GC Z q0 A s.heap H locs → W p l e R s m args below meth c H locs 0 0 Q (F0 m 62 ls []) | .inr p0 => ∀ (H : Heap) (locs : List Loc) (ls : Array Slot), lv_has ls 5 [] → wd GC Z p0 A s.heap H locs → W p l e R s m args below meth c H locs 0 0 Q (F0 m 88 ls [])) (by
    intro x o1 hf Kc Kx
    obtain ⟨v3_5, u_4⟩ := x
    intro H locs ls hl hw
    unfold b_X8_readWhole_8 at hf
    try dsimp only at hf
    have J63 : ∀ (v3_7 : Int32) (v4_8 : Int32) (u_6 : gm_M) (H : Heap) (locs : List Loc) (ls : Array Slot), j_X8_readWhole_63 rp a1 a2 v3_7 v4_8 u_6 = some o1 → lv_has ls 5 [(0, rv Z 2), (1, rv Z a1), (2, .int a2), (3, .int v3_7), (4, .int v4_8)] → wd GC Z u_6 A s.heap H locs → W p l e R s m args below meth c H locs 0 0 Q (F0 m 63 ls []) := by
      intro v3_7 v4_8 u_6 H locs ls hf  hl hw
      unfold j_X8_readWhole_63 at hf
      refine gm_aload_n (G := GC) (r := 2) C rfl dX8_readWhole_63 rfl (lv_at hl 0 rfl) ?_
      refine gm_getS (G := GC) (u := u_6) (r := 2) (ci := 7) (k := 0) C hw rfl fl_X8_12 dX8_readWhole_64 rfl (q := 3) rfl ?_
      obtain ⟨u_9, hc_10, hf⟩ := gm_bnd hf
      refine gm_callV (G := GC) (u := u_6) (u' := u_9) (r := 3) (ci := 8) (As := []) (rest := []) (res := none) C hw hl (ok_X9_advance l Z u_6 u_9 hc_10) cw_X8_129 im_X9_advance rfl se_X9_advance rfl rfl rfl ⟨(by omega : 6 + 1 ≤ R.frames), (by omega : 8 + (3 + 11) + (132) ≤ R.locals)⟩ rfl rfl (Nat.le_of_ble_eq_true rfl) dX8_readWhole_67 (fun H locs hw => ?_)
      refine gm_aload_n (G := GC) (r := 2) C rfl dX8_readWhole_70 rfl (lv_at hl 0 rfl) ?_
      refine gm_aload_n (G := GC) (r := a1) C k_1_0 dX8_readWhole_71 rfl (lv_at hl 1 rfl) ?_
      refine lv_iload_n hx hb dX8_readWhole_72 rfl (lv_at hl 2 rfl) ?_
      obtain ⟨u_11, hc_12, hf⟩ := gm_bnd hf
      refine gm_callV (G := GC) (u := u_9) (u' := u_11) (r := 2) (ci := 7) (As := [rv Z a1, .int a2]) (rest := []) (res := none) C hw hl (ok_X8_readTestO l Z rp F Lc hrp a1 a2 u_9 h1 u_11 hc_12) cw_X8_122 im_X8_readTest rfl se_X8_readTest rfl rfl rfl ⟨(by omega : F + 9 + 1 ≤ R.frames), (by omega : 8 + (4 + 11) + (Lc + 201) ≤ R.locals)⟩ rfl rfl (Nat.le_of_ble_eq_true rfl) dX8_readWhole_73 (fun H locs hw => ?_)
      refine gm_aload_n (G := GC) (r := a1) C k_1_0 dX8_readWhole_76 rfl (lv_at hl 1 rfl) ?_
      refine lv_iload hx hb dX8_readWhole_77 (lv_at hl 4 rfl) ?_
      obtain ⟨u_13, hc_14, hf⟩ := gm_bnd hf
      refine gm_callV (G := GC) (u := u_11) (u' := u_13) (r := a1) (ci := 2) (As := [.int v4_8]) (rest := []) (res := none) C hw hl (ok_X3_add l Z a1 v4_8 u_11 h1 u_13 hc_14) cw_X8_132 im_X3_add rfl se_X3_add k_1_0 rfl rfl ⟨(by omega : 0 + 1 ≤ R.frames), (by omega : 8 + (2 + 11) + (0) ≤ R.locals)⟩ rfl rfl (Nat.le_of_ble_eq_true rfl) dX8_readWhole_79 (fun H locs hw => ?_)
      refine lv_iinc (v := v3_7 + (1 : Int32)) (lv' := [(3, .int (v3_7 + (1 : Int32))), (0, rv Z 2), (1, rv Z a1), (2, .int a2), (4, .int v4_8)]) hx hb dX8_readWhole_82 hl (k := 3) rfl rfl (by decide) rfl (fun ls hl => ?_)
      refine lv_goto (tgt := 8) hx hb dX8_readWhole_85 (by decide) ?_
      exact Kc _ (gm_si hf) _ _ _ (lv_sub hl [1, 2, 3, 0] rfl) hw
    have J41 : ∀ (v3_16 : Int32) (t_17 : Int32) (u_15 : gm_M) (H : Heap) (locs : List Loc) (ls : Array Slot), j_X8_readWhole_41 rp a1 a2 v3_16 t_17 u_15 = some o1 → lv_has ls 5 [(0, rv Z 2), (1, rv Z a1), (2, .int a2), (3, .int v3_16)] → wd GC Z u_15 A s.heap H locs → W p l e R s m args below meth c H locs 0 0 Q (F0 m 41 ls [.int t_17]) := by
      intro v3_16 t_17 u_15 H locs ls hf  hl hw
      unfold j_X8_readWhole_41 at hf
      refine lv_istore (i := 4) (lv' := [(4, .int t_17), (0, rv Z 2), (1, rv Z a1), (2, .int a2), (3, .int v3_16)]) hx hb dX8_readWhole_41 hl (by decide) rfl (fun ls hl => ?_)
      refine lv_iload hx hb dX8_readWhole_43 (lv_at hl 0 rfl) ?_
      refine lv_bipush (v := -12) hx hb dX8_readWhole_45 (by decide) ?_
      refine lv_icmp_ne (tgt := 63) hx hb dX8_readWhole_47 (by decide) (fun hc => ?_) (fun hc => ?_)
      · replace hf := (if_neg hc).symm.trans hf
        exact J63 v3_16 t_17 u_15 _ _ _ hf  (lv_sub hl [1, 2, 3, 4, 0] rfl) hw
      · replace hf := (if_pos hc).symm.trans hf
        refine gm_aload_n (G := GC) (r := 2) C rfl dX8_readWhole_50 rfl (lv_at hl 1 rfl) ?_
        refine gm_getS (G := GC) (u := u_15) (r := 2) (ci := 7) (k := 0) C hw rfl fl_X8_12 dX8_readWhole_51 rfl (q := 3) rfl ?_
        refine lv_bipush (v := 18) hx hb dX8_readWhole_54 (by decide) ?_
        obtain ⟨r_18, e_r_18, hf⟩ := gm_le hf
        refine gm_callV (G := GC) (u := u_15) (u' := u_15) (r := 3) (ci := 8) (As := [.int (18 : Int32)]) (rest := []) (res := (some (.int (f_X9_isWord (18 : Int32) u_15)))) C hw hl (ok_X9_isWord l Z (18 : Int32) u_15) cw_X8_125 im_X9_isWord rfl se_X9_isWord rfl rfl rfl ⟨(by omega : 0 + 1 ≤ R.frames), (by omega : 8 + (2 + 11) + (0) ≤ R.locals)⟩ rfl rfl (Nat.le_of_ble_eq_true rfl) dX8_readWhole_56 (fun H locs hw => ?_)
        refine gm_topI e_r_18 ?_
        refine lv_if_ne (tgt := 63) hx hb dX8_readWhole_59 (by decide) (fun hc => ?_) (fun hc => ?_)
        · replace hf := (if_neg hc).symm.trans hf
          exact J63 v3_16 t_17 u_15 _ _ _ hf  (lv_sub hl [1, 2, 3, 4, 0] rfl) hw
        · replace hf := (if_pos hc).symm.trans hf
          exact Kx _ (gm_si hf) _ _ _ (lv_sub hl [] rfl) hw
    refine lv_iload_n hx hb dX8_readWhole_8 rfl (lv_at hl 3 rfl) ?_
    refine lv_sipush (v := 1000) hx hb dX8_readWhole_9 (by decide) ?_
    refine lv_icmp_ge (tgt := 88) hx hb dX8_readWhole_12 (by decide) (fun hc => ?_) (fun hc => ?_)
    · replace hf := (if_pos hc).symm.trans hf
      exact Kx _ (gm_si hf) _ _ _ (lv_sub hl [] rfl) hw
    · replace hf := (if_neg hc).symm.trans hf
      refine gm_aload_n (G := GC) (r := 2) C rfl dX8_readWhole_15 rfl (lv_at hl 0 rfl) ?_
      refine gm_getI (G := GC) (u := u_4) (r := 2) (ci := 7) (k := 1) C hw rfl fl_X8_18 dX8_readWhole_16 rfl ?_
      refine lv_if_ne (tgt := 88) hx hb dX8_readWhole_19 (by decide) (fun hc => ?_) (fun hc => ?_)
      · replace hf := (if_neg hc).symm.trans hf
        exact Kx _ (gm_si hf) _ _ _ (lv_sub hl [] rfl) hw
      · replace hf := (if_pos hc).symm.trans hf
        refine gm_aload_n (G := GC) (r := 2) C rfl dX8_readWhole_22 rfl (lv_at hl 0 rfl) ?_
        refine gm_getS (G := GC) (u := u_4) (r := 2) (ci := 7) (k := 0) C hw rfl fl_X8_12 dX8_readWhole_23 rfl (q := 3) rfl ?_
        refine lv_bipush (v := 17) hx hb dX8_readWhole_26 (by decide) ?_
        obtain ⟨r_19, e_r_19, hf⟩ := gm_le hf
        refine gm_callV (G := GC) (u := u_4) (u' := u_4) (r := 3) (ci := 8) (As := [.int (17 : Int32)]) (rest := []) (res := (some (.int (f_X9_isWord (17 : Int32) u_4)))) C hw hl (ok_X9_isWord l Z (17 : Int32) u_4) cw_X8_125 im_X9_isWord rfl se_X9_isWord rfl rfl rfl ⟨(by omega : 0 + 1 ≤ R.frames), (by omega : 8 + (2 + 11) + (0) ≤ R.locals)⟩ rfl rfl (Nat.le_of_ble_eq_true rfl) dX8_readWhole_28 (fun H locs hw => ?_)
        refine gm_topI e_r_19 ?_
        refine lv_if_eq (tgt := 39) hx hb dX8_readWhole_31 (by decide) (fun hc => ?_) (fun hc => ?_)
        · replace hf := (if_pos hc).symm.trans hf
          refine lv_bipush (v := -12) hx hb dX8_readWhole_39 (by decide) ?_
          exact J41 v3_5 (-12 : Int32) u_4 _ _ _ hf  (lv_sub hl [0, 1, 2, 3] rfl) hw
        · replace hf := (if_neg hc).symm.trans hf
          refine lv_bipush (v := -11) hx hb dX8_readWhole_34 (by decide) ?_
          refine lv_goto (tgt := 41) hx hb dX8_readWhole_36 (by decide) ?_
          exact J41 v3_5 (-11 : Int32) u_4 _ _ _ hf  (lv_sub hl [0, 1, 2, 3] rfl) hw)
  refine L8_1 _ _ _ hlp ?_ _ _ _ (lv_sub hl [1, 2, 3, 0] rfl) hw
  cases o1 with
  | inl q0_z_22 =>
    obtain ⟨u_20, rfl⟩ : ∃ y, y = q0_z_22 := ⟨_, rfl⟩
    intro H locs ls hl hw
    try dsimp only at hf
    exact gm_vret C E hw rfl rfl (Option.some.inj hf).symm dX8_readWhole_62
  | inr p0_z_22 =>
    obtain ⟨u_21, rfl⟩ : ∃ y, y = p0_z_22 := ⟨_, rfl⟩
    intro H locs ls hl hw
    try dsimp only at hf
    exact gm_vret C E hw rfl rfl (Option.some.inj hf).symm dX8_readWhole_88
/-! LeapCapital$Scribe.readPart -/
def j_X8_readPart_81 (rp : Nat → Int32 → gm_M → Option gm_M) (a1 : Nat) (a2 : Int32) (v3_3 : Int32) (v4_4 : Int32) (v5_5 : Int32) (u_2 : gm_M) : Option gm_M := if (gI u_2 2 1) = 0 then gm_let (gI u_2 3 5) fun v6_6 => (f_X9_advance u_2).bind fun u_7 => if v3_3 = 0 then if v4_4 = 0 then if v5_5 = 0 then (f_X3_add a1 ((-1 : Int32) - (v6_6 - (19 : Int32))) u_7).bind fun u_9 => some u_9 else (rp a1 (a2 + (1 : Int32)) u_7).bind fun u_11 => (f_X3_add a1 (-5 : Int32) u_11).bind fun u_13 => some u_13 else (f_X8_readWholeO rp a1 (a2 + (1 : Int32)) u_7).bind fun u_15 => (f_X8_takeSign (41 : Int32) u_15).bind fun u_17 => some u_17 else (f_X3_add a1 v6_6 u_7).bind fun u_19 => some u_19 else some u_2
def j_X8_readPart_71 (rp : Nat → Int32 → gm_M → Option gm_M) (a1 : Nat) (a2 : Int32) (v3_22 : Int32) (v4_23 : Int32) (v5_24 : Int32) (u_21 : gm_M) : Option gm_M := if a2 < (5 : Int32) then j_X8_readPart_81 rp a1 a2 v3_22 v4_23 v5_24 u_21 else (f_X8_refuse (5 : Int32) u_21).bind fun u_25 => j_X8_readPart_81 rp a1 a2 v3_22 v4_23 v5_24 u_25
def j_X8_readPart_16 (rp : Nat → Int32 → gm_M → Option gm_M) (a1 : Nat) (a2 : Int32) (t_28 : Int32) (u_27 : gm_M) : Option gm_M := gm_let (f_X9_isSignOf (40 : Int32) u_27) fun r_29 => gm_let (f_X9_isWord (16 : Int32) u_27) fun r_30 => if t_28 = 0 then if r_29 = 0 then if r_30 = 0 then gm_let (f_X9_isFact u_27) fun r_31 => if r_31 = 0 then (f_X8_refuse (1 : Int32) u_27).bind fun u_32 => j_X8_readPart_81 rp a1 a2 t_28 r_29 r_30 u_32 else j_X8_readPart_71 rp a1 a2 t_28 r_29 r_30 u_27 else j_X8_readPart_71 rp a1 a2 t_28 r_29 r_30 u_27 else j_X8_readPart_71 rp a1 a2 t_28 r_29 r_30 u_27 else j_X8_readPart_71 rp a1 a2 t_28 r_29 r_30 u_27
def f_X8_readPartO (rp : Nat → Int32 → gm_M → Option gm_M) (a1 : Nat) (a2 : Int32) (u : gm_M) : Option gm_M := if (gI u 3 4) = (2 : Int32) then j_X8_readPart_16 rp a1 a2 (1 : Int32) u else j_X8_readPart_16 rp a1 a2 (0 : Int32) u
set_option maxRecDepth 100000 in
set_option maxHeartbeats 4000000 in
theorem ok_X8_readPartO (l : Launch) (Z : gm_Z) (rp : Nat → Int32 → gm_M → Option gm_M) (F Lc : Nat) (hrp : ∀ (a1 : Nat) (a2 : Int32) (u u' : gm_M) (h1 : isLaw a1 = true), rp a1 a2 u = some u' → gm_Met l GC Z yX8_readPart cX8_readPart 7 none ({ frames := F, cells := 0, slots := 0, locals := Lc }) [rv Z 2, rv Z a1, .int a2] u none u') (a1 : Nat) (a2 : Int32) (u : gm_M) (h1 : isLaw a1 = true) (u' : gm_M) (hf : f_X8_readPartO rp a1 a2 u = some (u')) : gm_Met l GC Z yX8_readPart cX8_readPart 7 none ({ frames := F + 11, cells := 0, slots := 0, locals := Lc + 248 }) [rv Z 2, rv Z a1, .int a2] u none u' := by
  unfold f_X8_readPartO at hf
  refine gm_ofW (by decide +kernel) (by simp [lg_sl, gm_cat, gm_catI, gm_catJ]) ?_
  intro p e s m args below meth c A ls Q R hRf hRl C E hl hw
  have hRf : F + 11 ≤ R.frames := hRf
  have hRl : Lc + 248 ≤ R.locals := hRl
  obtain ⟨hx, hb, -⟩ := id C
  have hl : lv_has ls 7 [(0, rv Z 2), (1, rv Z a1), (2, .int a2)] := by simpa [lv_args, gm_cat, gm_catI, gm_catJ] using hl
  obtain ⟨k_1_0, k_1_1, k_1_2, k_1_3, k_1_4⟩ := fc_Law h1
  have J81 : ∀ (v3_3 : Int32) (v4_4 : Int32) (v5_5 : Int32) (u_2 : gm_M) (H : Heap) (locs : List Loc) (ls : Array Slot), j_X8_readPart_81 rp a1 a2 v3_3 v4_4 v5_5 u_2 = some (u') → lv_has ls 7 [(0, rv Z 2), (1, rv Z a1), (2, .int a2), (3, .int v3_3), (4, .int v4_4), (5, .int v5_5)] → wd GC Z u_2 A s.heap H locs → W p l e R s m args below meth c H locs 0 0 Q (F0 m 81 ls []) := by
    intro v3_3 v4_4 v5_5 u_2 H locs ls hf  hl hw
    unfold j_X8_readPart_81 at hf
    refine gm_aload_n (G := GC) (r := 2) C rfl dX8_readPart_81 rfl (lv_at hl 0 rfl) ?_
    refine gm_getI (G := GC) (u := u_2) (r := 2) (ci := 7) (k := 1) C hw rfl fl_X8_18 dX8_readPart_82 rfl ?_
    refine lv_if_eq (tgt := 89) hx hb dX8_readPart_85 (by decide) (fun hc => ?_) (fun hc => ?_)
    · replace hf := (if_pos hc).symm.trans hf
      refine gm_aload_n (G := GC) (r := 2) C rfl dX8_readPart_89 rfl (lv_at hl 0 rfl) ?_
      refine gm_getS (G := GC) (u := u_2) (r := 2) (ci := 7) (k := 0) C hw rfl fl_X8_12 dX8_readPart_90 rfl (q := 3) rfl ?_
      refine gm_getI (G := GC) (u := u_2) (r := 3) (ci := 8) (k := 5) C hw rfl fl_X8_150 dX8_readPart_93 rfl ?_
      obtain ⟨v6_6, e_v6_6, hf⟩ := gm_le hf
      refine gm_topI e_v6_6 ?_
      refine lv_istore (i := 6) (lv' := [(6, .int v6_6), (0, rv Z 2), (1, rv Z a1), (2, .int a2), (3, .int v3_3), (4, .int v4_4), (5, .int v5_5)]) hx hb dX8_readPart_96 hl (by decide) rfl (fun ls hl => ?_)
      refine gm_aload_n (G := GC) (r := 2) C rfl dX8_readPart_98 rfl (lv_at hl 1 rfl) ?_
      refine gm_getS (G := GC) (u := u_2) (r := 2) (ci := 7) (k := 0) C hw rfl fl_X8_12 dX8_readPart_99 rfl (q := 3) rfl ?_
      obtain ⟨u_7, hc_8, hf⟩ := gm_bnd hf
      refine gm_callV (G := GC) (u := u_2) (u' := u_7) (r := 3) (ci := 8) (As := []) (rest := []) (res := none) C hw hl (ok_X9_advance l Z u_2 u_7 hc_8) cw_X8_129 im_X9_advance rfl se_X9_advance rfl rfl rfl ⟨(by omega : 6 + 1 ≤ R.frames), (by omega : 8 + (3 + 11) + (132) ≤ R.locals)⟩ rfl rfl (Nat.le_of_ble_eq_true rfl) dX8_readPart_102 (fun H locs hw => ?_)
      refine lv_iload_n hx hb dX8_readPart_105 rfl (lv_at hl 4 rfl) ?_
      refine lv_if_eq (tgt := 118) hx hb dX8_readPart_106 (by decide) (fun hc => ?_) (fun hc => ?_)
      · replace hf := (if_pos hc).symm.trans hf
        refine lv_iload hx hb dX8_readPart_118 (lv_at hl 5 rfl) ?_
        refine lv_if_eq (tgt := 140) hx hb dX8_readPart_120 (by decide) (fun hc => ?_) (fun hc => ?_)
        · replace hf := (if_pos hc).symm.trans hf
          refine lv_iload hx hb dX8_readPart_140 (lv_at hl 6 rfl) ?_
          refine lv_if_eq (tgt := 162) hx hb dX8_readPart_142 (by decide) (fun hc => ?_) (fun hc => ?_)
          · replace hf := (if_pos hc).symm.trans hf
            refine gm_aload_n (G := GC) (r := a1) C k_1_0 dX8_readPart_162 rfl (lv_at hl 2 rfl) ?_
            refine lv_iconst (v := -1) hx hb dX8_readPart_163 (by decide) ?_
            refine lv_iload hx hb dX8_readPart_164 (lv_at hl 0 rfl) ?_
            refine lv_bipush (v := 19) hx hb dX8_readPart_166 (by decide) ?_
            refine lv_isub hx hb dX8_readPart_168 ?_
            refine lv_isub hx hb dX8_readPart_169 ?_
            obtain ⟨u_9, hc_10, hf⟩ := gm_bnd hf
            refine gm_callV (G := GC) (u := u_7) (u' := u_9) (r := a1) (ci := 2) (As := [.int ((-1 : Int32) - (v6_6 - (19 : Int32)))]) (rest := []) (res := none) C hw hl (ok_X3_add l Z a1 ((-1 : Int32) - (v6_6 - (19 : Int32))) u_7 h1 u_9 hc_10) cw_X8_132 im_X3_add rfl se_X3_add k_1_0 rfl rfl ⟨(by omega : 0 + 1 ≤ R.frames), (by omega : 8 + (2 + 11) + (0) ≤ R.locals)⟩ rfl rfl (Nat.le_of_ble_eq_true rfl) dX8_readPart_170 (fun H locs hw => ?_)
            exact gm_vret C E hw rfl rfl (Option.some.inj hf).symm dX8_readPart_173
          · replace hf := (if_neg hc).symm.trans hf
            refine gm_aload_n (G := GC) (r := 2) C rfl dX8_readPart_145 rfl (lv_at hl 1 rfl) ?_
            refine gm_aload_n (G := GC) (r := a1) C k_1_0 dX8_readPart_146 rfl (lv_at hl 2 rfl) ?_
            refine lv_iload_n hx hb dX8_readPart_147 rfl (lv_at hl 3 rfl) ?_
            refine lv_iconst (v := 1) hx hb dX8_readPart_148 (by decide) ?_
            refine lv_iadd hx hb dX8_readPart_149 ?_
            obtain ⟨u_11, hc_12, hf⟩ := gm_bnd hf
            refine gm_callV (G := GC) (u := u_7) (u' := u_11) (r := 2) (ci := 7) (As := [rv Z a1, .int (a2 + (1 : Int32))]) (rest := []) (res := none) C hw hl (hrp a1 (a2 + (1 : Int32)) u_7 u_11 h1 hc_12) cw_X8_144 im_X8_readPart rfl se_X8_readPart rfl rfl rfl ⟨(by omega : F + 1 ≤ R.frames), (by omega : 8 + (7 + 11) + (Lc) ≤ R.locals)⟩ rfl rfl (Nat.le_of_ble_eq_true rfl) dX8_readPart_150 (fun H locs hw => ?_)
            refine gm_aload_n (G := GC) (r := a1) C k_1_0 dX8_readPart_153 rfl (lv_at hl 2 rfl) ?_
            refine lv_bipush (v := -5) hx hb dX8_readPart_154 (by decide) ?_
            obtain ⟨u_13, hc_14, hf⟩ := gm_bnd hf
            refine gm_callV (G := GC) (u := u_11) (u' := u_13) (r := a1) (ci := 2) (As := [.int (-5 : Int32)]) (rest := []) (res := none) C hw hl (ok_X3_add l Z a1 (-5 : Int32) u_11 h1 u_13 hc_14) cw_X8_132 im_X3_add rfl se_X3_add k_1_0 rfl rfl ⟨(by omega : 0 + 1 ≤ R.frames), (by omega : 8 + (2 + 11) + (0) ≤ R.locals)⟩ rfl rfl (Nat.le_of_ble_eq_true rfl) dX8_readPart_156 (fun H locs hw => ?_)
            refine lv_goto (tgt := 173) hx hb dX8_readPart_159 (by decide) ?_
            exact gm_vret C E hw rfl rfl (Option.some.inj hf).symm dX8_readPart_173
        · replace hf := (if_neg hc).symm.trans hf
          refine gm_aload_n (G := GC) (r := 2) C rfl dX8_readPart_123 rfl (lv_at hl 1 rfl) ?_
          refine gm_aload_n (G := GC) (r := a1) C k_1_0 dX8_readPart_124 rfl (lv_at hl 2 rfl) ?_
          refine lv_iload_n hx hb dX8_readPart_125 rfl (lv_at hl 3 rfl) ?_
          refine lv_iconst (v := 1) hx hb dX8_readPart_126 (by decide) ?_
          refine lv_iadd hx hb dX8_readPart_127 ?_
          obtain ⟨u_15, hc_16, hf⟩ := gm_bnd hf
          refine gm_callV (G := GC) (u := u_7) (u' := u_15) (r := 2) (ci := 7) (As := [rv Z a1, .int (a2 + (1 : Int32))]) (rest := []) (res := none) C hw hl (ok_X8_readWholeO l Z rp F Lc hrp a1 (a2 + (1 : Int32)) u_7 h1 u_15 hc_16) cw_X8_67 im_X8_readWhole rfl se_X8_readWhole rfl rfl rfl ⟨(by omega : F + 10 + 1 ≤ R.frames), (by omega : 8 + (5 + 11) + (Lc + 224) ≤ R.locals)⟩ rfl rfl (Nat.le_of_ble_eq_true rfl) dX8_readPart_128 (fun H locs hw => ?_)
          refine gm_aload_n (G := GC) (r := 2) C rfl dX8_readPart_131 rfl (lv_at hl 1 rfl) ?_
          refine lv_bipush (v := 41) hx hb dX8_readPart_132 (by decide) ?_
          obtain ⟨u_17, hc_18, hf⟩ := gm_bnd hf
          refine gm_callV (G := GC) (u := u_15) (u' := u_17) (r := 2) (ci := 7) (As := [.int (41 : Int32)]) (rest := []) (res := none) C hw hl (ok_X8_takeSign l Z (41 : Int32) u_15 u_17 hc_18) cw_X8_75 im_X8_takeSign rfl se_X8_takeSign rfl rfl rfl ⟨(by omega : 8 + 1 ≤ R.frames), (by omega : 8 + (2 + 11) + (175) ≤ R.locals)⟩ rfl rfl (Nat.le_of_ble_eq_true rfl) dX8_readPart_134 (fun H locs hw => ?_)
          refine lv_goto (tgt := 173) hx hb dX8_readPart_137 (by decide) ?_
          exact gm_vret C E hw rfl rfl (Option.some.inj hf).symm dX8_readPart_173
      · replace hf := (if_neg hc).symm.trans hf
        refine gm_aload_n (G := GC) (r := a1) C k_1_0 dX8_readPart_109 rfl (lv_at hl 2 rfl) ?_
        refine lv_iload hx hb dX8_readPart_110 (lv_at hl 0 rfl) ?_
        obtain ⟨u_19, hc_20, hf⟩ := gm_bnd hf
        refine gm_callV (G := GC) (u := u_7) (u' := u_19) (r := a1) (ci := 2) (As := [.int v6_6]) (rest := []) (res := none) C hw hl (ok_X3_add l Z a1 v6_6 u_7 h1 u_19 hc_20) cw_X8_132 im_X3_add rfl se_X3_add k_1_0 rfl rfl ⟨(by omega : 0 + 1 ≤ R.frames), (by omega : 8 + (2 + 11) + (0) ≤ R.locals)⟩ rfl rfl (Nat.le_of_ble_eq_true rfl) dX8_readPart_112 (fun H locs hw => ?_)
        refine lv_goto (tgt := 173) hx hb dX8_readPart_115 (by decide) ?_
        exact gm_vret C E hw rfl rfl (Option.some.inj hf).symm dX8_readPart_173
    · replace hf := (if_neg hc).symm.trans hf
      exact gm_vret C E hw rfl rfl (Option.some.inj hf).symm dX8_readPart_88
  have J71 : ∀ (v3_22 : Int32) (v4_23 : Int32) (v5_24 : Int32) (u_21 : gm_M) (H : Heap) (locs : List Loc) (ls : Array Slot), j_X8_readPart_71 rp a1 a2 v3_22 v4_23 v5_24 u_21 = some (u') → lv_has ls 7 [(0, rv Z 2), (1, rv Z a1), (2, .int a2), (3, .int v3_22), (4, .int v4_23), (5, .int v5_24)] → wd GC Z u_21 A s.heap H locs → W p l e R s m args below meth c H locs 0 0 Q (F0 m 71 ls []) := by
    intro v3_22 v4_23 v5_24 u_21 H locs ls hf  hl hw
    unfold j_X8_readPart_71 at hf
    refine lv_iload_n hx hb dX8_readPart_71 rfl (lv_at hl 2 rfl) ?_
    refine lv_iconst (v := 5) hx hb dX8_readPart_72 (by decide) ?_
    refine lv_icmp_lt (tgt := 81) hx hb dX8_readPart_73 (by decide) (fun hc => ?_) (fun hc => ?_)
    · replace hf := (if_pos hc).symm.trans hf
      exact J81 v3_22 v4_23 v5_24 u_21 _ _ _ hf  (lv_sub hl [0, 1, 2, 3, 4, 5] rfl) hw
    · replace hf := (if_neg hc).symm.trans hf
      refine gm_aload_n (G := GC) (r := 2) C rfl dX8_readPart_76 rfl (lv_at hl 0 rfl) ?_
      refine lv_iconst (v := 5) hx hb dX8_readPart_77 (by decide) ?_
      obtain ⟨u_25, hc_26, hf⟩ := gm_bnd hf
      refine gm_callV (G := GC) (u := u_21) (u' := u_25) (r := 2) (ci := 7) (As := [.int (5 : Int32)]) (rest := []) (res := none) C hw hl (ok_X8_refuse l Z (5 : Int32) u_21 u_25 hc_26) cw_X8_71 im_X8_refuse rfl se_X8_refuse rfl rfl rfl ⟨(by omega : 0 + 1 ≤ R.frames), (by omega : 8 + (2 + 11) + (0) ≤ R.locals)⟩ rfl rfl (Nat.le_of_ble_eq_true rfl) dX8_readPart_78 (fun H locs hw => ?_)
      exact J81 v3_22 v4_23 v5_24 u_25 _ _ _ hf  (lv_sub hl [0, 1, 2, 3, 4, 5] rfl) hw
  have J16 : ∀ (t_28 : Int32) (u_27 : gm_M) (H : Heap) (locs : List Loc) (ls : Array Slot), j_X8_readPart_16 rp a1 a2 t_28 u_27 = some (u') → lv_has ls 7 [(0, rv Z 2), (1, rv Z a1), (2, .int a2)] → wd GC Z u_27 A s.heap H locs → W p l e R s m args below meth c H locs 0 0 Q (F0 m 16 ls [.int t_28]) := by
    intro t_28 u_27 H locs ls hf  hl hw
    unfold j_X8_readPart_16 at hf
    refine lv_istore_n (i := 3) (lv' := [(3, .int t_28), (0, rv Z 2), (1, rv Z a1), (2, .int a2)]) hx hb dX8_readPart_16 rfl hl (by decide) rfl (fun ls hl => ?_)
    refine gm_aload_n (G := GC) (r := 2) C rfl dX8_readPart_17 rfl (lv_at hl 1 rfl) ?_
    refine gm_getS (G := GC) (u := u_27) (r := 2) (ci := 7) (k := 0) C hw rfl fl_X8_12 dX8_readPart_18 rfl (q := 3) rfl ?_
    refine lv_bipush (v := 40) hx hb dX8_readPart_21 (by decide) ?_
    obtain ⟨r_29, e_r_29, hf⟩ := gm_le hf
    refine gm_callV (G := GC) (u := u_27) (u' := u_27) (r := 3) (ci := 8) (As := [.int (40 : Int32)]) (rest := []) (res := (some (.int (f_X9_isSignOf (40 : Int32) u_27)))) C hw hl (ok_X9_isSignOf l Z (40 : Int32) u_27) cw_X8_137 im_X9_isSignOf rfl se_X9_isSignOf rfl rfl rfl ⟨(by omega : 0 + 1 ≤ R.frames), (by omega : 8 + (2 + 11) + (0) ≤ R.locals)⟩ rfl rfl (Nat.le_of_ble_eq_true rfl) dX8_readPart_23 (fun H locs hw => ?_)
    refine gm_topI e_r_29 ?_
    refine lv_istore (i := 4) (lv' := [(4, .int r_29), (3, .int t_28), (0, rv Z 2), (1, rv Z a1), (2, .int a2)]) hx hb dX8_readPart_26 hl (by decide) rfl (fun ls hl => ?_)
    refine gm_aload_n (G := GC) (r := 2) C rfl dX8_readPart_28 rfl (lv_at hl 2 rfl) ?_
    refine gm_getS (G := GC) (u := u_27) (r := 2) (ci := 7) (k := 0) C hw rfl fl_X8_12 dX8_readPart_29 rfl (q := 3) rfl ?_
    refine lv_bipush (v := 16) hx hb dX8_readPart_32 (by decide) ?_
    obtain ⟨r_30, e_r_30, hf⟩ := gm_le hf
    refine gm_callV (G := GC) (u := u_27) (u' := u_27) (r := 3) (ci := 8) (As := [.int (16 : Int32)]) (rest := []) (res := (some (.int (f_X9_isWord (16 : Int32) u_27)))) C hw hl (ok_X9_isWord l Z (16 : Int32) u_27) cw_X8_125 im_X9_isWord rfl se_X9_isWord rfl rfl rfl ⟨(by omega : 0 + 1 ≤ R.frames), (by omega : 8 + (2 + 11) + (0) ≤ R.locals)⟩ rfl rfl (Nat.le_of_ble_eq_true rfl) dX8_readPart_34 (fun H locs hw => ?_)
    refine gm_topI e_r_30 ?_
    refine lv_istore (i := 5) (lv' := [(5, .int r_30), (4, .int r_29), (3, .int t_28), (0, rv Z 2), (1, rv Z a1), (2, .int a2)]) hx hb dX8_readPart_37 hl (by decide) rfl (fun ls hl => ?_)
    refine lv_iload_n hx hb dX8_readPart_39 rfl (lv_at hl 2 rfl) ?_
    refine lv_if_ne (tgt := 71) hx hb dX8_readPart_40 (by decide) (fun hc => ?_) (fun hc => ?_)
    · replace hf := (if_neg hc).symm.trans hf
      exact J71 t_28 r_29 r_30 u_27 _ _ _ hf  (lv_sub hl [3, 4, 5, 2, 1, 0] rfl) hw
    · replace hf := (if_pos hc).symm.trans hf
      refine lv_iload hx hb dX8_readPart_43 (lv_at hl 1 rfl) ?_
      refine lv_if_ne (tgt := 71) hx hb dX8_readPart_45 (by decide) (fun hc => ?_) (fun hc => ?_)
      · replace hf := (if_neg hc).symm.trans hf
        exact J71 t_28 r_29 r_30 u_27 _ _ _ hf  (lv_sub hl [3, 4, 5, 2, 1, 0] rfl) hw
      · replace hf := (if_pos hc).symm.trans hf
        refine lv_iload hx hb dX8_readPart_48 (lv_at hl 0 rfl) ?_
        refine lv_if_ne (tgt := 71) hx hb dX8_readPart_50 (by decide) (fun hc => ?_) (fun hc => ?_)
        · replace hf := (if_neg hc).symm.trans hf
          exact J71 t_28 r_29 r_30 u_27 _ _ _ hf  (lv_sub hl [3, 4, 5, 2, 1, 0] rfl) hw
        · replace hf := (if_pos hc).symm.trans hf
          refine gm_aload_n (G := GC) (r := 2) C rfl dX8_readPart_53 rfl (lv_at hl 3 rfl) ?_
          refine gm_getS (G := GC) (u := u_27) (r := 2) (ci := 7) (k := 0) C hw rfl fl_X8_12 dX8_readPart_54 rfl (q := 3) rfl ?_
          obtain ⟨r_31, e_r_31, hf⟩ := gm_le hf
          refine gm_callV (G := GC) (u := u_27) (u' := u_27) (r := 3) (ci := 8) (As := []) (rest := []) (res := (some (.int (f_X9_isFact u_27)))) C hw hl (ok_X9_isFact l Z u_27) cw_X8_147 im_X9_isFact rfl se_X9_isFact rfl rfl rfl ⟨(by omega : 0 + 1 ≤ R.frames), (by omega : 8 + (1 + 11) + (0) ≤ R.locals)⟩ rfl rfl (Nat.le_of_ble_eq_true rfl) dX8_readPart_57 (fun H locs hw => ?_)
          refine gm_topI e_r_31 ?_
          refine lv_if_ne (tgt := 71) hx hb dX8_readPart_60 (by decide) (fun hc => ?_) (fun hc => ?_)
          · replace hf := (if_neg hc).symm.trans hf
            exact J71 t_28 r_29 r_30 u_27 _ _ _ hf  (lv_sub hl [3, 4, 5, 2, 1, 0] rfl) hw
          · replace hf := (if_pos hc).symm.trans hf
            refine gm_aload_n (G := GC) (r := 2) C rfl dX8_readPart_63 rfl (lv_at hl 3 rfl) ?_
            refine lv_iconst (v := 1) hx hb dX8_readPart_64 (by decide) ?_
            obtain ⟨u_32, hc_33, hf⟩ := gm_bnd hf
            refine gm_callV (G := GC) (u := u_27) (u' := u_32) (r := 2) (ci := 7) (As := [.int (1 : Int32)]) (rest := []) (res := none) C hw hl (ok_X8_refuse l Z (1 : Int32) u_27 u_32 hc_33) cw_X8_71 im_X8_refuse rfl se_X8_refuse rfl rfl rfl ⟨(by omega : 0 + 1 ≤ R.frames), (by omega : 8 + (2 + 11) + (0) ≤ R.locals)⟩ rfl rfl (Nat.le_of_ble_eq_true rfl) dX8_readPart_65 (fun H locs hw => ?_)
            refine lv_goto (tgt := 81) hx hb dX8_readPart_68 (by decide) ?_
            exact J81 t_28 r_29 r_30 u_32 _ _ _ hf  (lv_sub hl [3, 4, 5, 2, 1, 0] rfl) hw
  refine gm_aload_n (G := GC) (r := 2) C rfl dX8_readPart_0 rfl (lv_at hl 0 rfl) ?_
  refine gm_getS (G := GC) (u := u) (r := 2) (ci := 7) (k := 0) C hw rfl fl_X8_12 dX8_readPart_1 rfl (q := 3) rfl ?_
  refine gm_getI (G := GC) (u := u) (r := 3) (ci := 8) (k := 4) C hw rfl fl_X8_33 dX8_readPart_4 rfl ?_
  refine lv_iconst (v := 2) hx hb dX8_readPart_7 (by decide) ?_
  refine lv_icmp_ne (tgt := 15) hx hb dX8_readPart_8 (by decide) (fun hc => ?_) (fun hc => ?_)
  · replace hf := (if_neg hc).symm.trans hf
    refine lv_iconst (v := 0) hx hb dX8_readPart_15 (by decide) ?_
    exact J16 (0 : Int32) u _ _ _ hf  (lv_sub hl [0, 1, 2] rfl) hw
  · replace hf := (if_pos hc).symm.trans hf
    refine lv_iconst (v := 1) hx hb dX8_readPart_11 (by decide) ?_
    refine lv_goto (tgt := 16) hx hb dX8_readPart_12 (by decide) ?_
    exact J16 (1 : Int32) u _ _ _ hf  (lv_sub hl [0, 1, 2] rfl) hw
def n_X8_readPart : Nat → Nat → Int32 → gm_M → Option gm_M
  | 0 => fun _ _ _ => none
  | n + 1 => f_X8_readPartO (n_X8_readPart n)
def f_X8_readPart : Nat → Int32 → gm_M → Option gm_M := n_X8_readPart 8
theorem nk_X8_readPart (l : Launch) (Z : gm_Z) : ∀ (n : Nat) (a1 : Nat) (a2 : Int32) (u u' : gm_M) (h1 : isLaw a1 = true), n_X8_readPart n a1 a2 u = some u' → gm_Met l GC Z yX8_readPart cX8_readPart 7 none ({ frames := n * 11, cells := 0, slots := 0, locals := n * 248 }) [rv Z 2, rv Z a1, .int a2] u none u'
  | 0 => fun  a1 a2 u u'  h1 h => by cases h
  | n + 1 => fun  a1 a2 u u'  h1 h => by
    have q := ok_X8_readPartO l Z (n_X8_readPart n) (n * 11) (n * 248) (nk_X8_readPart l Z n) a1 a2 u h1 u' h
    have e1 : (n + 1) * 11 = n * 11 + 11 := Nat.succ_mul _ _
    have e2 : (n + 1) * 248 = n * 248 + 248 := Nat.succ_mul _ _
    rw [e1, e2]; exact q
theorem ok_X8_readPart (l : Launch) (Z : gm_Z) (a1 : Nat) (a2 : Int32) (u : gm_M) (h1 : isLaw a1 = true) (u' : gm_M) (hf : f_X8_readPart a1 a2 u = some u') : gm_Met l GC Z yX8_readPart cX8_readPart 7 none ({ frames := 88, cells := 0, slots := 0, locals := 1984 }) [rv Z 2, rv Z a1, .int a2] u none u' := nk_X8_readPart l Z 8 a1 a2 u u' h1 hf
def f_X8_readWhole : Nat → Int32 → gm_M → Option gm_M := f_X8_readWholeO (n_X8_readPart 8)
theorem ok_X8_readWhole (l : Launch) (Z : gm_Z) (a1 : Nat) (a2 : Int32) (u : gm_M) (h1 : isLaw a1 = true) (u' : gm_M) (hf : f_X8_readWhole a1 a2 u = some u') : gm_Met l GC Z yX8_readWhole cX8_readWhole 5 none ({ frames := 98, cells := 0, slots := 0, locals := 2208 }) [rv Z 2, rv Z a1, .int a2] u none u' := ok_X8_readWholeO l Z (n_X8_readPart 8) 88 1984 (nk_X8_readPart l Z 8) a1 a2 u h1 u' hf
/-! LeapCapitalModel.orders -/
def b_X11_orders_136 (rp : Int32 → Int32 → Int32 → gm_M → Option gm_M) (a1 : Int32) (a2 : Int32) (a3 : Int32) : (Int32 × gm_M) → Option ((Int32 × gm_M) ⊕ gm_M) := fun x => match x with | (v4_2, u_1) => if (gI u_1 3 0) ≤ v4_2 then some (.inr u_1) else if ((a2 >>> (v4_2 &&& 31)) &&& (1 : Int32)) = 0 then some (.inl (v4_2 + (1 : Int32), u_1)) else if ib a1 6 = true then gm_let (sI u_1 37 (ix a1) v4_2) fun u_4 => (rp (a1 + (1 : Int32)) (a2 &&& (((1 : Int32) <<< (v4_2 &&& 31)) ^^^ (-1 : Int32))) a3 u_4).bind fun u_5 => some (.inl (v4_2 + (1 : Int32), u_5)) else none
def b_X11_orders_20 (rp : Int32 → Int32 → Int32 → gm_M → Option gm_M) (a1 : Int32) (a2 : Int32) (a3 : Int32) : (Int32 × gm_M) → Option ((Int32 × gm_M) ⊕ gm_M) := fun x => match x with | (v4_11, u_10) => if a1 ≤ v4_11 then some (.inr u_10) else if ib v4_11 6 = true then (f_X11_comes (gI u_10 37 (ix v4_11)) u_10).bind fun u_13 => some (.inl (v4_11 + (1 : Int32), u_13)) else none
def b_X11_orders_46 (rp : Int32 → Int32 → Int32 → gm_M → Option gm_M) (a1 : Int32) (a2 : Int32) (a3 : Int32) : (Int32 × gm_M) → Option ((Int32 × gm_M) ⊕ gm_M) := fun x => match x with | (v4_17, u_16) => if a3 ≤ v4_17 then some (.inr u_16) else (f_X11_rides u_16).bind fun u_18 => some (.inl (v4_17 + (1 : Int32), u_18))
def b_X11_orders_105 (rp : Int32 → Int32 → Int32 → gm_M → Option gm_M) (a1 : Int32) (a2 : Int32) (a3 : Int32) : (Int32 × gm_M) → Option ((Int32 × gm_M) ⊕ gm_M) := fun x => match x with | (v5_27, u_26) => if (6 : Int32) ≤ v5_27 then some (.inr u_26) else if ib v5_27 6 = true then gm_let (sI u_26 38 (ix v5_27) (gI u_26 37 (ix v5_27))) fun u_29 => some (.inl (v5_27 + (1 : Int32), u_29)) else none
def f_X11_ordersO (rp : Int32 → Int32 → Int32 → gm_M → Option gm_M) (a1 : Int32) (a2 : Int32) (a3 : Int32) (u : gm_M) : Option gm_M := if a2 = 0 then (f_X11_copies 29 22 (0 : Int32) 31 22 (0 : Int32) u).bind fun u_8 => ((gm_lp (b_X11_orders_20 rp a1 a2 a3) gm_FU ((0 : Int32), u_8)).bind fun o => match o with | u_15 => ((gm_lp (b_X11_orders_46 rp a1 a2 a3) gm_FU ((0 : Int32), u_15)).bind fun o => match o with | u_20 => (f_X11_bits (gI u_20 29 3)).bind fun r_21 => (f_X11_copies 31 22 (0 : Int32) 29 22 (0 : Int32) u_20).bind fun u_23 => if (gI u_23 1 54) < r_21 then gm_let (sI u_23 1 54 r_21) fun u_25 => ((gm_lp (b_X11_orders_105 rp a1 a2 a3) gm_FU ((0 : Int32), u_25)).bind fun o => match o with | u_30 => some u_30) else some u_23)) else ((gm_lp (b_X11_orders_136 rp a1 a2 a3) gm_FU ((0 : Int32), u)).bind fun o => match o with | u_7 => some u_7)
set_option maxRecDepth 100000 in
set_option maxHeartbeats 4000000 in
theorem ok_X11_ordersO (l : Launch) (Z : gm_Z) (rp : Int32 → Int32 → Int32 → gm_M → Option gm_M) (F Lc : Nat) (hrp : ∀ (a1 : Int32) (a2 : Int32) (a3 : Int32) (u u' : gm_M) , rp a1 a2 a3 u = some u' → gm_Met l GM Z yX11_orders cX11_orders 6 none ({ frames := F, cells := 0, slots := 0, locals := Lc }) [rv Z 1, .int a1, .int a2, .int a3] u none u') (a1 : Int32) (a2 : Int32) (a3 : Int32) (u : gm_M)  (u' : gm_M) (hf : f_X11_ordersO rp a1 a2 a3 u = some (u')) : gm_Met l GM Z yX11_orders cX11_orders 6 none ({ frames := F + 8, cells := 0, slots := 0, locals := Lc + 181 }) [rv Z 1, .int a1, .int a2, .int a3] u none u' := by
  unfold f_X11_ordersO at hf
  refine gm_ofW (by decide +kernel) (Nat.le_of_ble_eq_true rfl) ?_
  intro p e s m args below meth c A ls Q R hRf hRl C E hl hw
  have hRf : F + 8 ≤ R.frames := hRf
  have hRl : Lc + 181 ≤ R.locals := hRl
  obtain ⟨hx, hb, -⟩ := id C
  have hl : lv_has ls 6 [(0, rv Z 1), (1, .int a1), (2, .int a2), (3, .int a3)] := hl
  refine lv_iload_n hx hb dX11_orders_0 rfl (lv_at hl 2 rfl) ?_
  refine lv_if_ne (tgt := 133) hx hb dX11_orders_1 (by decide) (fun hc => ?_) (fun hc => ?_)
  · replace hf := (if_neg hc).symm.trans hf
    refine lv_iconst (v := 0) hx hb dX11_orders_133 (by decide) ?_
    refine lv_istore (i := 4) (lv' := [(4, .int (0 : Int32)), (0, rv Z 1), (1, .int a1), (2, .int a2), (3, .int a3)]) hx hb dX11_orders_134 hl (by decide) rfl (fun ls hl => ?_)
    obtain ⟨o1, hlp, hf⟩ := gm_bnd hf
    have L136_1 := gm_loop (b_X11_orders_136 rp a1 a2 a3) (fun x : (Int32 × gm_M) => ∀ (H : Heap) (locs : List Loc) (ls : Array Slot), lv_has ls 6 [(0, rv Z 1), (1, .int a1), (2, .int a2), (3, .int a3), (4, .int x.1)] → wd GM Z x.2 A s.heap H locs → W p l e R s m args below meth c H locs 0 0 Q (F0 m 136 ls [])) (fun z : gm_M => ∀ (H : Heap) (locs : List Loc) (ls : Array Slot), lv_has ls 6 [] → wd GM Z z A s.heap H locs → W p l e R s m args below meth c H locs 0 0 Q (F0 m 189 ls [])) (by
      intro x o1 hf Kc Kx
      obtain ⟨v4_2, u_1⟩ := x
      intro H locs ls hl hw
      unfold b_X11_orders_136 at hf
      try dsimp only at hf
      refine lv_iload hx hb dX11_orders_136 (lv_at hl 4 rfl) ?_
      refine gm_aload_n (G := GM) (r := 1) C rfl dX11_orders_138 rfl (lv_at hl 0 rfl) ?_
      refine gm_getS (G := GM) (u := u_1) (r := 1) (ci := 10) (k := 10) C hw rfl fl_X11_13 dX11_orders_139 rfl (q := 3) rfl ?_
      refine lv_iconst (v := 0) hx hb dX11_orders_142 (by decide) ?_
      refine gm_iald (G := GM) (u := u_1) (r := 3) (n := 8) (i := (0 : Int32)) C hw rfl (by decide) (j := 0) (by decide) dX11_orders_143 ?_
      refine lv_icmp_ge (tgt := 189) hx hb dX11_orders_144 (by decide) (fun hc => ?_) (fun hc => ?_)
      · replace hf := (if_pos hc).symm.trans hf
        exact Kx _ (gm_si hf) _ _ _ (lv_sub hl [] rfl) hw
      · replace hf := (if_neg hc).symm.trans hf
        refine lv_iload_n hx hb dX11_orders_147 rfl (lv_at hl 2 rfl) ?_
        refine lv_iload hx hb dX11_orders_148 (lv_at hl 4 rfl) ?_
        refine lv_ishr hx hb dX11_orders_150 ?_
        refine lv_iconst (v := 1) hx hb dX11_orders_151 (by decide) ?_
        refine lv_iand hx hb dX11_orders_152 ?_
        refine lv_if_ne (tgt := 159) hx hb dX11_orders_153 (by decide) (fun hc => ?_) (fun hc => ?_)
        · replace hf := (if_neg hc).symm.trans hf
          refine gm_aload_n (G := GM) (r := 1) C rfl dX11_orders_159 rfl (lv_at hl 0 rfl) ?_
          refine gm_getS (G := GM) (u := u_1) (r := 1) (ci := 10) (k := 52) C hw rfl fl_X11_121 dX11_orders_160 rfl (q := 37) rfl ?_
          refine lv_iload_n hx hb dX11_orders_163 rfl (lv_at hl 1 rfl) ?_
          refine lv_iload hx hb dX11_orders_164 (lv_at hl 4 rfl) ?_
          obtain ⟨g_3, hf⟩ := gm_grd hf
          refine gm_iast (G := GM) (u := u_1) (r := 37) (n := 6) (i := a1) (x := v4_2) C hw rfl g_3 rfl dX11_orders_166 (fun H locs hw => ?_)
          obtain ⟨u_4, e_u_4, hf⟩ := gm_le hf
          rw [← e_u_4] at hw
          refine gm_aload_n (G := GM) (r := 1) C rfl dX11_orders_167 rfl (lv_at hl 0 rfl) ?_
          refine lv_iload_n hx hb dX11_orders_168 rfl (lv_at hl 1 rfl) ?_
          refine lv_iconst (v := 1) hx hb dX11_orders_169 (by decide) ?_
          refine lv_iadd hx hb dX11_orders_170 ?_
          refine lv_iload_n hx hb dX11_orders_171 rfl (lv_at hl 2 rfl) ?_
          refine lv_iconst (v := 1) hx hb dX11_orders_172 (by decide) ?_
          refine lv_iload hx hb dX11_orders_173 (lv_at hl 4 rfl) ?_
          refine lv_ishl hx hb dX11_orders_175 ?_
          refine lv_iconst (v := -1) hx hb dX11_orders_176 (by decide) ?_
          refine lv_ixor hx hb dX11_orders_177 ?_
          refine lv_iand hx hb dX11_orders_178 ?_
          refine lv_iload_n hx hb dX11_orders_179 rfl (lv_at hl 3 rfl) ?_
          obtain ⟨u_5, hc_6, hf⟩ := gm_bnd hf
          refine gm_callV (G := GM) (u := u_4) (u' := u_5) (r := 1) (ci := 10) (As := [.int (a1 + (1 : Int32)), .int (a2 &&& (((1 : Int32) <<< (v4_2 &&& 31)) ^^^ (-1 : Int32))), .int a3]) (rest := []) (res := none) C hw hl (hrp (a1 + (1 : Int32)) (a2 &&& (((1 : Int32) <<< (v4_2 &&& 31)) ^^^ (-1 : Int32))) a3 u_4 u_5 hc_6) cw_X11_416 im_X11_orders rfl se_X11_orders rfl rfl rfl ⟨(by omega : F + 1 ≤ R.frames), (by omega : 8 + (6 + 11) + (Lc) ≤ R.locals)⟩ rfl rfl (Nat.le_of_ble_eq_true rfl) dX11_orders_180 (fun H locs hw => ?_)
          refine lv_iinc (v := v4_2 + (1 : Int32)) (lv' := [(4, .int (v4_2 + (1 : Int32))), (0, rv Z 1), (1, .int a1), (2, .int a2), (3, .int a3)]) hx hb dX11_orders_183 hl (k := 4) rfl rfl (by decide) rfl (fun ls hl => ?_)
          refine lv_goto (tgt := 136) hx hb dX11_orders_186 (by decide) ?_
          exact Kc _ (gm_si hf) _ _ _ (lv_sub hl [1, 2, 3, 4, 0] rfl) hw
        · replace hf := (if_pos hc).symm.trans hf
          refine lv_goto (tgt := 183) hx hb dX11_orders_156 (by decide) ?_
          refine lv_iinc (v := v4_2 + (1 : Int32)) (lv' := [(4, .int (v4_2 + (1 : Int32))), (0, rv Z 1), (1, .int a1), (2, .int a2), (3, .int a3)]) hx hb dX11_orders_183 hl (k := 4) rfl rfl (by decide) rfl (fun ls hl => ?_)
          refine lv_goto (tgt := 136) hx hb dX11_orders_186 (by decide) ?_
          exact Kc _ (gm_si hf) _ _ _ (lv_sub hl [1, 2, 3, 4, 0] rfl) hw)
    refine L136_1 _ _ _ hlp ?_ _ _ _ (lv_sub hl [1, 2, 3, 4, 0] rfl) hw
    obtain ⟨u_7, rfl⟩ : ∃ y, y = o1 := ⟨_, rfl⟩
    intro H locs ls hl hw
    try dsimp only at hf
    exact gm_vret C E hw rfl rfl (Option.some.inj hf).symm dX11_orders_189
  · replace hf := (if_pos hc).symm.trans hf
    refine gm_aload_n (G := GM) (r := 1) C rfl dX11_orders_4 rfl (lv_at hl 0 rfl) ?_
    refine gm_getS (G := GM) (u := u) (r := 1) (ci := 10) (k := 39) C hw rfl fl_X11_93 dX11_orders_5 rfl (q := 29) rfl ?_
    refine lv_iconst (v := 0) hx hb dX11_orders_8 (by decide) ?_
    refine gm_aload_n (G := GM) (r := 1) C rfl dX11_orders_9 rfl (lv_at hl 0 rfl) ?_
    refine gm_getS (G := GM) (u := u) (r := 1) (ci := 10) (k := 41) C hw rfl fl_X11_99 dX11_orders_10 rfl (q := 31) rfl ?_
    refine lv_iconst (v := 0) hx hb dX11_orders_13 (by decide) ?_
    obtain ⟨u_8, hc_9, hf⟩ := gm_bnd hf
    refine gm_callS (G := GM) (u := u) (u' := u_8) (As := [rv Z 29, .int (0 : Int32), rv Z 31, .int (0 : Int32)]) (rest := []) (res := none) C hw hl (ok_X11_copies l Z 29 22 (0 : Int32) 31 22 (0 : Int32) u rfl rfl u_8 hc_9) cw_X11_376 st_X11_copies rfl rfl ⟨(by omega : 0 + 1 ≤ R.frames), (by omega : 8 + (5 + 11) + (0) ≤ R.locals)⟩ rfl rfl (Nat.le_of_ble_eq_true rfl) dX11_orders_14 (fun H locs hw => ?_)
    refine lv_iconst (v := 0) hx hb dX11_orders_17 (by decide) ?_
    refine lv_istore (i := 4) (lv' := [(4, .int (0 : Int32)), (0, rv Z 1), (1, .int a1), (2, .int a2), (3, .int a3)]) hx hb dX11_orders_18 hl (by decide) rfl (fun ls hl => ?_)
    obtain ⟨o2, hlp, hf⟩ := gm_bnd hf
    have L20_2 := gm_loop (b_X11_orders_20 rp a1 a2 a3) (fun x : (Int32 × gm_M) => ∀ (H : Heap) (locs : List Loc) (ls : Array Slot), lv_has ls 6 [(0, rv Z 1), (1, .int a1), (3, .int a3), (4, .int x.1)] → wd GM Z x.2 A s.heap H locs → W p l e R s m args below meth c H locs 0 0 Q (F0 m 20 ls [])) (fun z : gm_M => ∀ (H : Heap) (locs : List Loc) (ls : Array Slot), lv_has ls 6 [(0, rv Z 1), (3, .int a3)] → wd GM Z z A s.heap H locs → W p l e R s m args below meth c H locs 0 0 Q (F0 m 43 ls [])) (by
      intro x o2 hf Kc Kx
      obtain ⟨v4_11, u_10⟩ := x
      intro H locs ls hl hw
      unfold b_X11_orders_20 at hf
      try dsimp only at hf
      refine lv_iload hx hb dX11_orders_20 (lv_at hl 3 rfl) ?_
      refine lv_iload_n hx hb dX11_orders_22 rfl (lv_at hl 1 rfl) ?_
      refine lv_icmp_ge (tgt := 43) hx hb dX11_orders_23 (by decide) (fun hc => ?_) (fun hc => ?_)
      · replace hf := (if_pos hc).symm.trans hf
        exact Kx _ (gm_si hf) _ _ _ (lv_sub hl [0, 2] rfl) hw
      · replace hf := (if_neg hc).symm.trans hf
        refine gm_aload_n (G := GM) (r := 1) C rfl dX11_orders_26 rfl (lv_at hl 0 rfl) ?_
        refine gm_aload_n (G := GM) (r := 1) C rfl dX11_orders_27 rfl (lv_at hl 0 rfl) ?_
        refine gm_getS (G := GM) (u := u_10) (r := 1) (ci := 10) (k := 52) C hw rfl fl_X11_121 dX11_orders_28 rfl (q := 37) rfl ?_
        refine lv_iload hx hb dX11_orders_31 (lv_at hl 3 rfl) ?_
        obtain ⟨g_12, hf⟩ := gm_grd hf
        refine gm_iald (G := GM) (u := u_10) (r := 37) (n := 6) (i := v4_11) C hw rfl g_12 rfl dX11_orders_33 ?_
        obtain ⟨u_13, hc_14, hf⟩ := gm_bnd hf
        refine gm_callV (G := GM) (u := u_10) (u' := u_13) (r := 1) (ci := 10) (As := [.int (gI u_10 37 (ix v4_11))]) (rest := []) (res := none) C hw hl (ok_X11_comes l Z (gI u_10 37 (ix v4_11)) u_10 u_13 hc_14) cw_X11_386 im_X11_comes rfl se_X11_comes rfl rfl rfl ⟨(by omega : 0 + 1 ≤ R.frames), (by omega : 8 + (2 + 11) + (0) ≤ R.locals)⟩ rfl rfl (Nat.le_of_ble_eq_true rfl) dX11_orders_34 (fun H locs hw => ?_)
        refine lv_iinc (v := v4_11 + (1 : Int32)) (lv' := [(4, .int (v4_11 + (1 : Int32))), (0, rv Z 1), (1, .int a1), (3, .int a3)]) hx hb dX11_orders_37 hl (k := 3) rfl rfl (by decide) rfl (fun ls hl => ?_)
        refine lv_goto (tgt := 20) hx hb dX11_orders_40 (by decide) ?_
        exact Kc _ (gm_si hf) _ _ _ (lv_sub hl [1, 2, 3, 0] rfl) hw)
    refine L20_2 _ _ _ hlp ?_ _ _ _ (lv_sub hl [1, 2, 4, 0] rfl) hw
    obtain ⟨u_15, rfl⟩ : ∃ y, y = o2 := ⟨_, rfl⟩
    intro H locs ls hl hw
    try dsimp only at hf
    refine lv_iconst (v := 0) hx hb dX11_orders_43 (by decide) ?_
    refine lv_istore (i := 4) (lv' := [(4, .int (0 : Int32)), (0, rv Z 1), (3, .int a3)]) hx hb dX11_orders_44 hl (by decide) rfl (fun ls hl => ?_)
    obtain ⟨o3, hlp, hf⟩ := gm_bnd hf
    have L46_3 := gm_loop (b_X11_orders_46 rp a1 a2 a3) (fun x : (Int32 × gm_M) => ∀ (H : Heap) (locs : List Loc) (ls : Array Slot), lv_has ls 6 [(0, rv Z 1), (3, .int a3), (4, .int x.1)] → wd GM Z x.2 A s.heap H locs → W p l e R s m args below meth c H locs 0 0 Q (F0 m 46 ls [])) (fun z : gm_M => ∀ (H : Heap) (locs : List Loc) (ls : Array Slot), lv_has ls 6 [(0, rv Z 1)] → wd GM Z z A s.heap H locs → W p l e R s m args below meth c H locs 0 0 Q (F0 m 62 ls [])) (by
      intro x o3 hf Kc Kx
      obtain ⟨v4_17, u_16⟩ := x
      intro H locs ls hl hw
      unfold b_X11_orders_46 at hf
      try dsimp only at hf
      refine lv_iload hx hb dX11_orders_46 (lv_at hl 2 rfl) ?_
      refine lv_iload_n hx hb dX11_orders_48 rfl (lv_at hl 1 rfl) ?_
      refine lv_icmp_ge (tgt := 62) hx hb dX11_orders_49 (by decide) (fun hc => ?_) (fun hc => ?_)
      · replace hf := (if_pos hc).symm.trans hf
        exact Kx _ (gm_si hf) _ _ _ (lv_sub hl [0] rfl) hw
      · replace hf := (if_neg hc).symm.trans hf
        refine gm_aload_n (G := GM) (r := 1) C rfl dX11_orders_52 rfl (lv_at hl 0 rfl) ?_
        obtain ⟨u_18, hc_19, hf⟩ := gm_bnd hf
        refine gm_callV (G := GM) (u := u_16) (u' := u_18) (r := 1) (ci := 10) (As := []) (rest := []) (res := none) C hw hl (ok_X11_rides l Z u_16 u_18 hc_19) cw_X11_392 im_X11_rides rfl se_X11_rides rfl rfl rfl ⟨(by omega : 7 + 1 ≤ R.frames), (by omega : 8 + (2 + 11) + (160) ≤ R.locals)⟩ rfl rfl (Nat.le_of_ble_eq_true rfl) dX11_orders_53 (fun H locs hw => ?_)
        refine lv_iinc (v := v4_17 + (1 : Int32)) (lv' := [(4, .int (v4_17 + (1 : Int32))), (0, rv Z 1), (3, .int a3)]) hx hb dX11_orders_56 hl (k := 2) rfl rfl (by decide) rfl (fun ls hl => ?_)
        refine lv_goto (tgt := 46) hx hb dX11_orders_59 (by decide) ?_
        exact Kc _ (gm_si hf) _ _ _ (lv_sub hl [1, 2, 0] rfl) hw)
    refine L46_3 _ _ _ hlp ?_ _ _ _ (lv_sub hl [1, 2, 0] rfl) hw
    obtain ⟨u_20, rfl⟩ : ∃ y, y = o3 := ⟨_, rfl⟩
    intro H locs ls hl hw
    try dsimp only at hf
    refine gm_aload_n (G := GM) (r := 1) C rfl dX11_orders_62 rfl (lv_at hl 0 rfl) ?_
    refine gm_getS (G := GM) (u := u_20) (r := 1) (ci := 10) (k := 39) C hw rfl fl_X11_93 dX11_orders_63 rfl (q := 29) rfl ?_
    refine lv_iconst (v := 3) hx hb dX11_orders_66 (by decide) ?_
    refine gm_iald (G := GM) (u := u_20) (r := 29) (n := 22) (i := (3 : Int32)) C hw rfl (by decide) (j := 3) (by decide) dX11_orders_67 ?_
    obtain ⟨r_21, hc_22, hf⟩ := gm_bnd hf
    refine gm_callS (G := GM) (u := u_20) (u' := u_20) (As := [.int (gI u_20 29 3)]) (rest := []) (res := (some (.int r_21))) C hw hl (ok_X11_bits l Z (gI u_20 29 3) u_20 r_21 hc_22) cw_X11_398 st_X11_bits rfl rfl ⟨(by omega : 0 + 1 ≤ R.frames), (by omega : 8 + (3 + 11) + (0) ≤ R.locals)⟩ rfl rfl (Nat.le_of_ble_eq_true rfl) dX11_orders_68 (fun H locs hw => ?_)
    refine lv_istore (i := 4) (lv' := [(4, .int r_21), (0, rv Z 1)]) hx hb dX11_orders_71 hl (by decide) rfl (fun ls hl => ?_)
    refine gm_aload_n (G := GM) (r := 1) C rfl dX11_orders_73 rfl (lv_at hl 1 rfl) ?_
    refine gm_getS (G := GM) (u := u_20) (r := 1) (ci := 10) (k := 41) C hw rfl fl_X11_99 dX11_orders_74 rfl (q := 31) rfl ?_
    refine lv_iconst (v := 0) hx hb dX11_orders_77 (by decide) ?_
    refine gm_aload_n (G := GM) (r := 1) C rfl dX11_orders_78 rfl (lv_at hl 1 rfl) ?_
    refine gm_getS (G := GM) (u := u_20) (r := 1) (ci := 10) (k := 39) C hw rfl fl_X11_93 dX11_orders_79 rfl (q := 29) rfl ?_
    refine lv_iconst (v := 0) hx hb dX11_orders_82 (by decide) ?_
    obtain ⟨u_23, hc_24, hf⟩ := gm_bnd hf
    refine gm_callS (G := GM) (u := u_20) (u' := u_23) (As := [rv Z 31, .int (0 : Int32), rv Z 29, .int (0 : Int32)]) (rest := []) (res := none) C hw hl (ok_X11_copies l Z 31 22 (0 : Int32) 29 22 (0 : Int32) u_20 rfl rfl u_23 hc_24) cw_X11_376 st_X11_copies rfl rfl ⟨(by omega : 0 + 1 ≤ R.frames), (by omega : 8 + (5 + 11) + (0) ≤ R.locals)⟩ rfl rfl (Nat.le_of_ble_eq_true rfl) dX11_orders_83 (fun H locs hw => ?_)
    refine lv_iload hx hb dX11_orders_86 (lv_at hl 0 rfl) ?_
    refine gm_aload_n (G := GM) (r := 1) C rfl dX11_orders_88 rfl (lv_at hl 1 rfl) ?_
    refine gm_getI (G := GM) (u := u_23) (r := 1) (ci := 10) (k := 54) C hw rfl fl_X11_413 dX11_orders_89 rfl ?_
    refine lv_icmp_gt (tgt := 96) hx hb dX11_orders_92 (by decide) (fun hc => ?_) (fun hc => ?_)
    · replace hf := (if_pos hc).symm.trans hf
      refine gm_aload_n (G := GM) (r := 1) C rfl dX11_orders_96 rfl (lv_at hl 1 rfl) ?_
      refine lv_iload hx hb dX11_orders_97 (lv_at hl 0 rfl) ?_
      refine gm_putI (G := GM) (u := u_23) (r := 1) (ci := 10) (k := 54) (v := r_21) C hw rfl fl_X11_413 fp_10_54 dX11_orders_99 rfl (fun H locs hw => ?_)
      obtain ⟨u_25, e_u_25, hf⟩ := gm_le hf
      rw [← e_u_25] at hw
      refine lv_iconst (v := 0) hx hb dX11_orders_102 (by decide) ?_
      refine lv_istore (i := 5) (lv' := [(5, .int (0 : Int32)), (4, .int r_21), (0, rv Z 1)]) hx hb dX11_orders_103 hl (by decide) rfl (fun ls hl => ?_)
      obtain ⟨o4, hlp, hf⟩ := gm_bnd hf
      have L105_4 := gm_loop (b_X11_orders_105 rp a1 a2 a3) (fun x : (Int32 × gm_M) => ∀ (H : Heap) (locs : List Loc) (ls : Array Slot), lv_has ls 6 [(0, rv Z 1), (5, .int x.1)] → wd GM Z x.2 A s.heap H locs → W p l e R s m args below meth c H locs 0 0 Q (F0 m 105 ls [])) (fun z : gm_M => ∀ (H : Heap) (locs : List Loc) (ls : Array Slot), lv_has ls 6 [] → wd GM Z z A s.heap H locs → W p l e R s m args below meth c H locs 0 0 Q (F0 m 132 ls [])) (by
        intro x o4 hf Kc Kx
        obtain ⟨v5_27, u_26⟩ := x
        intro H locs ls hl hw
        unfold b_X11_orders_105 at hf
        try dsimp only at hf
        refine lv_iload hx hb dX11_orders_105 (lv_at hl 1 rfl) ?_
        refine lv_bipush (v := 6) hx hb dX11_orders_107 (by decide) ?_
        refine lv_icmp_ge (tgt := 132) hx hb dX11_orders_109 (by decide) (fun hc => ?_) (fun hc => ?_)
        · replace hf := (if_pos hc).symm.trans hf
          exact Kx _ (gm_si hf) _ _ _ (lv_sub hl [] rfl) hw
        · replace hf := (if_neg hc).symm.trans hf
          refine gm_aload_n (G := GM) (r := 1) C rfl dX11_orders_112 rfl (lv_at hl 0 rfl) ?_
          refine gm_getS (G := GM) (u := u_26) (r := 1) (ci := 10) (k := 53) C hw rfl fl_X11_124 dX11_orders_113 rfl (q := 38) rfl ?_
          refine lv_iload hx hb dX11_orders_116 (lv_at hl 1 rfl) ?_
          refine gm_aload_n (G := GM) (r := 1) C rfl dX11_orders_118 rfl (lv_at hl 0 rfl) ?_
          refine gm_getS (G := GM) (u := u_26) (r := 1) (ci := 10) (k := 52) C hw rfl fl_X11_121 dX11_orders_119 rfl (q := 37) rfl ?_
          refine lv_iload hx hb dX11_orders_122 (lv_at hl 1 rfl) ?_
          obtain ⟨g_28, hf⟩ := gm_grd hf
          refine gm_iald (G := GM) (u := u_26) (r := 37) (n := 6) (i := v5_27) C hw rfl g_28 rfl dX11_orders_124 ?_
          refine gm_iast (G := GM) (u := u_26) (r := 38) (n := 6) (i := v5_27) (x := gI u_26 37 (ix v5_27)) C hw rfl g_28 rfl dX11_orders_125 (fun H locs hw => ?_)
          obtain ⟨u_29, e_u_29, hf⟩ := gm_le hf
          rw [← e_u_29] at hw
          refine lv_iinc (v := v5_27 + (1 : Int32)) (lv' := [(5, .int (v5_27 + (1 : Int32))), (0, rv Z 1)]) hx hb dX11_orders_126 hl (k := 1) rfl rfl (by decide) rfl (fun ls hl => ?_)
          refine lv_goto (tgt := 105) hx hb dX11_orders_129 (by decide) ?_
          exact Kc _ (gm_si hf) _ _ _ (lv_sub hl [1, 0] rfl) hw)
      refine L105_4 _ _ _ hlp ?_ _ _ _ (lv_sub hl [2, 0] rfl) hw
      obtain ⟨u_30, rfl⟩ : ∃ y, y = o4 := ⟨_, rfl⟩
      intro H locs ls hl hw
      try dsimp only at hf
      exact gm_vret C E hw rfl rfl (Option.some.inj hf).symm dX11_orders_132
    · replace hf := (if_neg hc).symm.trans hf
      exact gm_vret C E hw rfl rfl (Option.some.inj hf).symm dX11_orders_95
def n_X11_orders : Nat → Int32 → Int32 → Int32 → gm_M → Option gm_M
  | 0 => fun _ _ _ _ => none
  | n + 1 => f_X11_ordersO (n_X11_orders n)
def f_X11_orders : Int32 → Int32 → Int32 → gm_M → Option gm_M := n_X11_orders 8
theorem nk_X11_orders (l : Launch) (Z : gm_Z) : ∀ (n : Nat) (a1 : Int32) (a2 : Int32) (a3 : Int32) (u u' : gm_M) , n_X11_orders n a1 a2 a3 u = some u' → gm_Met l GM Z yX11_orders cX11_orders 6 none ({ frames := n * 8, cells := 0, slots := 0, locals := n * 181 }) [rv Z 1, .int a1, .int a2, .int a3] u none u'
  | 0 => fun  a1 a2 a3 u u'  h => by cases h
  | n + 1 => fun  a1 a2 a3 u u'  h => by
    have q := ok_X11_ordersO l Z (n_X11_orders n) (n * 8) (n * 181) (nk_X11_orders l Z n) a1 a2 a3 u u' h
    have e1 : (n + 1) * 8 = n * 8 + 8 := Nat.succ_mul _ _
    have e2 : (n + 1) * 181 = n * 181 + 181 := Nat.succ_mul _ _
    rw [e1, e2]; exact q
theorem ok_X11_orders (l : Launch) (Z : gm_Z) (a1 : Int32) (a2 : Int32) (a3 : Int32) (u : gm_M)  (u' : gm_M) (hf : f_X11_orders a1 a2 a3 u = some u') : gm_Met l GM Z yX11_orders cX11_orders 6 none ({ frames := 64, cells := 0, slots := 0, locals := 1448 }) [rv Z 1, .int a1, .int a2, .int a3] u none u' := nk_X11_orders l Z 8 a1 a2 a3 u u' hf
/-! LeapCapital$Scribe.readRealm -/
def j_X8_readRealm_187 (a1 : Nat) (v2_11 : Int32) (u_10 : gm_M) : Option ((Int32 × gm_M) ⊕ gm_M) := (f_X8_takeSign (59 : Int32) u_10).bind fun u_12 => some (.inl (v2_11 + (1 : Int32), u_12))
def b_X8_readRealm_23 (a1 : Nat) : (Int32 × gm_M) → Option ((Int32 × gm_M) ⊕ gm_M) := fun x => match x with | (v2_9, u_8) => if (1000 : Int32) ≤ v2_9 then some (.inr u_8) else if (gI u_8 2 1) = 0 then if (gI u_8 3 4) = 0 then some (.inr u_8) else gm_let (f_X9_word u_8) fun r_14 => if r_14 = (0 : Int32) then (f_X8_readPerson a1 u_8).bind fun u_15 => j_X8_readRealm_187 a1 v2_9 u_15 else if r_14 = (1 : Int32) then (f_X8_refuse (1 : Int32) u_8).bind fun u_18 => j_X8_readRealm_187 a1 v2_9 u_18 else if r_14 = (2 : Int32) then (f_X8_refuse (1 : Int32) u_8).bind fun u_21 => j_X8_readRealm_187 a1 v2_9 u_21 else if r_14 = (3 : Int32) then (f_X8_takeOnce u_8).bind fun u_24 => (f_X8_takeNumber (1 : Int32) (3000 : Int32) u_24).bind fun o => match o with | (r_26, u_27) => gm_let (sI u_27 a1 5 r_26) fun u_30 => j_X8_readRealm_187 a1 v2_9 u_30 else if r_14 = (4 : Int32) then (f_X8_takeOnce u_8).bind fun u_32 => (f_X8_takeNumber (1 : Int32) (40 : Int32) u_32).bind fun o => match o with | (r_34, u_35) => gm_let (sI u_35 a1 6 r_34) fun u_38 => j_X8_readRealm_187 a1 v2_9 u_38 else if r_14 = (5 : Int32) then (f_X8_takeOnce u_8).bind fun u_40 => (f_X8_takeNumber (1 : Int32) (120 : Int32) u_40).bind fun o => match o with | (r_42, u_43) => gm_let (sI u_43 a1 7 r_42) fun u_46 => j_X8_readRealm_187 a1 v2_9 u_46 else if r_14 = (6 : Int32) then (f_X8_takeOnce u_8).bind fun u_48 => (f_X3_clear (a1 + 5) u_48).bind fun u_51 => (f_X8_readWhole (a1 + 5) (0 : Int32) u_51).bind fun u_54 => j_X8_readRealm_187 a1 v2_9 u_54 else (f_X8_refuse (1 : Int32) u_8).bind fun u_57 => j_X8_readRealm_187 a1 v2_9 u_57 else some (.inr u_8)
def f_X8_readRealm (a1 : Nat) (u : gm_M) : Option (Int32 × gm_M) := gm_let (sI u 2 1 (0 : Int32)) fun u_2 => gm_let (sI u_2 2 2 (0 : Int32)) fun u_3 => (f_X5_clear a1 u_3).bind fun u_4 => (f_X9_start u_4).bind fun u_6 => ((gm_lp (b_X8_readRealm_23 a1) gm_FU ((0 : Int32), u_6)).bind fun o => match o with | u_59 => some (gI u_59 2 1, u_59))
set_option maxRecDepth 100000 in
set_option maxHeartbeats 4000000 in
theorem ok_X8_readRealm (l : Launch) (Z : gm_Z) (a1 : Nat) (u : gm_M) (h1 : isRealm a1 = true) (r : Int32) (u' : gm_M) (hf : f_X8_readRealm a1 u = some (r, u')) : gm_Met l GC Z yX8_readRealm cX8_readRealm 3 (some .int) ({ frames := 99, cells := 0, slots := 0, locals := 2232 }) [rv Z 2, rv Z a1] u (some (.int r)) u' := by
  unfold f_X8_readRealm at hf
  refine gm_ofW (by decide +kernel) (by simp [lg_sl, gm_cat, gm_catI, gm_catJ]) ?_
  intro p e s m args below meth c A ls Q R hRf hRl C E hl hw
  obtain ⟨hx, hb, -⟩ := id C
  have hl : lv_has ls 3 [(0, rv Z 2), (1, rv Z a1)] := by simpa [lv_args, gm_cat, gm_catI, gm_catJ] using hl
  obtain ⟨k_1_0, k_1_1, k_1_2, k_1_3, k_1_4, k_1_5, k_1_6, k_1_7, k_1_8, k_1_9, k_1_10, k_1_11⟩ := fc_Realm h1
  refine gm_aload_n (G := GC) (r := 2) C rfl dX8_readRealm_0 rfl (lv_at hl 0 rfl) ?_
  refine lv_iconst (v := 0) hx hb dX8_readRealm_1 (by decide) ?_
  refine gm_putI (G := GC) (u := u) (r := 2) (ci := 7) (k := 1) (v := (0 : Int32)) C hw rfl fl_X8_18 fp_7_1 dX8_readRealm_2 rfl (fun H locs hw => ?_)
  obtain ⟨u_2, e_u_2, hf⟩ := gm_le hf
  rw [← e_u_2] at hw
  refine gm_aload_n (G := GC) (r := 2) C rfl dX8_readRealm_5 rfl (lv_at hl 0 rfl) ?_
  refine lv_iconst (v := 0) hx hb dX8_readRealm_6 (by decide) ?_
  refine gm_putI (G := GC) (u := u_2) (r := 2) (ci := 7) (k := 2) (v := (0 : Int32)) C hw rfl fl_X8_22 fp_7_2 dX8_readRealm_7 rfl (fun H locs hw => ?_)
  obtain ⟨u_3, e_u_3, hf⟩ := gm_le hf
  rw [← e_u_3] at hw
  refine gm_aload_n (G := GC) (r := a1) C k_1_0 dX8_readRealm_10 rfl (lv_at hl 1 rfl) ?_
  obtain ⟨u_4, hc_5, hf⟩ := gm_bnd hf
  refine gm_callV (G := GC) (u := u_3) (u' := u_4) (r := a1) (ci := 4) (As := []) (rest := []) (res := none) C hw hl (ok_X5_clear l Z a1 u_3 h1 u_4 hc_5) cw_X8_25 im_X5_clear rfl se_X5_clear k_1_0 rfl rfl ⟨Nat.le_trans (Nat.le_of_ble_eq_true rfl) hRf, Nat.le_trans (Nat.le_of_ble_eq_true rfl) hRl⟩ rfl rfl (Nat.le_of_ble_eq_true rfl) dX8_readRealm_11 (fun H locs hw => ?_)
  refine gm_aload_n (G := GC) (r := 2) C rfl dX8_readRealm_14 rfl (lv_at hl 0 rfl) ?_
  refine gm_getS (G := GC) (u := u_4) (r := 2) (ci := 7) (k := 0) C hw rfl fl_X8_12 dX8_readRealm_15 rfl (q := 3) rfl ?_
  obtain ⟨u_6, hc_7, hf⟩ := gm_bnd hf
  refine gm_callV (G := GC) (u := u_4) (u' := u_6) (r := 3) (ci := 8) (As := []) (rest := []) (res := none) C hw hl (ok_X9_start l Z u_4 u_6 hc_7) cw_X8_30 im_X9_start rfl se_X9_start rfl rfl rfl ⟨Nat.le_trans (Nat.le_of_ble_eq_true rfl) hRf, Nat.le_trans (Nat.le_of_ble_eq_true rfl) hRl⟩ rfl rfl (Nat.le_of_ble_eq_true rfl) dX8_readRealm_18 (fun H locs hw => ?_)
  refine lv_iconst (v := 0) hx hb dX8_readRealm_21 (by decide) ?_
  refine lv_istore_n (i := 2) (lv' := [(2, .int (0 : Int32)), (0, rv Z 2), (1, rv Z a1)]) hx hb dX8_readRealm_22 rfl hl (by decide) (by simp [gm_cat, gm_catI, gm_catJ]) (fun ls hl => ?_)
  obtain ⟨o1, hlp, hf⟩ := gm_bnd hf
  have L23_1 := gm_loop (b_X8_readRealm_23 a1) (fun x : (Int32 × gm_M) => ∀ (H : Heap) (locs : List Loc) (ls : Array Slot), lv_has ls 3 [(0, rv Z 2), (1, rv Z a1), (2, .int x.1)] → wd GC Z x.2 A s.heap H locs → W p l e R s m args below meth c H locs 0 0 Q (F0 m 23 ls [])) (fun z : gm_M => ∀ (H : Heap) (locs : List Loc) (ls : Array Slot), lv_has ls 3 [(0, rv Z 2)] → wd GC Z z A s.heap H locs → W p l e R s m args below meth c H locs 0 0 Q (F0 m 199 ls [])) (by
    intro x o1 hf Kc Kx
    obtain ⟨v2_9, u_8⟩ := x
    intro H locs ls hl hw
    unfold b_X8_readRealm_23 at hf
    try dsimp only at hf
    have J187 : ∀ (v2_11 : Int32) (u_10 : gm_M) (H : Heap) (locs : List Loc) (ls : Array Slot), j_X8_readRealm_187 a1 v2_11 u_10 = some o1 → lv_has ls 3 [(0, rv Z 2), (1, rv Z a1), (2, .int v2_11)] → wd GC Z u_10 A s.heap H locs → W p l e R s m args below meth c H locs 0 0 Q (F0 m 187 ls []) := by
      intro v2_11 u_10 H locs ls hf  hl hw
      unfold j_X8_readRealm_187 at hf
      refine gm_aload_n (G := GC) (r := 2) C rfl dX8_readRealm_187 rfl (lv_at hl 0 rfl) ?_
      refine lv_bipush (v := 59) hx hb dX8_readRealm_188 (by decide) ?_
      obtain ⟨u_12, hc_13, hf⟩ := gm_bnd hf
      refine gm_callV (G := GC) (u := u_10) (u' := u_12) (r := 2) (ci := 7) (As := [.int (59 : Int32)]) (rest := []) (res := none) C hw hl (ok_X8_takeSign l Z (59 : Int32) u_10 u_12 hc_13) cw_X8_75 im_X8_takeSign rfl se_X8_takeSign rfl rfl rfl ⟨Nat.le_trans (Nat.le_of_ble_eq_true rfl) hRf, Nat.le_trans (Nat.le_of_ble_eq_true rfl) hRl⟩ rfl rfl (Nat.le_of_ble_eq_true rfl) dX8_readRealm_190 (fun H locs hw => ?_)
      refine lv_iinc (v := v2_11 + (1 : Int32)) (lv' := [(2, .int (v2_11 + (1 : Int32))), (0, rv Z 2), (1, rv Z a1)]) hx hb dX8_readRealm_193 hl (k := 2) rfl rfl (by decide) (by simp [gm_cat, gm_catI, gm_catJ]) (fun ls hl => ?_)
      refine lv_goto (tgt := 23) hx hb dX8_readRealm_196 (by decide) ?_
      exact Kc _ (gm_si hf) _ _ _ (lv_sub hl [1, 2, 0] rfl) hw
    refine lv_iload_n hx hb dX8_readRealm_23 rfl (lv_at hl 2 rfl) ?_
    refine lv_sipush (v := 1000) hx hb dX8_readRealm_24 (by decide) ?_
    refine lv_icmp_ge (tgt := 199) hx hb dX8_readRealm_27 (by decide) (fun hc => ?_) (fun hc => ?_)
    · replace hf := (if_pos hc).symm.trans hf
      exact Kx _ (gm_si hf) _ _ _ (lv_sub hl [0] rfl) hw
    · replace hf := (if_neg hc).symm.trans hf
      refine gm_aload_n (G := GC) (r := 2) C rfl dX8_readRealm_30 rfl (lv_at hl 0 rfl) ?_
      refine gm_getI (G := GC) (u := u_8) (r := 2) (ci := 7) (k := 1) C hw rfl fl_X8_18 dX8_readRealm_31 rfl ?_
      refine lv_if_ne (tgt := 199) hx hb dX8_readRealm_34 (by decide) (fun hc => ?_) (fun hc => ?_)
      · replace hf := (if_neg hc).symm.trans hf
        exact Kx _ (gm_si hf) _ _ _ (lv_sub hl [0] rfl) hw
      · replace hf := (if_pos hc).symm.trans hf
        refine gm_aload_n (G := GC) (r := 2) C rfl dX8_readRealm_37 rfl (lv_at hl 0 rfl) ?_
        refine gm_getS (G := GC) (u := u_8) (r := 2) (ci := 7) (k := 0) C hw rfl fl_X8_12 dX8_readRealm_38 rfl (q := 3) rfl ?_
        refine gm_getI (G := GC) (u := u_8) (r := 3) (ci := 8) (k := 4) C hw rfl fl_X8_33 dX8_readRealm_41 rfl ?_
        refine lv_if_eq (tgt := 199) hx hb dX8_readRealm_44 (by decide) (fun hc => ?_) (fun hc => ?_)
        · replace hf := (if_pos hc).symm.trans hf
          exact Kx _ (gm_si hf) _ _ _ (lv_sub hl [0] rfl) hw
        · replace hf := (if_neg hc).symm.trans hf
          refine gm_aload_n (G := GC) (r := 2) C rfl dX8_readRealm_47 rfl (lv_at hl 0 rfl) ?_
          refine gm_getS (G := GC) (u := u_8) (r := 2) (ci := 7) (k := 0) C hw rfl fl_X8_12 dX8_readRealm_48 rfl (q := 3) rfl ?_
          obtain ⟨r_14, e_r_14, hf⟩ := gm_le hf
          refine gm_callV (G := GC) (u := u_8) (u' := u_8) (r := 3) (ci := 8) (As := []) (rest := []) (res := (some (.int (f_X9_word u_8)))) C hw hl (ok_X9_word l Z u_8) cw_X8_36 im_X9_word rfl se_X9_word rfl rfl rfl ⟨Nat.le_trans (Nat.le_of_ble_eq_true rfl) hRf, Nat.le_trans (Nat.le_of_ble_eq_true rfl) hRl⟩ rfl rfl (Nat.le_of_ble_eq_true rfl) dX8_readRealm_51 (fun H locs hw => ?_)
          refine gm_topI e_r_14 ?_
          by_cases hq_17 : r_14 = (0 : Int32)
          · replace hf := (if_pos hq_17).symm.trans hf
            refine lv_tableIn (off := 42) (tgt := 96) hx hb dX8_readRealm_54 (by rw [hq_17]; decide) (by rw [hq_17]; decide) (by rw [hq_17]; rfl) (by decide) ?_
            refine gm_aload_n (G := GC) (r := 2) C rfl dX8_readRealm_96 rfl (lv_at hl 0 rfl) ?_
            refine gm_aload_n (G := GC) (r := a1) C k_1_0 dX8_readRealm_97 rfl (lv_at hl 1 rfl) ?_
            obtain ⟨u_15, hc_16, hf⟩ := gm_bnd hf
            refine gm_callV (G := GC) (u := u_8) (u' := u_15) (r := 2) (ci := 7) (As := [rv Z a1]) (rest := []) (res := none) C hw hl (ok_X8_readPerson l Z a1 u_8 h1 u_15 hc_16) cw_X8_40 im_X8_readPerson rfl se_X8_readPerson rfl rfl rfl ⟨Nat.le_trans (Nat.le_of_ble_eq_true rfl) hRf, Nat.le_trans (Nat.le_of_ble_eq_true rfl) hRl⟩ rfl rfl (Nat.le_of_ble_eq_true rfl) dX8_readRealm_98 (fun H locs hw => ?_)
            refine lv_goto (tgt := 187) hx hb dX8_readRealm_101 (by decide) ?_
            exact J187 v2_9 u_15 _ _ _ hf  (lv_sub hl [0, 1, 2] rfl) hw
          replace hf := (if_neg hq_17).symm.trans hf
          by_cases hq_20 : r_14 = (1 : Int32)
          · replace hf := (if_pos hq_20).symm.trans hf
            refine lv_tableIn (off := 128) (tgt := 182) hx hb dX8_readRealm_54 (by rw [hq_20]; decide) (by rw [hq_20]; decide) (by rw [hq_20]; rfl) (by decide) ?_
            refine gm_aload_n (G := GC) (r := 2) C rfl dX8_readRealm_182 rfl (lv_at hl 0 rfl) ?_
            refine lv_iconst (v := 1) hx hb dX8_readRealm_183 (by decide) ?_
            obtain ⟨u_18, hc_19, hf⟩ := gm_bnd hf
            refine gm_callV (G := GC) (u := u_8) (u' := u_18) (r := 2) (ci := 7) (As := [.int (1 : Int32)]) (rest := []) (res := none) C hw hl (ok_X8_refuse l Z (1 : Int32) u_8 u_18 hc_19) cw_X8_71 im_X8_refuse rfl se_X8_refuse rfl rfl rfl ⟨Nat.le_trans (Nat.le_of_ble_eq_true rfl) hRf, Nat.le_trans (Nat.le_of_ble_eq_true rfl) hRl⟩ rfl rfl (Nat.le_of_ble_eq_true rfl) dX8_readRealm_184 (fun H locs hw => ?_)
            exact J187 v2_9 u_18 _ _ _ hf  (lv_sub hl [0, 1, 2] rfl) hw
          replace hf := (if_neg hq_20).symm.trans hf
          by_cases hq_23 : r_14 = (2 : Int32)
          · replace hf := (if_pos hq_23).symm.trans hf
            refine lv_tableIn (off := 128) (tgt := 182) hx hb dX8_readRealm_54 (by rw [hq_23]; decide) (by rw [hq_23]; decide) (by rw [hq_23]; rfl) (by decide) ?_
            refine gm_aload_n (G := GC) (r := 2) C rfl dX8_readRealm_182 rfl (lv_at hl 0 rfl) ?_
            refine lv_iconst (v := 1) hx hb dX8_readRealm_183 (by decide) ?_
            obtain ⟨u_21, hc_22, hf⟩ := gm_bnd hf
            refine gm_callV (G := GC) (u := u_8) (u' := u_21) (r := 2) (ci := 7) (As := [.int (1 : Int32)]) (rest := []) (res := none) C hw hl (ok_X8_refuse l Z (1 : Int32) u_8 u_21 hc_22) cw_X8_71 im_X8_refuse rfl se_X8_refuse rfl rfl rfl ⟨Nat.le_trans (Nat.le_of_ble_eq_true rfl) hRf, Nat.le_trans (Nat.le_of_ble_eq_true rfl) hRl⟩ rfl rfl (Nat.le_of_ble_eq_true rfl) dX8_readRealm_184 (fun H locs hw => ?_)
            exact J187 v2_9 u_21 _ _ _ hf  (lv_sub hl [0, 1, 2] rfl) hw
          replace hf := (if_neg hq_23).symm.trans hf
          by_cases hq_31 : r_14 = (3 : Int32)
          · replace hf := (if_pos hq_31).symm.trans hf
            refine lv_tableIn (off := 50) (tgt := 104) hx hb dX8_readRealm_54 (by rw [hq_31]; decide) (by rw [hq_31]; decide) (by rw [hq_31]; rfl) (by decide) ?_
            refine gm_aload_n (G := GC) (r := 2) C rfl dX8_readRealm_104 rfl (lv_at hl 0 rfl) ?_
            obtain ⟨u_24, hc_25, hf⟩ := gm_bnd hf
            refine gm_callV (G := GC) (u := u_8) (u' := u_24) (r := 2) (ci := 7) (As := []) (rest := []) (res := none) C hw hl (ok_X8_takeOnce l Z u_8 u_24 hc_25) cw_X8_44 im_X8_takeOnce rfl se_X8_takeOnce rfl rfl rfl ⟨Nat.le_trans (Nat.le_of_ble_eq_true rfl) hRf, Nat.le_trans (Nat.le_of_ble_eq_true rfl) hRl⟩ rfl rfl (Nat.le_of_ble_eq_true rfl) dX8_readRealm_105 (fun H locs hw => ?_)
            refine gm_aload_n (G := GC) (r := a1) C k_1_0 dX8_readRealm_108 rfl (lv_at hl 1 rfl) ?_
            refine gm_aload_n (G := GC) (r := 2) C rfl dX8_readRealm_109 rfl (lv_at hl 0 rfl) ?_
            refine lv_iconst (v := 1) hx hb dX8_readRealm_110 (by decide) ?_
            refine lv_sipush (v := 3000) hx hb dX8_readRealm_111 (by decide) ?_
            obtain ⟨⟨r_26, u_27⟩, hc_28, hf⟩ := gm_bnd hf
            try dsimp only at hf
            refine gm_callV (G := GC) (u := u_24) (u' := u_27) (r := 2) (ci := 7) (As := [.int (1 : Int32), .int (3000 : Int32)]) (rest := [rv Z a1]) (res := (some (.int r_26))) C hw hl (ok_X8_takeNumber l Z (1 : Int32) (3000 : Int32) u_24 r_26 u_27 hc_28) cw_X8_47 im_X8_takeNumber rfl se_X8_takeNumber rfl rfl rfl ⟨Nat.le_trans (Nat.le_of_ble_eq_true rfl) hRf, Nat.le_trans (Nat.le_of_ble_eq_true rfl) hRl⟩ rfl rfl (by simp [gm_cat, gm_catI, gm_catJ]) dX8_readRealm_114 (fun H locs hw => ?_)
            refine gm_putI (G := GC) (u := u_27) (r := a1) (ci := 4) (k := 5) (v := r_26) C hw k_1_0 fl_X8_51 fp_4_5 dX8_readRealm_117 rfl (fun H locs hw => ?_)
            obtain ⟨u_30, e_u_30, hf⟩ := gm_le hf
            rw [← e_u_30] at hw
            refine lv_goto (tgt := 187) hx hb dX8_readRealm_120 (by decide) ?_
            exact J187 v2_9 u_30 _ _ _ hf  (lv_sub hl [0, 1, 2] rfl) hw
          replace hf := (if_neg hq_31).symm.trans hf
          by_cases hq_39 : r_14 = (4 : Int32)
          · replace hf := (if_pos hq_39).symm.trans hf
            refine lv_tableIn (off := 69) (tgt := 123) hx hb dX8_readRealm_54 (by rw [hq_39]; decide) (by rw [hq_39]; decide) (by rw [hq_39]; rfl) (by decide) ?_
            refine gm_aload_n (G := GC) (r := 2) C rfl dX8_readRealm_123 rfl (lv_at hl 0 rfl) ?_
            obtain ⟨u_32, hc_33, hf⟩ := gm_bnd hf
            refine gm_callV (G := GC) (u := u_8) (u' := u_32) (r := 2) (ci := 7) (As := []) (rest := []) (res := none) C hw hl (ok_X8_takeOnce l Z u_8 u_32 hc_33) cw_X8_44 im_X8_takeOnce rfl se_X8_takeOnce rfl rfl rfl ⟨Nat.le_trans (Nat.le_of_ble_eq_true rfl) hRf, Nat.le_trans (Nat.le_of_ble_eq_true rfl) hRl⟩ rfl rfl (Nat.le_of_ble_eq_true rfl) dX8_readRealm_124 (fun H locs hw => ?_)
            refine gm_aload_n (G := GC) (r := a1) C k_1_0 dX8_readRealm_127 rfl (lv_at hl 1 rfl) ?_
            refine gm_aload_n (G := GC) (r := 2) C rfl dX8_readRealm_128 rfl (lv_at hl 0 rfl) ?_
            refine lv_iconst (v := 1) hx hb dX8_readRealm_129 (by decide) ?_
            refine lv_bipush (v := 40) hx hb dX8_readRealm_130 (by decide) ?_
            obtain ⟨⟨r_34, u_35⟩, hc_36, hf⟩ := gm_bnd hf
            try dsimp only at hf
            refine gm_callV (G := GC) (u := u_32) (u' := u_35) (r := 2) (ci := 7) (As := [.int (1 : Int32), .int (40 : Int32)]) (rest := [rv Z a1]) (res := (some (.int r_34))) C hw hl (ok_X8_takeNumber l Z (1 : Int32) (40 : Int32) u_32 r_34 u_35 hc_36) cw_X8_47 im_X8_takeNumber rfl se_X8_takeNumber rfl rfl rfl ⟨Nat.le_trans (Nat.le_of_ble_eq_true rfl) hRf, Nat.le_trans (Nat.le_of_ble_eq_true rfl) hRl⟩ rfl rfl (by simp [gm_cat, gm_catI, gm_catJ]) dX8_readRealm_132 (fun H locs hw => ?_)
            refine gm_putI (G := GC) (u := u_35) (r := a1) (ci := 4) (k := 6) (v := r_34) C hw k_1_0 fl_X8_54 fp_4_6 dX8_readRealm_135 rfl (fun H locs hw => ?_)
            obtain ⟨u_38, e_u_38, hf⟩ := gm_le hf
            rw [← e_u_38] at hw
            refine lv_goto (tgt := 187) hx hb dX8_readRealm_138 (by decide) ?_
            exact J187 v2_9 u_38 _ _ _ hf  (lv_sub hl [0, 1, 2] rfl) hw
          replace hf := (if_neg hq_39).symm.trans hf
          by_cases hq_47 : r_14 = (5 : Int32)
          · replace hf := (if_pos hq_47).symm.trans hf
            refine lv_tableIn (off := 87) (tgt := 141) hx hb dX8_readRealm_54 (by rw [hq_47]; decide) (by rw [hq_47]; decide) (by rw [hq_47]; rfl) (by decide) ?_
            refine gm_aload_n (G := GC) (r := 2) C rfl dX8_readRealm_141 rfl (lv_at hl 0 rfl) ?_
            obtain ⟨u_40, hc_41, hf⟩ := gm_bnd hf
            refine gm_callV (G := GC) (u := u_8) (u' := u_40) (r := 2) (ci := 7) (As := []) (rest := []) (res := none) C hw hl (ok_X8_takeOnce l Z u_8 u_40 hc_41) cw_X8_44 im_X8_takeOnce rfl se_X8_takeOnce rfl rfl rfl ⟨Nat.le_trans (Nat.le_of_ble_eq_true rfl) hRf, Nat.le_trans (Nat.le_of_ble_eq_true rfl) hRl⟩ rfl rfl (Nat.le_of_ble_eq_true rfl) dX8_readRealm_142 (fun H locs hw => ?_)
            refine gm_aload_n (G := GC) (r := a1) C k_1_0 dX8_readRealm_145 rfl (lv_at hl 1 rfl) ?_
            refine gm_aload_n (G := GC) (r := 2) C rfl dX8_readRealm_146 rfl (lv_at hl 0 rfl) ?_
            refine lv_iconst (v := 1) hx hb dX8_readRealm_147 (by decide) ?_
            refine lv_bipush (v := 120) hx hb dX8_readRealm_148 (by decide) ?_
            obtain ⟨⟨r_42, u_43⟩, hc_44, hf⟩ := gm_bnd hf
            try dsimp only at hf
            refine gm_callV (G := GC) (u := u_40) (u' := u_43) (r := 2) (ci := 7) (As := [.int (1 : Int32), .int (120 : Int32)]) (rest := [rv Z a1]) (res := (some (.int r_42))) C hw hl (ok_X8_takeNumber l Z (1 : Int32) (120 : Int32) u_40 r_42 u_43 hc_44) cw_X8_47 im_X8_takeNumber rfl se_X8_takeNumber rfl rfl rfl ⟨Nat.le_trans (Nat.le_of_ble_eq_true rfl) hRf, Nat.le_trans (Nat.le_of_ble_eq_true rfl) hRl⟩ rfl rfl (by simp [gm_cat, gm_catI, gm_catJ]) dX8_readRealm_150 (fun H locs hw => ?_)
            refine gm_putI (G := GC) (u := u_43) (r := a1) (ci := 4) (k := 7) (v := r_42) C hw k_1_0 fl_X8_57 fp_4_7 dX8_readRealm_153 rfl (fun H locs hw => ?_)
            obtain ⟨u_46, e_u_46, hf⟩ := gm_le hf
            rw [← e_u_46] at hw
            refine lv_goto (tgt := 187) hx hb dX8_readRealm_156 (by decide) ?_
            exact J187 v2_9 u_46 _ _ _ hf  (lv_sub hl [0, 1, 2] rfl) hw
          replace hf := (if_neg hq_47).symm.trans hf
          by_cases hq_56 : r_14 = (6 : Int32)
          · replace hf := (if_pos hq_56).symm.trans hf
            refine lv_tableIn (off := 105) (tgt := 159) hx hb dX8_readRealm_54 (by rw [hq_56]; decide) (by rw [hq_56]; decide) (by rw [hq_56]; rfl) (by decide) ?_
            refine gm_aload_n (G := GC) (r := 2) C rfl dX8_readRealm_159 rfl (lv_at hl 0 rfl) ?_
            obtain ⟨u_48, hc_49, hf⟩ := gm_bnd hf
            refine gm_callV (G := GC) (u := u_8) (u' := u_48) (r := 2) (ci := 7) (As := []) (rest := []) (res := none) C hw hl (ok_X8_takeOnce l Z u_8 u_48 hc_49) cw_X8_44 im_X8_takeOnce rfl se_X8_takeOnce rfl rfl rfl ⟨Nat.le_trans (Nat.le_of_ble_eq_true rfl) hRf, Nat.le_trans (Nat.le_of_ble_eq_true rfl) hRl⟩ rfl rfl (Nat.le_of_ble_eq_true rfl) dX8_readRealm_160 (fun H locs hw => ?_)
            refine gm_aload_n (G := GC) (r := a1) C k_1_0 dX8_readRealm_163 rfl (lv_at hl 1 rfl) ?_
            refine gm_getS (G := GC) (u := u_48) (r := a1) (ci := 4) (k := 8) C hw k_1_0 fl_X8_60 dX8_readRealm_164 rfl (q := a1 + 5) k_1_9 ?_
            obtain ⟨k_50_0, k_50_1, k_50_2, k_50_3, k_50_4⟩ := fc_Law k_1_11
            obtain ⟨u_51, hc_52, hf⟩ := gm_bnd hf
            refine gm_callV (G := GC) (u := u_48) (u' := u_51) (r := (a1 + 5)) (ci := 2) (As := []) (rest := []) (res := none) C hw hl (ok_X3_clear l Z (a1 + 5) u_48 k_1_11 u_51 hc_52) cw_X8_64 im_X3_clear rfl se_X3_clear k_50_0 rfl rfl ⟨Nat.le_trans (Nat.le_of_ble_eq_true rfl) hRf, Nat.le_trans (Nat.le_of_ble_eq_true rfl) hRl⟩ rfl rfl (Nat.le_of_ble_eq_true rfl) dX8_readRealm_167 (fun H locs hw => ?_)
            refine gm_aload_n (G := GC) (r := 2) C rfl dX8_readRealm_170 rfl (lv_at hl 0 rfl) ?_
            refine gm_aload_n (G := GC) (r := a1) C k_1_0 dX8_readRealm_171 rfl (lv_at hl 1 rfl) ?_
            refine gm_getS (G := GC) (u := u_51) (r := a1) (ci := 4) (k := 8) C hw k_1_0 fl_X8_60 dX8_readRealm_172 rfl (q := a1 + 5) k_1_9 ?_
            obtain ⟨k_53_0, k_53_1, k_53_2, k_53_3, k_53_4⟩ := fc_Law k_1_11
            refine lv_iconst (v := 0) hx hb dX8_readRealm_175 (by decide) ?_
            obtain ⟨u_54, hc_55, hf⟩ := gm_bnd hf
            refine gm_callV (G := GC) (u := u_51) (u' := u_54) (r := 2) (ci := 7) (As := [rv Z (a1 + 5), .int (0 : Int32)]) (rest := []) (res := none) C hw hl (ok_X8_readWhole l Z (a1 + 5) (0 : Int32) u_51 k_1_11 u_54 hc_55) cw_X8_67 im_X8_readWhole rfl se_X8_readWhole rfl rfl rfl ⟨Nat.le_trans (Nat.le_of_ble_eq_true rfl) hRf, Nat.le_trans (Nat.le_of_ble_eq_true rfl) hRl⟩ rfl rfl (Nat.le_of_ble_eq_true rfl) dX8_readRealm_176 (fun H locs hw => ?_)
            refine lv_goto (tgt := 187) hx hb dX8_readRealm_179 (by decide) ?_
            exact J187 v2_9 u_54 _ _ _ hf  (lv_sub hl [0, 1, 2] rfl) hw
          replace hf := (if_neg hq_56).symm.trans hf
          refine lv_tableOut (tgt := 182) hx hb dX8_readRealm_54 (Classical.byContradiction (fun hq => by
            obtain ⟨i, hi, e⟩ := gm_rng hq
            match i, hi with
            | 0, _ => exact hq_17 (e.trans (by decide))
            | 1, _ => exact hq_20 (e.trans (by decide))
            | 2, _ => exact hq_23 (e.trans (by decide))
            | 3, _ => exact hq_31 (e.trans (by decide))
            | 4, _ => exact hq_39 (e.trans (by decide))
            | 5, _ => exact hq_47 (e.trans (by decide))
            | 6, _ => exact hq_56 (e.trans (by decide))
            | (n + 7), h => exact absurd h (by simp only [Int.reduceSub, Int.reduceAdd, Int.reduceToNat, Int.reduceNeg, Int.sub_neg]; omega))) (by decide) ?_
          refine gm_aload_n (G := GC) (r := 2) C rfl dX8_readRealm_182 rfl (lv_at hl 0 rfl) ?_
          refine lv_iconst (v := 1) hx hb dX8_readRealm_183 (by decide) ?_
          obtain ⟨u_57, hc_58, hf⟩ := gm_bnd hf
          refine gm_callV (G := GC) (u := u_8) (u' := u_57) (r := 2) (ci := 7) (As := [.int (1 : Int32)]) (rest := []) (res := none) C hw hl (ok_X8_refuse l Z (1 : Int32) u_8 u_57 hc_58) cw_X8_71 im_X8_refuse rfl se_X8_refuse rfl rfl rfl ⟨Nat.le_trans (Nat.le_of_ble_eq_true rfl) hRf, Nat.le_trans (Nat.le_of_ble_eq_true rfl) hRl⟩ rfl rfl (Nat.le_of_ble_eq_true rfl) dX8_readRealm_184 (fun H locs hw => ?_)
          exact J187 v2_9 u_57 _ _ _ hf  (lv_sub hl [0, 1, 2] rfl) hw)
  refine L23_1 _ _ _ hlp ?_ _ _ _ (lv_sub hl [1, 2, 0] rfl) hw
  obtain ⟨u_59, rfl⟩ : ∃ y, y = o1 := ⟨_, rfl⟩
  intro H locs ls hl hw
  try dsimp only at hf
  refine gm_aload_n (G := GC) (r := 2) C rfl dX8_readRealm_199 rfl (lv_at hl 0 rfl) ?_
  refine gm_getI (G := GC) (u := u_59) (r := 2) (ci := 7) (k := 1) C hw rfl fl_X8_18 dX8_readRealm_200 rfl ?_
  exact gm_iret C E hw rfl ((congrArg (fun z => some (Value.int z)) (gm_sp hf).1).symm) (gm_sp hf).2.symm dX8_readRealm_203
/-! LeapCapital.realm -/
def b_X10_realm_78 : (Int32 × gm_M) → Option ((Int32 × gm_M) ⊕ gm_M) := fun x => match x with | (v3_30, u_29) => if (4 : Int32) ≤ v3_30 then some (.inr u_29) else if ib v3_30 4 = true then if isMark (gR u_29 39 (ix v3_30)) = true then gm_let (sI u_29 (gR u_29 39 (ix v3_30)) 0 (0 : Int32)) fun u_34 => some (.inl (v3_30 + (1 : Int32), u_34)) else none else none
def f_X10_realm  (u : gm_M) : Option (Int32 × gm_M) := if isRealm (gR u 1 3) = true then (f_X8_readRealm (gR u 1 3) u).bind fun o => match o with | (r_3, u_4) => (f_X9_empty u_4).bind fun u_7 => if r_3 = 0 then if isRealm (gR u_7 1 3) = true then gm_let (gR u_7 1 3) fun v2_11 => if isRealm (gR u_7 1 2) = true then gm_let (sR u_7 1 3 (gR u_7 1 2)) fun u_16 => gm_let (sR u_16 1 2 v2_11) fun u_17 => if isRealm (gR u_17 1 2) = true then (f_X1_begin 27 (gR u_17 1 2) u_17).bind fun u_20 => if isReign (gR u_20 1 4) = true then (f_X6_clear (gR u_20 1 4) u_20).bind fun u_24 => (f_X7_clear 31 u_24).bind fun u_26 => gm_let (sI u_26 1 10 (0 : Int32)) fun u_28 => ((gm_lp (b_X10_realm_78) gm_FU ((0 : Int32), u_28)).bind fun o => match o with | u_35 => some ((0 : Int32), u_35)) else none else none else none else none else some (r_3, u_7) else none
set_option maxRecDepth 100000 in
set_option maxHeartbeats 4000000 in
theorem ok_X10_realm (l : Launch) (Z : gm_Z)  (u : gm_M)  (r : Int32) (u' : gm_M) (hf : f_X10_realm u = some (r, u')) : gm_Met l GC Z yX10_realm cX10_realm 4 (some .int) ({ frames := 100, cells := 0, slots := 0, locals := 2254 }) [rv Z 1] u (some (.int r)) u' := by
  unfold f_X10_realm at hf
  refine gm_ofW (by decide +kernel) (Nat.le_of_ble_eq_true rfl) ?_
  intro p e s m args below meth c A ls Q R hRf hRl C E hl hw
  obtain ⟨hx, hb, -⟩ := id C
  have hl : lv_has ls 4 [(0, rv Z 1)] := hl
  refine gm_aload_n (G := GC) (r := 1) C rfl dX10_realm_0 rfl (lv_at hl 0 rfl) ?_
  refine gm_getS (G := GC) (u := u) (r := 1) (ci := 9) (k := 1) C hw rfl fl_X10_10 dX10_realm_1 rfl (q := 2) rfl ?_
  refine gm_aload_n (G := GC) (r := 1) C rfl dX10_realm_4 rfl (lv_at hl 0 rfl) ?_
  refine gm_getR (G := GC) (u := u) (r := 1) (ci := 9) (k := 3) C hw rfl fl_X10_23 dX10_realm_5 rfl ?_
  obtain ⟨g_1, hf⟩ := gm_grd hf
  obtain ⟨k_2_0, k_2_1, k_2_2, k_2_3, k_2_4, k_2_5, k_2_6, k_2_7, k_2_8, k_2_9, k_2_10, k_2_11⟩ := fc_Realm g_1
  obtain ⟨⟨r_3, u_4⟩, hc_5, hf⟩ := gm_bnd hf
  try dsimp only at hf
  refine gm_callV (G := GC) (u := u) (u' := u_4) (r := 2) (ci := 7) (As := [rv Z (gR u 1 3)]) (rest := []) (res := (some (.int r_3))) C hw hl (ok_X8_readRealm l Z (gR u 1 3) u g_1 r_3 u_4 hc_5) cw_X10_103 im_X8_readRealm rfl se_X8_readRealm rfl rfl rfl ⟨Nat.le_trans (Nat.le_of_ble_eq_true rfl) hRf, Nat.le_trans (Nat.le_of_ble_eq_true rfl) hRl⟩ rfl rfl (Nat.le_of_ble_eq_true rfl) dX10_realm_8 (fun H locs hw => ?_)
  refine lv_istore_n (i := 1) (lv' := [(1, .int r_3), (0, rv Z 1)]) hx hb dX10_realm_11 rfl hl (by decide) rfl (fun ls hl => ?_)
  refine gm_aload_n (G := GC) (r := 1) C rfl dX10_realm_12 rfl (lv_at hl 1 rfl) ?_
  refine gm_getS (G := GC) (u := u_4) (r := 1) (ci := 9) (k := 1) C hw rfl fl_X10_10 dX10_realm_13 rfl (q := 2) rfl ?_
  refine gm_getS (G := GC) (u := u_4) (r := 2) (ci := 7) (k := 0) C hw rfl fl_X10_90 dX10_realm_16 rfl (q := 3) rfl ?_
  obtain ⟨u_7, hc_8, hf⟩ := gm_bnd hf
  refine gm_callV (G := GC) (u := u_4) (u' := u_7) (r := 3) (ci := 8) (As := []) (rest := []) (res := none) C hw hl (ok_X9_empty l Z u_4 u_7 hc_8) cw_X10_107 im_X9_empty rfl se_X9_empty rfl rfl rfl ⟨Nat.le_trans (Nat.le_of_ble_eq_true rfl) hRf, Nat.le_trans (Nat.le_of_ble_eq_true rfl) hRl⟩ rfl rfl (Nat.le_of_ble_eq_true rfl) dX10_realm_19 (fun H locs hw => ?_)
  refine lv_iload_n hx hb dX10_realm_22 rfl (lv_at hl 0 rfl) ?_
  refine lv_if_eq (tgt := 28) hx hb dX10_realm_23 (by decide) (fun hc => ?_) (fun hc => ?_)
  · replace hf := (if_pos hc).symm.trans hf
    refine gm_aload_n (G := GC) (r := 1) C rfl dX10_realm_28 rfl (lv_at hl 1 rfl) ?_
    refine gm_getR (G := GC) (u := u_7) (r := 1) (ci := 9) (k := 3) C hw rfl fl_X10_23 dX10_realm_29 rfl ?_
    obtain ⟨g_9, hf⟩ := gm_grd hf
    obtain ⟨k_10_0, k_10_1, k_10_2, k_10_3, k_10_4, k_10_5, k_10_6, k_10_7, k_10_8, k_10_9, k_10_10, k_10_11⟩ := fc_Realm g_9
    obtain ⟨v2_11, e_v2_11, hf⟩ := gm_le hf
    refine gm_topR e_v2_11 ?_
    have g_12 : isRealm v2_11 = true := by rw [e_v2_11]; exact g_9
    obtain ⟨k_13_0, k_13_1, k_13_2, k_13_3, k_13_4, k_13_5, k_13_6, k_13_7, k_13_8, k_13_9, k_13_10, k_13_11⟩ := fc_Realm g_12
    refine gm_astore_n (G := GC) (i := 2) (r := v2_11) (lv' := [(2, rv Z v2_11), (1, .int r_3), (0, rv Z 1)]) C k_13_0 dX10_realm_32 rfl hl (by decide) rfl (fun ls hl => ?_)
    refine gm_aload_n (G := GC) (r := 1) C rfl dX10_realm_33 rfl (lv_at hl 2 rfl) ?_
    refine gm_aload_n (G := GC) (r := 1) C rfl dX10_realm_34 rfl (lv_at hl 2 rfl) ?_
    refine gm_getR (G := GC) (u := u_7) (r := 1) (ci := 9) (k := 2) C hw rfl fl_X10_19 dX10_realm_35 rfl ?_
    obtain ⟨g_14, hf⟩ := gm_grd hf
    obtain ⟨k_15_0, k_15_1, k_15_2, k_15_3, k_15_4, k_15_5, k_15_6, k_15_7, k_15_8, k_15_9, k_15_10, k_15_11⟩ := fc_Realm g_14
    refine gm_putR (G := GC) (u := u_7) (r := 1) (ci := 9) (k := 3) (v := gR u_7 1 2) C hw rfl fl_X10_23 fp_9_3 dX10_realm_38 rfl (fun H locs hw => ?_)
    obtain ⟨u_16, e_u_16, hf⟩ := gm_le hf
    rw [← e_u_16] at hw
    refine gm_aload_n (G := GC) (r := 1) C rfl dX10_realm_41 rfl (lv_at hl 2 rfl) ?_
    refine gm_aload_n (G := GC) (r := v2_11) C k_13_0 dX10_realm_42 rfl (lv_at hl 0 rfl) ?_
    refine gm_putR (G := GC) (u := u_16) (r := 1) (ci := 9) (k := 2) (v := v2_11) C hw rfl fl_X10_19 fp_9_2 dX10_realm_43 rfl (fun H locs hw => ?_)
    obtain ⟨u_17, e_u_17, hf⟩ := gm_le hf
    rw [← e_u_17] at hw
    refine gm_aload_n (G := GC) (r := 1) C rfl dX10_realm_46 rfl (lv_at hl 2 rfl) ?_
    refine gm_getS (G := GC) (u := u_17) (r := 1) (ci := 9) (k := 6) C hw rfl fl_X10_39 dX10_realm_47 rfl (q := 27) rfl ?_
    refine gm_aload_n (G := GC) (r := 1) C rfl dX10_realm_50 rfl (lv_at hl 2 rfl) ?_
    refine gm_getR (G := GC) (u := u_17) (r := 1) (ci := 9) (k := 2) C hw rfl fl_X10_19 dX10_realm_51 rfl ?_
    obtain ⟨g_18, hf⟩ := gm_grd hf
    obtain ⟨k_19_0, k_19_1, k_19_2, k_19_3, k_19_4, k_19_5, k_19_6, k_19_7, k_19_8, k_19_9, k_19_10, k_19_11⟩ := fc_Realm g_18
    obtain ⟨u_20, hc_21, hf⟩ := gm_bnd hf
    refine gm_callV (G := GC) (u := u_17) (u' := u_20) (r := 27) (ci := 0) (As := [rv Z (gR u_17 1 2)]) (rest := []) (res := none) C hw hl (ok_X1_begin l Z 27 (gR u_17 1 2) u_17 rfl g_18 u_20 hc_21) cw_X10_86 im_X1_begin rfl se_X1_begin rfl rfl rfl ⟨Nat.le_trans (Nat.le_of_ble_eq_true rfl) hRf, Nat.le_trans (Nat.le_of_ble_eq_true rfl) hRl⟩ rfl rfl (Nat.le_of_ble_eq_true rfl) dX10_realm_54 (fun H locs hw => ?_)
    refine gm_aload_n (G := GC) (r := 1) C rfl dX10_realm_57 rfl (lv_at hl 2 rfl) ?_
    refine gm_getR (G := GC) (u := u_20) (r := 1) (ci := 9) (k := 4) C hw rfl fl_X10_29 dX10_realm_58 rfl ?_
    obtain ⟨g_22, hf⟩ := gm_grd hf
    obtain ⟨k_23_0, k_23_1, k_23_2, k_23_3, k_23_4⟩ := fc_Reign g_22
    obtain ⟨u_24, hc_25, hf⟩ := gm_bnd hf
    refine gm_callV (G := GC) (u := u_20) (u' := u_24) (r := (gR u_20 1 4)) (ci := 5) (As := []) (rest := []) (res := none) C hw hl (ok_X6_clear l Z (gR u_20 1 4) u_20 g_22 u_24 hc_25) cw_X10_110 im_X6_clear rfl se_X6_clear k_23_0 rfl rfl ⟨Nat.le_trans (Nat.le_of_ble_eq_true rfl) hRf, Nat.le_trans (Nat.le_of_ble_eq_true rfl) hRl⟩ rfl rfl (Nat.le_of_ble_eq_true rfl) dX10_realm_61 (fun H locs hw => ?_)
    refine gm_aload_n (G := GC) (r := 1) C rfl dX10_realm_64 rfl (lv_at hl 2 rfl) ?_
    refine gm_getS (G := GC) (u := u_24) (r := 1) (ci := 9) (k := 7) C hw rfl fl_X10_46 dX10_realm_65 rfl (q := 31) rfl ?_
    obtain ⟨u_26, hc_27, hf⟩ := gm_bnd hf
    refine gm_callV (G := GC) (u := u_24) (u' := u_26) (r := 31) (ci := 6) (As := []) (rest := []) (res := none) C hw hl (ok_X7_clear l Z 31 u_24 rfl u_26 hc_27) cw_X10_113 im_X7_clear rfl se_X7_clear rfl rfl rfl ⟨Nat.le_trans (Nat.le_of_ble_eq_true rfl) hRf, Nat.le_trans (Nat.le_of_ble_eq_true rfl) hRl⟩ rfl rfl (Nat.le_of_ble_eq_true rfl) dX10_realm_68 (fun H locs hw => ?_)
    refine gm_aload_n (G := GC) (r := 1) C rfl dX10_realm_71 rfl (lv_at hl 2 rfl) ?_
    refine lv_iconst (v := 0) hx hb dX10_realm_72 (by decide) ?_
    refine gm_putI (G := GC) (u := u_26) (r := 1) (ci := 9) (k := 10) (v := (0 : Int32)) C hw rfl fl_X10_61 fp_9_10 dX10_realm_73 rfl (fun H locs hw => ?_)
    obtain ⟨u_28, e_u_28, hf⟩ := gm_le hf
    rw [← e_u_28] at hw
    refine lv_iconst (v := 0) hx hb dX10_realm_76 (by decide) ?_
    refine lv_istore_n (i := 3) (lv' := [(3, .int (0 : Int32)), (2, rv Z v2_11), (1, .int r_3), (0, rv Z 1)]) hx hb dX10_realm_77 rfl hl (by decide) (by simp [gm_cat, gm_catI, gm_catJ]) (fun ls hl => ?_)
    obtain ⟨o1, hlp, hf⟩ := gm_bnd hf
    have L78_1 := gm_loop (b_X10_realm_78) (fun x : (Int32 × gm_M) => ∀ (H : Heap) (locs : List Loc) (ls : Array Slot), lv_has ls 4 [(0, rv Z 1), (3, .int x.1)] → wd GC Z x.2 A s.heap H locs → W p l e R s m args below meth c H locs 0 0 Q (F0 m 78 ls [])) (fun z : gm_M => ∀ (H : Heap) (locs : List Loc) (ls : Array Slot), lv_has ls 4 [] → wd GC Z z A s.heap H locs → W p l e R s m args below meth c H locs 0 0 Q (F0 m 112 ls [])) (by
      intro x o1 hf Kc Kx
      obtain ⟨v3_30, u_29⟩ := x
      intro H locs ls hl hw
      unfold b_X10_realm_78 at hf
      try dsimp only at hf
      refine lv_iload_n hx hb dX10_realm_78 rfl (lv_at hl 1 rfl) ?_
      refine gm_aload_n (G := GC) (r := 1) C rfl dX10_realm_79 rfl (lv_at hl 0 rfl) ?_
      refine gm_getS (G := GC) (u := u_29) (r := 1) (ci := 9) (k := 11) C hw rfl fl_X10_67 dX10_realm_80 rfl (q := 39) rfl ?_
      refine gm_alen (G := GC) (u := u_29) (r := 39) (t := 5) (n := 4) (v := 4) C hw rfl (by decide) (by decide) dX10_realm_83 ?_
      refine lv_icmp_ge (tgt := 112) hx hb dX10_realm_84 (by decide) (fun hc => ?_) (fun hc => ?_)
      · replace hf := (if_pos hc).symm.trans hf
        exact Kx _ (gm_si hf) _ _ _ (lv_sub hl [] rfl) hw
      · replace hf := (if_neg hc).symm.trans hf
        refine gm_aload_n (G := GC) (r := 1) C rfl dX10_realm_87 rfl (lv_at hl 0 rfl) ?_
        refine gm_getS (G := GC) (u := u_29) (r := 1) (ci := 9) (k := 11) C hw rfl fl_X10_67 dX10_realm_88 rfl (q := 39) rfl ?_
        refine lv_iload_n hx hb dX10_realm_91 rfl (lv_at hl 1 rfl) ?_
        obtain ⟨g_31, hf⟩ := gm_grd hf
        refine gm_aald5 (G := GC) (u := u_29) (r := 39) (n := 4) (i := v3_30) C hw rfl g_31 rfl dX10_realm_92 ?_
        obtain ⟨g_32, hf⟩ := gm_grd hf
        obtain ⟨k_33_0, k_33_1, k_33_2, k_33_3, k_33_4, k_33_5, k_33_6, k_33_7, k_33_8, k_33_9⟩ := fc_Mark g_32
        refine gm_ifnull (G := GC) (r := (gR u_29 39 (ix v3_30))) C k_33_0 dX10_realm_93 ?_
        refine gm_aload_n (G := GC) (r := 1) C rfl dX10_realm_96 rfl (lv_at hl 0 rfl) ?_
        refine gm_getS (G := GC) (u := u_29) (r := 1) (ci := 9) (k := 11) C hw rfl fl_X10_67 dX10_realm_97 rfl (q := 39) rfl ?_
        refine lv_iload_n hx hb dX10_realm_100 rfl (lv_at hl 1 rfl) ?_
        refine gm_aald5 (G := GC) (u := u_29) (r := 39) (n := 4) (i := v3_30) C hw rfl g_31 rfl dX10_realm_101 ?_
        refine lv_iconst (v := 0) hx hb dX10_realm_102 (by decide) ?_
        refine gm_putZ (G := GC) (u := u_29) (r := (gR u_29 39 (ix v3_30))) (ci := 3) (k := 0) (v := (0 : Int32)) C hw k_33_0 fl_X10_114 fp_3_0 dX10_realm_103 rfl (by decide) (fun H locs hw => ?_)
        obtain ⟨u_34, e_u_34, hf⟩ := gm_le hf
        rw [← e_u_34] at hw
        refine lv_iinc (v := v3_30 + (1 : Int32)) (lv' := [(3, .int (v3_30 + (1 : Int32))), (0, rv Z 1)]) hx hb dX10_realm_106 hl (k := 1) rfl rfl (by decide) rfl (fun ls hl => ?_)
        refine lv_goto (tgt := 78) hx hb dX10_realm_109 (by decide) ?_
        exact Kc _ (gm_si hf) _ _ _ (lv_sub hl [1, 0] rfl) hw)
    refine L78_1 _ _ _ hlp ?_ _ _ _ (lv_sub hl [3, 0] rfl) hw
    obtain ⟨u_35, rfl⟩ : ∃ y, y = o1 := ⟨_, rfl⟩
    intro H locs ls hl hw
    try dsimp only at hf
    refine lv_iconst (v := 0) hx hb dX10_realm_112 (by decide) ?_
    exact gm_iret C E hw rfl ((congrArg (fun z => some (Value.int z)) (gm_sp hf).1).symm) (gm_sp hf).2.symm dX10_realm_113
  · replace hf := (if_neg hc).symm.trans hf
    refine lv_iload_n hx hb dX10_realm_26 rfl (lv_at hl 0 rfl) ?_
    exact gm_iret C E hw rfl ((congrArg (fun z => some (Value.int z)) (gm_sp hf).1).symm) (gm_sp hf).2.symm dX10_realm_27
/-! LeapCapitalModel.coming -/
def b_X11_coming_10 (a1 : Int32) (a2 : Int32) (u_1 : gm_M) : (Int32 × Int32) → Option ((Int32 × Int32) ⊕ Int32) := fun x => match x with | (v3_2, v4_3) => if (gI u_1 3 0) ≤ v4_3 then some (.inr v3_2) else (f_X11_canCome v4_3 u_1).bind fun r_4 => if r_4 = 0 then gm_let (v3_2 ||| (0 : Int32)) fun v3_6 => some (.inl (v3_6, v4_3 + (1 : Int32))) else gm_let (v3_2 ||| ((1 : Int32) <<< (v4_3 &&& 31))) fun v3_7 => some (.inl (v3_7, v4_3 + (1 : Int32)))
def f_X11_coming (a1 : Int32) (a2 : Int32) (u : gm_M) : Option (Int32 × gm_M) := gm_let (sI u 1 0 (0 : Int32)) fun u_1 => ((gm_lp (b_X11_coming_10 a1 a2 u_1) gm_FU ((0 : Int32), (0 : Int32))).bind fun o => match o with | w3_8 => gm_let (f_X11_within a1 (1 : Int32) (4 : Int32)) fun r_9 => if r_9 = 0 then some ((-2 : Int32), u_1) else (f_X11_bits w3_8).bind fun r_10 => gm_let (f_X11_within a2 (-1 : Int32) (r_10 - (1 : Int32))) fun r_12 => if r_12 = 0 then some ((-2 : Int32), u_1) else gm_let (sI u_1 1 49 (gI u_1 3 2)) fun u_13 => gm_let (sI u_13 1 54 (-1 : Int32)) fun u_14 => (f_X11_orders (0 : Int32) w3_8 a1 u_14).bind fun u_15 => if a2 = (-1 : Int32) then (f_X11_bits (gI u_15 29 3)).bind fun r_18 => some ((gI u_15 1 54) - r_18, u_15) else if ib a2 6 = true then some (gI u_15 38 (ix a2), u_15) else none)
set_option maxRecDepth 100000 in
set_option maxHeartbeats 4000000 in
theorem ok_X11_coming (l : Launch) (Z : gm_Z) (a1 : Int32) (a2 : Int32) (u : gm_M)  (r : Int32) (u' : gm_M) (hf : f_X11_coming a1 a2 u = some (r, u')) : gm_Met l GM Z yX11_coming cX11_coming 5 (some .int) ({ frames := 65, cells := 0, slots := 0, locals := 1473 }) [rv Z 1, .int a1, .int a2] u (some (.int r)) u' := by
  unfold f_X11_coming at hf
  refine gm_ofW (by decide +kernel) (Nat.le_of_ble_eq_true rfl) ?_
  intro p e s m args below meth c A ls Q R hRf hRl C E hl hw
  obtain ⟨hx, hb, -⟩ := id C
  have hl : lv_has ls 5 [(0, rv Z 1), (1, .int a1), (2, .int a2)] := hl
  refine gm_aload_n (G := GM) (r := 1) C rfl dX11_coming_0 rfl (lv_at hl 0 rfl) ?_
  refine lv_iconst (v := 0) hx hb dX11_coming_1 (by decide) ?_
  refine gm_putI (G := GM) (u := u) (r := 1) (ci := 10) (k := 0) (v := (0 : Int32)) C hw rfl fl_X11_137 fp_10_0 dX11_coming_2 rfl (fun H locs hw => ?_)
  obtain ⟨u_1, e_u_1, hf⟩ := gm_le hf
  rw [← e_u_1] at hw
  refine lv_iconst (v := 0) hx hb dX11_coming_5 (by decide) ?_
  refine lv_istore_n (i := 3) (lv' := [(3, .int (0 : Int32)), (0, rv Z 1), (1, .int a1), (2, .int a2)]) hx hb dX11_coming_6 rfl hl (by decide) rfl (fun ls hl => ?_)
  refine lv_iconst (v := 0) hx hb dX11_coming_7 (by decide) ?_
  refine lv_istore (i := 4) (lv' := [(4, .int (0 : Int32)), (3, .int (0 : Int32)), (0, rv Z 1), (1, .int a1), (2, .int a2)]) hx hb dX11_coming_8 hl (by decide) rfl (fun ls hl => ?_)
  obtain ⟨o1, hlp, hf⟩ := gm_bnd hf
  have L10_1 := gm_loop (b_X11_coming_10 a1 a2 u_1) (fun x : (Int32 × Int32) => ∀ (H : Heap) (locs : List Loc) (ls : Array Slot), lv_has ls 5 [(0, rv Z 1), (1, .int a1), (2, .int a2), (3, .int x.1), (4, .int x.2)] → wd GM Z u_1 A s.heap H locs → W p l e R s m args below meth c H locs 0 0 Q (F0 m 10 ls [])) (fun z : Int32 => ∀ (H : Heap) (locs : List Loc) (ls : Array Slot), lv_has ls 5 [(0, rv Z 1), (1, .int a1), (2, .int a2), (3, .int z)] → wd GM Z u_1 A s.heap H locs → W p l e R s m args below meth c H locs 0 0 Q (F0 m 47 ls [])) (by
    intro x o1 hf Kc Kx
    obtain ⟨v3_2, v4_3⟩ := x
    intro H locs ls hl hw
    unfold b_X11_coming_10 at hf
    try dsimp only at hf
    refine lv_iload hx hb dX11_coming_10 (lv_at hl 4 rfl) ?_
    refine gm_aload_n (G := GM) (r := 1) C rfl dX11_coming_12 rfl (lv_at hl 0 rfl) ?_
    refine gm_getS (G := GM) (u := u_1) (r := 1) (ci := 10) (k := 10) C hw rfl fl_X11_13 dX11_coming_13 rfl (q := 3) rfl ?_
    refine lv_iconst (v := 0) hx hb dX11_coming_16 (by decide) ?_
    refine gm_iald (G := GM) (u := u_1) (r := 3) (n := 8) (i := (0 : Int32)) C hw rfl (by decide) (j := 0) (by decide) dX11_coming_17 ?_
    refine lv_icmp_ge (tgt := 47) hx hb dX11_coming_18 (by decide) (fun hc => ?_) (fun hc => ?_)
    · replace hf := (if_pos hc).symm.trans hf
      exact Kx _ (gm_si hf) _ _ _ (lv_sub hl [0, 1, 2, 3] rfl) hw
    · replace hf := (if_neg hc).symm.trans hf
      refine lv_iload_n hx hb dX11_coming_21 rfl (lv_at hl 3 rfl) ?_
      refine gm_aload_n (G := GM) (r := 1) C rfl dX11_coming_22 rfl (lv_at hl 0 rfl) ?_
      refine lv_iload hx hb dX11_coming_23 (lv_at hl 4 rfl) ?_
      obtain ⟨r_4, hc_5, hf⟩ := gm_bnd hf
      refine gm_callV (G := GM) (u := u_1) (u' := u_1) (r := 1) (ci := 10) (As := [.int v4_3]) (rest := [.int v3_2]) (res := (some (.int r_4))) C hw hl (ok_X11_canCome l Z v4_3 u_1 r_4 hc_5) cw_X11_380 im_X11_canCome rfl se_X11_canCome rfl rfl rfl ⟨Nat.le_trans (Nat.le_of_ble_eq_true rfl) hRf, Nat.le_trans (Nat.le_of_ble_eq_true rfl) hRl⟩ rfl rfl (Nat.le_of_ble_eq_true rfl) dX11_coming_25 (fun H locs hw => ?_)
      refine lv_if_eq (tgt := 38) hx hb dX11_coming_28 (by decide) (fun hc => ?_) (fun hc => ?_)
      · replace hf := (if_pos hc).symm.trans hf
        refine lv_iconst (v := 0) hx hb dX11_coming_38 (by decide) ?_
        refine lv_ior hx hb dX11_coming_39 ?_
        obtain ⟨v3_6, e_v3_6, hf⟩ := gm_le hf
        refine gm_topI e_v3_6 ?_
        refine lv_istore_n (i := 3) (lv' := [(3, .int v3_6), (0, rv Z 1), (1, .int a1), (2, .int a2), (4, .int v4_3)]) hx hb dX11_coming_40 rfl hl (by decide) rfl (fun ls hl => ?_)
        refine lv_iinc (v := v4_3 + (1 : Int32)) (lv' := [(4, .int (v4_3 + (1 : Int32))), (3, .int v3_6), (0, rv Z 1), (1, .int a1), (2, .int a2)]) hx hb dX11_coming_41 hl (k := 4) rfl rfl (by decide) rfl (fun ls hl => ?_)
        refine lv_goto (tgt := 10) hx hb dX11_coming_44 (by decide) ?_
        exact Kc _ (gm_si hf) _ _ _ (lv_sub hl [2, 3, 4, 1, 0] rfl) hw
      · replace hf := (if_neg hc).symm.trans hf
        refine lv_iconst (v := 1) hx hb dX11_coming_31 (by decide) ?_
        refine lv_iload hx hb dX11_coming_32 (lv_at hl 4 rfl) ?_
        refine lv_ishl hx hb dX11_coming_34 ?_
        refine lv_goto (tgt := 39) hx hb dX11_coming_35 (by decide) ?_
        refine lv_ior hx hb dX11_coming_39 ?_
        obtain ⟨v3_7, e_v3_7, hf⟩ := gm_le hf
        refine gm_topI e_v3_7 ?_
        refine lv_istore_n (i := 3) (lv' := [(3, .int v3_7), (0, rv Z 1), (1, .int a1), (2, .int a2), (4, .int v4_3)]) hx hb dX11_coming_40 rfl hl (by decide) rfl (fun ls hl => ?_)
        refine lv_iinc (v := v4_3 + (1 : Int32)) (lv' := [(4, .int (v4_3 + (1 : Int32))), (3, .int v3_7), (0, rv Z 1), (1, .int a1), (2, .int a2)]) hx hb dX11_coming_41 hl (k := 4) rfl rfl (by decide) rfl (fun ls hl => ?_)
        refine lv_goto (tgt := 10) hx hb dX11_coming_44 (by decide) ?_
        exact Kc _ (gm_si hf) _ _ _ (lv_sub hl [2, 3, 4, 1, 0] rfl) hw)
  refine L10_1 _ _ _ hlp ?_ _ _ _ (lv_sub hl [2, 3, 4, 1, 0] rfl) hw
  obtain ⟨w3_8, rfl⟩ : ∃ y, y = o1 := ⟨_, rfl⟩
  intro H locs ls hl hw
  try dsimp only at hf
  refine lv_iload_n hx hb dX11_coming_47 rfl (lv_at hl 1 rfl) ?_
  refine lv_iconst (v := 1) hx hb dX11_coming_48 (by decide) ?_
  refine lv_iconst (v := 4) hx hb dX11_coming_49 (by decide) ?_
  obtain ⟨r_9, e_r_9, hf⟩ := gm_le hf
  refine gm_callS (G := GM) (u := u_1) (u' := u_1) (As := [.int a1, .int (1 : Int32), .int (4 : Int32)]) (rest := []) (res := (some (.int (f_X11_within a1 (1 : Int32) (4 : Int32))))) C hw hl (ok_X11_within l Z a1 (1 : Int32) (4 : Int32) u_1) cw_X11_254 st_X11_within rfl rfl ⟨Nat.le_trans (Nat.le_of_ble_eq_true rfl) hRf, Nat.le_trans (Nat.le_of_ble_eq_true rfl) hRl⟩ rfl rfl (Nat.le_of_ble_eq_true rfl) dX11_coming_50 (fun H locs hw => ?_)
  refine gm_topI e_r_9 ?_
  refine lv_if_eq (tgt := 70) hx hb dX11_coming_53 (by decide) (fun hc => ?_) (fun hc => ?_)
  · replace hf := (if_pos hc).symm.trans hf
    refine lv_bipush (v := -2) hx hb dX11_coming_70 (by decide) ?_
    exact gm_iret C E hw rfl ((congrArg (fun z => some (Value.int z)) (gm_sp hf).1).symm) (gm_sp hf).2.symm dX11_coming_72
  · replace hf := (if_neg hc).symm.trans hf
    refine lv_iload_n hx hb dX11_coming_56 rfl (lv_at hl 2 rfl) ?_
    refine lv_iconst (v := -1) hx hb dX11_coming_57 (by decide) ?_
    refine lv_iload_n hx hb dX11_coming_58 rfl (lv_at hl 3 rfl) ?_
    obtain ⟨r_10, hc_11, hf⟩ := gm_bnd hf
    refine gm_callS (G := GM) (u := u_1) (u' := u_1) (As := [.int w3_8]) (rest := [.int (-1 : Int32), .int a2]) (res := (some (.int r_10))) C hw hl (ok_X11_bits l Z w3_8 u_1 r_10 hc_11) cw_X11_398 st_X11_bits rfl rfl ⟨Nat.le_trans (Nat.le_of_ble_eq_true rfl) hRf, Nat.le_trans (Nat.le_of_ble_eq_true rfl) hRl⟩ rfl rfl (Nat.le_of_ble_eq_true rfl) dX11_coming_59 (fun H locs hw => ?_)
    refine lv_iconst (v := 1) hx hb dX11_coming_62 (by decide) ?_
    refine lv_isub hx hb dX11_coming_63 ?_
    obtain ⟨r_12, e_r_12, hf⟩ := gm_le hf
    refine gm_callS (G := GM) (u := u_1) (u' := u_1) (As := [.int a2, .int (-1 : Int32), .int (r_10 - (1 : Int32))]) (rest := []) (res := (some (.int (f_X11_within a2 (-1 : Int32) (r_10 - (1 : Int32)))))) C hw hl (ok_X11_within l Z a2 (-1 : Int32) (r_10 - (1 : Int32)) u_1) cw_X11_254 st_X11_within rfl rfl ⟨Nat.le_trans (Nat.le_of_ble_eq_true rfl) hRf, Nat.le_trans (Nat.le_of_ble_eq_true rfl) hRl⟩ rfl rfl (Nat.le_of_ble_eq_true rfl) dX11_coming_64 (fun H locs hw => ?_)
    refine gm_topI e_r_12 ?_
    refine lv_if_ne (tgt := 73) hx hb dX11_coming_67 (by decide) (fun hc => ?_) (fun hc => ?_)
    · replace hf := (if_neg hc).symm.trans hf
      refine gm_aload_n (G := GM) (r := 1) C rfl dX11_coming_73 rfl (lv_at hl 0 rfl) ?_
      refine gm_aload_n (G := GM) (r := 1) C rfl dX11_coming_74 rfl (lv_at hl 0 rfl) ?_
      refine gm_getS (G := GM) (u := u_1) (r := 1) (ci := 10) (k := 10) C hw rfl fl_X11_13 dX11_coming_75 rfl (q := 3) rfl ?_
      refine lv_iconst (v := 2) hx hb dX11_coming_78 (by decide) ?_
      refine gm_iald (G := GM) (u := u_1) (r := 3) (n := 8) (i := (2 : Int32)) C hw rfl (by decide) (j := 2) (by decide) dX11_coming_79 ?_
      refine gm_putI (G := GM) (u := u_1) (r := 1) (ci := 10) (k := 49) (v := gI u_1 3 2) C hw rfl fl_X11_117 fp_10_49 dX11_coming_80 rfl (fun H locs hw => ?_)
      obtain ⟨u_13, e_u_13, hf⟩ := gm_le hf
      rw [← e_u_13] at hw
      refine gm_aload_n (G := GM) (r := 1) C rfl dX11_coming_83 rfl (lv_at hl 0 rfl) ?_
      refine lv_iconst (v := -1) hx hb dX11_coming_84 (by decide) ?_
      refine gm_putI (G := GM) (u := u_13) (r := 1) (ci := 10) (k := 54) (v := (-1 : Int32)) C hw rfl fl_X11_413 fp_10_54 dX11_coming_85 rfl (fun H locs hw => ?_)
      obtain ⟨u_14, e_u_14, hf⟩ := gm_le hf
      rw [← e_u_14] at hw
      refine gm_aload_n (G := GM) (r := 1) C rfl dX11_coming_88 rfl (lv_at hl 0 rfl) ?_
      refine lv_iconst (v := 0) hx hb dX11_coming_89 (by decide) ?_
      refine lv_iload_n hx hb dX11_coming_90 rfl (lv_at hl 3 rfl) ?_
      refine lv_iload_n hx hb dX11_coming_91 rfl (lv_at hl 1 rfl) ?_
      obtain ⟨u_15, hc_16, hf⟩ := gm_bnd hf
      refine gm_callV (G := GM) (u := u_14) (u' := u_15) (r := 1) (ci := 10) (As := [.int (0 : Int32), .int w3_8, .int a1]) (rest := []) (res := none) C hw hl (ok_X11_orders l Z (0 : Int32) w3_8 a1 u_14 u_15 hc_16) cw_X11_416 im_X11_orders rfl se_X11_orders rfl rfl rfl ⟨Nat.le_trans (Nat.le_of_ble_eq_true rfl) hRf, Nat.le_trans (Nat.le_of_ble_eq_true rfl) hRl⟩ rfl rfl (Nat.le_of_ble_eq_true rfl) dX11_coming_92 (fun H locs hw => ?_)
      refine lv_iload_n hx hb dX11_coming_95 rfl (lv_at hl 2 rfl) ?_
      refine lv_iconst (v := -1) hx hb dX11_coming_96 (by decide) ?_
      refine lv_icmp_ne (tgt := 117) hx hb dX11_coming_97 (by decide) (fun hc => ?_) (fun hc => ?_)
      · replace hf := (if_neg hc).symm.trans hf
        refine gm_aload_n (G := GM) (r := 1) C rfl dX11_coming_117 rfl (lv_at hl 0 rfl) ?_
        refine gm_getS (G := GM) (u := u_15) (r := 1) (ci := 10) (k := 53) C hw rfl fl_X11_124 dX11_coming_118 rfl (q := 38) rfl ?_
        refine lv_iload_n hx hb dX11_coming_121 rfl (lv_at hl 2 rfl) ?_
        obtain ⟨g_17, hf⟩ := gm_grd hf
        refine gm_iald (G := GM) (u := u_15) (r := 38) (n := 6) (i := a2) C hw rfl g_17 rfl dX11_coming_122 ?_
        exact gm_iret C E hw rfl ((congrArg (fun z => some (Value.int z)) (gm_sp hf).1).symm) (gm_sp hf).2.symm dX11_coming_123
      · replace hf := (if_pos hc).symm.trans hf
        refine gm_aload_n (G := GM) (r := 1) C rfl dX11_coming_100 rfl (lv_at hl 0 rfl) ?_
        refine gm_getI (G := GM) (u := u_15) (r := 1) (ci := 10) (k := 54) C hw rfl fl_X11_413 dX11_coming_101 rfl ?_
        refine gm_aload_n (G := GM) (r := 1) C rfl dX11_coming_104 rfl (lv_at hl 0 rfl) ?_
        refine gm_getS (G := GM) (u := u_15) (r := 1) (ci := 10) (k := 39) C hw rfl fl_X11_93 dX11_coming_105 rfl (q := 29) rfl ?_
        refine lv_iconst (v := 3) hx hb dX11_coming_108 (by decide) ?_
        refine gm_iald (G := GM) (u := u_15) (r := 29) (n := 22) (i := (3 : Int32)) C hw rfl (by decide) (j := 3) (by decide) dX11_coming_109 ?_
        obtain ⟨r_18, hc_19, hf⟩ := gm_bnd hf
        refine gm_callS (G := GM) (u := u_15) (u' := u_15) (As := [.int (gI u_15 29 3)]) (rest := [.int (gI u_15 1 54)]) (res := (some (.int r_18))) C hw hl (ok_X11_bits l Z (gI u_15 29 3) u_15 r_18 hc_19) cw_X11_398 st_X11_bits rfl rfl ⟨Nat.le_trans (Nat.le_of_ble_eq_true rfl) hRf, Nat.le_trans (Nat.le_of_ble_eq_true rfl) hRl⟩ rfl rfl (Nat.le_of_ble_eq_true rfl) dX11_coming_110 (fun H locs hw => ?_)
        refine lv_isub hx hb dX11_coming_113 ?_
        refine lv_goto (tgt := 123) hx hb dX11_coming_114 (by decide) ?_
        exact gm_iret C E hw rfl ((congrArg (fun z => some (Value.int z)) (gm_sp hf).1).symm) (gm_sp hf).2.symm dX11_coming_123
    · replace hf := (if_pos hc).symm.trans hf
      refine lv_bipush (v := -2) hx hb dX11_coming_70 (by decide) ?_
      exact gm_iret C E hw rfl ((congrArg (fun z => some (Value.int z)) (gm_sp hf).1).symm) (gm_sp hf).2.symm dX11_coming_72
