/-! LeapCapital.call -/
def f_X10_call (a1 : Int32) (u : gm_M) : Option (Int32 × gm_M) := if isRealm (gR u 1 2) = true then (f_X2_putInOrder (gR u 1 2) 27 u).bind fun u_3 => (f_X2_calledAt a1 u_3).bind fun r_5 => some (r_5, u_3) else none
set_option maxRecDepth 100000 in
set_option maxHeartbeats 4000000 in
theorem ok_X10_call (l : Launch) (Z : gm_Z) (a1 : Int32) (u : gm_M)  (r : Int32) (u' : gm_M) (hf : f_X10_call a1 u = some (r, u')) : gm_Met l GC Z yX10_call cX10_call 2 (some .int) ({ frames := 4, cells := 0, slots := 0, locals := 104 }) [rv Z 1, .int a1] u (some (.int r)) u' := by
  unfold f_X10_call at hf
  refine gm_ofW (by decide +kernel) (Nat.le_of_ble_eq_true rfl) ?_
  intro p e s m args below meth c A ls Q R hRf hRl C E hl hw
  obtain ⟨hx, hb, -⟩ := id C
  have hl : lv_has ls 2 [(0, rv Z 1), (1, .int a1)] := hl
  refine gm_aload_n (G := GC) (r := 1) C rfl dX10_call_0 rfl (lv_at hl 0 rfl) ?_
  refine gm_getS (G := GC) (u := u) (r := 1) (ci := 9) (k := 8) C hw rfl fl_X10_53 dX10_call_1 rfl (q := 35) rfl ?_
  refine gm_aload_n (G := GC) (r := 1) C rfl dX10_call_4 rfl (lv_at hl 0 rfl) ?_
  refine gm_getR (G := GC) (u := u) (r := 1) (ci := 9) (k := 2) C hw rfl fl_X10_19 dX10_call_5 rfl ?_
  obtain ⟨g_1, hf⟩ := gm_grd hf
  obtain ⟨k_2_0, k_2_1, k_2_2, k_2_3, k_2_4, k_2_5, k_2_6, k_2_7, k_2_8, k_2_9, k_2_10, k_2_11⟩ := fc_Realm g_1
  refine gm_aload_n (G := GC) (r := 1) C rfl dX10_call_8 rfl (lv_at hl 0 rfl) ?_
  refine gm_getS (G := GC) (u := u) (r := 1) (ci := 9) (k := 6) C hw rfl fl_X10_39 dX10_call_9 rfl (q := 27) rfl ?_
  obtain ⟨u_3, hc_4, hf⟩ := gm_bnd hf
  refine gm_callV (G := GC) (u := u) (u' := u_3) (r := 35) (ci := 1) (As := [rv Z (gR u 1 2), rv Z 27]) (rest := []) (res := none) C hw hl (ok_X2_putInOrder l Z (gR u 1 2) 27 u g_1 rfl u_3 hc_4) cw_X10_236 im_X2_putInOrder rfl se_X2_putInOrder rfl rfl rfl ⟨Nat.le_trans (Nat.le_of_ble_eq_true rfl) hRf, Nat.le_trans (Nat.le_of_ble_eq_true rfl) hRl⟩ rfl rfl (Nat.le_of_ble_eq_true rfl) dX10_call_12 (fun H locs hw => ?_)
  refine gm_aload_n (G := GC) (r := 1) C rfl dX10_call_15 rfl (lv_at hl 0 rfl) ?_
  refine gm_getS (G := GC) (u := u_3) (r := 1) (ci := 9) (k := 8) C hw rfl fl_X10_53 dX10_call_16 rfl (q := 35) rfl ?_
  refine lv_iload_n hx hb dX10_call_19 rfl (lv_at hl 1 rfl) ?_
  obtain ⟨r_5, hc_6, hf⟩ := gm_bnd hf
  refine gm_callV (G := GC) (u := u_3) (u' := u_3) (r := 35) (ci := 1) (As := [.int a1]) (rest := []) (res := (some (.int r_5))) C hw hl (ok_X2_calledAt l Z a1 u_3 r_5 hc_6) cw_X10_240 im_X2_calledAt rfl se_X2_calledAt rfl rfl rfl ⟨Nat.le_trans (Nat.le_of_ble_eq_true rfl) hRf, Nat.le_trans (Nat.le_of_ble_eq_true rfl) hRl⟩ rfl rfl (Nat.le_of_ble_eq_true rfl) dX10_call_20 (fun H locs hw => ?_)
  exact gm_iret C E hw rfl ((congrArg (fun z => some (Value.int z)) (gm_sp hf).1).symm) (gm_sp hf).2.symm dX10_call_23
/-! LeapCapital.when -/
def b_X10_when_26 (a1 : Int32) : (Int32 × gm_M) → Option ((Int32 × gm_M) ⊕ ((Int32 × gm_M) ⊕ gm_M)) := fun x => match x with | (v2_6, u_5) => if (99 : Int32) < v2_6 then some (.inr (.inr u_5)) else if isRealm (gR u_5 1 2) = true then (f_X2_passYear (gR u_5 1 2) 40 (0 : Int32) u_5).bind fun o => match o with | (r_9, u_10) => if (((gI u_10 40 2) >>> (a1 &&& 31)) &&& (1 : Int32)) = 0 then some (.inl (v2_6 + (1 : Int32), u_10)) else some (.inr (.inl (v2_6, u_10))) else none
def f_X10_when (a1 : Int32) (u : gm_M) : Option (Int32 × gm_M) := (f_X1_isQueued 27 a1 u).bind fun r_1 => if r_1 = 0 then some ((-1 : Int32), u) else (f_X1_copyFrom 40 27 u).bind fun u_3 => ((gm_lp (b_X10_when_26 a1) gm_FU ((1 : Int32), u_3)).bind fun o => match o with | .inl (w2_13, u_14) => (some (w2_13, u_14)) | .inr (u_15) => (some ((-1 : Int32), u_15)))
set_option maxRecDepth 100000 in
set_option maxHeartbeats 4000000 in
theorem ok_X10_when (l : Launch) (Z : gm_Z) (a1 : Int32) (u : gm_M)  (r : Int32) (u' : gm_M) (hf : f_X10_when a1 u = some (r, u')) : gm_Met l GC Z yX10_when cX10_when 3 (some .int) ({ frames := 6, cells := 0, slots := 0, locals := 154 }) [rv Z 1, .int a1] u (some (.int r)) u' := by
  unfold f_X10_when at hf
  refine gm_ofW (by decide +kernel) (Nat.le_of_ble_eq_true rfl) ?_
  intro p e s m args below meth c A ls Q R hRf hRl C E hl hw
  obtain ⟨hx, hb, -⟩ := id C
  have hl : lv_has ls 3 [(0, rv Z 1), (1, .int a1)] := hl
  refine gm_aload_n (G := GC) (r := 1) C rfl dX10_when_0 rfl (lv_at hl 0 rfl) ?_
  refine gm_getS (G := GC) (u := u) (r := 1) (ci := 9) (k := 6) C hw rfl fl_X10_39 dX10_when_1 rfl (q := 27) rfl ?_
  refine lv_iload_n hx hb dX10_when_4 rfl (lv_at hl 1 rfl) ?_
  obtain ⟨r_1, hc_2, hf⟩ := gm_bnd hf
  refine gm_callV (G := GC) (u := u) (u' := u) (r := 27) (ci := 0) (As := [.int a1]) (rest := []) (res := (some (.int r_1))) C hw hl (ok_X1_isQueued l Z 27 a1 u rfl r_1 hc_2) cw_X10_149 im_X1_isQueued rfl se_X1_isQueued rfl rfl rfl ⟨Nat.le_trans (Nat.le_of_ble_eq_true rfl) hRf, Nat.le_trans (Nat.le_of_ble_eq_true rfl) hRl⟩ rfl rfl (Nat.le_of_ble_eq_true rfl) dX10_when_5 (fun H locs hw => ?_)
  refine lv_if_ne (tgt := 13) hx hb dX10_when_8 (by decide) (fun hc => ?_) (fun hc => ?_)
  · replace hf := (if_neg hc).symm.trans hf
    refine gm_aload_n (G := GC) (r := 1) C rfl dX10_when_13 rfl (lv_at hl 0 rfl) ?_
    refine gm_getS (G := GC) (u := u) (r := 1) (ci := 9) (k := 12) C hw rfl fl_X10_71 dX10_when_14 rfl (q := 40) rfl ?_
    refine gm_aload_n (G := GC) (r := 1) C rfl dX10_when_17 rfl (lv_at hl 0 rfl) ?_
    refine gm_getS (G := GC) (u := u) (r := 1) (ci := 9) (k := 6) C hw rfl fl_X10_39 dX10_when_18 rfl (q := 27) rfl ?_
    obtain ⟨u_3, hc_4, hf⟩ := gm_bnd hf
    refine gm_callV (G := GC) (u := u) (u' := u_3) (r := 40) (ci := 0) (As := [rv Z 27]) (rest := []) (res := none) C hw hl (ok_X1_copyFrom l Z 40 27 u rfl rfl u_3 hc_4) cw_X10_189 im_X1_copyFrom rfl se_X1_copyFrom rfl rfl rfl ⟨Nat.le_trans (Nat.le_of_ble_eq_true rfl) hRf, Nat.le_trans (Nat.le_of_ble_eq_true rfl) hRl⟩ rfl rfl (Nat.le_of_ble_eq_true rfl) dX10_when_21 (fun H locs hw => ?_)
    refine lv_iconst (v := 1) hx hb dX10_when_24 (by decide) ?_
    refine lv_istore_n (i := 2) (lv' := [(2, .int (1 : Int32)), (0, rv Z 1), (1, .int a1)]) hx hb dX10_when_25 rfl hl (by decide) rfl (fun ls hl => ?_)
    obtain ⟨o1, hlp, hf⟩ := gm_bnd hf
    have L26_1 := gm_loop (b_X10_when_26 a1) (fun x : (Int32 × gm_M) => ∀ (H : Heap) (locs : List Loc) (ls : Array Slot), lv_has ls 3 [(0, rv Z 1), (1, .int a1), (2, .int x.1)] → wd GC Z x.2 A s.heap H locs → W p l e R s m args below meth c H locs 0 0 Q (F0 m 26 ls [])) (fun z : ((Int32 × gm_M) ⊕ gm_M) => match z with | .inl q0 => ∀ (H : Heap) (locs : List Loc) (ls : Array Slot), lv_has ls 3 [(2, .int q0.1)] → wd GC Z q0.2 A s.heap H locs → W p l e R s m args below meth c H locs 0 0 Q (F0 m 63 ls []) | .inr p0 => ∀ (H : Heap) (locs : List Loc) (ls : Array Slot), lv_has ls 3 [] → wd GC Z p0 A s.heap H locs → W p l e R s m args below meth c H locs 0 0 Q (F0 m 71 ls [])) (by
      intro x o1 hf Kc Kx
      obtain ⟨v2_6, u_5⟩ := x
      intro H locs ls hl hw
      unfold b_X10_when_26 at hf
      try dsimp only at hf
      refine lv_iload_n hx hb dX10_when_26 rfl (lv_at hl 2 rfl) ?_
      refine lv_bipush (v := 99) hx hb dX10_when_27 (by decide) ?_
      refine lv_icmp_gt (tgt := 71) hx hb dX10_when_29 (by decide) (fun hc => ?_) (fun hc => ?_)
      · replace hf := (if_pos hc).symm.trans hf
        exact Kx _ (gm_si hf) _ _ _ (lv_sub hl [] rfl) hw
      · replace hf := (if_neg hc).symm.trans hf
        refine gm_aload_n (G := GC) (r := 1) C rfl dX10_when_32 rfl (lv_at hl 0 rfl) ?_
        refine gm_getS (G := GC) (u := u_5) (r := 1) (ci := 9) (k := 8) C hw rfl fl_X10_53 dX10_when_33 rfl (q := 35) rfl ?_
        refine gm_aload_n (G := GC) (r := 1) C rfl dX10_when_36 rfl (lv_at hl 0 rfl) ?_
        refine gm_getR (G := GC) (u := u_5) (r := 1) (ci := 9) (k := 2) C hw rfl fl_X10_19 dX10_when_37 rfl ?_
        obtain ⟨g_7, hf⟩ := gm_grd hf
        obtain ⟨k_8_0, k_8_1, k_8_2, k_8_3, k_8_4, k_8_5, k_8_6, k_8_7, k_8_8, k_8_9, k_8_10, k_8_11⟩ := fc_Realm g_7
        refine gm_aload_n (G := GC) (r := 1) C rfl dX10_when_40 rfl (lv_at hl 0 rfl) ?_
        refine gm_getS (G := GC) (u := u_5) (r := 1) (ci := 9) (k := 12) C hw rfl fl_X10_71 dX10_when_41 rfl (q := 40) rfl ?_
        refine lv_iconst (v := 0) hx hb dX10_when_44 (by decide) ?_
        obtain ⟨⟨r_9, u_10⟩, hc_11, hf⟩ := gm_bnd hf
        try dsimp only at hf
        refine gm_callV (G := GC) (u := u_5) (u' := u_10) (r := 35) (ci := 1) (As := [rv Z (gR u_5 1 2), rv Z 40, .int (0 : Int32)]) (rest := []) (res := (some (.int r_9))) C hw hl (ok_X2_passYear l Z (gR u_5 1 2) 40 (0 : Int32) u_5 g_7 rfl r_9 u_10 hc_11) cw_X10_178 im_X2_passYear rfl se_X2_passYear rfl rfl rfl ⟨Nat.le_trans (Nat.le_of_ble_eq_true rfl) hRf, Nat.le_trans (Nat.le_of_ble_eq_true rfl) hRl⟩ rfl rfl (Nat.le_of_ble_eq_true rfl) dX10_when_45 (fun H locs hw => ?_)
        refine lv_pop hx hb dX10_when_48 rfl ?_
        refine gm_aload_n (G := GC) (r := 1) C rfl dX10_when_49 rfl (lv_at hl 0 rfl) ?_
        refine gm_getS (G := GC) (u := u_10) (r := 1) (ci := 9) (k := 12) C hw rfl fl_X10_71 dX10_when_50 rfl (q := 40) rfl ?_
        refine gm_getI (G := GC) (u := u_10) (r := 40) (ci := 0) (k := 2) C hw rfl fl_X10_139 dX10_when_53 rfl ?_
        refine lv_iload_n hx hb dX10_when_56 rfl (lv_at hl 1 rfl) ?_
        refine lv_ishr hx hb dX10_when_57 ?_
        refine lv_iconst (v := 1) hx hb dX10_when_58 (by decide) ?_
        refine lv_iand hx hb dX10_when_59 ?_
        refine lv_if_eq (tgt := 65) hx hb dX10_when_60 (by decide) (fun hc => ?_) (fun hc => ?_)
        · replace hf := (if_pos hc).symm.trans hf
          refine lv_iinc (v := v2_6 + (1 : Int32)) (lv' := [(2, .int (v2_6 + (1 : Int32))), (0, rv Z 1), (1, .int a1)]) hx hb dX10_when_65 hl (k := 2) rfl rfl (by decide) rfl (fun ls hl => ?_)
          refine lv_goto (tgt := 26) hx hb dX10_when_68 (by decide) ?_
          exact Kc _ (gm_si hf) _ _ _ (lv_sub hl [1, 2, 0] rfl) hw
        · replace hf := (if_neg hc).symm.trans hf
          exact Kx _ (gm_si hf) _ _ _ (lv_sub hl [2] rfl) hw)
    refine L26_1 _ _ _ hlp ?_ _ _ _ (lv_sub hl [1, 2, 0] rfl) hw
    cases o1 with
    | inl q0_z_16 =>
      obtain ⟨w2_13, u_14⟩ := q0_z_16
      intro H locs ls hl hw
      try dsimp only at hf
      refine lv_iload_n hx hb dX10_when_63 rfl (lv_at hl 0 rfl) ?_
      exact gm_iret C E hw rfl ((congrArg (fun z => some (Value.int z)) (gm_sp hf).1).symm) (gm_sp hf).2.symm dX10_when_64
    | inr p0_z_16 =>
      obtain ⟨u_15, rfl⟩ : ∃ y, y = p0_z_16 := ⟨_, rfl⟩
      intro H locs ls hl hw
      try dsimp only at hf
      refine lv_iconst (v := -1) hx hb dX10_when_71 (by decide) ?_
      exact gm_iret C E hw rfl ((congrArg (fun z => some (Value.int z)) (gm_sp hf).1).symm) (gm_sp hf).2.symm dX10_when_72
  · replace hf := (if_pos hc).symm.trans hf
    refine lv_iconst (v := -1) hx hb dX10_when_11 (by decide) ?_
    exact gm_iret C E hw rfl ((congrArg (fun z => some (Value.int z)) (gm_sp hf).1).symm) (gm_sp hf).2.symm dX10_when_12
/-! LeapCapital.foreseeDay -/
def b_X10_foreseeDay_26 (a1 : Int32) : (Int32 × gm_M) → Option ((Int32 × gm_M) ⊕ gm_M) := fun x => match x with | (v2_4, u_3) => if a1 < v2_4 then some (.inr u_3) else if isRealm (gR u_3 1 2) = true then (f_X2_passToDay (gR u_3 1 2) 40 (gI u_3 (gR u_3 1 2) 6) u_3).bind fun o => match o with | (r_7, u_8) => some (.inl (v2_4 + (1 : Int32), u_8)) else none
def f_X10_foreseeDay (a1 : Int32) (u : gm_M) : Option (Int32 × gm_M) := if a1 < (1 : Int32) then some ((0 : Int32), u) else if a1 ≤ (12 : Int32) then (f_X1_copyFrom 40 27 u).bind fun u_1 => ((gm_lp (b_X10_foreseeDay_26 a1) gm_FU ((1 : Int32), u_1)).bind fun o => match o with | u_11 => some ((1 : Int32), u_11)) else some ((0 : Int32), u)
set_option maxRecDepth 100000 in
set_option maxHeartbeats 4000000 in
theorem ok_X10_foreseeDay (l : Launch) (Z : gm_Z) (a1 : Int32) (u : gm_M)  (r : Int32) (u' : gm_M) (hf : f_X10_foreseeDay a1 u = some (r, u')) : gm_Met l GC Z yX10_foreseeDay cX10_foreseeDay 3 (some .boolean) ({ frames := 6, cells := 0, slots := 0, locals := 152 }) [rv Z 1, .int a1] u (some (.int r)) u' := by
  unfold f_X10_foreseeDay at hf
  refine gm_ofW (by decide +kernel) (Nat.le_of_ble_eq_true rfl) ?_
  intro p e s m args below meth c A ls Q R hRf hRl C E hl hw
  obtain ⟨hx, hb, -⟩ := id C
  have hl : lv_has ls 3 [(0, rv Z 1), (1, .int a1)] := hl
  refine lv_iload_n hx hb dX10_foreseeDay_0 rfl (lv_at hl 1 rfl) ?_
  refine lv_iconst (v := 1) hx hb dX10_foreseeDay_1 (by decide) ?_
  refine lv_icmp_lt (tgt := 11) hx hb dX10_foreseeDay_2 (by decide) (fun hc => ?_) (fun hc => ?_)
  · replace hf := (if_pos hc).symm.trans hf
    refine lv_iconst (v := 0) hx hb dX10_foreseeDay_11 (by decide) ?_
    exact gm_zret C E hw rfl rfl ((congrArg (fun z => some (Value.int z)) (gm_sp hf).1).symm) (gm_sp hf).2.symm dX10_foreseeDay_12
  · replace hf := (if_neg hc).symm.trans hf
    refine lv_iload_n hx hb dX10_foreseeDay_5 rfl (lv_at hl 1 rfl) ?_
    refine lv_bipush (v := 12) hx hb dX10_foreseeDay_6 (by decide) ?_
    refine lv_icmp_le (tgt := 13) hx hb dX10_foreseeDay_8 (by decide) (fun hc => ?_) (fun hc => ?_)
    · replace hf := (if_pos hc).symm.trans hf
      refine gm_aload_n (G := GC) (r := 1) C rfl dX10_foreseeDay_13 rfl (lv_at hl 0 rfl) ?_
      refine gm_getS (G := GC) (u := u) (r := 1) (ci := 9) (k := 12) C hw rfl fl_X10_71 dX10_foreseeDay_14 rfl (q := 40) rfl ?_
      refine gm_aload_n (G := GC) (r := 1) C rfl dX10_foreseeDay_17 rfl (lv_at hl 0 rfl) ?_
      refine gm_getS (G := GC) (u := u) (r := 1) (ci := 9) (k := 6) C hw rfl fl_X10_39 dX10_foreseeDay_18 rfl (q := 27) rfl ?_
      obtain ⟨u_1, hc_2, hf⟩ := gm_bnd hf
      refine gm_callV (G := GC) (u := u) (u' := u_1) (r := 40) (ci := 0) (As := [rv Z 27]) (rest := []) (res := none) C hw hl (ok_X1_copyFrom l Z 40 27 u rfl rfl u_1 hc_2) cw_X10_189 im_X1_copyFrom rfl se_X1_copyFrom rfl rfl rfl ⟨Nat.le_trans (Nat.le_of_ble_eq_true rfl) hRf, Nat.le_trans (Nat.le_of_ble_eq_true rfl) hRl⟩ rfl rfl (Nat.le_of_ble_eq_true rfl) dX10_foreseeDay_21 (fun H locs hw => ?_)
      refine lv_iconst (v := 1) hx hb dX10_foreseeDay_24 (by decide) ?_
      refine lv_istore_n (i := 2) (lv' := [(2, .int (1 : Int32)), (0, rv Z 1), (1, .int a1)]) hx hb dX10_foreseeDay_25 rfl hl (by decide) rfl (fun ls hl => ?_)
      obtain ⟨o1, hlp, hf⟩ := gm_bnd hf
      have L26_1 := gm_loop (b_X10_foreseeDay_26 a1) (fun x : (Int32 × gm_M) => ∀ (H : Heap) (locs : List Loc) (ls : Array Slot), lv_has ls 3 [(0, rv Z 1), (1, .int a1), (2, .int x.1)] → wd GC Z x.2 A s.heap H locs → W p l e R s m args below meth c H locs 0 0 Q (F0 m 26 ls [])) (fun z : gm_M => ∀ (H : Heap) (locs : List Loc) (ls : Array Slot), lv_has ls 3 [] → wd GC Z z A s.heap H locs → W p l e R s m args below meth c H locs 0 0 Q (F0 m 60 ls [])) (by
        intro x o1 hf Kc Kx
        obtain ⟨v2_4, u_3⟩ := x
        intro H locs ls hl hw
        unfold b_X10_foreseeDay_26 at hf
        try dsimp only at hf
        refine lv_iload_n hx hb dX10_foreseeDay_26 rfl (lv_at hl 2 rfl) ?_
        refine lv_iload_n hx hb dX10_foreseeDay_27 rfl (lv_at hl 1 rfl) ?_
        refine lv_icmp_gt (tgt := 60) hx hb dX10_foreseeDay_28 (by decide) (fun hc => ?_) (fun hc => ?_)
        · replace hf := (if_pos hc).symm.trans hf
          exact Kx _ (gm_si hf) _ _ _ (lv_sub hl [] rfl) hw
        · replace hf := (if_neg hc).symm.trans hf
          refine gm_aload_n (G := GC) (r := 1) C rfl dX10_foreseeDay_31 rfl (lv_at hl 0 rfl) ?_
          refine gm_getS (G := GC) (u := u_3) (r := 1) (ci := 9) (k := 8) C hw rfl fl_X10_53 dX10_foreseeDay_32 rfl (q := 35) rfl ?_
          refine gm_aload_n (G := GC) (r := 1) C rfl dX10_foreseeDay_35 rfl (lv_at hl 0 rfl) ?_
          refine gm_getR (G := GC) (u := u_3) (r := 1) (ci := 9) (k := 2) C hw rfl fl_X10_19 dX10_foreseeDay_36 rfl ?_
          obtain ⟨g_5, hf⟩ := gm_grd hf
          obtain ⟨k_6_0, k_6_1, k_6_2, k_6_3, k_6_4, k_6_5, k_6_6, k_6_7, k_6_8, k_6_9, k_6_10, k_6_11⟩ := fc_Realm g_5
          refine gm_aload_n (G := GC) (r := 1) C rfl dX10_foreseeDay_39 rfl (lv_at hl 0 rfl) ?_
          refine gm_getS (G := GC) (u := u_3) (r := 1) (ci := 9) (k := 12) C hw rfl fl_X10_71 dX10_foreseeDay_40 rfl (q := 40) rfl ?_
          refine gm_aload_n (G := GC) (r := 1) C rfl dX10_foreseeDay_43 rfl (lv_at hl 0 rfl) ?_
          refine gm_getR (G := GC) (u := u_3) (r := 1) (ci := 9) (k := 2) C hw rfl fl_X10_19 dX10_foreseeDay_44 rfl ?_
          refine gm_getI (G := GC) (u := u_3) (r := (gR u_3 1 2)) (ci := 4) (k := 6) C hw k_6_0 fl_X10_182 dX10_foreseeDay_47 rfl ?_
          obtain ⟨⟨r_7, u_8⟩, hc_9, hf⟩ := gm_bnd hf
          try dsimp only at hf
          refine gm_callV (G := GC) (u := u_3) (u' := u_8) (r := 35) (ci := 1) (As := [rv Z (gR u_3 1 2), rv Z 40, .int (gI u_3 (gR u_3 1 2) 6)]) (rest := []) (res := (some (.int r_7))) C hw hl (ok_X2_passToDay l Z (gR u_3 1 2) 40 (gI u_3 (gR u_3 1 2) 6) u_3 g_5 rfl r_7 u_8 hc_9) cw_X10_185 im_X2_passToDay rfl se_X2_passToDay rfl rfl rfl ⟨Nat.le_trans (Nat.le_of_ble_eq_true rfl) hRf, Nat.le_trans (Nat.le_of_ble_eq_true rfl) hRl⟩ rfl rfl (Nat.le_of_ble_eq_true rfl) dX10_foreseeDay_50 (fun H locs hw => ?_)
          refine lv_pop hx hb dX10_foreseeDay_53 rfl ?_
          refine lv_iinc (v := v2_4 + (1 : Int32)) (lv' := [(2, .int (v2_4 + (1 : Int32))), (0, rv Z 1), (1, .int a1)]) hx hb dX10_foreseeDay_54 hl (k := 2) rfl rfl (by decide) rfl (fun ls hl => ?_)
          refine lv_goto (tgt := 26) hx hb dX10_foreseeDay_57 (by decide) ?_
          exact Kc _ (gm_si hf) _ _ _ (lv_sub hl [1, 2, 0] rfl) hw)
      refine L26_1 _ _ _ hlp ?_ _ _ _ (lv_sub hl [1, 2, 0] rfl) hw
      obtain ⟨u_11, rfl⟩ : ∃ y, y = o1 := ⟨_, rfl⟩
      intro H locs ls hl hw
      try dsimp only at hf
      refine lv_iconst (v := 1) hx hb dX10_foreseeDay_60 (by decide) ?_
      exact gm_zret C E hw rfl rfl ((congrArg (fun z => some (Value.int z)) (gm_sp hf).1).symm) (gm_sp hf).2.symm dX10_foreseeDay_61
    · replace hf := (if_neg hc).symm.trans hf
      refine lv_iconst (v := 0) hx hb dX10_foreseeDay_11 (by decide) ?_
      exact gm_zret C E hw rfl rfl ((congrArg (fun z => some (Value.int z)) (gm_sp hf).1).symm) (gm_sp hf).2.symm dX10_foreseeDay_12
/-! LeapCapital.audience -/
def f_X10_audience (a1 : Int32) (u : gm_M) : Option (Int32 × gm_M) := (f_X10_foreseeDay a1 u).bind fun o => match o with | (r_1, u_2) => if r_1 = 0 then some ((-1 : Int32), u_2) else some (gI u_2 35 3, u_2)
set_option maxRecDepth 100000 in
set_option maxHeartbeats 4000000 in
theorem ok_X10_audience (l : Launch) (Z : gm_Z) (a1 : Int32) (u : gm_M)  (r : Int32) (u' : gm_M) (hf : f_X10_audience a1 u = some (r, u')) : gm_Met l GC Z yX10_audience cX10_audience 2 (some .int) ({ frames := 7, cells := 0, slots := 0, locals := 174 }) [rv Z 1, .int a1] u (some (.int r)) u' := by
  unfold f_X10_audience at hf
  refine gm_ofW (by decide +kernel) (Nat.le_of_ble_eq_true rfl) ?_
  intro p e s m args below meth c A ls Q R hRf hRl C E hl hw
  obtain ⟨hx, hb, -⟩ := id C
  have hl : lv_has ls 2 [(0, rv Z 1), (1, .int a1)] := hl
  refine gm_aload_n (G := GC) (r := 1) C rfl dX10_audience_0 rfl (lv_at hl 0 rfl) ?_
  refine lv_iload_n hx hb dX10_audience_1 rfl (lv_at hl 1 rfl) ?_
  obtain ⟨⟨r_1, u_2⟩, hc_3, hf⟩ := gm_bnd hf
  try dsimp only at hf
  refine gm_callV (G := GC) (u := u) (u' := u_2) (r := 1) (ci := 9) (As := [.int a1]) (rest := []) (res := (some (.int r_1))) C hw hl (ok_X10_foreseeDay l Z a1 u r_1 u_2 hc_3) cw_X10_243 im_X10_foreseeDay rfl se_X10_foreseeDay rfl rfl rfl ⟨Nat.le_trans (Nat.le_of_ble_eq_true rfl) hRf, Nat.le_trans (Nat.le_of_ble_eq_true rfl) hRl⟩ rfl rfl (Nat.le_of_ble_eq_true rfl) dX10_audience_2 (fun H locs hw => ?_)
  refine lv_if_eq (tgt := 18) hx hb dX10_audience_5 (by decide) (fun hc => ?_) (fun hc => ?_)
  · replace hf := (if_pos hc).symm.trans hf
    refine lv_iconst (v := -1) hx hb dX10_audience_18 (by decide) ?_
    exact gm_iret C E hw rfl ((congrArg (fun z => some (Value.int z)) (gm_sp hf).1).symm) (gm_sp hf).2.symm dX10_audience_19
  · replace hf := (if_neg hc).symm.trans hf
    refine gm_aload_n (G := GC) (r := 1) C rfl dX10_audience_8 rfl (lv_at hl 0 rfl) ?_
    refine gm_getS (G := GC) (u := u_2) (r := 1) (ci := 9) (k := 8) C hw rfl fl_X10_53 dX10_audience_9 rfl (q := 35) rfl ?_
    refine gm_getI (G := GC) (u := u_2) (r := 35) (ci := 1) (k := 3) C hw rfl fl_X10_246 dX10_audience_12 rfl ?_
    refine lv_goto (tgt := 19) hx hb dX10_audience_15 (by decide) ?_
    exact gm_iret C E hw rfl ((congrArg (fun z => some (Value.int z)) (gm_sp hf).1).symm) (gm_sp hf).2.symm dX10_audience_19
/-! LeapCapital.burnt -/
def f_X10_burnt (a1 : Int32) (u : gm_M) : Option (Int32 × gm_M) := (f_X10_foreseeDay a1 u).bind fun o => match o with | (r_1, u_2) => if r_1 = 0 then some ((-1 : Int32), u_2) else some (gI u_2 35 4, u_2)
set_option maxRecDepth 100000 in
set_option maxHeartbeats 4000000 in
theorem ok_X10_burnt (l : Launch) (Z : gm_Z) (a1 : Int32) (u : gm_M)  (r : Int32) (u' : gm_M) (hf : f_X10_burnt a1 u = some (r, u')) : gm_Met l GC Z yX10_burnt cX10_burnt 2 (some .int) ({ frames := 7, cells := 0, slots := 0, locals := 174 }) [rv Z 1, .int a1] u (some (.int r)) u' := by
  unfold f_X10_burnt at hf
  refine gm_ofW (by decide +kernel) (Nat.le_of_ble_eq_true rfl) ?_
  intro p e s m args below meth c A ls Q R hRf hRl C E hl hw
  obtain ⟨hx, hb, -⟩ := id C
  have hl : lv_has ls 2 [(0, rv Z 1), (1, .int a1)] := hl
  refine gm_aload_n (G := GC) (r := 1) C rfl dX10_burnt_0 rfl (lv_at hl 0 rfl) ?_
  refine lv_iload_n hx hb dX10_burnt_1 rfl (lv_at hl 1 rfl) ?_
  obtain ⟨⟨r_1, u_2⟩, hc_3, hf⟩ := gm_bnd hf
  try dsimp only at hf
  refine gm_callV (G := GC) (u := u) (u' := u_2) (r := 1) (ci := 9) (As := [.int a1]) (rest := []) (res := (some (.int r_1))) C hw hl (ok_X10_foreseeDay l Z a1 u r_1 u_2 hc_3) cw_X10_243 im_X10_foreseeDay rfl se_X10_foreseeDay rfl rfl rfl ⟨Nat.le_trans (Nat.le_of_ble_eq_true rfl) hRf, Nat.le_trans (Nat.le_of_ble_eq_true rfl) hRl⟩ rfl rfl (Nat.le_of_ble_eq_true rfl) dX10_burnt_2 (fun H locs hw => ?_)
  refine lv_if_eq (tgt := 18) hx hb dX10_burnt_5 (by decide) (fun hc => ?_) (fun hc => ?_)
  · replace hf := (if_pos hc).symm.trans hf
    refine lv_iconst (v := -1) hx hb dX10_burnt_18 (by decide) ?_
    exact gm_iret C E hw rfl ((congrArg (fun z => some (Value.int z)) (gm_sp hf).1).symm) (gm_sp hf).2.symm dX10_burnt_19
  · replace hf := (if_neg hc).symm.trans hf
    refine gm_aload_n (G := GC) (r := 1) C rfl dX10_burnt_8 rfl (lv_at hl 0 rfl) ?_
    refine gm_getS (G := GC) (u := u_2) (r := 1) (ci := 9) (k := 8) C hw rfl fl_X10_53 dX10_burnt_9 rfl (q := 35) rfl ?_
    refine gm_getI (G := GC) (u := u_2) (r := 35) (ci := 1) (k := 4) C hw rfl fl_X10_247 dX10_burnt_12 rfl ?_
    refine lv_goto (tgt := 19) hx hb dX10_burnt_15 (by decide) ?_
    exact gm_iret C E hw rfl ((congrArg (fun z => some (Value.int z)) (gm_sp hf).1).symm) (gm_sp hf).2.symm dX10_burnt_19
/-! LeapCapital.crowd -/
def f_X10_crowd (a1 : Int32) (u : gm_M) : Option (Int32 × gm_M) := (f_X10_foreseeDay a1 u).bind fun o => match o with | (r_1, u_2) => if r_1 = 0 then some ((-1 : Int32), u_2) else some (gI u_2 35 2, u_2)
set_option maxRecDepth 100000 in
set_option maxHeartbeats 4000000 in
theorem ok_X10_crowd (l : Launch) (Z : gm_Z) (a1 : Int32) (u : gm_M)  (r : Int32) (u' : gm_M) (hf : f_X10_crowd a1 u = some (r, u')) : gm_Met l GC Z yX10_crowd cX10_crowd 2 (some .int) ({ frames := 7, cells := 0, slots := 0, locals := 174 }) [rv Z 1, .int a1] u (some (.int r)) u' := by
  unfold f_X10_crowd at hf
  refine gm_ofW (by decide +kernel) (Nat.le_of_ble_eq_true rfl) ?_
  intro p e s m args below meth c A ls Q R hRf hRl C E hl hw
  obtain ⟨hx, hb, -⟩ := id C
  have hl : lv_has ls 2 [(0, rv Z 1), (1, .int a1)] := hl
  refine gm_aload_n (G := GC) (r := 1) C rfl dX10_crowd_0 rfl (lv_at hl 0 rfl) ?_
  refine lv_iload_n hx hb dX10_crowd_1 rfl (lv_at hl 1 rfl) ?_
  obtain ⟨⟨r_1, u_2⟩, hc_3, hf⟩ := gm_bnd hf
  try dsimp only at hf
  refine gm_callV (G := GC) (u := u) (u' := u_2) (r := 1) (ci := 9) (As := [.int a1]) (rest := []) (res := (some (.int r_1))) C hw hl (ok_X10_foreseeDay l Z a1 u r_1 u_2 hc_3) cw_X10_243 im_X10_foreseeDay rfl se_X10_foreseeDay rfl rfl rfl ⟨Nat.le_trans (Nat.le_of_ble_eq_true rfl) hRf, Nat.le_trans (Nat.le_of_ble_eq_true rfl) hRl⟩ rfl rfl (Nat.le_of_ble_eq_true rfl) dX10_crowd_2 (fun H locs hw => ?_)
  refine lv_if_eq (tgt := 18) hx hb dX10_crowd_5 (by decide) (fun hc => ?_) (fun hc => ?_)
  · replace hf := (if_pos hc).symm.trans hf
    refine lv_iconst (v := -1) hx hb dX10_crowd_18 (by decide) ?_
    exact gm_iret C E hw rfl ((congrArg (fun z => some (Value.int z)) (gm_sp hf).1).symm) (gm_sp hf).2.symm dX10_crowd_19
  · replace hf := (if_neg hc).symm.trans hf
    refine gm_aload_n (G := GC) (r := 1) C rfl dX10_crowd_8 rfl (lv_at hl 0 rfl) ?_
    refine gm_getS (G := GC) (u := u_2) (r := 1) (ci := 9) (k := 8) C hw rfl fl_X10_53 dX10_crowd_9 rfl (q := 35) rfl ?_
    refine gm_getI (G := GC) (u := u_2) (r := 35) (ci := 1) (k := 2) C hw rfl fl_X10_250 dX10_crowd_12 rfl ?_
    refine lv_goto (tgt := 19) hx hb dX10_crowd_15 (by decide) ?_
    exact gm_iret C E hw rfl ((congrArg (fun z => some (Value.int z)) (gm_sp hf).1).symm) (gm_sp hf).2.symm dX10_crowd_19
/-! LeapCapital.exchange -/
def f_X10_exchange (a1 : Int32) (a2 : Int32) (u : gm_M) : Option (Int32 × gm_M) := if a1 = a2 then some ((-1 : Int32), u) else (f_X1_isQueued 27 a1 u).bind fun r_1 => if r_1 = 0 then some ((-1 : Int32), u) else (f_X1_isQueued 27 a2 u).bind fun r_3 => if r_3 = 0 then some ((-1 : Int32), u) else (f_X1_copyFrom 40 27 u).bind fun u_5 => (f_X1_changePlaces 40 a1 a2 u_5).bind fun u_7 => if isRealm (gR u_7 1 2) = true then (f_X2_passToDay (gR u_7 1 2) 40 (gI u_7 (gR u_7 1 2) 6) u_7).bind fun o => match o with | (r_11, u_12) => some (r_11, u_12) else none
set_option maxRecDepth 100000 in
set_option maxHeartbeats 4000000 in
theorem ok_X10_exchange (l : Launch) (Z : gm_Z) (a1 : Int32) (a2 : Int32) (u : gm_M)  (r : Int32) (u' : gm_M) (hf : f_X10_exchange a1 a2 u = some (r, u')) : gm_Met l GC Z yX10_exchange cX10_exchange 3 (some .int) ({ frames := 6, cells := 0, slots := 0, locals := 152 }) [rv Z 1, .int a1, .int a2] u (some (.int r)) u' := by
  unfold f_X10_exchange at hf
  refine gm_ofW (by decide +kernel) (Nat.le_of_ble_eq_true rfl) ?_
  intro p e s m args below meth c A ls Q R hRf hRl C E hl hw
  obtain ⟨hx, hb, -⟩ := id C
  have hl : lv_has ls 3 [(0, rv Z 1), (1, .int a1), (2, .int a2)] := hl
  refine lv_iload_n hx hb dX10_exchange_0 rfl (lv_at hl 1 rfl) ?_
  refine lv_iload_n hx hb dX10_exchange_1 rfl (lv_at hl 2 rfl) ?_
  refine lv_icmp_eq (tgt := 27) hx hb dX10_exchange_2 (by decide) (fun hc => ?_) (fun hc => ?_)
  · replace hf := (if_pos hc).symm.trans hf
    refine lv_iconst (v := -1) hx hb dX10_exchange_27 (by decide) ?_
    exact gm_iret C E hw rfl ((congrArg (fun z => some (Value.int z)) (gm_sp hf).1).symm) (gm_sp hf).2.symm dX10_exchange_28
  · replace hf := (if_neg hc).symm.trans hf
    refine gm_aload_n (G := GC) (r := 1) C rfl dX10_exchange_5 rfl (lv_at hl 0 rfl) ?_
    refine gm_getS (G := GC) (u := u) (r := 1) (ci := 9) (k := 6) C hw rfl fl_X10_39 dX10_exchange_6 rfl (q := 27) rfl ?_
    refine lv_iload_n hx hb dX10_exchange_9 rfl (lv_at hl 1 rfl) ?_
    obtain ⟨r_1, hc_2, hf⟩ := gm_bnd hf
    refine gm_callV (G := GC) (u := u) (u' := u) (r := 27) (ci := 0) (As := [.int a1]) (rest := []) (res := (some (.int r_1))) C hw hl (ok_X1_isQueued l Z 27 a1 u rfl r_1 hc_2) cw_X10_149 im_X1_isQueued rfl se_X1_isQueued rfl rfl rfl ⟨Nat.le_trans (Nat.le_of_ble_eq_true rfl) hRf, Nat.le_trans (Nat.le_of_ble_eq_true rfl) hRl⟩ rfl rfl (Nat.le_of_ble_eq_true rfl) dX10_exchange_10 (fun H locs hw => ?_)
    refine lv_if_eq (tgt := 27) hx hb dX10_exchange_13 (by decide) (fun hc => ?_) (fun hc => ?_)
    · replace hf := (if_pos hc).symm.trans hf
      refine lv_iconst (v := -1) hx hb dX10_exchange_27 (by decide) ?_
      exact gm_iret C E hw rfl ((congrArg (fun z => some (Value.int z)) (gm_sp hf).1).symm) (gm_sp hf).2.symm dX10_exchange_28
    · replace hf := (if_neg hc).symm.trans hf
      refine gm_aload_n (G := GC) (r := 1) C rfl dX10_exchange_16 rfl (lv_at hl 0 rfl) ?_
      refine gm_getS (G := GC) (u := u) (r := 1) (ci := 9) (k := 6) C hw rfl fl_X10_39 dX10_exchange_17 rfl (q := 27) rfl ?_
      refine lv_iload_n hx hb dX10_exchange_20 rfl (lv_at hl 2 rfl) ?_
      obtain ⟨r_3, hc_4, hf⟩ := gm_bnd hf
      refine gm_callV (G := GC) (u := u) (u' := u) (r := 27) (ci := 0) (As := [.int a2]) (rest := []) (res := (some (.int r_3))) C hw hl (ok_X1_isQueued l Z 27 a2 u rfl r_3 hc_4) cw_X10_149 im_X1_isQueued rfl se_X1_isQueued rfl rfl rfl ⟨Nat.le_trans (Nat.le_of_ble_eq_true rfl) hRf, Nat.le_trans (Nat.le_of_ble_eq_true rfl) hRl⟩ rfl rfl (Nat.le_of_ble_eq_true rfl) dX10_exchange_21 (fun H locs hw => ?_)
      refine lv_if_ne (tgt := 29) hx hb dX10_exchange_24 (by decide) (fun hc => ?_) (fun hc => ?_)
      · replace hf := (if_neg hc).symm.trans hf
        refine gm_aload_n (G := GC) (r := 1) C rfl dX10_exchange_29 rfl (lv_at hl 0 rfl) ?_
        refine gm_getS (G := GC) (u := u) (r := 1) (ci := 9) (k := 12) C hw rfl fl_X10_71 dX10_exchange_30 rfl (q := 40) rfl ?_
        refine gm_aload_n (G := GC) (r := 1) C rfl dX10_exchange_33 rfl (lv_at hl 0 rfl) ?_
        refine gm_getS (G := GC) (u := u) (r := 1) (ci := 9) (k := 6) C hw rfl fl_X10_39 dX10_exchange_34 rfl (q := 27) rfl ?_
        obtain ⟨u_5, hc_6, hf⟩ := gm_bnd hf
        refine gm_callV (G := GC) (u := u) (u' := u_5) (r := 40) (ci := 0) (As := [rv Z 27]) (rest := []) (res := none) C hw hl (ok_X1_copyFrom l Z 40 27 u rfl rfl u_5 hc_6) cw_X10_189 im_X1_copyFrom rfl se_X1_copyFrom rfl rfl rfl ⟨Nat.le_trans (Nat.le_of_ble_eq_true rfl) hRf, Nat.le_trans (Nat.le_of_ble_eq_true rfl) hRl⟩ rfl rfl (Nat.le_of_ble_eq_true rfl) dX10_exchange_37 (fun H locs hw => ?_)
        refine gm_aload_n (G := GC) (r := 1) C rfl dX10_exchange_40 rfl (lv_at hl 0 rfl) ?_
        refine gm_getS (G := GC) (u := u_5) (r := 1) (ci := 9) (k := 12) C hw rfl fl_X10_71 dX10_exchange_41 rfl (q := 40) rfl ?_
        refine lv_iload_n hx hb dX10_exchange_44 rfl (lv_at hl 1 rfl) ?_
        refine lv_iload_n hx hb dX10_exchange_45 rfl (lv_at hl 2 rfl) ?_
        obtain ⟨u_7, hc_8, hf⟩ := gm_bnd hf
        refine gm_callV (G := GC) (u := u_5) (u' := u_7) (r := 40) (ci := 0) (As := [.int a1, .int a2]) (rest := []) (res := none) C hw hl (ok_X1_changePlaces l Z 40 a1 a2 u_5 rfl u_7 hc_8) cw_X10_253 im_X1_changePlaces rfl se_X1_changePlaces rfl rfl rfl ⟨Nat.le_trans (Nat.le_of_ble_eq_true rfl) hRf, Nat.le_trans (Nat.le_of_ble_eq_true rfl) hRl⟩ rfl rfl (Nat.le_of_ble_eq_true rfl) dX10_exchange_46 (fun H locs hw => ?_)
        refine gm_aload_n (G := GC) (r := 1) C rfl dX10_exchange_49 rfl (lv_at hl 0 rfl) ?_
        refine gm_getS (G := GC) (u := u_7) (r := 1) (ci := 9) (k := 8) C hw rfl fl_X10_53 dX10_exchange_50 rfl (q := 35) rfl ?_
        refine gm_aload_n (G := GC) (r := 1) C rfl dX10_exchange_53 rfl (lv_at hl 0 rfl) ?_
        refine gm_getR (G := GC) (u := u_7) (r := 1) (ci := 9) (k := 2) C hw rfl fl_X10_19 dX10_exchange_54 rfl ?_
        obtain ⟨g_9, hf⟩ := gm_grd hf
        obtain ⟨k_10_0, k_10_1, k_10_2, k_10_3, k_10_4, k_10_5, k_10_6, k_10_7, k_10_8, k_10_9, k_10_10, k_10_11⟩ := fc_Realm g_9
        refine gm_aload_n (G := GC) (r := 1) C rfl dX10_exchange_57 rfl (lv_at hl 0 rfl) ?_
        refine gm_getS (G := GC) (u := u_7) (r := 1) (ci := 9) (k := 12) C hw rfl fl_X10_71 dX10_exchange_58 rfl (q := 40) rfl ?_
        refine gm_aload_n (G := GC) (r := 1) C rfl dX10_exchange_61 rfl (lv_at hl 0 rfl) ?_
        refine gm_getR (G := GC) (u := u_7) (r := 1) (ci := 9) (k := 2) C hw rfl fl_X10_19 dX10_exchange_62 rfl ?_
        refine gm_getI (G := GC) (u := u_7) (r := (gR u_7 1 2)) (ci := 4) (k := 6) C hw k_10_0 fl_X10_182 dX10_exchange_65 rfl ?_
        obtain ⟨⟨r_11, u_12⟩, hc_13, hf⟩ := gm_bnd hf
        try dsimp only at hf
        refine gm_callV (G := GC) (u := u_7) (u' := u_12) (r := 35) (ci := 1) (As := [rv Z (gR u_7 1 2), rv Z 40, .int (gI u_7 (gR u_7 1 2) 6)]) (rest := []) (res := (some (.int r_11))) C hw hl (ok_X2_passToDay l Z (gR u_7 1 2) 40 (gI u_7 (gR u_7 1 2) 6) u_7 g_9 rfl r_11 u_12 hc_13) cw_X10_185 im_X2_passToDay rfl se_X2_passToDay rfl rfl rfl ⟨Nat.le_trans (Nat.le_of_ble_eq_true rfl) hRf, Nat.le_trans (Nat.le_of_ble_eq_true rfl) hRl⟩ rfl rfl (Nat.le_of_ble_eq_true rfl) dX10_exchange_68 (fun H locs hw => ?_)
        exact gm_iret C E hw rfl ((congrArg (fun z => some (Value.int z)) (gm_sp hf).1).symm) (gm_sp hf).2.symm dX10_exchange_71
      · replace hf := (if_pos hc).symm.trans hf
        refine lv_iconst (v := -1) hx hb dX10_exchange_27 (by decide) ?_
        exact gm_iret C E hw rfl ((congrArg (fun z => some (Value.int z)) (gm_sp hf).1).symm) (gm_sp hf).2.symm dX10_exchange_28
/-! LeapCapital.need -/
def b_X10_need_15 (a1 : Int32) : (Int32 × gm_M) → Option ((Int32 × gm_M) ⊕ ((Int32 × gm_M) ⊕ gm_M)) := fun x => match x with | (v2_4, u_3) => if (99 : Int32) < v2_4 then some (.inr (.inr u_3)) else (f_X1_copyFrom 40 27 u_3).bind fun u_5 => if isRealm (gR u_5 1 2) = true then (f_X2_passToDay (gR u_5 1 2) 40 v2_4 u_5).bind fun o => match o with | (r_9, u_10) => if ((r_9 >>> (a1 &&& 31)) &&& (1 : Int32)) = 0 then some (.inl (v2_4 + (1 : Int32), u_10)) else some (.inr (.inl (v2_4, u_10))) else none
def f_X10_need (a1 : Int32) (u : gm_M) : Option (Int32 × gm_M) := (f_X1_isQueued 27 a1 u).bind fun r_1 => if r_1 = 0 then some ((-1 : Int32), u) else ((gm_lp (b_X10_need_15 a1) gm_FU ((1 : Int32), u)).bind fun o => match o with | .inl (w2_13, u_14) => (some (w2_13, u_14)) | .inr (u_15) => (some ((-1 : Int32), u_15)))
set_option maxRecDepth 100000 in
set_option maxHeartbeats 4000000 in
theorem ok_X10_need (l : Launch) (Z : gm_Z) (a1 : Int32) (u : gm_M)  (r : Int32) (u' : gm_M) (hf : f_X10_need a1 u = some (r, u')) : gm_Met l GC Z yX10_need cX10_need 4 (some .int) ({ frames := 6, cells := 0, slots := 0, locals := 152 }) [rv Z 1, .int a1] u (some (.int r)) u' := by
  unfold f_X10_need at hf
  refine gm_ofW (by decide +kernel) (Nat.le_of_ble_eq_true rfl) ?_
  intro p e s m args below meth c A ls Q R hRf hRl C E hl hw
  obtain ⟨hx, hb, -⟩ := id C
  have hl : lv_has ls 4 [(0, rv Z 1), (1, .int a1)] := hl
  refine gm_aload_n (G := GC) (r := 1) C rfl dX10_need_0 rfl (lv_at hl 0 rfl) ?_
  refine gm_getS (G := GC) (u := u) (r := 1) (ci := 9) (k := 6) C hw rfl fl_X10_39 dX10_need_1 rfl (q := 27) rfl ?_
  refine lv_iload_n hx hb dX10_need_4 rfl (lv_at hl 1 rfl) ?_
  obtain ⟨r_1, hc_2, hf⟩ := gm_bnd hf
  refine gm_callV (G := GC) (u := u) (u' := u) (r := 27) (ci := 0) (As := [.int a1]) (rest := []) (res := (some (.int r_1))) C hw hl (ok_X1_isQueued l Z 27 a1 u rfl r_1 hc_2) cw_X10_149 im_X1_isQueued rfl se_X1_isQueued rfl rfl rfl ⟨Nat.le_trans (Nat.le_of_ble_eq_true rfl) hRf, Nat.le_trans (Nat.le_of_ble_eq_true rfl) hRl⟩ rfl rfl (Nat.le_of_ble_eq_true rfl) dX10_need_5 (fun H locs hw => ?_)
  refine lv_if_ne (tgt := 13) hx hb dX10_need_8 (by decide) (fun hc => ?_) (fun hc => ?_)
  · replace hf := (if_neg hc).symm.trans hf
    refine lv_iconst (v := 1) hx hb dX10_need_13 (by decide) ?_
    refine lv_istore_n (i := 2) (lv' := [(2, .int (1 : Int32)), (0, rv Z 1), (1, .int a1)]) hx hb dX10_need_14 rfl hl (by decide) rfl (fun ls hl => ?_)
    obtain ⟨o1, hlp, hf⟩ := gm_bnd hf
    have L15_1 := gm_loop (b_X10_need_15 a1) (fun x : (Int32 × gm_M) => ∀ (H : Heap) (locs : List Loc) (ls : Array Slot), lv_has ls 4 [(0, rv Z 1), (1, .int a1), (2, .int x.1)] → wd GC Z x.2 A s.heap H locs → W p l e R s m args below meth c H locs 0 0 Q (F0 m 15 ls [])) (fun z : ((Int32 × gm_M) ⊕ gm_M) => match z with | .inl q0 => ∀ (H : Heap) (locs : List Loc) (ls : Array Slot), lv_has ls 4 [(2, .int q0.1)] → wd GC Z q0.2 A s.heap H locs → W p l e R s m args below meth c H locs 0 0 Q (F0 m 57 ls []) | .inr p0 => ∀ (H : Heap) (locs : List Loc) (ls : Array Slot), lv_has ls 4 [] → wd GC Z p0 A s.heap H locs → W p l e R s m args below meth c H locs 0 0 Q (F0 m 65 ls [])) (by
      intro x o1 hf Kc Kx
      obtain ⟨v2_4, u_3⟩ := x
      intro H locs ls hl hw
      unfold b_X10_need_15 at hf
      try dsimp only at hf
      refine lv_iload_n hx hb dX10_need_15 rfl (lv_at hl 2 rfl) ?_
      refine lv_bipush (v := 99) hx hb dX10_need_16 (by decide) ?_
      refine lv_icmp_gt (tgt := 65) hx hb dX10_need_18 (by decide) (fun hc => ?_) (fun hc => ?_)
      · replace hf := (if_pos hc).symm.trans hf
        exact Kx _ (gm_si hf) _ _ _ (lv_sub hl [] rfl) hw
      · replace hf := (if_neg hc).symm.trans hf
        refine gm_aload_n (G := GC) (r := 1) C rfl dX10_need_21 rfl (lv_at hl 0 rfl) ?_
        refine gm_getS (G := GC) (u := u_3) (r := 1) (ci := 9) (k := 12) C hw rfl fl_X10_71 dX10_need_22 rfl (q := 40) rfl ?_
        refine gm_aload_n (G := GC) (r := 1) C rfl dX10_need_25 rfl (lv_at hl 0 rfl) ?_
        refine gm_getS (G := GC) (u := u_3) (r := 1) (ci := 9) (k := 6) C hw rfl fl_X10_39 dX10_need_26 rfl (q := 27) rfl ?_
        obtain ⟨u_5, hc_6, hf⟩ := gm_bnd hf
        refine gm_callV (G := GC) (u := u_3) (u' := u_5) (r := 40) (ci := 0) (As := [rv Z 27]) (rest := []) (res := none) C hw hl (ok_X1_copyFrom l Z 40 27 u_3 rfl rfl u_5 hc_6) cw_X10_189 im_X1_copyFrom rfl se_X1_copyFrom rfl rfl rfl ⟨Nat.le_trans (Nat.le_of_ble_eq_true rfl) hRf, Nat.le_trans (Nat.le_of_ble_eq_true rfl) hRl⟩ rfl rfl (Nat.le_of_ble_eq_true rfl) dX10_need_29 (fun H locs hw => ?_)
        refine gm_aload_n (G := GC) (r := 1) C rfl dX10_need_32 rfl (lv_at hl 0 rfl) ?_
        refine gm_getS (G := GC) (u := u_5) (r := 1) (ci := 9) (k := 8) C hw rfl fl_X10_53 dX10_need_33 rfl (q := 35) rfl ?_
        refine gm_aload_n (G := GC) (r := 1) C rfl dX10_need_36 rfl (lv_at hl 0 rfl) ?_
        refine gm_getR (G := GC) (u := u_5) (r := 1) (ci := 9) (k := 2) C hw rfl fl_X10_19 dX10_need_37 rfl ?_
        obtain ⟨g_7, hf⟩ := gm_grd hf
        obtain ⟨k_8_0, k_8_1, k_8_2, k_8_3, k_8_4, k_8_5, k_8_6, k_8_7, k_8_8, k_8_9, k_8_10, k_8_11⟩ := fc_Realm g_7
        refine gm_aload_n (G := GC) (r := 1) C rfl dX10_need_40 rfl (lv_at hl 0 rfl) ?_
        refine gm_getS (G := GC) (u := u_5) (r := 1) (ci := 9) (k := 12) C hw rfl fl_X10_71 dX10_need_41 rfl (q := 40) rfl ?_
        refine lv_iload_n hx hb dX10_need_44 rfl (lv_at hl 2 rfl) ?_
        obtain ⟨⟨r_9, u_10⟩, hc_11, hf⟩ := gm_bnd hf
        try dsimp only at hf
        refine gm_callV (G := GC) (u := u_5) (u' := u_10) (r := 35) (ci := 1) (As := [rv Z (gR u_5 1 2), rv Z 40, .int v2_4]) (rest := []) (res := (some (.int r_9))) C hw hl (ok_X2_passToDay l Z (gR u_5 1 2) 40 v2_4 u_5 g_7 rfl r_9 u_10 hc_11) cw_X10_185 im_X2_passToDay rfl se_X2_passToDay rfl rfl rfl ⟨Nat.le_trans (Nat.le_of_ble_eq_true rfl) hRf, Nat.le_trans (Nat.le_of_ble_eq_true rfl) hRl⟩ rfl rfl (Nat.le_of_ble_eq_true rfl) dX10_need_45 (fun H locs hw => ?_)
        refine lv_istore_n (i := 3) (lv' := [(3, .int r_9), (0, rv Z 1), (1, .int a1), (2, .int v2_4)]) hx hb dX10_need_48 rfl hl (by decide) rfl (fun ls hl => ?_)
        refine lv_iload_n hx hb dX10_need_49 rfl (lv_at hl 0 rfl) ?_
        refine lv_iload_n hx hb dX10_need_50 rfl (lv_at hl 2 rfl) ?_
        refine lv_ishr hx hb dX10_need_51 ?_
        refine lv_iconst (v := 1) hx hb dX10_need_52 (by decide) ?_
        refine lv_iand hx hb dX10_need_53 ?_
        refine lv_if_eq (tgt := 59) hx hb dX10_need_54 (by decide) (fun hc => ?_) (fun hc => ?_)
        · replace hf := (if_pos hc).symm.trans hf
          refine lv_iinc (v := v2_4 + (1 : Int32)) (lv' := [(2, .int (v2_4 + (1 : Int32))), (3, .int r_9), (0, rv Z 1), (1, .int a1)]) hx hb dX10_need_59 hl (k := 3) rfl rfl (by decide) rfl (fun ls hl => ?_)
          refine lv_goto (tgt := 15) hx hb dX10_need_62 (by decide) ?_
          exact Kc _ (gm_si hf) _ _ _ (lv_sub hl [2, 3, 0] rfl) hw
        · replace hf := (if_neg hc).symm.trans hf
          exact Kx _ (gm_si hf) _ _ _ (lv_sub hl [3] rfl) hw)
    refine L15_1 _ _ _ hlp ?_ _ _ _ (lv_sub hl [1, 2, 0] rfl) hw
    cases o1 with
    | inl q0_z_16 =>
      obtain ⟨w2_13, u_14⟩ := q0_z_16
      intro H locs ls hl hw
      try dsimp only at hf
      refine lv_iload_n hx hb dX10_need_57 rfl (lv_at hl 0 rfl) ?_
      exact gm_iret C E hw rfl ((congrArg (fun z => some (Value.int z)) (gm_sp hf).1).symm) (gm_sp hf).2.symm dX10_need_58
    | inr p0_z_16 =>
      obtain ⟨u_15, rfl⟩ : ∃ y, y = p0_z_16 := ⟨_, rfl⟩
      intro H locs ls hl hw
      try dsimp only at hf
      refine lv_iconst (v := -1) hx hb dX10_need_65 (by decide) ?_
      exact gm_iret C E hw rfl ((congrArg (fun z => some (Value.int z)) (gm_sp hf).1).symm) (gm_sp hf).2.symm dX10_need_66
  · replace hf := (if_pos hc).symm.trans hf
    refine lv_iconst (v := -1) hx hb dX10_need_11 (by decide) ?_
    exact gm_iret C E hw rfl ((congrArg (fun z => some (Value.int z)) (gm_sp hf).1).symm) (gm_sp hf).2.symm dX10_need_12
/-! LeapCapital.heardBehind -/
def b_X10_heardBehind_13 (a1 : Int32) (a2 : Int32) : (Int32 × gm_M) → Option ((Int32 × gm_M) ⊕ gm_M) := fun x => match x with | (v3_4, u_3) => if a1 ≤ v3_4 then some (.inr u_3) else if isRealm (gR u_3 1 2) = true then (f_X2_passYear (gR u_3 1 2) 40 a2 u_3).bind fun o => match o with | (r_7, u_8) => some (.inl (v3_4 + (1 : Int32), u_8)) else none
def f_X10_heardBehind (a1 : Int32) (a2 : Int32) (u : gm_M) : Option (Int32 × gm_M) := (f_X1_copyFrom 40 27 u).bind fun u_1 => ((gm_lp (b_X10_heardBehind_13 a1 a2) gm_FU ((0 : Int32), u_1)).bind fun o => match o with | u_11 => some (gI u_11 40 2, u_11))
set_option maxRecDepth 100000 in
set_option maxHeartbeats 4000000 in
theorem ok_X10_heardBehind (l : Launch) (Z : gm_Z) (a1 : Int32) (a2 : Int32) (u : gm_M)  (r : Int32) (u' : gm_M) (hf : f_X10_heardBehind a1 a2 u = some (r, u')) : gm_Met l GC Z yX10_heardBehind cX10_heardBehind 4 (some .int) ({ frames := 6, cells := 0, slots := 0, locals := 154 }) [rv Z 1, .int a1, .int a2] u (some (.int r)) u' := by
  unfold f_X10_heardBehind at hf
  refine gm_ofW (by decide +kernel) (Nat.le_of_ble_eq_true rfl) ?_
  intro p e s m args below meth c A ls Q R hRf hRl C E hl hw
  obtain ⟨hx, hb, -⟩ := id C
  have hl : lv_has ls 4 [(0, rv Z 1), (1, .int a1), (2, .int a2)] := hl
  refine gm_aload_n (G := GC) (r := 1) C rfl dX10_heardBehind_0 rfl (lv_at hl 0 rfl) ?_
  refine gm_getS (G := GC) (u := u) (r := 1) (ci := 9) (k := 12) C hw rfl fl_X10_71 dX10_heardBehind_1 rfl (q := 40) rfl ?_
  refine gm_aload_n (G := GC) (r := 1) C rfl dX10_heardBehind_4 rfl (lv_at hl 0 rfl) ?_
  refine gm_getS (G := GC) (u := u) (r := 1) (ci := 9) (k := 6) C hw rfl fl_X10_39 dX10_heardBehind_5 rfl (q := 27) rfl ?_
  obtain ⟨u_1, hc_2, hf⟩ := gm_bnd hf
  refine gm_callV (G := GC) (u := u) (u' := u_1) (r := 40) (ci := 0) (As := [rv Z 27]) (rest := []) (res := none) C hw hl (ok_X1_copyFrom l Z 40 27 u rfl rfl u_1 hc_2) cw_X10_189 im_X1_copyFrom rfl se_X1_copyFrom rfl rfl rfl ⟨Nat.le_trans (Nat.le_of_ble_eq_true rfl) hRf, Nat.le_trans (Nat.le_of_ble_eq_true rfl) hRl⟩ rfl rfl (Nat.le_of_ble_eq_true rfl) dX10_heardBehind_8 (fun H locs hw => ?_)
  refine lv_iconst (v := 0) hx hb dX10_heardBehind_11 (by decide) ?_
  refine lv_istore_n (i := 3) (lv' := [(3, .int (0 : Int32)), (0, rv Z 1), (1, .int a1), (2, .int a2)]) hx hb dX10_heardBehind_12 rfl hl (by decide) rfl (fun ls hl => ?_)
  obtain ⟨o1, hlp, hf⟩ := gm_bnd hf
  have L13_1 := gm_loop (b_X10_heardBehind_13 a1 a2) (fun x : (Int32 × gm_M) => ∀ (H : Heap) (locs : List Loc) (ls : Array Slot), lv_has ls 4 [(0, rv Z 1), (1, .int a1), (2, .int a2), (3, .int x.1)] → wd GC Z x.2 A s.heap H locs → W p l e R s m args below meth c H locs 0 0 Q (F0 m 13 ls [])) (fun z : gm_M => ∀ (H : Heap) (locs : List Loc) (ls : Array Slot), lv_has ls 4 [(0, rv Z 1)] → wd GC Z z A s.heap H locs → W p l e R s m args below meth c H locs 0 0 Q (F0 m 41 ls [])) (by
    intro x o1 hf Kc Kx
    obtain ⟨v3_4, u_3⟩ := x
    intro H locs ls hl hw
    unfold b_X10_heardBehind_13 at hf
    try dsimp only at hf
    refine lv_iload_n hx hb dX10_heardBehind_13 rfl (lv_at hl 3 rfl) ?_
    refine lv_iload_n hx hb dX10_heardBehind_14 rfl (lv_at hl 1 rfl) ?_
    refine lv_icmp_ge (tgt := 41) hx hb dX10_heardBehind_15 (by decide) (fun hc => ?_) (fun hc => ?_)
    · replace hf := (if_pos hc).symm.trans hf
      exact Kx _ (gm_si hf) _ _ _ (lv_sub hl [0] rfl) hw
    · replace hf := (if_neg hc).symm.trans hf
      refine gm_aload_n (G := GC) (r := 1) C rfl dX10_heardBehind_18 rfl (lv_at hl 0 rfl) ?_
      refine gm_getS (G := GC) (u := u_3) (r := 1) (ci := 9) (k := 8) C hw rfl fl_X10_53 dX10_heardBehind_19 rfl (q := 35) rfl ?_
      refine gm_aload_n (G := GC) (r := 1) C rfl dX10_heardBehind_22 rfl (lv_at hl 0 rfl) ?_
      refine gm_getR (G := GC) (u := u_3) (r := 1) (ci := 9) (k := 2) C hw rfl fl_X10_19 dX10_heardBehind_23 rfl ?_
      obtain ⟨g_5, hf⟩ := gm_grd hf
      obtain ⟨k_6_0, k_6_1, k_6_2, k_6_3, k_6_4, k_6_5, k_6_6, k_6_7, k_6_8, k_6_9, k_6_10, k_6_11⟩ := fc_Realm g_5
      refine gm_aload_n (G := GC) (r := 1) C rfl dX10_heardBehind_26 rfl (lv_at hl 0 rfl) ?_
      refine gm_getS (G := GC) (u := u_3) (r := 1) (ci := 9) (k := 12) C hw rfl fl_X10_71 dX10_heardBehind_27 rfl (q := 40) rfl ?_
      refine lv_iload_n hx hb dX10_heardBehind_30 rfl (lv_at hl 2 rfl) ?_
      obtain ⟨⟨r_7, u_8⟩, hc_9, hf⟩ := gm_bnd hf
      try dsimp only at hf
      refine gm_callV (G := GC) (u := u_3) (u' := u_8) (r := 35) (ci := 1) (As := [rv Z (gR u_3 1 2), rv Z 40, .int a2]) (rest := []) (res := (some (.int r_7))) C hw hl (ok_X2_passYear l Z (gR u_3 1 2) 40 a2 u_3 g_5 rfl r_7 u_8 hc_9) cw_X10_178 im_X2_passYear rfl se_X2_passYear rfl rfl rfl ⟨Nat.le_trans (Nat.le_of_ble_eq_true rfl) hRf, Nat.le_trans (Nat.le_of_ble_eq_true rfl) hRl⟩ rfl rfl (Nat.le_of_ble_eq_true rfl) dX10_heardBehind_31 (fun H locs hw => ?_)
      refine lv_pop hx hb dX10_heardBehind_34 rfl ?_
      refine lv_iinc (v := v3_4 + (1 : Int32)) (lv' := [(3, .int (v3_4 + (1 : Int32))), (0, rv Z 1), (1, .int a1), (2, .int a2)]) hx hb dX10_heardBehind_35 hl (k := 3) rfl rfl (by decide) rfl (fun ls hl => ?_)
      refine lv_goto (tgt := 13) hx hb dX10_heardBehind_38 (by decide) ?_
      exact Kc _ (gm_si hf) _ _ _ (lv_sub hl [1, 2, 3, 0] rfl) hw)
  refine L13_1 _ _ _ hlp ?_ _ _ _ (lv_sub hl [1, 2, 3, 0] rfl) hw
  obtain ⟨u_11, rfl⟩ : ∃ y, y = o1 := ⟨_, rfl⟩
  intro H locs ls hl hw
  try dsimp only at hf
  refine gm_aload_n (G := GC) (r := 1) C rfl dX10_heardBehind_41 rfl (lv_at hl 0 rfl) ?_
  refine gm_getS (G := GC) (u := u_11) (r := 1) (ci := 9) (k := 12) C hw rfl fl_X10_71 dX10_heardBehind_42 rfl (q := 40) rfl ?_
  refine gm_getI (G := GC) (u := u_11) (r := 40) (ci := 0) (k := 2) C hw rfl fl_X10_139 dX10_heardBehind_45 rfl ?_
  exact gm_iret C E hw rfl ((congrArg (fun z => some (Value.int z)) (gm_sp hf).1).symm) (gm_sp hf).2.symm dX10_heardBehind_48
/-! LeapCapital.julian -/
def f_X10_julian (a1 : Int32) (u : gm_M) : Option (Int32 × gm_M) := if a1 < (1 : Int32) then some ((-1 : Int32), u) else if a1 ≤ (99 : Int32) then (f_X10_heardBehind a1 (1 : Int32) u).bind fun o => match o with | (r_1, u_2) => (f_X10_heardBehind a1 (0 : Int32) u_2).bind fun o => match o with | (r_5, u_6) => some (r_1 &&& (r_5 ^^^ (-1 : Int32)), u_6) else some ((-1 : Int32), u)
set_option maxRecDepth 100000 in
set_option maxHeartbeats 4000000 in
theorem ok_X10_julian (l : Launch) (Z : gm_Z) (a1 : Int32) (u : gm_M)  (r : Int32) (u' : gm_M) (hf : f_X10_julian a1 u = some (r, u')) : gm_Met l GC Z yX10_julian cX10_julian 2 (some .int) ({ frames := 7, cells := 0, slots := 0, locals := 177 }) [rv Z 1, .int a1] u (some (.int r)) u' := by
  unfold f_X10_julian at hf
  refine gm_ofW (by decide +kernel) (Nat.le_of_ble_eq_true rfl) ?_
  intro p e s m args below meth c A ls Q R hRf hRl C E hl hw
  obtain ⟨hx, hb, -⟩ := id C
  have hl : lv_has ls 2 [(0, rv Z 1), (1, .int a1)] := hl
  refine lv_iload_n hx hb dX10_julian_0 rfl (lv_at hl 1 rfl) ?_
  refine lv_iconst (v := 1) hx hb dX10_julian_1 (by decide) ?_
  refine lv_icmp_lt (tgt := 11) hx hb dX10_julian_2 (by decide) (fun hc => ?_) (fun hc => ?_)
  · replace hf := (if_pos hc).symm.trans hf
    refine lv_iconst (v := -1) hx hb dX10_julian_11 (by decide) ?_
    exact gm_iret C E hw rfl ((congrArg (fun z => some (Value.int z)) (gm_sp hf).1).symm) (gm_sp hf).2.symm dX10_julian_12
  · replace hf := (if_neg hc).symm.trans hf
    refine lv_iload_n hx hb dX10_julian_5 rfl (lv_at hl 1 rfl) ?_
    refine lv_bipush (v := 99) hx hb dX10_julian_6 (by decide) ?_
    refine lv_icmp_le (tgt := 13) hx hb dX10_julian_8 (by decide) (fun hc => ?_) (fun hc => ?_)
    · replace hf := (if_pos hc).symm.trans hf
      refine gm_aload_n (G := GC) (r := 1) C rfl dX10_julian_13 rfl (lv_at hl 0 rfl) ?_
      refine lv_iload_n hx hb dX10_julian_14 rfl (lv_at hl 1 rfl) ?_
      refine lv_iconst (v := 1) hx hb dX10_julian_15 (by decide) ?_
      obtain ⟨⟨r_1, u_2⟩, hc_3, hf⟩ := gm_bnd hf
      try dsimp only at hf
      refine gm_callV (G := GC) (u := u) (u' := u_2) (r := 1) (ci := 9) (As := [.int a1, .int (1 : Int32)]) (rest := []) (res := (some (.int r_1))) C hw hl (ok_X10_heardBehind l Z a1 (1 : Int32) u r_1 u_2 hc_3) cw_X10_257 im_X10_heardBehind rfl se_X10_heardBehind rfl rfl rfl ⟨Nat.le_trans (Nat.le_of_ble_eq_true rfl) hRf, Nat.le_trans (Nat.le_of_ble_eq_true rfl) hRl⟩ rfl rfl (Nat.le_of_ble_eq_true rfl) dX10_julian_16 (fun H locs hw => ?_)
      refine gm_aload_n (G := GC) (r := 1) C rfl dX10_julian_19 rfl (lv_at hl 0 rfl) ?_
      refine lv_iload_n hx hb dX10_julian_20 rfl (lv_at hl 1 rfl) ?_
      refine lv_iconst (v := 0) hx hb dX10_julian_21 (by decide) ?_
      obtain ⟨⟨r_5, u_6⟩, hc_7, hf⟩ := gm_bnd hf
      try dsimp only at hf
      refine gm_callV (G := GC) (u := u_2) (u' := u_6) (r := 1) (ci := 9) (As := [.int a1, .int (0 : Int32)]) (rest := [.int r_1]) (res := (some (.int r_5))) C hw hl (ok_X10_heardBehind l Z a1 (0 : Int32) u_2 r_5 u_6 hc_7) cw_X10_257 im_X10_heardBehind rfl se_X10_heardBehind rfl rfl rfl ⟨Nat.le_trans (Nat.le_of_ble_eq_true rfl) hRf, Nat.le_trans (Nat.le_of_ble_eq_true rfl) hRl⟩ rfl rfl (Nat.le_of_ble_eq_true rfl) dX10_julian_22 (fun H locs hw => ?_)
      refine lv_iconst (v := -1) hx hb dX10_julian_25 (by decide) ?_
      refine lv_ixor hx hb dX10_julian_26 ?_
      refine lv_iand hx hb dX10_julian_27 ?_
      exact gm_iret C E hw rfl ((congrArg (fun z => some (Value.int z)) (gm_sp hf).1).symm) (gm_sp hf).2.symm dX10_julian_28
    · replace hf := (if_neg hc).symm.trans hf
      refine lv_iconst (v := -1) hx hb dX10_julian_11 (by decide) ?_
      exact gm_iret C E hw rfl ((congrArg (fun z => some (Value.int z)) (gm_sp hf).1).symm) (gm_sp hf).2.symm dX10_julian_12
/-! LeapCapital.stale -/
def f_X10_stale  (u : gm_M) : Option (Int32 × gm_M) := (f_X10_heardBehind (99 : Int32) (0 : Int32) u).bind fun o => match o with | (r_1, u_2) => (f_X1_queueBits 27 u_2).bind fun r_5 => (f_X1_queueBits 40 u_2).bind fun r_7 => some ((r_5 &&& (r_7 ^^^ (-1 : Int32))) &&& (r_1 ^^^ (-1 : Int32)), u_2)
set_option maxRecDepth 100000 in
set_option maxHeartbeats 4000000 in
theorem ok_X10_stale (l : Launch) (Z : gm_Z)  (u : gm_M)  (r : Int32) (u' : gm_M) (hf : f_X10_stale u = some (r, u')) : gm_Met l GC Z yX10_stale cX10_stale 2 (some .int) ({ frames := 7, cells := 0, slots := 0, locals := 177 }) [rv Z 1] u (some (.int r)) u' := by
  unfold f_X10_stale at hf
  refine gm_ofW (by decide +kernel) (Nat.le_of_ble_eq_true rfl) ?_
  intro p e s m args below meth c A ls Q R hRf hRl C E hl hw
  obtain ⟨hx, hb, -⟩ := id C
  have hl : lv_has ls 2 [(0, rv Z 1)] := hl
  refine gm_aload_n (G := GC) (r := 1) C rfl dX10_stale_0 rfl (lv_at hl 0 rfl) ?_
  refine lv_bipush (v := 99) hx hb dX10_stale_1 (by decide) ?_
  refine lv_iconst (v := 0) hx hb dX10_stale_3 (by decide) ?_
  obtain ⟨⟨r_1, u_2⟩, hc_3, hf⟩ := gm_bnd hf
  try dsimp only at hf
  refine gm_callV (G := GC) (u := u) (u' := u_2) (r := 1) (ci := 9) (As := [.int (99 : Int32), .int (0 : Int32)]) (rest := []) (res := (some (.int r_1))) C hw hl (ok_X10_heardBehind l Z (99 : Int32) (0 : Int32) u r_1 u_2 hc_3) cw_X10_257 im_X10_heardBehind rfl se_X10_heardBehind rfl rfl rfl ⟨Nat.le_trans (Nat.le_of_ble_eq_true rfl) hRf, Nat.le_trans (Nat.le_of_ble_eq_true rfl) hRl⟩ rfl rfl (Nat.le_of_ble_eq_true rfl) dX10_stale_4 (fun H locs hw => ?_)
  refine lv_istore_n (i := 1) (lv' := [(1, .int r_1), (0, rv Z 1)]) hx hb dX10_stale_7 rfl hl (by decide) rfl (fun ls hl => ?_)
  refine gm_aload_n (G := GC) (r := 1) C rfl dX10_stale_8 rfl (lv_at hl 1 rfl) ?_
  refine gm_getS (G := GC) (u := u_2) (r := 1) (ci := 9) (k := 6) C hw rfl fl_X10_39 dX10_stale_9 rfl (q := 27) rfl ?_
  obtain ⟨r_5, hc_6, hf⟩ := gm_bnd hf
  refine gm_callV (G := GC) (u := u_2) (u' := u_2) (r := 27) (ci := 0) (As := []) (rest := []) (res := (some (.int r_5))) C hw hl (ok_X1_queueBits l Z 27 u_2 rfl r_5 hc_6) cw_X10_261 im_X1_queueBits rfl se_X1_queueBits rfl rfl rfl ⟨Nat.le_trans (Nat.le_of_ble_eq_true rfl) hRf, Nat.le_trans (Nat.le_of_ble_eq_true rfl) hRl⟩ rfl rfl (Nat.le_of_ble_eq_true rfl) dX10_stale_12 (fun H locs hw => ?_)
  refine gm_aload_n (G := GC) (r := 1) C rfl dX10_stale_15 rfl (lv_at hl 1 rfl) ?_
  refine gm_getS (G := GC) (u := u_2) (r := 1) (ci := 9) (k := 12) C hw rfl fl_X10_71 dX10_stale_16 rfl (q := 40) rfl ?_
  obtain ⟨r_7, hc_8, hf⟩ := gm_bnd hf
  refine gm_callV (G := GC) (u := u_2) (u' := u_2) (r := 40) (ci := 0) (As := []) (rest := [.int r_5]) (res := (some (.int r_7))) C hw hl (ok_X1_queueBits l Z 40 u_2 rfl r_7 hc_8) cw_X10_261 im_X1_queueBits rfl se_X1_queueBits rfl rfl rfl ⟨Nat.le_trans (Nat.le_of_ble_eq_true rfl) hRf, Nat.le_trans (Nat.le_of_ble_eq_true rfl) hRl⟩ rfl rfl (Nat.le_of_ble_eq_true rfl) dX10_stale_19 (fun H locs hw => ?_)
  refine lv_iconst (v := -1) hx hb dX10_stale_22 (by decide) ?_
  refine lv_ixor hx hb dX10_stale_23 ?_
  refine lv_iand hx hb dX10_stale_24 ?_
  refine lv_iload_n hx hb dX10_stale_25 rfl (lv_at hl 0 rfl) ?_
  refine lv_iconst (v := -1) hx hb dX10_stale_26 (by decide) ?_
  refine lv_ixor hx hb dX10_stale_27 ?_
  refine lv_iand hx hb dX10_stale_28 ?_
  exact gm_iret C E hw rfl ((congrArg (fun z => some (Value.int z)) (gm_sp hf).1).symm) (gm_sp hf).2.symm dX10_stale_29
/-! LeapCapital.thinOut -/
def b_X10_thinOut_19 (a1 : Int32) (a2 : Int32) (a3 : Int32) : (Int32 × Int32 × gm_M) → Option ((Int32 × Int32 × gm_M) ⊕ ((Int32 × gm_M))) := fun x => match x with | (v4_4, v5_5, u_3) => if (6 : Int32) ≤ v5_5 then some (.inr (v4_4, u_3)) else if ((a1 >>> (v5_5 &&& 31)) &&& (1 : Int32)) = 0 then some (.inl (v4_4, v5_5 + (1 : Int32), u_3)) else if ((a2 >>> (v5_5 &&& 31)) &&& (1 : Int32)) = 0 then gm_let ((v4_4 / (10 : Int32)) * ((10 : Int32) - a3)) fun v4_6 => (f_X1_goOut 40 v5_5 u_3).bind fun u_7 => some (.inl (v4_6, v5_5 + (1 : Int32), u_7)) else gm_let ((v4_4 / (10 : Int32)) * a3) fun v4_9 => some (.inl (v4_9, v5_5 + (1 : Int32), u_3))
def f_X10_thinOut (a1 : Int32) (a2 : Int32) (a3 : Int32) (u : gm_M) : Option (Int32 × gm_M) := (f_X1_copyFrom 40 27 u).bind fun u_1 => ((gm_lp (b_X10_thinOut_19 a1 a2 a3) gm_FU ((1000000 : Int32), (0 : Int32), u_1)).bind fun o => match o with | (w4_10, u_11) => some (w4_10, u_11))
set_option maxRecDepth 100000 in
set_option maxHeartbeats 4000000 in
theorem ok_X10_thinOut (l : Launch) (Z : gm_Z) (a1 : Int32) (a2 : Int32) (a3 : Int32) (u : gm_M)  (r : Int32) (u' : gm_M) (hf : f_X10_thinOut a1 a2 a3 u = some (r, u')) : gm_Met l GC Z yX10_thinOut cX10_thinOut 6 (some .int) ({ frames := 2, cells := 0, slots := 0, locals := 45 }) [rv Z 1, .int a1, .int a2, .int a3] u (some (.int r)) u' := by
  unfold f_X10_thinOut at hf
  refine gm_ofW (by decide +kernel) (Nat.le_of_ble_eq_true rfl) ?_
  intro p e s m args below meth c A ls Q R hRf hRl C E hl hw
  obtain ⟨hx, hb, -⟩ := id C
  have hl : lv_has ls 6 [(0, rv Z 1), (1, .int a1), (2, .int a2), (3, .int a3)] := hl
  refine gm_aload_n (G := GC) (r := 1) C rfl dX10_thinOut_0 rfl (lv_at hl 0 rfl) ?_
  refine gm_getS (G := GC) (u := u) (r := 1) (ci := 9) (k := 12) C hw rfl fl_X10_71 dX10_thinOut_1 rfl (q := 40) rfl ?_
  refine gm_aload_n (G := GC) (r := 1) C rfl dX10_thinOut_4 rfl (lv_at hl 0 rfl) ?_
  refine gm_getS (G := GC) (u := u) (r := 1) (ci := 9) (k := 6) C hw rfl fl_X10_39 dX10_thinOut_5 rfl (q := 27) rfl ?_
  obtain ⟨u_1, hc_2, hf⟩ := gm_bnd hf
  refine gm_callV (G := GC) (u := u) (u' := u_1) (r := 40) (ci := 0) (As := [rv Z 27]) (rest := []) (res := none) C hw hl (ok_X1_copyFrom l Z 40 27 u rfl rfl u_1 hc_2) cw_X10_189 im_X1_copyFrom rfl se_X1_copyFrom rfl rfl rfl ⟨Nat.le_trans (Nat.le_of_ble_eq_true rfl) hRf, Nat.le_trans (Nat.le_of_ble_eq_true rfl) hRl⟩ rfl rfl (Nat.le_of_ble_eq_true rfl) dX10_thinOut_8 (fun H locs hw => ?_)
  refine lv_ldcw hx hb C.2.2.2.1 (C.2.2.2.2.1 _ kn_X10_269) dX10_thinOut_11 ?_
  refine lv_istore (i := 4) (lv' := [(4, .int (1000000 : Int32)), (0, rv Z 1), (1, .int a1), (2, .int a2), (3, .int a3)]) hx hb dX10_thinOut_14 hl (by decide) rfl (fun ls hl => ?_)
  refine lv_iconst (v := 0) hx hb dX10_thinOut_16 (by decide) ?_
  refine lv_istore (i := 5) (lv' := [(5, .int (0 : Int32)), (4, .int (1000000 : Int32)), (0, rv Z 1), (1, .int a1), (2, .int a2), (3, .int a3)]) hx hb dX10_thinOut_17 hl (by decide) rfl (fun ls hl => ?_)
  obtain ⟨o1, hlp, hf⟩ := gm_bnd hf
  have L19_1 := gm_loop (b_X10_thinOut_19 a1 a2 a3) (fun x : (Int32 × Int32 × gm_M) => ∀ (H : Heap) (locs : List Loc) (ls : Array Slot), lv_has ls 6 [(0, rv Z 1), (1, .int a1), (2, .int a2), (3, .int a3), (4, .int x.1), (5, .int x.2.1)] → wd GC Z x.2.2 A s.heap H locs → W p l e R s m args below meth c H locs 0 0 Q (F0 m 19 ls [])) (fun z : ((Int32 × gm_M)) => ∀ (H : Heap) (locs : List Loc) (ls : Array Slot), lv_has ls 6 [(4, .int z.1)] → wd GC Z z.2 A s.heap H locs → W p l e R s m args below meth c H locs 0 0 Q (F0 m 86 ls [])) (by
    intro x o1 hf Kc Kx
    obtain ⟨v4_4, v5_5, u_3⟩ := x
    intro H locs ls hl hw
    unfold b_X10_thinOut_19 at hf
    try dsimp only at hf
    refine lv_iload hx hb dX10_thinOut_19 (lv_at hl 5 rfl) ?_
    refine lv_bipush (v := 6) hx hb dX10_thinOut_21 (by decide) ?_
    refine lv_icmp_ge (tgt := 86) hx hb dX10_thinOut_23 (by decide) (fun hc => ?_) (fun hc => ?_)
    · replace hf := (if_pos hc).symm.trans hf
      exact Kx _ (gm_si hf) _ _ _ (lv_sub hl [4] rfl) hw
    · replace hf := (if_neg hc).symm.trans hf
      refine lv_iload_n hx hb dX10_thinOut_26 rfl (lv_at hl 1 rfl) ?_
      refine lv_iload hx hb dX10_thinOut_27 (lv_at hl 5 rfl) ?_
      refine lv_ishr hx hb dX10_thinOut_29 ?_
      refine lv_iconst (v := 1) hx hb dX10_thinOut_30 (by decide) ?_
      refine lv_iand hx hb dX10_thinOut_31 ?_
      refine lv_if_ne (tgt := 38) hx hb dX10_thinOut_32 (by decide) (fun hc => ?_) (fun hc => ?_)
      · replace hf := (if_neg hc).symm.trans hf
        refine lv_iload_n hx hb dX10_thinOut_38 rfl (lv_at hl 2 rfl) ?_
        refine lv_iload hx hb dX10_thinOut_39 (lv_at hl 5 rfl) ?_
        refine lv_ishr hx hb dX10_thinOut_41 ?_
        refine lv_iconst (v := 1) hx hb dX10_thinOut_42 (by decide) ?_
        refine lv_iand hx hb dX10_thinOut_43 ?_
        refine lv_if_eq (tgt := 59) hx hb dX10_thinOut_44 (by decide) (fun hc => ?_) (fun hc => ?_)
        · replace hf := (if_pos hc).symm.trans hf
          refine lv_iload hx hb dX10_thinOut_59 (lv_at hl 4 rfl) ?_
          refine lv_bipush (v := 10) hx hb dX10_thinOut_61 (by decide) ?_
          refine lv_idiv hx hb dX10_thinOut_63 (by decide) ?_
          refine lv_bipush (v := 10) hx hb dX10_thinOut_64 (by decide) ?_
          refine lv_iload_n hx hb dX10_thinOut_66 rfl (lv_at hl 3 rfl) ?_
          refine lv_isub hx hb dX10_thinOut_67 ?_
          refine lv_imul hx hb dX10_thinOut_68 ?_
          obtain ⟨v4_6, e_v4_6, hf⟩ := gm_le hf
          refine gm_topI e_v4_6 ?_
          refine lv_istore (i := 4) (lv' := [(4, .int v4_6), (0, rv Z 1), (1, .int a1), (2, .int a2), (3, .int a3), (5, .int v5_5)]) hx hb dX10_thinOut_69 hl (by decide) rfl (fun ls hl => ?_)
          refine gm_aload_n (G := GC) (r := 1) C rfl dX10_thinOut_71 rfl (lv_at hl 1 rfl) ?_
          refine gm_getS (G := GC) (u := u_3) (r := 1) (ci := 9) (k := 12) C hw rfl fl_X10_71 dX10_thinOut_72 rfl (q := 40) rfl ?_
          refine lv_iload hx hb dX10_thinOut_75 (lv_at hl 5 rfl) ?_
          obtain ⟨u_7, hc_8, hf⟩ := gm_bnd hf
          refine gm_callV (G := GC) (u := u_3) (u' := u_7) (r := 40) (ci := 0) (As := [.int v5_5]) (rest := []) (res := none) C hw hl (ok_X1_goOut l Z 40 v5_5 u_3 rfl u_7 hc_8) cw_X10_169 im_X1_goOut rfl se_X1_goOut rfl rfl rfl ⟨Nat.le_trans (Nat.le_of_ble_eq_true rfl) hRf, Nat.le_trans (Nat.le_of_ble_eq_true rfl) hRl⟩ rfl rfl (Nat.le_of_ble_eq_true rfl) dX10_thinOut_77 (fun H locs hw => ?_)
          refine lv_iinc (v := v5_5 + (1 : Int32)) (lv' := [(5, .int (v5_5 + (1 : Int32))), (4, .int v4_6), (0, rv Z 1), (1, .int a1), (2, .int a2), (3, .int a3)]) hx hb dX10_thinOut_80 hl (k := 5) rfl rfl (by decide) rfl (fun ls hl => ?_)
          refine lv_goto (tgt := 19) hx hb dX10_thinOut_83 (by decide) ?_
          exact Kc _ (gm_si hf) _ _ _ (lv_sub hl [2, 3, 4, 5, 1, 0] rfl) hw
        · replace hf := (if_neg hc).symm.trans hf
          refine lv_iload hx hb dX10_thinOut_47 (lv_at hl 4 rfl) ?_
          refine lv_bipush (v := 10) hx hb dX10_thinOut_49 (by decide) ?_
          refine lv_idiv hx hb dX10_thinOut_51 (by decide) ?_
          refine lv_iload_n hx hb dX10_thinOut_52 rfl (lv_at hl 3 rfl) ?_
          refine lv_imul hx hb dX10_thinOut_53 ?_
          obtain ⟨v4_9, e_v4_9, hf⟩ := gm_le hf
          refine gm_topI e_v4_9 ?_
          refine lv_istore (i := 4) (lv' := [(4, .int v4_9), (0, rv Z 1), (1, .int a1), (2, .int a2), (3, .int a3), (5, .int v5_5)]) hx hb dX10_thinOut_54 hl (by decide) rfl (fun ls hl => ?_)
          refine lv_goto (tgt := 80) hx hb dX10_thinOut_56 (by decide) ?_
          refine lv_iinc (v := v5_5 + (1 : Int32)) (lv' := [(5, .int (v5_5 + (1 : Int32))), (4, .int v4_9), (0, rv Z 1), (1, .int a1), (2, .int a2), (3, .int a3)]) hx hb dX10_thinOut_80 hl (k := 5) rfl rfl (by decide) rfl (fun ls hl => ?_)
          refine lv_goto (tgt := 19) hx hb dX10_thinOut_83 (by decide) ?_
          exact Kc _ (gm_si hf) _ _ _ (lv_sub hl [2, 3, 4, 5, 1, 0] rfl) hw
      · replace hf := (if_pos hc).symm.trans hf
        refine lv_goto (tgt := 80) hx hb dX10_thinOut_35 (by decide) ?_
        refine lv_iinc (v := v5_5 + (1 : Int32)) (lv' := [(5, .int (v5_5 + (1 : Int32))), (0, rv Z 1), (1, .int a1), (2, .int a2), (3, .int a3), (4, .int v4_4)]) hx hb dX10_thinOut_80 hl (k := 5) rfl rfl (by decide) rfl (fun ls hl => ?_)
        refine lv_goto (tgt := 19) hx hb dX10_thinOut_83 (by decide) ?_
        exact Kc _ (gm_si hf) _ _ _ (lv_sub hl [1, 2, 3, 4, 5, 0] rfl) hw)
  refine L19_1 _ _ _ hlp ?_ _ _ _ (lv_sub hl [2, 3, 4, 5, 1, 0] rfl) hw
  obtain ⟨w4_10, u_11⟩ := o1
  intro H locs ls hl hw
  try dsimp only at hf
  refine lv_iload hx hb dX10_thinOut_86 (lv_at hl 0 rfl) ?_
  exact gm_iret C E hw rfl ((congrArg (fun z => some (Value.int z)) (gm_sp hf).1).symm) (gm_sp hf).2.symm dX10_thinOut_88
/-! LeapCapital.chance -/
def b_X10_chance_43 (a1 : Int32) (a2 : Int32) (v3_5 : Int32) : (Int32 × Int32 × gm_M) → Option ((Int32 × Int32 × gm_M) ⊕ ((Int32 × gm_M))) := fun x => match x with | (v4_7, v5_8, u_6) => if (64 : Int32) ≤ v5_8 then some (.inr (v4_7, u_6)) else if (v5_8 &&& (v3_5 ^^^ (-1 : Int32))) = 0 then (f_X10_thinOut v3_5 v5_8 a2 u_6).bind fun o => match o with | (r_9, u_10) => if isRealm (gR u_10 1 2) = true then (f_X2_passToDay (gR u_10 1 2) 40 (gI u_10 (gR u_10 1 2) 6) u_10).bind fun o => match o with | (r_15, u_16) => if ((r_15 >>> (a1 &&& 31)) &&& (1 : Int32)) = 0 then some (.inl (v4_7, v5_8 + (1 : Int32), u_16)) else gm_let (v4_7 + r_9) fun v4_19 => some (.inl (v4_19, v5_8 + (1 : Int32), u_16)) else none else some (.inl (v4_7, v5_8 + (1 : Int32), u_6))
def f_X10_chance (a1 : Int32) (a2 : Int32) (u : gm_M) : Option (Int32 × gm_M) := (f_X1_isQueued 27 a1 u).bind fun r_1 => if r_1 = 0 then some ((-1 : Int32), u) else if a2 < 0 then some ((-1 : Int32), u) else if a2 ≤ (10 : Int32) then (f_X1_queueBits 27 u).bind fun r_3 => gm_let (r_3 &&& (((1 : Int32) <<< (a1 &&& 31)) ^^^ (-1 : Int32))) fun v3_5 => ((gm_lp (b_X10_chance_43 a1 a2 v3_5) gm_FU ((0 : Int32), (0 : Int32), u)).bind fun o => match o with | (w4_20, u_21) => some (w4_20, u_21)) else some ((-1 : Int32), u)
set_option maxRecDepth 100000 in
set_option maxHeartbeats 4000000 in
theorem ok_X10_chance (l : Launch) (Z : gm_Z) (a1 : Int32) (a2 : Int32) (u : gm_M)  (r : Int32) (u' : gm_M) (hf : f_X10_chance a1 a2 u = some (r, u')) : gm_Met l GC Z yX10_chance cX10_chance 7 (some .int) ({ frames := 6, cells := 0, slots := 0, locals := 152 }) [rv Z 1, .int a1, .int a2] u (some (.int r)) u' := by
  unfold f_X10_chance at hf
  refine gm_ofW (by decide +kernel) (Nat.le_of_ble_eq_true rfl) ?_
  intro p e s m args below meth c A ls Q R hRf hRl C E hl hw
  obtain ⟨hx, hb, -⟩ := id C
  have hl : lv_has ls 7 [(0, rv Z 1), (1, .int a1), (2, .int a2)] := hl
  refine gm_aload_n (G := GC) (r := 1) C rfl dX10_chance_0 rfl (lv_at hl 0 rfl) ?_
  refine gm_getS (G := GC) (u := u) (r := 1) (ci := 9) (k := 6) C hw rfl fl_X10_39 dX10_chance_1 rfl (q := 27) rfl ?_
  refine lv_iload_n hx hb dX10_chance_4 rfl (lv_at hl 1 rfl) ?_
  obtain ⟨r_1, hc_2, hf⟩ := gm_bnd hf
  refine gm_callV (G := GC) (u := u) (u' := u) (r := 27) (ci := 0) (As := [.int a1]) (rest := []) (res := (some (.int r_1))) C hw hl (ok_X1_isQueued l Z 27 a1 u rfl r_1 hc_2) cw_X10_149 im_X1_isQueued rfl se_X1_isQueued rfl rfl rfl ⟨Nat.le_trans (Nat.le_of_ble_eq_true rfl) hRf, Nat.le_trans (Nat.le_of_ble_eq_true rfl) hRl⟩ rfl rfl (Nat.le_of_ble_eq_true rfl) dX10_chance_5 (fun H locs hw => ?_)
  refine lv_if_eq (tgt := 21) hx hb dX10_chance_8 (by decide) (fun hc => ?_) (fun hc => ?_)
  · replace hf := (if_pos hc).symm.trans hf
    refine lv_iconst (v := -1) hx hb dX10_chance_21 (by decide) ?_
    exact gm_iret C E hw rfl ((congrArg (fun z => some (Value.int z)) (gm_sp hf).1).symm) (gm_sp hf).2.symm dX10_chance_22
  · replace hf := (if_neg hc).symm.trans hf
    refine lv_iload_n hx hb dX10_chance_11 rfl (lv_at hl 2 rfl) ?_
    refine lv_if_lt (tgt := 21) hx hb dX10_chance_12 (by decide) (fun hc => ?_) (fun hc => ?_)
    · replace hf := (if_pos hc).symm.trans hf
      refine lv_iconst (v := -1) hx hb dX10_chance_21 (by decide) ?_
      exact gm_iret C E hw rfl ((congrArg (fun z => some (Value.int z)) (gm_sp hf).1).symm) (gm_sp hf).2.symm dX10_chance_22
    · replace hf := (if_neg hc).symm.trans hf
      refine lv_iload_n hx hb dX10_chance_15 rfl (lv_at hl 2 rfl) ?_
      refine lv_bipush (v := 10) hx hb dX10_chance_16 (by decide) ?_
      refine lv_icmp_le (tgt := 23) hx hb dX10_chance_18 (by decide) (fun hc => ?_) (fun hc => ?_)
      · replace hf := (if_pos hc).symm.trans hf
        refine gm_aload_n (G := GC) (r := 1) C rfl dX10_chance_23 rfl (lv_at hl 0 rfl) ?_
        refine gm_getS (G := GC) (u := u) (r := 1) (ci := 9) (k := 6) C hw rfl fl_X10_39 dX10_chance_24 rfl (q := 27) rfl ?_
        obtain ⟨r_3, hc_4, hf⟩ := gm_bnd hf
        refine gm_callV (G := GC) (u := u) (u' := u) (r := 27) (ci := 0) (As := []) (rest := []) (res := (some (.int r_3))) C hw hl (ok_X1_queueBits l Z 27 u rfl r_3 hc_4) cw_X10_261 im_X1_queueBits rfl se_X1_queueBits rfl rfl rfl ⟨Nat.le_trans (Nat.le_of_ble_eq_true rfl) hRf, Nat.le_trans (Nat.le_of_ble_eq_true rfl) hRl⟩ rfl rfl (Nat.le_of_ble_eq_true rfl) dX10_chance_27 (fun H locs hw => ?_)
        refine lv_iconst (v := 1) hx hb dX10_chance_30 (by decide) ?_
        refine lv_iload_n hx hb dX10_chance_31 rfl (lv_at hl 1 rfl) ?_
        refine lv_ishl hx hb dX10_chance_32 ?_
        refine lv_iconst (v := -1) hx hb dX10_chance_33 (by decide) ?_
        refine lv_ixor hx hb dX10_chance_34 ?_
        refine lv_iand hx hb dX10_chance_35 ?_
        obtain ⟨v3_5, e_v3_5, hf⟩ := gm_le hf
        refine gm_topI e_v3_5 ?_
        refine lv_istore_n (i := 3) (lv' := [(3, .int v3_5), (0, rv Z 1), (1, .int a1), (2, .int a2)]) hx hb dX10_chance_36 rfl hl (by decide) rfl (fun ls hl => ?_)
        refine lv_iconst (v := 0) hx hb dX10_chance_37 (by decide) ?_
        refine lv_istore (i := 4) (lv' := [(4, .int (0 : Int32)), (3, .int v3_5), (0, rv Z 1), (1, .int a1), (2, .int a2)]) hx hb dX10_chance_38 hl (by decide) rfl (fun ls hl => ?_)
        refine lv_iconst (v := 0) hx hb dX10_chance_40 (by decide) ?_
        refine lv_istore (i := 5) (lv' := [(5, .int (0 : Int32)), (4, .int (0 : Int32)), (3, .int v3_5), (0, rv Z 1), (1, .int a1), (2, .int a2)]) hx hb dX10_chance_41 hl (by decide) rfl (fun ls hl => ?_)
        obtain ⟨o1, hlp, hf⟩ := gm_bnd hf
        have L43_1 := gm_loop (b_X10_chance_43 a1 a2 v3_5) (fun x : (Int32 × Int32 × gm_M) => ∀ (H : Heap) (locs : List Loc) (ls : Array Slot), lv_has ls 7 [(0, rv Z 1), (1, .int a1), (2, .int a2), (3, .int v3_5), (4, .int x.1), (5, .int x.2.1)] → wd GC Z x.2.2 A s.heap H locs → W p l e R s m args below meth c H locs 0 0 Q (F0 m 43 ls [])) (fun z : ((Int32 × gm_M)) => ∀ (H : Heap) (locs : List Loc) (ls : Array Slot), lv_has ls 7 [(4, .int z.1)] → wd GC Z z.2 A s.heap H locs → W p l e R s m args below meth c H locs 0 0 Q (F0 m 114 ls [])) (by
          intro x o1 hf Kc Kx
          obtain ⟨v4_7, v5_8, u_6⟩ := x
          intro H locs ls hl hw
          unfold b_X10_chance_43 at hf
          try dsimp only at hf
          refine lv_iload hx hb dX10_chance_43 (lv_at hl 5 rfl) ?_
          refine lv_bipush (v := 64) hx hb dX10_chance_45 (by decide) ?_
          refine lv_icmp_ge (tgt := 114) hx hb dX10_chance_47 (by decide) (fun hc => ?_) (fun hc => ?_)
          · replace hf := (if_pos hc).symm.trans hf
            exact Kx _ (gm_si hf) _ _ _ (lv_sub hl [4] rfl) hw
          · replace hf := (if_neg hc).symm.trans hf
            refine lv_iload hx hb dX10_chance_50 (lv_at hl 5 rfl) ?_
            refine lv_iload_n hx hb dX10_chance_52 rfl (lv_at hl 3 rfl) ?_
            refine lv_iconst (v := -1) hx hb dX10_chance_53 (by decide) ?_
            refine lv_ixor hx hb dX10_chance_54 ?_
            refine lv_iand hx hb dX10_chance_55 ?_
            refine lv_if_eq (tgt := 62) hx hb dX10_chance_56 (by decide) (fun hc => ?_) (fun hc => ?_)
            · replace hf := (if_pos hc).symm.trans hf
              refine gm_aload_n (G := GC) (r := 1) C rfl dX10_chance_62 rfl (lv_at hl 0 rfl) ?_
              refine lv_iload_n hx hb dX10_chance_63 rfl (lv_at hl 3 rfl) ?_
              refine lv_iload hx hb dX10_chance_64 (lv_at hl 5 rfl) ?_
              refine lv_iload_n hx hb dX10_chance_66 rfl (lv_at hl 2 rfl) ?_
              obtain ⟨⟨r_9, u_10⟩, hc_11, hf⟩ := gm_bnd hf
              try dsimp only at hf
              refine gm_callV (G := GC) (u := u_6) (u' := u_10) (r := 1) (ci := 9) (As := [.int v3_5, .int v5_8, .int a2]) (rest := []) (res := (some (.int r_9))) C hw hl (ok_X10_thinOut l Z v3_5 v5_8 a2 u_6 r_9 u_10 hc_11) cw_X10_265 im_X10_thinOut rfl se_X10_thinOut rfl rfl rfl ⟨Nat.le_trans (Nat.le_of_ble_eq_true rfl) hRf, Nat.le_trans (Nat.le_of_ble_eq_true rfl) hRl⟩ rfl rfl (Nat.le_of_ble_eq_true rfl) dX10_chance_67 (fun H locs hw => ?_)
              refine lv_istore (i := 6) (lv' := [(6, .int r_9), (0, rv Z 1), (1, .int a1), (2, .int a2), (3, .int v3_5), (4, .int v4_7), (5, .int v5_8)]) hx hb dX10_chance_70 hl (by decide) rfl (fun ls hl => ?_)
              refine gm_aload_n (G := GC) (r := 1) C rfl dX10_chance_72 rfl (lv_at hl 1 rfl) ?_
              refine gm_getS (G := GC) (u := u_10) (r := 1) (ci := 9) (k := 8) C hw rfl fl_X10_53 dX10_chance_73 rfl (q := 35) rfl ?_
              refine gm_aload_n (G := GC) (r := 1) C rfl dX10_chance_76 rfl (lv_at hl 1 rfl) ?_
              refine gm_getR (G := GC) (u := u_10) (r := 1) (ci := 9) (k := 2) C hw rfl fl_X10_19 dX10_chance_77 rfl ?_
              obtain ⟨g_13, hf⟩ := gm_grd hf
              obtain ⟨k_14_0, k_14_1, k_14_2, k_14_3, k_14_4, k_14_5, k_14_6, k_14_7, k_14_8, k_14_9, k_14_10, k_14_11⟩ := fc_Realm g_13
              refine gm_aload_n (G := GC) (r := 1) C rfl dX10_chance_80 rfl (lv_at hl 1 rfl) ?_
              refine gm_getS (G := GC) (u := u_10) (r := 1) (ci := 9) (k := 12) C hw rfl fl_X10_71 dX10_chance_81 rfl (q := 40) rfl ?_
              refine gm_aload_n (G := GC) (r := 1) C rfl dX10_chance_84 rfl (lv_at hl 1 rfl) ?_
              refine gm_getR (G := GC) (u := u_10) (r := 1) (ci := 9) (k := 2) C hw rfl fl_X10_19 dX10_chance_85 rfl ?_
              refine gm_getI (G := GC) (u := u_10) (r := (gR u_10 1 2)) (ci := 4) (k := 6) C hw k_14_0 fl_X10_182 dX10_chance_88 rfl ?_
              obtain ⟨⟨r_15, u_16⟩, hc_17, hf⟩ := gm_bnd hf
              try dsimp only at hf
              refine gm_callV (G := GC) (u := u_10) (u' := u_16) (r := 35) (ci := 1) (As := [rv Z (gR u_10 1 2), rv Z 40, .int (gI u_10 (gR u_10 1 2) 6)]) (rest := []) (res := (some (.int r_15))) C hw hl (ok_X2_passToDay l Z (gR u_10 1 2) 40 (gI u_10 (gR u_10 1 2) 6) u_10 g_13 rfl r_15 u_16 hc_17) cw_X10_185 im_X2_passToDay rfl se_X2_passToDay rfl rfl rfl ⟨Nat.le_trans (Nat.le_of_ble_eq_true rfl) hRf, Nat.le_trans (Nat.le_of_ble_eq_true rfl) hRl⟩ rfl rfl (Nat.le_of_ble_eq_true rfl) dX10_chance_91 (fun H locs hw => ?_)
              refine lv_iload_n hx hb dX10_chance_94 rfl (lv_at hl 2 rfl) ?_
              refine lv_ishr hx hb dX10_chance_95 ?_
              refine lv_iconst (v := 1) hx hb dX10_chance_96 (by decide) ?_
              refine lv_iand hx hb dX10_chance_97 ?_
              refine lv_if_eq (tgt := 108) hx hb dX10_chance_98 (by decide) (fun hc => ?_) (fun hc => ?_)
              · replace hf := (if_pos hc).symm.trans hf
                refine lv_iinc (v := v5_8 + (1 : Int32)) (lv' := [(5, .int (v5_8 + (1 : Int32))), (6, .int r_9), (0, rv Z 1), (1, .int a1), (2, .int a2), (3, .int v3_5), (4, .int v4_7)]) hx hb dX10_chance_108 hl (k := 6) rfl rfl (by decide) rfl (fun ls hl => ?_)
                refine lv_goto (tgt := 43) hx hb dX10_chance_111 (by decide) ?_
                exact Kc _ (gm_si hf) _ _ _ (lv_sub hl [2, 3, 4, 5, 6, 0] rfl) hw
              · replace hf := (if_neg hc).symm.trans hf
                refine lv_iload hx hb dX10_chance_101 (lv_at hl 5 rfl) ?_
                refine lv_iload hx hb dX10_chance_103 (lv_at hl 0 rfl) ?_
                refine lv_iadd hx hb dX10_chance_105 ?_
                obtain ⟨v4_19, e_v4_19, hf⟩ := gm_le hf
                refine gm_topI e_v4_19 ?_
                refine lv_istore (i := 4) (lv' := [(4, .int v4_19), (6, .int r_9), (0, rv Z 1), (1, .int a1), (2, .int a2), (3, .int v3_5), (5, .int v5_8)]) hx hb dX10_chance_106 hl (by decide) rfl (fun ls hl => ?_)
                refine lv_iinc (v := v5_8 + (1 : Int32)) (lv' := [(5, .int (v5_8 + (1 : Int32))), (4, .int v4_19), (6, .int r_9), (0, rv Z 1), (1, .int a1), (2, .int a2), (3, .int v3_5)]) hx hb dX10_chance_108 hl (k := 6) rfl rfl (by decide) rfl (fun ls hl => ?_)
                refine lv_goto (tgt := 43) hx hb dX10_chance_111 (by decide) ?_
                exact Kc _ (gm_si hf) _ _ _ (lv_sub hl [3, 4, 5, 6, 1, 0] rfl) hw
            · replace hf := (if_neg hc).symm.trans hf
              refine lv_goto (tgt := 108) hx hb dX10_chance_59 (by decide) ?_
              refine lv_iinc (v := v5_8 + (1 : Int32)) (lv' := [(5, .int (v5_8 + (1 : Int32))), (0, rv Z 1), (1, .int a1), (2, .int a2), (3, .int v3_5), (4, .int v4_7)]) hx hb dX10_chance_108 hl (k := 5) rfl rfl (by decide) rfl (fun ls hl => ?_)
              refine lv_goto (tgt := 43) hx hb dX10_chance_111 (by decide) ?_
              exact Kc _ (gm_si hf) _ _ _ (lv_sub hl [1, 2, 3, 4, 5, 0] rfl) hw)
        refine L43_1 _ _ _ hlp ?_ _ _ _ (lv_sub hl [3, 4, 5, 2, 1, 0] rfl) hw
        obtain ⟨w4_20, u_21⟩ := o1
        intro H locs ls hl hw
        try dsimp only at hf
        refine lv_iload hx hb dX10_chance_114 (lv_at hl 0 rfl) ?_
        exact gm_iret C E hw rfl ((congrArg (fun z => some (Value.int z)) (gm_sp hf).1).symm) (gm_sp hf).2.symm dX10_chance_116
      · replace hf := (if_neg hc).symm.trans hf
        refine lv_iconst (v := -1) hx hb dX10_chance_21 (by decide) ?_
        exact gm_iret C E hw rfl ((congrArg (fun z => some (Value.int z)) (gm_sp hf).1).symm) (gm_sp hf).2.symm dX10_chance_22
/-! LeapCapital.firstRow -/
def b_X10_firstRow_4 : (Int32 × Int32 × gm_M) → Option ((Int32 × Int32 × gm_M) ⊕ ((Int32 × gm_M))) := fun x => match x with | (v1_2, v2_3, u_1) => if (6 : Int32) ≤ v2_3 then some (.inr (v1_2, u_1)) else if (6 : Int32) ≤ v1_2 then some (.inr (v1_2, u_1)) else if isRealm (gR u_1 1 2) = true then (f_X1_mayEnter 27 (gR u_1 1 2) v2_3 u_1).bind fun r_6 => if r_6 = 0 then some (.inl (v1_2, v2_3 + (1 : Int32), u_1)) else if ib v1_2 6 = true then gm_let (sI u_1 44 (ix v1_2) v2_3) fun u_9 => some (.inl (v1_2 + (1 : Int32), v2_3 + (1 : Int32), u_9)) else none else none
def f_X10_firstRow  (u : gm_M) : Option (Int32 × gm_M) := ((gm_lp (b_X10_firstRow_4) gm_FU ((0 : Int32), (0 : Int32), u)).bind fun o => match o with | (w1_10, u_11) => some (w1_10, u_11))
set_option maxRecDepth 100000 in
set_option maxHeartbeats 4000000 in
theorem ok_X10_firstRow (l : Launch) (Z : gm_Z)  (u : gm_M)  (r : Int32) (u' : gm_M) (hf : f_X10_firstRow u = some (r, u')) : gm_Met l GC Z yX10_firstRow cX10_firstRow 3 (some .int) ({ frames := 3, cells := 0, slots := 0, locals := 65 }) [rv Z 1] u (some (.int r)) u' := by
  unfold f_X10_firstRow at hf
  refine gm_ofW (by decide +kernel) (Nat.le_of_ble_eq_true rfl) ?_
  intro p e s m args below meth c A ls Q R hRf hRl C E hl hw
  obtain ⟨hx, hb, -⟩ := id C
  have hl : lv_has ls 3 [(0, rv Z 1)] := hl
  refine lv_iconst (v := 0) hx hb dX10_firstRow_0 (by decide) ?_
  refine lv_istore_n (i := 1) (lv' := [(1, .int (0 : Int32)), (0, rv Z 1)]) hx hb dX10_firstRow_1 rfl hl (by decide) rfl (fun ls hl => ?_)
  refine lv_iconst (v := 0) hx hb dX10_firstRow_2 (by decide) ?_
  refine lv_istore_n (i := 2) (lv' := [(2, .int (0 : Int32)), (1, .int (0 : Int32)), (0, rv Z 1)]) hx hb dX10_firstRow_3 rfl hl (by decide) rfl (fun ls hl => ?_)
  obtain ⟨o1, hlp, hf⟩ := gm_bnd hf
  have L4_1 := gm_loop (b_X10_firstRow_4) (fun x : (Int32 × Int32 × gm_M) => ∀ (H : Heap) (locs : List Loc) (ls : Array Slot), lv_has ls 3 [(0, rv Z 1), (1, .int x.1), (2, .int x.2.1)] → wd GC Z x.2.2 A s.heap H locs → W p l e R s m args below meth c H locs 0 0 Q (F0 m 4 ls [])) (fun z : ((Int32 × gm_M)) => ∀ (H : Heap) (locs : List Loc) (ls : Array Slot), lv_has ls 3 [(1, .int z.1)] → wd GC Z z.2 A s.heap H locs → W p l e R s m args below meth c H locs 0 0 Q (F0 m 50 ls [])) (by
    intro x o1 hf Kc Kx
    obtain ⟨v1_2, v2_3, u_1⟩ := x
    intro H locs ls hl hw
    unfold b_X10_firstRow_4 at hf
    try dsimp only at hf
    refine lv_iload_n hx hb dX10_firstRow_4 rfl (lv_at hl 2 rfl) ?_
    refine lv_bipush (v := 6) hx hb dX10_firstRow_5 (by decide) ?_
    refine lv_icmp_ge (tgt := 50) hx hb dX10_firstRow_7 (by decide) (fun hc => ?_) (fun hc => ?_)
    · replace hf := (if_pos hc).symm.trans hf
      exact Kx _ (gm_si hf) _ _ _ (lv_sub hl [1] rfl) hw
    · replace hf := (if_neg hc).symm.trans hf
      refine lv_iload_n hx hb dX10_firstRow_10 rfl (lv_at hl 1 rfl) ?_
      refine gm_aload_n (G := GC) (r := 1) C rfl dX10_firstRow_11 rfl (lv_at hl 0 rfl) ?_
      refine gm_getS (G := GC) (u := u_1) (r := 1) (ci := 9) (k := 13) C hw rfl fl_X10_74 dX10_firstRow_12 rfl (q := 44) rfl ?_
      refine gm_alen (G := GC) (u := u_1) (r := 44) (t := 0) (n := 6) (v := 6) C hw rfl (by decide) (by decide) dX10_firstRow_15 ?_
      refine lv_icmp_ge (tgt := 50) hx hb dX10_firstRow_16 (by decide) (fun hc => ?_) (fun hc => ?_)
      · replace hf := (if_pos hc).symm.trans hf
        exact Kx _ (gm_si hf) _ _ _ (lv_sub hl [1] rfl) hw
      · replace hf := (if_neg hc).symm.trans hf
        refine gm_aload_n (G := GC) (r := 1) C rfl dX10_firstRow_19 rfl (lv_at hl 0 rfl) ?_
        refine gm_getS (G := GC) (u := u_1) (r := 1) (ci := 9) (k := 6) C hw rfl fl_X10_39 dX10_firstRow_20 rfl (q := 27) rfl ?_
        refine gm_aload_n (G := GC) (r := 1) C rfl dX10_firstRow_23 rfl (lv_at hl 0 rfl) ?_
        refine gm_getR (G := GC) (u := u_1) (r := 1) (ci := 9) (k := 2) C hw rfl fl_X10_19 dX10_firstRow_24 rfl ?_
        obtain ⟨g_4, hf⟩ := gm_grd hf
        obtain ⟨k_5_0, k_5_1, k_5_2, k_5_3, k_5_4, k_5_5, k_5_6, k_5_7, k_5_8, k_5_9, k_5_10, k_5_11⟩ := fc_Realm g_4
        refine lv_iload_n hx hb dX10_firstRow_27 rfl (lv_at hl 2 rfl) ?_
        obtain ⟨r_6, hc_7, hf⟩ := gm_bnd hf
        refine gm_callV (G := GC) (u := u_1) (u' := u_1) (r := 27) (ci := 0) (As := [rv Z (gR u_1 1 2), .int v2_3]) (rest := []) (res := (some (.int r_6))) C hw hl (ok_X1_mayEnter l Z 27 (gR u_1 1 2) v2_3 u_1 rfl g_4 r_6 hc_7) cw_X10_158 im_X1_mayEnter rfl se_X1_mayEnter rfl rfl rfl ⟨Nat.le_trans (Nat.le_of_ble_eq_true rfl) hRf, Nat.le_trans (Nat.le_of_ble_eq_true rfl) hRl⟩ rfl rfl (Nat.le_of_ble_eq_true rfl) dX10_firstRow_28 (fun H locs hw => ?_)
        refine lv_if_eq (tgt := 44) hx hb dX10_firstRow_31 (by decide) (fun hc => ?_) (fun hc => ?_)
        · replace hf := (if_pos hc).symm.trans hf
          refine lv_iinc (v := v2_3 + (1 : Int32)) (lv' := [(2, .int (v2_3 + (1 : Int32))), (0, rv Z 1), (1, .int v1_2)]) hx hb dX10_firstRow_44 hl (k := 2) rfl rfl (by decide) rfl (fun ls hl => ?_)
          refine lv_goto (tgt := 4) hx hb dX10_firstRow_47 (by decide) ?_
          exact Kc _ (gm_si hf) _ _ _ (lv_sub hl [1, 2, 0] rfl) hw
        · replace hf := (if_neg hc).symm.trans hf
          refine gm_aload_n (G := GC) (r := 1) C rfl dX10_firstRow_34 rfl (lv_at hl 0 rfl) ?_
          refine gm_getS (G := GC) (u := u_1) (r := 1) (ci := 9) (k := 13) C hw rfl fl_X10_74 dX10_firstRow_35 rfl (q := 44) rfl ?_
          refine lv_iload_n hx hb dX10_firstRow_38 rfl (lv_at hl 1 rfl) ?_
          refine lv_iload_n hx hb dX10_firstRow_39 rfl (lv_at hl 2 rfl) ?_
          obtain ⟨g_8, hf⟩ := gm_grd hf
          refine gm_iast (G := GC) (u := u_1) (r := 44) (n := 6) (i := v1_2) (x := v2_3) C hw rfl g_8 rfl dX10_firstRow_40 (fun H locs hw => ?_)
          obtain ⟨u_9, e_u_9, hf⟩ := gm_le hf
          rw [← e_u_9] at hw
          refine lv_iinc (v := v1_2 + (1 : Int32)) (lv' := [(1, .int (v1_2 + (1 : Int32))), (0, rv Z 1), (2, .int v2_3)]) hx hb dX10_firstRow_41 hl (k := 1) rfl rfl (by decide) rfl (fun ls hl => ?_)
          refine lv_iinc (v := v2_3 + (1 : Int32)) (lv' := [(2, .int (v2_3 + (1 : Int32))), (1, .int (v1_2 + (1 : Int32))), (0, rv Z 1)]) hx hb dX10_firstRow_44 hl (k := 2) rfl rfl (by decide) rfl (fun ls hl => ?_)
          refine lv_goto (tgt := 4) hx hb dX10_firstRow_47 (by decide) ?_
          exact Kc _ (gm_si hf) _ _ _ (lv_sub hl [2, 1, 0] rfl) hw)
  refine L4_1 _ _ _ hlp ?_ _ _ _ (lv_sub hl [2, 1, 0] rfl) hw
  obtain ⟨w1_10, u_11⟩ := o1
  intro H locs ls hl hw
  try dsimp only at hf
  refine lv_iload_n hx hb dX10_firstRow_50 rfl (lv_at hl 0 rfl) ?_
  exact gm_iret C E hw rfl ((congrArg (fun z => some (Value.int z)) (gm_sp hf).1).symm) (gm_sp hf).2.symm dX10_firstRow_51
/-! LeapCapital.heardByRow -/
def j_X10_heardByRow_92 (a1 : Int32) (a2 : Int32) (u_1 : gm_M) : Option (Int32 × gm_M) := gm_let (f_J6_bitCount_0f7a4 ((gI u_1 40 2) &&& ((gI u_1 27 2) ^^^ (-1 : Int32)))) fun r_2 => some (r_2, u_1)
def b_X10_heardByRow_48 (a1 : Int32) (a2 : Int32) : (Int32 × gm_M) → Option ((Int32 × gm_M) ⊕ gm_M) := fun x => match x with | (v3_5, u_4) => if a2 ≤ v3_5 then some (.inr u_4) else if (gI u_4 40 3) ≤ 0 then some (.inr u_4) else if isRealm (gR u_4 1 2) = true then (f_X2_passToDay (gR u_4 1 2) 40 (gI u_4 (gR u_4 1 2) 6) u_4).bind fun o => match o with | (r_8, u_9) => some (.inl (v3_5 + (1 : Int32), u_9)) else none
def j_X10_heardByRow_46 (a1 : Int32) (a2 : Int32) (u_3 : gm_M) : Option (Int32 × gm_M) := ((gm_lp (b_X10_heardByRow_48 a1 a2) gm_FU ((0 : Int32), u_3)).bind fun o => match o with | u_12 => j_X10_heardByRow_92 a1 a2 u_12)
def b_X10_heardByRow_13 (a1 : Int32) (a2 : Int32) : (Int32 × gm_M) → Option ((Int32 × gm_M) ⊕ gm_M) := fun x => match x with | (v3_16, u_15) => if a1 ≤ v3_16 then some (.inr u_15) else if (6 : Int32) ≤ v3_16 then some (.inr u_15) else if ib v3_16 6 = true then (f_X1_enter 40 (gI u_15 44 (ix v3_16)) u_15).bind fun u_18 => some (.inl (v3_16 + (1 : Int32), u_18)) else none
def f_X10_heardByRow (a1 : Int32) (a2 : Int32) (u : gm_M) : Option (Int32 × gm_M) := (f_X1_copyFrom 40 27 u).bind fun u_13 => ((gm_lp (b_X10_heardByRow_13 a1 a2) gm_FU ((0 : Int32), u_13)).bind fun o => match o with | u_20 => j_X10_heardByRow_46 a1 a2 u_20)
set_option maxRecDepth 100000 in
set_option maxHeartbeats 4000000 in
theorem ok_X10_heardByRow (l : Launch) (Z : gm_Z) (a1 : Int32) (a2 : Int32) (u : gm_M)  (r : Int32) (u' : gm_M) (hf : f_X10_heardByRow a1 a2 u = some (r, u')) : gm_Met l GC Z yX10_heardByRow cX10_heardByRow 4 (some .int) ({ frames := 6, cells := 0, slots := 0, locals := 152 }) [rv Z 1, .int a1, .int a2] u (some (.int r)) u' := by
  unfold f_X10_heardByRow at hf
  refine gm_ofW (by decide +kernel) (Nat.le_of_ble_eq_true rfl) ?_
  intro p e s m args below meth c A ls Q R hRf hRl C E hl hw
  obtain ⟨hx, hb, -⟩ := id C
  have hl : lv_has ls 4 [(0, rv Z 1), (1, .int a1), (2, .int a2)] := hl
  have J92 : ∀  (u_1 : gm_M) (H : Heap) (locs : List Loc) (ls : Array Slot), j_X10_heardByRow_92 a1 a2 u_1 = some (r, u') → lv_has ls 4 [(0, rv Z 1)] → wd GC Z u_1 A s.heap H locs → W p l e R s m args below meth c H locs 0 0 Q (F0 m 92 ls []) := by
    intro  u_1 H locs ls hf  hl hw
    unfold j_X10_heardByRow_92 at hf
    refine gm_aload_n (G := GC) (r := 1) C rfl dX10_heardByRow_92 rfl (lv_at hl 0 rfl) ?_
    refine gm_getS (G := GC) (u := u_1) (r := 1) (ci := 9) (k := 12) C hw rfl fl_X10_71 dX10_heardByRow_93 rfl (q := 40) rfl ?_
    refine gm_getI (G := GC) (u := u_1) (r := 40) (ci := 0) (k := 2) C hw rfl fl_X10_139 dX10_heardByRow_96 rfl ?_
    refine gm_aload_n (G := GC) (r := 1) C rfl dX10_heardByRow_99 rfl (lv_at hl 0 rfl) ?_
    refine gm_getS (G := GC) (u := u_1) (r := 1) (ci := 9) (k := 6) C hw rfl fl_X10_39 dX10_heardByRow_100 rfl (q := 27) rfl ?_
    refine gm_getI (G := GC) (u := u_1) (r := 27) (ci := 0) (k := 2) C hw rfl fl_X10_139 dX10_heardByRow_103 rfl ?_
    refine lv_iconst (v := -1) hx hb dX10_heardByRow_106 (by decide) ?_
    refine lv_ixor hx hb dX10_heardByRow_107 ?_
    refine lv_iand hx hb dX10_heardByRow_108 ?_
    obtain ⟨r_2, e_r_2, hf⟩ := gm_le hf
    refine gm_callS (G := GC) (u := u_1) (u' := u_1) (As := [.int ((gI u_1 40 2) &&& ((gI u_1 27 2) ^^^ (-1 : Int32)))]) (rest := []) (res := (some (.int (f_J6_bitCount_0f7a4 ((gI u_1 40 2) &&& ((gI u_1 27 2) ^^^ (-1 : Int32))))))) C hw hl (ok_J6_bitCount_0f7a4 l Z ((gI u_1 40 2) &&& ((gI u_1 27 2) ^^^ (-1 : Int32))) u_1) cw_X10_205 st_J6_bitCount_0f7a4 rfl rfl ⟨Nat.le_trans (Nat.le_of_ble_eq_true rfl) hRf, Nat.le_trans (Nat.le_of_ble_eq_true rfl) hRl⟩ rfl rfl (Nat.le_of_ble_eq_true rfl) dX10_heardByRow_109 (fun H locs hw => ?_)
    refine gm_topI e_r_2 ?_
    exact gm_iret C E hw rfl ((congrArg (fun z => some (Value.int z)) (gm_sp hf).1).symm) (gm_sp hf).2.symm dX10_heardByRow_112
  have J46 : ∀  (u_3 : gm_M) (H : Heap) (locs : List Loc) (ls : Array Slot), j_X10_heardByRow_46 a1 a2 u_3 = some (r, u') → lv_has ls 4 [(0, rv Z 1), (2, .int a2)] → wd GC Z u_3 A s.heap H locs → W p l e R s m args below meth c H locs 0 0 Q (F0 m 46 ls []) := by
    intro  u_3 H locs ls hf  hl hw
    unfold j_X10_heardByRow_46 at hf
    refine lv_iconst (v := 0) hx hb dX10_heardByRow_46 (by decide) ?_
    refine lv_istore_n (i := 3) (lv' := [(3, .int (0 : Int32)), (0, rv Z 1), (2, .int a2)]) hx hb dX10_heardByRow_47 rfl hl (by decide) rfl (fun ls hl => ?_)
    obtain ⟨o1, hlp, hf⟩ := gm_bnd hf
    have L48_1 := gm_loop (b_X10_heardByRow_48 a1 a2) (fun x : (Int32 × gm_M) => ∀ (H : Heap) (locs : List Loc) (ls : Array Slot), lv_has ls 4 [(0, rv Z 1), (2, .int a2), (3, .int x.1)] → wd GC Z x.2 A s.heap H locs → W p l e R s m args below meth c H locs 0 0 Q (F0 m 48 ls [])) (fun z : gm_M => ∀ (H : Heap) (locs : List Loc) (ls : Array Slot), lv_has ls 4 [(0, rv Z 1)] → wd GC Z z A s.heap H locs → W p l e R s m args below meth c H locs 0 0 Q (F0 m 92 ls [])) (by
      intro x o1 hf Kc Kx
      obtain ⟨v3_5, u_4⟩ := x
      intro H locs ls hl hw
      unfold b_X10_heardByRow_48 at hf
      try dsimp only at hf
      refine lv_iload_n hx hb dX10_heardByRow_48 rfl (lv_at hl 2 rfl) ?_
      refine lv_iload_n hx hb dX10_heardByRow_49 rfl (lv_at hl 1 rfl) ?_
      refine lv_icmp_ge (tgt := 92) hx hb dX10_heardByRow_50 (by decide) (fun hc => ?_) (fun hc => ?_)
      · replace hf := (if_pos hc).symm.trans hf
        exact Kx _ (gm_si hf) _ _ _ (lv_sub hl [0] rfl) hw
      · replace hf := (if_neg hc).symm.trans hf
        refine gm_aload_n (G := GC) (r := 1) C rfl dX10_heardByRow_53 rfl (lv_at hl 0 rfl) ?_
        refine gm_getS (G := GC) (u := u_4) (r := 1) (ci := 9) (k := 12) C hw rfl fl_X10_71 dX10_heardByRow_54 rfl (q := 40) rfl ?_
        refine gm_getI (G := GC) (u := u_4) (r := 40) (ci := 0) (k := 3) C hw rfl fl_X10_279 dX10_heardByRow_57 rfl ?_
        refine lv_if_le (tgt := 92) hx hb dX10_heardByRow_60 (by decide) (fun hc => ?_) (fun hc => ?_)
        · replace hf := (if_pos hc).symm.trans hf
          exact Kx _ (gm_si hf) _ _ _ (lv_sub hl [0] rfl) hw
        · replace hf := (if_neg hc).symm.trans hf
          refine gm_aload_n (G := GC) (r := 1) C rfl dX10_heardByRow_63 rfl (lv_at hl 0 rfl) ?_
          refine gm_getS (G := GC) (u := u_4) (r := 1) (ci := 9) (k := 8) C hw rfl fl_X10_53 dX10_heardByRow_64 rfl (q := 35) rfl ?_
          refine gm_aload_n (G := GC) (r := 1) C rfl dX10_heardByRow_67 rfl (lv_at hl 0 rfl) ?_
          refine gm_getR (G := GC) (u := u_4) (r := 1) (ci := 9) (k := 2) C hw rfl fl_X10_19 dX10_heardByRow_68 rfl ?_
          obtain ⟨g_6, hf⟩ := gm_grd hf
          obtain ⟨k_7_0, k_7_1, k_7_2, k_7_3, k_7_4, k_7_5, k_7_6, k_7_7, k_7_8, k_7_9, k_7_10, k_7_11⟩ := fc_Realm g_6
          refine gm_aload_n (G := GC) (r := 1) C rfl dX10_heardByRow_71 rfl (lv_at hl 0 rfl) ?_
          refine gm_getS (G := GC) (u := u_4) (r := 1) (ci := 9) (k := 12) C hw rfl fl_X10_71 dX10_heardByRow_72 rfl (q := 40) rfl ?_
          refine gm_aload_n (G := GC) (r := 1) C rfl dX10_heardByRow_75 rfl (lv_at hl 0 rfl) ?_
          refine gm_getR (G := GC) (u := u_4) (r := 1) (ci := 9) (k := 2) C hw rfl fl_X10_19 dX10_heardByRow_76 rfl ?_
          refine gm_getI (G := GC) (u := u_4) (r := (gR u_4 1 2)) (ci := 4) (k := 6) C hw k_7_0 fl_X10_182 dX10_heardByRow_79 rfl ?_
          obtain ⟨⟨r_8, u_9⟩, hc_10, hf⟩ := gm_bnd hf
          try dsimp only at hf
          refine gm_callV (G := GC) (u := u_4) (u' := u_9) (r := 35) (ci := 1) (As := [rv Z (gR u_4 1 2), rv Z 40, .int (gI u_4 (gR u_4 1 2) 6)]) (rest := []) (res := (some (.int r_8))) C hw hl (ok_X2_passToDay l Z (gR u_4 1 2) 40 (gI u_4 (gR u_4 1 2) 6) u_4 g_6 rfl r_8 u_9 hc_10) cw_X10_185 im_X2_passToDay rfl se_X2_passToDay rfl rfl rfl ⟨Nat.le_trans (Nat.le_of_ble_eq_true rfl) hRf, Nat.le_trans (Nat.le_of_ble_eq_true rfl) hRl⟩ rfl rfl (Nat.le_of_ble_eq_true rfl) dX10_heardByRow_82 (fun H locs hw => ?_)
          refine lv_pop hx hb dX10_heardByRow_85 rfl ?_
          refine lv_iinc (v := v3_5 + (1 : Int32)) (lv' := [(3, .int (v3_5 + (1 : Int32))), (0, rv Z 1), (2, .int a2)]) hx hb dX10_heardByRow_86 hl (k := 2) rfl rfl (by decide) rfl (fun ls hl => ?_)
          refine lv_goto (tgt := 48) hx hb dX10_heardByRow_89 (by decide) ?_
          exact Kc _ (gm_si hf) _ _ _ (lv_sub hl [1, 2, 0] rfl) hw)
    refine L48_1 _ _ _ hlp ?_ _ _ _ (lv_sub hl [1, 2, 0] rfl) hw
    obtain ⟨u_12, rfl⟩ : ∃ y, y = o1 := ⟨_, rfl⟩
    intro H locs ls hl hw
    try dsimp only at hf
    exact J92 u_12 _ _ _ hf  (lv_sub hl [0] rfl) hw
  refine gm_aload_n (G := GC) (r := 1) C rfl dX10_heardByRow_0 rfl (lv_at hl 0 rfl) ?_
  refine gm_getS (G := GC) (u := u) (r := 1) (ci := 9) (k := 12) C hw rfl fl_X10_71 dX10_heardByRow_1 rfl (q := 40) rfl ?_
  refine gm_aload_n (G := GC) (r := 1) C rfl dX10_heardByRow_4 rfl (lv_at hl 0 rfl) ?_
  refine gm_getS (G := GC) (u := u) (r := 1) (ci := 9) (k := 6) C hw rfl fl_X10_39 dX10_heardByRow_5 rfl (q := 27) rfl ?_
  obtain ⟨u_13, hc_14, hf⟩ := gm_bnd hf
  refine gm_callV (G := GC) (u := u) (u' := u_13) (r := 40) (ci := 0) (As := [rv Z 27]) (rest := []) (res := none) C hw hl (ok_X1_copyFrom l Z 40 27 u rfl rfl u_13 hc_14) cw_X10_189 im_X1_copyFrom rfl se_X1_copyFrom rfl rfl rfl ⟨Nat.le_trans (Nat.le_of_ble_eq_true rfl) hRf, Nat.le_trans (Nat.le_of_ble_eq_true rfl) hRl⟩ rfl rfl (Nat.le_of_ble_eq_true rfl) dX10_heardByRow_8 (fun H locs hw => ?_)
  refine lv_iconst (v := 0) hx hb dX10_heardByRow_11 (by decide) ?_
  refine lv_istore_n (i := 3) (lv' := [(3, .int (0 : Int32)), (0, rv Z 1), (1, .int a1), (2, .int a2)]) hx hb dX10_heardByRow_12 rfl hl (by decide) rfl (fun ls hl => ?_)
  obtain ⟨o2, hlp, hf⟩ := gm_bnd hf
  have L13_2 := gm_loop (b_X10_heardByRow_13 a1 a2) (fun x : (Int32 × gm_M) => ∀ (H : Heap) (locs : List Loc) (ls : Array Slot), lv_has ls 4 [(0, rv Z 1), (1, .int a1), (2, .int a2), (3, .int x.1)] → wd GC Z x.2 A s.heap H locs → W p l e R s m args below meth c H locs 0 0 Q (F0 m 13 ls [])) (fun z : gm_M => ∀ (H : Heap) (locs : List Loc) (ls : Array Slot), lv_has ls 4 [(0, rv Z 1), (2, .int a2)] → wd GC Z z A s.heap H locs → W p l e R s m args below meth c H locs 0 0 Q (F0 m 46 ls [])) (by
    intro x o2 hf Kc Kx
    obtain ⟨v3_16, u_15⟩ := x
    intro H locs ls hl hw
    unfold b_X10_heardByRow_13 at hf
    try dsimp only at hf
    refine lv_iload_n hx hb dX10_heardByRow_13 rfl (lv_at hl 3 rfl) ?_
    refine lv_iload_n hx hb dX10_heardByRow_14 rfl (lv_at hl 1 rfl) ?_
    refine lv_icmp_ge (tgt := 46) hx hb dX10_heardByRow_15 (by decide) (fun hc => ?_) (fun hc => ?_)
    · replace hf := (if_pos hc).symm.trans hf
      exact Kx _ (gm_si hf) _ _ _ (lv_sub hl [0, 2] rfl) hw
    · replace hf := (if_neg hc).symm.trans hf
      refine lv_iload_n hx hb dX10_heardByRow_18 rfl (lv_at hl 3 rfl) ?_
      refine gm_aload_n (G := GC) (r := 1) C rfl dX10_heardByRow_19 rfl (lv_at hl 0 rfl) ?_
      refine gm_getS (G := GC) (u := u_15) (r := 1) (ci := 9) (k := 13) C hw rfl fl_X10_74 dX10_heardByRow_20 rfl (q := 44) rfl ?_
      refine gm_alen (G := GC) (u := u_15) (r := 44) (t := 0) (n := 6) (v := 6) C hw rfl (by decide) (by decide) dX10_heardByRow_23 ?_
      refine lv_icmp_ge (tgt := 46) hx hb dX10_heardByRow_24 (by decide) (fun hc => ?_) (fun hc => ?_)
      · replace hf := (if_pos hc).symm.trans hf
        exact Kx _ (gm_si hf) _ _ _ (lv_sub hl [0, 2] rfl) hw
      · replace hf := (if_neg hc).symm.trans hf
        refine gm_aload_n (G := GC) (r := 1) C rfl dX10_heardByRow_27 rfl (lv_at hl 0 rfl) ?_
        refine gm_getS (G := GC) (u := u_15) (r := 1) (ci := 9) (k := 12) C hw rfl fl_X10_71 dX10_heardByRow_28 rfl (q := 40) rfl ?_
        refine gm_aload_n (G := GC) (r := 1) C rfl dX10_heardByRow_31 rfl (lv_at hl 0 rfl) ?_
        refine gm_getS (G := GC) (u := u_15) (r := 1) (ci := 9) (k := 13) C hw rfl fl_X10_74 dX10_heardByRow_32 rfl (q := 44) rfl ?_
        refine lv_iload_n hx hb dX10_heardByRow_35 rfl (lv_at hl 3 rfl) ?_
        obtain ⟨g_17, hf⟩ := gm_grd hf
        refine gm_iald (G := GC) (u := u_15) (r := 44) (n := 6) (i := v3_16) C hw rfl g_17 rfl dX10_heardByRow_36 ?_
        obtain ⟨u_18, hc_19, hf⟩ := gm_bnd hf
        refine gm_callV (G := GC) (u := u_15) (u' := u_18) (r := 40) (ci := 0) (As := [.int (gI u_15 44 (ix v3_16))]) (rest := []) (res := none) C hw hl (ok_X1_enter l Z 40 (gI u_15 44 (ix v3_16)) u_15 rfl u_18 hc_19) cw_X10_165 im_X1_enter rfl se_X1_enter rfl rfl rfl ⟨Nat.le_trans (Nat.le_of_ble_eq_true rfl) hRf, Nat.le_trans (Nat.le_of_ble_eq_true rfl) hRl⟩ rfl rfl (Nat.le_of_ble_eq_true rfl) dX10_heardByRow_37 (fun H locs hw => ?_)
        refine lv_iinc (v := v3_16 + (1 : Int32)) (lv' := [(3, .int (v3_16 + (1 : Int32))), (0, rv Z 1), (1, .int a1), (2, .int a2)]) hx hb dX10_heardByRow_40 hl (k := 3) rfl rfl (by decide) rfl (fun ls hl => ?_)
        refine lv_goto (tgt := 13) hx hb dX10_heardByRow_43 (by decide) ?_
        exact Kc _ (gm_si hf) _ _ _ (lv_sub hl [1, 2, 3, 0] rfl) hw)
  refine L13_2 _ _ _ hlp ?_ _ _ _ (lv_sub hl [1, 2, 3, 0] rfl) hw
  obtain ⟨u_20, rfl⟩ : ∃ y, y = o2 := ⟨_, rfl⟩
  intro H locs ls hl hw
  try dsimp only at hf
  exact J46 u_20 _ _ _ hf  (lv_sub hl [0, 1] rfl) hw
/-! LeapCapital.keepRow -/
def b_X10_keepRow_2 (a1 : Int32) : (Int32 × gm_M) → Option ((Int32 × gm_M) ⊕ gm_M) := fun x => match x with | (v2_2, u_1) => if a1 ≤ v2_2 then some (.inr u_1) else if (6 : Int32) ≤ v2_2 then some (.inr u_1) else if (6 : Int32) ≤ v2_2 then some (.inr u_1) else if ib v2_2 6 = true then gm_let (sI u_1 45 (ix v2_2) (gI u_1 44 (ix v2_2))) fun u_4 => some (.inl (v2_2 + (1 : Int32), u_4)) else none
def f_X10_keepRow (a1 : Int32) (u : gm_M) : Option gm_M := ((gm_lp (b_X10_keepRow_2 a1) gm_FU ((0 : Int32), u)).bind fun o => match o with | u_5 => some u_5)
set_option maxRecDepth 100000 in
set_option maxHeartbeats 4000000 in
theorem ok_X10_keepRow (l : Launch) (Z : gm_Z) (a1 : Int32) (u : gm_M)  (u' : gm_M) (hf : f_X10_keepRow a1 u = some (u')) : gm_Met l GC Z yX10_keepRow cX10_keepRow 3 none ({ frames := 0, cells := 0, slots := 0, locals := 0 }) [rv Z 1, .int a1] u none u' := by
  unfold f_X10_keepRow at hf
  refine gm_ofW (by decide +kernel) (Nat.le_of_ble_eq_true rfl) ?_
  intro p e s m args below meth c A ls Q R hRf hRl C E hl hw
  obtain ⟨hx, hb, -⟩ := id C
  have hl : lv_has ls 3 [(0, rv Z 1), (1, .int a1)] := hl
  refine lv_iconst (v := 0) hx hb dX10_keepRow_0 (by decide) ?_
  refine lv_istore_n (i := 2) (lv' := [(2, .int (0 : Int32)), (0, rv Z 1), (1, .int a1)]) hx hb dX10_keepRow_1 rfl hl (by decide) rfl (fun ls hl => ?_)
  obtain ⟨o1, hlp, hf⟩ := gm_bnd hf
  have L2_1 := gm_loop (b_X10_keepRow_2 a1) (fun x : (Int32 × gm_M) => ∀ (H : Heap) (locs : List Loc) (ls : Array Slot), lv_has ls 3 [(0, rv Z 1), (1, .int a1), (2, .int x.1)] → wd GC Z x.2 A s.heap H locs → W p l e R s m args below meth c H locs 0 0 Q (F0 m 2 ls [])) (fun z : gm_M => ∀ (H : Heap) (locs : List Loc) (ls : Array Slot), lv_has ls 3 [] → wd GC Z z A s.heap H locs → W p l e R s m args below meth c H locs 0 0 Q (F0 m 43 ls [])) (by
    intro x o1 hf Kc Kx
    obtain ⟨v2_2, u_1⟩ := x
    intro H locs ls hl hw
    unfold b_X10_keepRow_2 at hf
    try dsimp only at hf
    refine lv_iload_n hx hb dX10_keepRow_2 rfl (lv_at hl 2 rfl) ?_
    refine lv_iload_n hx hb dX10_keepRow_3 rfl (lv_at hl 1 rfl) ?_
    refine lv_icmp_ge (tgt := 43) hx hb dX10_keepRow_4 (by decide) (fun hc => ?_) (fun hc => ?_)
    · replace hf := (if_pos hc).symm.trans hf
      exact Kx _ (gm_si hf) _ _ _ (lv_sub hl [] rfl) hw
    · replace hf := (if_neg hc).symm.trans hf
      refine lv_iload_n hx hb dX10_keepRow_7 rfl (lv_at hl 2 rfl) ?_
      refine gm_aload_n (G := GC) (r := 1) C rfl dX10_keepRow_8 rfl (lv_at hl 0 rfl) ?_
      refine gm_getS (G := GC) (u := u_1) (r := 1) (ci := 9) (k := 13) C hw rfl fl_X10_74 dX10_keepRow_9 rfl (q := 44) rfl ?_
      refine gm_alen (G := GC) (u := u_1) (r := 44) (t := 0) (n := 6) (v := 6) C hw rfl (by decide) (by decide) dX10_keepRow_12 ?_
      refine lv_icmp_ge (tgt := 43) hx hb dX10_keepRow_13 (by decide) (fun hc => ?_) (fun hc => ?_)
      · replace hf := (if_pos hc).symm.trans hf
        exact Kx _ (gm_si hf) _ _ _ (lv_sub hl [] rfl) hw
      · replace hf := (if_neg hc).symm.trans hf
        refine lv_iload_n hx hb dX10_keepRow_16 rfl (lv_at hl 2 rfl) ?_
        refine gm_aload_n (G := GC) (r := 1) C rfl dX10_keepRow_17 rfl (lv_at hl 0 rfl) ?_
        refine gm_getS (G := GC) (u := u_1) (r := 1) (ci := 9) (k := 14) C hw rfl fl_X10_78 dX10_keepRow_18 rfl (q := 45) rfl ?_
        refine gm_alen (G := GC) (u := u_1) (r := 45) (t := 0) (n := 6) (v := 6) C hw rfl (by decide) (by decide) dX10_keepRow_21 ?_
        refine lv_icmp_ge (tgt := 43) hx hb dX10_keepRow_22 (by decide) (fun hc => ?_) (fun hc => ?_)
        · replace hf := (if_pos hc).symm.trans hf
          exact Kx _ (gm_si hf) _ _ _ (lv_sub hl [] rfl) hw
        · replace hf := (if_neg hc).symm.trans hf
          refine gm_aload_n (G := GC) (r := 1) C rfl dX10_keepRow_25 rfl (lv_at hl 0 rfl) ?_
          refine gm_getS (G := GC) (u := u_1) (r := 1) (ci := 9) (k := 14) C hw rfl fl_X10_78 dX10_keepRow_26 rfl (q := 45) rfl ?_
          refine lv_iload_n hx hb dX10_keepRow_29 rfl (lv_at hl 2 rfl) ?_
          refine gm_aload_n (G := GC) (r := 1) C rfl dX10_keepRow_30 rfl (lv_at hl 0 rfl) ?_
          refine gm_getS (G := GC) (u := u_1) (r := 1) (ci := 9) (k := 13) C hw rfl fl_X10_74 dX10_keepRow_31 rfl (q := 44) rfl ?_
          refine lv_iload_n hx hb dX10_keepRow_34 rfl (lv_at hl 2 rfl) ?_
          obtain ⟨g_3, hf⟩ := gm_grd hf
          refine gm_iald (G := GC) (u := u_1) (r := 44) (n := 6) (i := v2_2) C hw rfl g_3 rfl dX10_keepRow_35 ?_
          refine gm_iast (G := GC) (u := u_1) (r := 45) (n := 6) (i := v2_2) (x := gI u_1 44 (ix v2_2)) C hw rfl g_3 rfl dX10_keepRow_36 (fun H locs hw => ?_)
          obtain ⟨u_4, e_u_4, hf⟩ := gm_le hf
          rw [← e_u_4] at hw
          refine lv_iinc (v := v2_2 + (1 : Int32)) (lv' := [(2, .int (v2_2 + (1 : Int32))), (0, rv Z 1), (1, .int a1)]) hx hb dX10_keepRow_37 hl (k := 2) rfl rfl (by decide) rfl (fun ls hl => ?_)
          refine lv_goto (tgt := 2) hx hb dX10_keepRow_40 (by decide) ?_
          exact Kc _ (gm_si hf) _ _ _ (lv_sub hl [1, 2, 0] rfl) hw)
  refine L2_1 _ _ _ hlp ?_ _ _ _ (lv_sub hl [1, 2, 0] rfl) hw
  obtain ⟨u_5, rfl⟩ : ∃ y, y = o1 := ⟨_, rfl⟩
  intro H locs ls hl hw
  try dsimp only at hf
  exact gm_vret C E hw rfl rfl (Option.some.inj hf).symm dX10_keepRow_43
