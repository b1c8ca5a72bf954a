/-! LeapCapital$Tape.start -/
def f_X9_start  (u : gm_M) : Option gm_M := gm_let (sI u 3 3 (0 : Int32)) fun u_1 => (f_X9_advance u_1).bind fun u_2 => some u_2
set_option maxRecDepth 100000 in
set_option maxHeartbeats 4000000 in
theorem ok_X9_start (l : Launch) (Z : gm_Z)  (u : gm_M)  (u' : gm_M) (hf : f_X9_start u = some (u')) : gm_Met l GC Z yX9_start cX9_start 1 none ({ frames := 7, cells := 0, slots := 0, locals := 154 }) [rv Z 3] u none u' := by
  unfold f_X9_start at hf
  refine gm_ofW (by decide +kernel) (Nat.le_of_ble_eq_true rfl) ?_
  intro p e s m args below meth c A ls Q R hRf hRl C E hl hw
  obtain ⟨hx, hb, -⟩ := id C
  have hl : lv_has ls 1 [(0, rv Z 3)] := hl
  refine gm_aload_n (G := GC) (r := 3) C rfl dX9_start_0 rfl (lv_at hl 0 rfl) ?_
  refine lv_iconst (v := 0) hx hb dX9_start_1 (by decide) ?_
  refine gm_putI (G := GC) (u := u) (r := 3) (ci := 8) (k := 3) (v := (0 : Int32)) C hw rfl fl_X9_22 fp_8_3 dX9_start_2 rfl (fun H locs hw => ?_)
  obtain ⟨u_1, e_u_1, hf⟩ := gm_le hf
  rw [← e_u_1] at hw
  refine gm_aload_n (G := GC) (r := 3) C rfl dX9_start_5 rfl (lv_at hl 0 rfl) ?_
  obtain ⟨u_2, hc_3, hf⟩ := gm_bnd hf
  refine gm_callV (G := GC) (u := u_1) (u' := u_2) (r := 3) (ci := 8) (As := []) (rest := []) (res := none) C hw hl (ok_X9_advance l Z u_1 u_2 hc_3) cw_X9_37 im_X9_advance rfl se_X9_advance rfl rfl rfl ⟨Nat.le_trans (Nat.le_of_ble_eq_true rfl) hRf, Nat.le_trans (Nat.le_of_ble_eq_true rfl) hRl⟩ rfl rfl (Nat.le_of_ble_eq_true rfl) dX9_start_6 (fun H locs hw => ?_)
  exact gm_vret C E hw rfl rfl (Option.some.inj hf).symm dX9_start_9
/-! LeapCapital$Tape.word -/
def f_X9_word  (u : gm_M) : Int32 := if (gI u 3 4) = (1 : Int32) then gI u 3 5 else (-1 : Int32)
set_option maxRecDepth 100000 in
set_option maxHeartbeats 4000000 in
theorem ok_X9_word (l : Launch) (Z : gm_Z)  (u : gm_M)  : gm_Met l GC Z yX9_word cX9_word 1 (some .int) ({ frames := 0, cells := 0, slots := 0, locals := 0 }) [rv Z 3] u (some (.int (f_X9_word u))) u := by
  obtain ⟨r, hf⟩ : ∃ r, f_X9_word u = r := ⟨_, rfl⟩
  rw [hf]
  unfold f_X9_word at hf
  refine gm_ofW (by decide +kernel) (Nat.le_of_ble_eq_true rfl) ?_
  intro p e s m args below meth c A ls Q R hRf hRl C E hl hw
  obtain ⟨hx, hb, -⟩ := id C
  have hl : lv_has ls 1 [(0, rv Z 3)] := hl
  refine gm_aload_n (G := GC) (r := 3) C rfl dX9_word_0 rfl (lv_at hl 0 rfl) ?_
  refine gm_getI (G := GC) (u := u) (r := 3) (ci := 8) (k := 4) C hw rfl fl_X9_25 dX9_word_1 rfl ?_
  refine lv_iconst (v := 1) hx hb dX9_word_4 (by decide) ?_
  refine lv_icmp_ne (tgt := 15) hx hb dX9_word_5 (by decide) (fun hc => ?_) (fun hc => ?_)
  · replace hf := (if_neg hc).symm.trans hf
    refine lv_iconst (v := -1) hx hb dX9_word_15 (by decide) ?_
    exact gm_iret C E hw rfl ((congrArg (fun z => some (Value.int z)) hf).symm) rfl dX9_word_16
  · replace hf := (if_pos hc).symm.trans hf
    refine gm_aload_n (G := GC) (r := 3) C rfl dX9_word_8 rfl (lv_at hl 0 rfl) ?_
    refine gm_getI (G := GC) (u := u) (r := 3) (ci := 8) (k := 5) C hw rfl fl_X9_28 dX9_word_9 rfl ?_
    refine lv_goto (tgt := 16) hx hb dX9_word_12 (by decide) ?_
    exact gm_iret C E hw rfl ((congrArg (fun z => some (Value.int z)) hf).symm) rfl dX9_word_16
/-! LeapCapital$Tape.isSignOf -/
def f_X9_isSignOf (a1 : Int32) (u : gm_M) : Int32 := if (gI u 3 4) = (3 : Int32) then if (gI u 3 5) = a1 then (1 : Int32) else (0 : Int32) else (0 : Int32)
set_option maxRecDepth 100000 in
set_option maxHeartbeats 4000000 in
theorem ok_X9_isSignOf (l : Launch) (Z : gm_Z) (a1 : Int32) (u : gm_M)  : gm_Met l GC Z yX9_isSignOf cX9_isSignOf 2 (some .boolean) ({ frames := 0, cells := 0, slots := 0, locals := 0 }) [rv Z 3, .int a1] u (some (.int (f_X9_isSignOf a1 u))) u := by
  obtain ⟨r, hf⟩ : ∃ r, f_X9_isSignOf a1 u = r := ⟨_, rfl⟩
  rw [hf]
  unfold f_X9_isSignOf at hf
  refine gm_ofW (by decide +kernel) (Nat.le_of_ble_eq_true rfl) ?_
  intro p e s m args below meth c A ls Q R hRf hRl C E hl hw
  obtain ⟨hx, hb, -⟩ := id C
  have hl : lv_has ls 2 [(0, rv Z 3), (1, .int a1)] := hl
  refine gm_aload_n (G := GC) (r := 3) C rfl dX9_isSignOf_0 rfl (lv_at hl 0 rfl) ?_
  refine gm_getI (G := GC) (u := u) (r := 3) (ci := 8) (k := 4) C hw rfl fl_X9_25 dX9_isSignOf_1 rfl ?_
  refine lv_iconst (v := 3) hx hb dX9_isSignOf_4 (by decide) ?_
  refine lv_icmp_ne (tgt := 20) hx hb dX9_isSignOf_5 (by decide) (fun hc => ?_) (fun hc => ?_)
  · replace hf := (if_neg hc).symm.trans hf
    refine lv_iconst (v := 0) hx hb dX9_isSignOf_20 (by decide) ?_
    exact gm_zret C E hw rfl rfl ((congrArg (fun z => some (Value.int z)) hf).symm) rfl dX9_isSignOf_21
  · replace hf := (if_pos hc).symm.trans hf
    refine gm_aload_n (G := GC) (r := 3) C rfl dX9_isSignOf_8 rfl (lv_at hl 0 rfl) ?_
    refine gm_getI (G := GC) (u := u) (r := 3) (ci := 8) (k := 5) C hw rfl fl_X9_28 dX9_isSignOf_9 rfl ?_
    refine lv_iload_n hx hb dX9_isSignOf_12 rfl (lv_at hl 1 rfl) ?_
    refine lv_icmp_ne (tgt := 20) hx hb dX9_isSignOf_13 (by decide) (fun hc => ?_) (fun hc => ?_)
    · replace hf := (if_neg hc).symm.trans hf
      refine lv_iconst (v := 0) hx hb dX9_isSignOf_20 (by decide) ?_
      exact gm_zret C E hw rfl rfl ((congrArg (fun z => some (Value.int z)) hf).symm) rfl dX9_isSignOf_21
    · replace hf := (if_pos hc).symm.trans hf
      refine lv_iconst (v := 1) hx hb dX9_isSignOf_16 (by decide) ?_
      refine lv_goto (tgt := 21) hx hb dX9_isSignOf_17 (by decide) ?_
      exact gm_zret C E hw rfl rfl ((congrArg (fun z => some (Value.int z)) hf).symm) rfl dX9_isSignOf_21
/-! LeapCapital$Scribe.takeSign -/
def f_X8_takeSign (a1 : Int32) (u : gm_M) : Option gm_M := gm_let (f_X9_isSignOf a1 u) fun r_1 => (f_X8_take r_1 u).bind fun u_2 => some u_2
set_option maxRecDepth 100000 in
set_option maxHeartbeats 4000000 in
theorem ok_X8_takeSign (l : Launch) (Z : gm_Z) (a1 : Int32) (u : gm_M)  (u' : gm_M) (hf : f_X8_takeSign a1 u = some (u')) : gm_Met l GC Z yX8_takeSign cX8_takeSign 2 none ({ frames := 8, cells := 0, slots := 0, locals := 175 }) [rv Z 2, .int a1] u none u' := by
  unfold f_X8_takeSign at hf
  refine gm_ofW (by decide +kernel) (Nat.le_of_ble_eq_true rfl) ?_
  intro p e s m args below meth c A ls Q R hRf hRl C E hl hw
  obtain ⟨hx, hb, -⟩ := id C
  have hl : lv_has ls 2 [(0, rv Z 2), (1, .int a1)] := hl
  refine gm_aload_n (G := GC) (r := 2) C rfl dX8_takeSign_0 rfl (lv_at hl 0 rfl) ?_
  refine gm_aload_n (G := GC) (r := 2) C rfl dX8_takeSign_1 rfl (lv_at hl 0 rfl) ?_
  refine gm_getS (G := GC) (u := u) (r := 2) (ci := 7) (k := 0) C hw rfl fl_X8_12 dX8_takeSign_2 rfl (q := 3) rfl ?_
  refine lv_iload_n hx hb dX8_takeSign_5 rfl (lv_at hl 1 rfl) ?_
  obtain ⟨r_1, e_r_1, hf⟩ := gm_le hf
  refine gm_callV (G := GC) (u := u) (u' := u) (r := 3) (ci := 8) (As := [.int a1]) (rest := [rv Z 2]) (res := (some (.int (f_X9_isSignOf a1 u)))) C hw hl (ok_X9_isSignOf l Z a1 u) cw_X8_137 im_X9_isSignOf rfl se_X9_isSignOf rfl rfl rfl ⟨Nat.le_trans (Nat.le_of_ble_eq_true rfl) hRf, Nat.le_trans (Nat.le_of_ble_eq_true rfl) hRl⟩ rfl rfl (Nat.le_of_ble_eq_true rfl) dX8_takeSign_6 (fun H locs hw => ?_)
  refine gm_topI e_r_1 ?_
  obtain ⟨u_2, hc_3, hf⟩ := gm_bnd hf
  refine gm_callV (G := GC) (u := u) (u' := u_2) (r := 2) (ci := 7) (As := [.int r_1]) (rest := []) (res := none) C hw hl (ok_X8_take l Z r_1 u u_2 hc_3) cw_X8_156 im_X8_take rfl se_X8_take rfl rfl rfl ⟨Nat.le_trans (Nat.le_of_ble_eq_true rfl) hRf, Nat.le_trans (Nat.le_of_ble_eq_true rfl) hRl⟩ rfl rfl (Nat.le_of_ble_eq_true rfl) dX8_takeSign_9 (fun H locs hw => ?_)
  exact gm_vret C E hw rfl rfl (Option.some.inj hf).symm dX8_takeSign_12
/-! LeapCapital$Scribe.readReignLine -/
def j_X8_readReignLine_116 (a1 : Nat) (a2 : Nat) (v3_4 : Int32) (v4_5 : Int32) (u_3 : gm_M) : Option gm_M := (f_X8_takeSign (59 : Int32) u_3).bind fun u_6 => (f_X6_add a2 v3_4 v4_5 u_6).bind fun u_8 => some u_8
def j_X8_readReignLine_93 (a1 : Nat) (a2 : Nat) (v3_11 : Int32) (v4_12 : Int32) (u_10 : gm_M) : Option gm_M := (f_X8_takeName u_10).bind fun o => match o with | (r_13, u_14) => j_X8_readReignLine_116 a1 a2 v3_11 v4_12 u_14
def j_X8_readReignLine_59 (a1 : Nat) (a2 : Nat) (v3_18 : Int32) (u_17 : gm_M) : Option gm_M := (f_X5_find a1 (gJ u_17 3 6) u_17).bind fun r_19 => gm_let (f_X9_isName u_17) fun r_21 => if r_21 = 0 then j_X8_readReignLine_93 a1 a2 v3_18 r_19 u_17 else if r_19 = (-1 : Int32) then (f_X8_refuse (2 : Int32) u_17).bind fun u_22 => j_X8_readReignLine_93 a1 a2 v3_18 r_19 u_22 else j_X8_readReignLine_93 a1 a2 v3_18 r_19 u_17
def j_X8_readReignLine_39 (a1 : Nat) (a2 : Nat) (v3_25 : Int32) (u_24 : gm_M) : Option gm_M := (f_X8_takeWord v3_25 u_24).bind fun u_26 => if v3_25 = (7 : Int32) then j_X8_readReignLine_59 a1 a2 v3_25 u_26 else if v3_25 = (8 : Int32) then j_X8_readReignLine_59 a1 a2 v3_25 u_26 else if v3_25 = (9 : Int32) then (f_X8_takeNumber (1 : Int32) (20 : Int32) u_26).bind fun o => match o with | (r_28, u_29) => j_X8_readReignLine_116 a1 a2 v3_25 r_28 u_29 else j_X8_readReignLine_116 a1 a2 v3_25 (0 : Int32) u_26
def j_X8_readReignLine_25 (a1 : Nat) (a2 : Nat) (v3_33 : Int32) (u_32 : gm_M) : Option gm_M := if (gI u_32 a2 2) < (40 : Int32) then j_X8_readReignLine_39 a1 a2 v3_33 u_32 else (f_X8_refuse (5 : Int32) u_32).bind fun u_34 => j_X8_readReignLine_39 a1 a2 v3_33 u_34
def j_X8_readReignLine_20 (a1 : Nat) (a2 : Nat) (v3_37 : Int32) (u_36 : gm_M) : Option gm_M := (f_X8_refuse (1 : Int32) u_36).bind fun u_38 => j_X8_readReignLine_25 a1 a2 v3_37 u_38
def f_X8_readReignLine (a1 : Nat) (a2 : Nat) (u : gm_M) : Option gm_M := gm_let (f_X9_word u) fun r_40 => if r_40 < (7 : Int32) then j_X8_readReignLine_20 a1 a2 r_40 u else if r_40 ≤ (11 : Int32) then j_X8_readReignLine_25 a1 a2 r_40 u else j_X8_readReignLine_20 a1 a2 r_40 u
set_option maxRecDepth 100000 in
set_option maxHeartbeats 4000000 in
theorem ok_X8_readReignLine (l : Launch) (Z : gm_Z) (a1 : Nat) (a2 : Nat) (u : gm_M) (h1 : isRealm a1 = true) (h2 : isReign a2 = true) (u' : gm_M) (hf : f_X8_readReignLine a1 a2 u = some (u')) : gm_Met l GC Z yX8_readReignLine cX8_readReignLine 5 none ({ frames := 9, cells := 0, slots := 0, locals := 199 }) [rv Z 2, rv Z a1, rv Z a2] u none u' := by
  unfold f_X8_readReignLine at hf
  refine gm_ofW (by decide +kernel) (by simp [lg_sl, gm_cat, gm_catI, gm_catJ]) ?_
  intro p e s m args below meth c A ls Q R hRf hRl C E hl hw
  obtain ⟨hx, hb, -⟩ := id C
  have hl : lv_has ls 5 [(0, rv Z 2), (1, rv Z a1), (2, rv Z a2)] := by simpa [lv_args, gm_cat, gm_catI, gm_catJ] using hl
  obtain ⟨k_1_0, k_1_1, k_1_2, k_1_3, k_1_4, k_1_5, k_1_6, k_1_7, k_1_8, k_1_9, k_1_10, k_1_11⟩ := fc_Realm h1
  obtain ⟨k_2_0, k_2_1, k_2_2, k_2_3, k_2_4⟩ := fc_Reign h2
  have J116 : ∀ (v3_4 : Int32) (v4_5 : Int32) (u_3 : gm_M) (H : Heap) (locs : List Loc) (ls : Array Slot), j_X8_readReignLine_116 a1 a2 v3_4 v4_5 u_3 = some (u') → lv_has ls 5 [(0, rv Z 2), (2, rv Z a2), (3, .int v3_4), (4, .int v4_5)] → wd GC Z u_3 A s.heap H locs → W p l e R s m args below meth c H locs 0 0 Q (F0 m 116 ls []) := by
    intro v3_4 v4_5 u_3 H locs ls hf  hl hw
    unfold j_X8_readReignLine_116 at hf
    refine gm_aload_n (G := GC) (r := 2) C rfl dX8_readReignLine_116 rfl (lv_at hl 0 rfl) ?_
    refine lv_bipush (v := 59) hx hb dX8_readReignLine_117 (by decide) ?_
    obtain ⟨u_6, hc_7, hf⟩ := gm_bnd hf
    refine gm_callV (G := GC) (u := u_3) (u' := u_6) (r := 2) (ci := 7) (As := [.int (59 : Int32)]) (rest := []) (res := none) C hw hl (ok_X8_takeSign l Z (59 : Int32) u_3 u_6 hc_7) cw_X8_75 im_X8_takeSign rfl se_X8_takeSign rfl rfl rfl ⟨Nat.le_trans (Nat.le_of_ble_eq_true rfl) hRf, Nat.le_trans (Nat.le_of_ble_eq_true rfl) hRl⟩ rfl rfl (Nat.le_of_ble_eq_true rfl) dX8_readReignLine_119 (fun H locs hw => ?_)
    refine gm_aload_n (G := GC) (r := a2) C k_2_0 dX8_readReignLine_122 rfl (lv_at hl 1 rfl) ?_
    refine lv_iload_n hx hb dX8_readReignLine_123 rfl (lv_at hl 2 rfl) ?_
    refine lv_iload hx hb dX8_readReignLine_124 (lv_at hl 3 rfl) ?_
    obtain ⟨u_8, hc_9, hf⟩ := gm_bnd hf
    refine gm_callV (G := GC) (u := u_6) (u' := u_8) (r := a2) (ci := 5) (As := [.int v3_4, .int v4_5]) (rest := []) (res := none) C hw hl (ok_X6_add l Z a2 v3_4 v4_5 u_6 h2 u_8 hc_9) cw_X8_118 im_X6_add rfl se_X6_add k_2_0 rfl rfl ⟨Nat.le_trans (Nat.le_of_ble_eq_true rfl) hRf, Nat.le_trans (Nat.le_of_ble_eq_true rfl) hRl⟩ rfl rfl (Nat.le_of_ble_eq_true rfl) dX8_readReignLine_126 (fun H locs hw => ?_)
    exact gm_vret C E hw rfl rfl (Option.some.inj hf).symm dX8_readReignLine_129
  have J93 : ∀ (v3_11 : Int32) (v4_12 : Int32) (u_10 : gm_M) (H : Heap) (locs : List Loc) (ls : Array Slot), j_X8_readReignLine_93 a1 a2 v3_11 v4_12 u_10 = some (u') → lv_has ls 5 [(0, rv Z 2), (2, rv Z a2), (3, .int v3_11), (4, .int v4_12)] → wd GC Z u_10 A s.heap H locs → W p l e R s m args below meth c H locs 0 0 Q (F0 m 93 ls []) := by
    intro v3_11 v4_12 u_10 H locs ls hf  hl hw
    unfold j_X8_readReignLine_93 at hf
    refine gm_aload_n (G := GC) (r := 2) C rfl dX8_readReignLine_93 rfl (lv_at hl 0 rfl) ?_
    obtain ⟨⟨r_13, u_14⟩, hc_15, hf⟩ := gm_bnd hf
    try dsimp only at hf
    refine gm_callV (G := GC) (u := u_10) (u' := u_14) (r := 2) (ci := 7) (As := []) (rest := []) (res := (some (.long r_13))) C hw hl (ok_X8_takeName l Z u_10 r_13 u_14 hc_15) cw_X8_97 im_X8_takeName rfl se_X8_takeName rfl rfl rfl ⟨Nat.le_trans (Nat.le_of_ble_eq_true rfl) hRf, Nat.le_trans (Nat.le_of_ble_eq_true rfl) hRl⟩ rfl rfl (Nat.le_of_ble_eq_true rfl) dX8_readReignLine_94 (fun H locs hw => ?_)
    refine lv_pop2_2 hx hb dX8_readReignLine_97 rfl ?_
    refine lv_goto (tgt := 116) hx hb dX8_readReignLine_98 (by decide) ?_
    exact J116 v3_11 v4_12 u_14 _ _ _ hf  (lv_sub hl [0, 1, 2, 3] rfl) hw
  have J59 : ∀ (v3_18 : Int32) (u_17 : gm_M) (H : Heap) (locs : List Loc) (ls : Array Slot), j_X8_readReignLine_59 a1 a2 v3_18 u_17 = some (u') → lv_has ls 5 [(0, rv Z 2), (1, rv Z a1), (2, rv Z a2), (3, .int v3_18)] → wd GC Z u_17 A s.heap H locs → W p l e R s m args below meth c H locs 0 0 Q (F0 m 59 ls []) := by
    intro v3_18 u_17 H locs ls hf  hl hw
    unfold j_X8_readReignLine_59 at hf
    refine gm_aload_n (G := GC) (r := a1) C k_1_0 dX8_readReignLine_59 rfl (lv_at hl 1 rfl) ?_
    refine gm_aload_n (G := GC) (r := 2) C rfl dX8_readReignLine_60 rfl (lv_at hl 0 rfl) ?_
    refine gm_getS (G := GC) (u := u_17) (r := 2) (ci := 7) (k := 0) C hw rfl fl_X8_12 dX8_readReignLine_61 rfl (q := 3) rfl ?_
    refine gm_getJ (G := GC) (u := u_17) (r := 3) (ci := 8) (k := 6) C hw rfl fl_X8_89 dX8_readReignLine_64 rfl ?_
    obtain ⟨r_19, hc_20, hf⟩ := gm_bnd hf
    refine gm_callV (G := GC) (u := u_17) (u' := u_17) (r := a1) (ci := 4) (As := [.long (gJ u_17 3 6)]) (rest := []) (res := (some (.int r_19))) C hw hl (ok_X5_find l Z a1 (gJ u_17 3 6) u_17 h1 r_19 hc_20) cw_X8_93 im_X5_find rfl se_X5_find k_1_0 rfl rfl ⟨Nat.le_trans (Nat.le_of_ble_eq_true rfl) hRf, Nat.le_trans (Nat.le_of_ble_eq_true rfl) hRl⟩ rfl rfl (Nat.le_of_ble_eq_true rfl) dX8_readReignLine_67 (fun H locs hw => ?_)
    refine lv_istore (i := 4) (lv' := [(4, .int r_19), (0, rv Z 2), (1, rv Z a1), (2, rv Z a2), (3, .int v3_18)]) hx hb dX8_readReignLine_70 hl (by decide) rfl (fun ls hl => ?_)
    refine gm_aload_n (G := GC) (r := 2) C rfl dX8_readReignLine_72 rfl (lv_at hl 1 rfl) ?_
    refine gm_getS (G := GC) (u := u_17) (r := 2) (ci := 7) (k := 0) C hw rfl fl_X8_12 dX8_readReignLine_73 rfl (q := 3) rfl ?_
    obtain ⟨r_21, e_r_21, hf⟩ := gm_le hf
    refine gm_callV (G := GC) (u := u_17) (u' := u_17) (r := 3) (ci := 8) (As := []) (rest := []) (res := (some (.int (f_X9_isName u_17)))) C hw hl (ok_X9_isName l Z u_17) cw_X8_85 im_X9_isName rfl se_X9_isName rfl rfl rfl ⟨Nat.le_trans (Nat.le_of_ble_eq_true rfl) hRf, Nat.le_trans (Nat.le_of_ble_eq_true rfl) hRl⟩ rfl rfl (Nat.le_of_ble_eq_true rfl) dX8_readReignLine_76 (fun H locs hw => ?_)
    refine gm_topI e_r_21 ?_
    refine lv_if_eq (tgt := 93) hx hb dX8_readReignLine_79 (by decide) (fun hc => ?_) (fun hc => ?_)
    · replace hf := (if_pos hc).symm.trans hf
      exact J93 v3_18 r_19 u_17 _ _ _ hf  (lv_sub hl [1, 3, 4, 0] rfl) hw
    · replace hf := (if_neg hc).symm.trans hf
      refine lv_iload hx hb dX8_readReignLine_82 (lv_at hl 0 rfl) ?_
      refine lv_iconst (v := -1) hx hb dX8_readReignLine_84 (by decide) ?_
      refine lv_icmp_ne (tgt := 93) hx hb dX8_readReignLine_85 (by decide) (fun hc => ?_) (fun hc => ?_)
      · replace hf := (if_neg hc).symm.trans hf
        exact J93 v3_18 r_19 u_17 _ _ _ hf  (lv_sub hl [1, 3, 4, 0] rfl) hw
      · replace hf := (if_pos hc).symm.trans hf
        refine gm_aload_n (G := GC) (r := 2) C rfl dX8_readReignLine_88 rfl (lv_at hl 1 rfl) ?_
        refine lv_iconst (v := 2) hx hb dX8_readReignLine_89 (by decide) ?_
        obtain ⟨u_22, hc_23, hf⟩ := gm_bnd hf
        refine gm_callV (G := GC) (u := u_17) (u' := u_22) (r := 2) (ci := 7) (As := [.int (2 : Int32)]) (rest := []) (res := none) C hw hl (ok_X8_refuse l Z (2 : Int32) u_17 u_22 hc_23) cw_X8_71 im_X8_refuse rfl se_X8_refuse rfl rfl rfl ⟨Nat.le_trans (Nat.le_of_ble_eq_true rfl) hRf, Nat.le_trans (Nat.le_of_ble_eq_true rfl) hRl⟩ rfl rfl (Nat.le_of_ble_eq_true rfl) dX8_readReignLine_90 (fun H locs hw => ?_)
        exact J93 v3_18 r_19 u_22 _ _ _ hf  (lv_sub hl [1, 3, 4, 0] rfl) hw
  have J39 : ∀ (v3_25 : Int32) (u_24 : gm_M) (H : Heap) (locs : List Loc) (ls : Array Slot), j_X8_readReignLine_39 a1 a2 v3_25 u_24 = some (u') → lv_has ls 5 [(0, rv Z 2), (1, rv Z a1), (2, rv Z a2), (3, .int v3_25)] → wd GC Z u_24 A s.heap H locs → W p l e R s m args below meth c H locs 0 0 Q (F0 m 39 ls []) := by
    intro v3_25 u_24 H locs ls hf  hl hw
    unfold j_X8_readReignLine_39 at hf
    refine gm_aload_n (G := GC) (r := 2) C rfl dX8_readReignLine_39 rfl (lv_at hl 0 rfl) ?_
    refine lv_iload_n hx hb dX8_readReignLine_40 rfl (lv_at hl 3 rfl) ?_
    obtain ⟨u_26, hc_27, hf⟩ := gm_bnd hf
    refine gm_callV (G := GC) (u := u_24) (u' := u_26) (r := 2) (ci := 7) (As := [.int v3_25]) (rest := []) (res := none) C hw hl (ok_X8_takeWord l Z v3_25 u_24 u_26 hc_27) cw_X8_82 im_X8_takeWord rfl se_X8_takeWord rfl rfl rfl ⟨Nat.le_trans (Nat.le_of_ble_eq_true rfl) hRf, Nat.le_trans (Nat.le_of_ble_eq_true rfl) hRl⟩ rfl rfl (Nat.le_of_ble_eq_true rfl) dX8_readReignLine_41 (fun H locs hw => ?_)
    refine lv_iconst (v := 0) hx hb dX8_readReignLine_44 (by decide) ?_
    refine lv_istore (i := 4) (lv' := [(4, .int (0 : Int32)), (0, rv Z 2), (1, rv Z a1), (2, rv Z a2), (3, .int v3_25)]) hx hb dX8_readReignLine_45 hl (by decide) rfl (fun ls hl => ?_)
    refine lv_iload_n hx hb dX8_readReignLine_47 rfl (lv_at hl 4 rfl) ?_
    refine lv_bipush (v := 7) hx hb dX8_readReignLine_48 (by decide) ?_
    refine lv_icmp_eq (tgt := 59) hx hb dX8_readReignLine_50 (by decide) (fun hc => ?_) (fun hc => ?_)
    · replace hf := (if_pos hc).symm.trans hf
      exact J59 v3_25 u_26 _ _ _ hf  (lv_sub hl [1, 2, 3, 4] rfl) hw
    · replace hf := (if_neg hc).symm.trans hf
      refine lv_iload_n hx hb dX8_readReignLine_53 rfl (lv_at hl 4 rfl) ?_
      refine lv_bipush (v := 8) hx hb dX8_readReignLine_54 (by decide) ?_
      refine lv_icmp_ne (tgt := 101) hx hb dX8_readReignLine_56 (by decide) (fun hc => ?_) (fun hc => ?_)
      · replace hf := (if_neg hc).symm.trans hf
        refine lv_iload_n hx hb dX8_readReignLine_101 rfl (lv_at hl 4 rfl) ?_
        refine lv_bipush (v := 9) hx hb dX8_readReignLine_102 (by decide) ?_
        refine lv_icmp_ne (tgt := 116) hx hb dX8_readReignLine_104 (by decide) (fun hc => ?_) (fun hc => ?_)
        · replace hf := (if_neg hc).symm.trans hf
          exact J116 v3_25 (0 : Int32) u_26 _ _ _ hf  (lv_sub hl [1, 3, 4, 0] rfl) hw
        · replace hf := (if_pos hc).symm.trans hf
          refine gm_aload_n (G := GC) (r := 2) C rfl dX8_readReignLine_107 rfl (lv_at hl 1 rfl) ?_
          refine lv_iconst (v := 1) hx hb dX8_readReignLine_108 (by decide) ?_
          refine lv_bipush (v := 20) hx hb dX8_readReignLine_109 (by decide) ?_
          obtain ⟨⟨r_28, u_29⟩, hc_30, hf⟩ := gm_bnd hf
          try dsimp only at hf
          refine gm_callV (G := GC) (u := u_26) (u' := u_29) (r := 2) (ci := 7) (As := [.int (1 : Int32), .int (20 : Int32)]) (rest := []) (res := (some (.int r_28))) C hw hl (ok_X8_takeNumber l Z (1 : Int32) (20 : Int32) u_26 r_28 u_29 hc_30) cw_X8_47 im_X8_takeNumber rfl se_X8_takeNumber rfl rfl rfl ⟨Nat.le_trans (Nat.le_of_ble_eq_true rfl) hRf, Nat.le_trans (Nat.le_of_ble_eq_true rfl) hRl⟩ rfl rfl (Nat.le_of_ble_eq_true rfl) dX8_readReignLine_111 (fun H locs hw => ?_)
          refine lv_istore (i := 4) (lv' := [(4, .int r_28), (0, rv Z 2), (1, rv Z a1), (2, rv Z a2), (3, .int v3_25)]) hx hb dX8_readReignLine_114 hl (by decide) rfl (fun ls hl => ?_)
          exact J116 v3_25 r_28 u_29 _ _ _ hf  (lv_sub hl [1, 3, 4, 0] rfl) hw
      · replace hf := (if_pos hc).symm.trans hf
        exact J59 v3_25 u_26 _ _ _ hf  (lv_sub hl [1, 2, 3, 4] rfl) hw
  have J25 : ∀ (v3_33 : Int32) (u_32 : gm_M) (H : Heap) (locs : List Loc) (ls : Array Slot), j_X8_readReignLine_25 a1 a2 v3_33 u_32 = some (u') → lv_has ls 5 [(0, rv Z 2), (1, rv Z a1), (2, rv Z a2), (3, .int v3_33)] → wd GC Z u_32 A s.heap H locs → W p l e R s m args below meth c H locs 0 0 Q (F0 m 25 ls []) := by
    intro v3_33 u_32 H locs ls hf  hl hw
    unfold j_X8_readReignLine_25 at hf
    refine gm_aload_n (G := GC) (r := a2) C k_2_0 dX8_readReignLine_25 rfl (lv_at hl 2 rfl) ?_
    refine gm_getI (G := GC) (u := u_32) (r := a2) (ci := 5) (k := 2) C hw k_2_0 fl_X8_115 dX8_readReignLine_26 rfl ?_
    refine lv_bipush (v := 40) hx hb dX8_readReignLine_29 (by decide) ?_
    refine lv_icmp_lt (tgt := 39) hx hb dX8_readReignLine_31 (by decide) (fun hc => ?_) (fun hc => ?_)
    · replace hf := (if_pos hc).symm.trans hf
      exact J39 v3_33 u_32 _ _ _ hf  (lv_sub hl [0, 1, 2, 3] rfl) hw
    · replace hf := (if_neg hc).symm.trans hf
      refine gm_aload_n (G := GC) (r := 2) C rfl dX8_readReignLine_34 rfl (lv_at hl 0 rfl) ?_
      refine lv_iconst (v := 5) hx hb dX8_readReignLine_35 (by decide) ?_
      obtain ⟨u_34, hc_35, hf⟩ := gm_bnd hf
      refine gm_callV (G := GC) (u := u_32) (u' := u_34) (r := 2) (ci := 7) (As := [.int (5 : Int32)]) (rest := []) (res := none) C hw hl (ok_X8_refuse l Z (5 : Int32) u_32 u_34 hc_35) cw_X8_71 im_X8_refuse rfl se_X8_refuse rfl rfl rfl ⟨Nat.le_trans (Nat.le_of_ble_eq_true rfl) hRf, Nat.le_trans (Nat.le_of_ble_eq_true rfl) hRl⟩ rfl rfl (Nat.le_of_ble_eq_true rfl) dX8_readReignLine_36 (fun H locs hw => ?_)
      exact J39 v3_33 u_34 _ _ _ hf  (lv_sub hl [0, 1, 2, 3] rfl) hw
  have J20 : ∀ (v3_37 : Int32) (u_36 : gm_M) (H : Heap) (locs : List Loc) (ls : Array Slot), j_X8_readReignLine_20 a1 a2 v3_37 u_36 = some (u') → lv_has ls 5 [(0, rv Z 2), (1, rv Z a1), (2, rv Z a2), (3, .int v3_37)] → wd GC Z u_36 A s.heap H locs → W p l e R s m args below meth c H locs 0 0 Q (F0 m 20 ls []) := by
    intro v3_37 u_36 H locs ls hf  hl hw
    unfold j_X8_readReignLine_20 at hf
    refine gm_aload_n (G := GC) (r := 2) C rfl dX8_readReignLine_20 rfl (lv_at hl 0 rfl) ?_
    refine lv_iconst (v := 1) hx hb dX8_readReignLine_21 (by decide) ?_
    obtain ⟨u_38, hc_39, hf⟩ := gm_bnd hf
    refine gm_callV (G := GC) (u := u_36) (u' := u_38) (r := 2) (ci := 7) (As := [.int (1 : Int32)]) (rest := []) (res := none) C hw hl (ok_X8_refuse l Z (1 : Int32) u_36 u_38 hc_39) cw_X8_71 im_X8_refuse rfl se_X8_refuse rfl rfl rfl ⟨Nat.le_trans (Nat.le_of_ble_eq_true rfl) hRf, Nat.le_trans (Nat.le_of_ble_eq_true rfl) hRl⟩ rfl rfl (Nat.le_of_ble_eq_true rfl) dX8_readReignLine_22 (fun H locs hw => ?_)
    exact J25 v3_37 u_38 _ _ _ hf  (lv_sub hl [0, 1, 2, 3] rfl) hw
  refine gm_aload_n (G := GC) (r := 2) C rfl dX8_readReignLine_0 rfl (lv_at hl 0 rfl) ?_
  refine gm_getS (G := GC) (u := u) (r := 2) (ci := 7) (k := 0) C hw rfl fl_X8_12 dX8_readReignLine_1 rfl (q := 3) rfl ?_
  obtain ⟨r_40, e_r_40, hf⟩ := gm_le hf
  refine gm_callV (G := GC) (u := u) (u' := u) (r := 3) (ci := 8) (As := []) (rest := []) (res := (some (.int (f_X9_word u)))) C hw hl (ok_X9_word l Z u) cw_X8_36 im_X9_word rfl se_X9_word rfl rfl rfl ⟨Nat.le_trans (Nat.le_of_ble_eq_true rfl) hRf, Nat.le_trans (Nat.le_of_ble_eq_true rfl) hRl⟩ rfl rfl (Nat.le_of_ble_eq_true rfl) dX8_readReignLine_4 (fun H locs hw => ?_)
  refine gm_topI e_r_40 ?_
  refine lv_istore_n (i := 3) (lv' := [(3, .int r_40), (0, rv Z 2), (1, rv Z a1), (2, rv Z a2)]) hx hb dX8_readReignLine_7 rfl hl (by decide) (by simp [gm_cat, gm_catI, gm_catJ]) (fun ls hl => ?_)
  refine lv_iload_n hx hb dX8_readReignLine_8 rfl (lv_at hl 0 rfl) ?_
  refine lv_bipush (v := 7) hx hb dX8_readReignLine_9 (by decide) ?_
  refine lv_icmp_lt (tgt := 20) hx hb dX8_readReignLine_11 (by decide) (fun hc => ?_) (fun hc => ?_)
  · replace hf := (if_pos hc).symm.trans hf
    exact J20 r_40 u _ _ _ hf  (lv_sub hl [1, 2, 3, 0] rfl) hw
  · replace hf := (if_neg hc).symm.trans hf
    refine lv_iload_n hx hb dX8_readReignLine_14 rfl (lv_at hl 0 rfl) ?_
    refine lv_bipush (v := 11) hx hb dX8_readReignLine_15 (by decide) ?_
    refine lv_icmp_le (tgt := 25) hx hb dX8_readReignLine_17 (by decide) (fun hc => ?_) (fun hc => ?_)
    · replace hf := (if_pos hc).symm.trans hf
      exact J25 r_40 u _ _ _ hf  (lv_sub hl [1, 2, 3, 0] rfl) hw
    · replace hf := (if_neg hc).symm.trans hf
      exact J20 r_40 u _ _ _ hf  (lv_sub hl [1, 2, 3, 0] rfl) hw
/-! LeapCapital$Scribe.readReign -/
def b_X8_readReign_18 (a1 : Nat) (a2 : Nat) : (Int32 × gm_M) → Option ((Int32 × gm_M) ⊕ gm_M) := fun x => match x with | (v3_9, u_8) => if (1000 : Int32) ≤ v3_9 then some (.inr u_8) else if (gI u_8 2 1) = 0 then if (gI u_8 3 4) = 0 then some (.inr u_8) else (f_X8_readReignLine a1 a2 u_8).bind fun u_10 => some (.inl (v3_9 + (1 : Int32), u_10)) else some (.inr u_8)
def f_X8_readReign (a1 : Nat) (a2 : Nat) (u : gm_M) : Option (Int32 × gm_M) := gm_let (sI u 2 1 (0 : Int32)) fun u_3 => (f_X6_clear a2 u_3).bind fun u_4 => (f_X9_start u_4).bind fun u_6 => ((gm_lp (b_X8_readReign_18 a1 a2) gm_FU ((0 : Int32), u_6)).bind fun o => match o with | u_12 => some (gI u_12 2 1, u_12))
set_option maxRecDepth 100000 in
set_option maxHeartbeats 4000000 in
theorem ok_X8_readReign (l : Launch) (Z : gm_Z) (a1 : Nat) (a2 : Nat) (u : gm_M) (h1 : isRealm a1 = true) (h2 : isReign a2 = true) (r : Int32) (u' : gm_M) (hf : f_X8_readReign a1 a2 u = some (r, u')) : gm_Met l GC Z yX8_readReign cX8_readReign 4 (some .int) ({ frames := 10, cells := 0, slots := 0, locals := 223 }) [rv Z 2, rv Z a1, rv Z a2] u (some (.int r)) u' := by
  unfold f_X8_readReign at hf
  refine gm_ofW (by decide +kernel) (by simp [lg_sl, gm_cat, gm_catI, gm_catJ]) ?_
  intro p e s m args below meth c A ls Q R hRf hRl C E hl hw
  obtain ⟨hx, hb, -⟩ := id C
  have hl : lv_has ls 4 [(0, rv Z 2), (1, rv Z a1), (2, rv Z a2)] := by simpa [lv_args, gm_cat, gm_catI, gm_catJ] using hl
  obtain ⟨k_1_0, k_1_1, k_1_2, k_1_3, k_1_4, k_1_5, k_1_6, k_1_7, k_1_8, k_1_9, k_1_10, k_1_11⟩ := fc_Realm h1
  obtain ⟨k_2_0, k_2_1, k_2_2, k_2_3, k_2_4⟩ := fc_Reign h2
  refine gm_aload_n (G := GC) (r := 2) C rfl dX8_readReign_0 rfl (lv_at hl 0 rfl) ?_
  refine lv_iconst (v := 0) hx hb dX8_readReign_1 (by decide) ?_
  refine gm_putI (G := GC) (u := u) (r := 2) (ci := 7) (k := 1) (v := (0 : Int32)) C hw rfl fl_X8_18 fp_7_1 dX8_readReign_2 rfl (fun H locs hw => ?_)
  obtain ⟨u_3, e_u_3, hf⟩ := gm_le hf
  rw [← e_u_3] at hw
  refine gm_aload_n (G := GC) (r := a2) C k_2_0 dX8_readReign_5 rfl (lv_at hl 2 rfl) ?_
  obtain ⟨u_4, hc_5, hf⟩ := gm_bnd hf
  refine gm_callV (G := GC) (u := u_3) (u' := u_4) (r := a2) (ci := 5) (As := []) (rest := []) (res := none) C hw hl (ok_X6_clear l Z a2 u_3 h2 u_4 hc_5) cw_X8_108 im_X6_clear rfl se_X6_clear k_2_0 rfl rfl ⟨Nat.le_trans (Nat.le_of_ble_eq_true rfl) hRf, Nat.le_trans (Nat.le_of_ble_eq_true rfl) hRl⟩ rfl rfl (Nat.le_of_ble_eq_true rfl) dX8_readReign_6 (fun H locs hw => ?_)
  refine gm_aload_n (G := GC) (r := 2) C rfl dX8_readReign_9 rfl (lv_at hl 0 rfl) ?_
  refine gm_getS (G := GC) (u := u_4) (r := 2) (ci := 7) (k := 0) C hw rfl fl_X8_12 dX8_readReign_10 rfl (q := 3) rfl ?_
  obtain ⟨u_6, hc_7, hf⟩ := gm_bnd hf
  refine gm_callV (G := GC) (u := u_4) (u' := u_6) (r := 3) (ci := 8) (As := []) (rest := []) (res := none) C hw hl (ok_X9_start l Z u_4 u_6 hc_7) cw_X8_30 im_X9_start rfl se_X9_start rfl rfl rfl ⟨Nat.le_trans (Nat.le_of_ble_eq_true rfl) hRf, Nat.le_trans (Nat.le_of_ble_eq_true rfl) hRl⟩ rfl rfl (Nat.le_of_ble_eq_true rfl) dX8_readReign_13 (fun H locs hw => ?_)
  refine lv_iconst (v := 0) hx hb dX8_readReign_16 (by decide) ?_
  refine lv_istore_n (i := 3) (lv' := [(3, .int (0 : Int32)), (0, rv Z 2), (1, rv Z a1), (2, rv Z a2)]) hx hb dX8_readReign_17 rfl hl (by decide) (by simp [gm_cat, gm_catI, gm_catJ]) (fun ls hl => ?_)
  obtain ⟨o1, hlp, hf⟩ := gm_bnd hf
  have L18_1 := gm_loop (b_X8_readReign_18 a1 a2) (fun x : (Int32 × gm_M) => ∀ (H : Heap) (locs : List Loc) (ls : Array Slot), lv_has ls 4 [(0, rv Z 2), (1, rv Z a1), (2, rv Z a2), (3, .int x.1)] → wd GC Z x.2 A s.heap H locs → W p l e R s m args below meth c H locs 0 0 Q (F0 m 18 ls [])) (fun z : gm_M => ∀ (H : Heap) (locs : List Loc) (ls : Array Slot), lv_has ls 4 [(0, rv Z 2)] → wd GC Z z A s.heap H locs → W p l e R s m args below meth c H locs 0 0 Q (F0 m 54 ls [])) (by
    intro x o1 hf Kc Kx
    obtain ⟨v3_9, u_8⟩ := x
    intro H locs ls hl hw
    unfold b_X8_readReign_18 at hf
    try dsimp only at hf
    refine lv_iload_n hx hb dX8_readReign_18 rfl (lv_at hl 3 rfl) ?_
    refine lv_sipush (v := 1000) hx hb dX8_readReign_19 (by decide) ?_
    refine lv_icmp_ge (tgt := 54) hx hb dX8_readReign_22 (by decide) (fun hc => ?_) (fun hc => ?_)
    · replace hf := (if_pos hc).symm.trans hf
      exact Kx _ (gm_si hf) _ _ _ (lv_sub hl [0] rfl) hw
    · replace hf := (if_neg hc).symm.trans hf
      refine gm_aload_n (G := GC) (r := 2) C rfl dX8_readReign_25 rfl (lv_at hl 0 rfl) ?_
      refine gm_getI (G := GC) (u := u_8) (r := 2) (ci := 7) (k := 1) C hw rfl fl_X8_18 dX8_readReign_26 rfl ?_
      refine lv_if_ne (tgt := 54) hx hb dX8_readReign_29 (by decide) (fun hc => ?_) (fun hc => ?_)
      · replace hf := (if_neg hc).symm.trans hf
        exact Kx _ (gm_si hf) _ _ _ (lv_sub hl [0] rfl) hw
      · replace hf := (if_pos hc).symm.trans hf
        refine gm_aload_n (G := GC) (r := 2) C rfl dX8_readReign_32 rfl (lv_at hl 0 rfl) ?_
        refine gm_getS (G := GC) (u := u_8) (r := 2) (ci := 7) (k := 0) C hw rfl fl_X8_12 dX8_readReign_33 rfl (q := 3) rfl ?_
        refine gm_getI (G := GC) (u := u_8) (r := 3) (ci := 8) (k := 4) C hw rfl fl_X8_33 dX8_readReign_36 rfl ?_
        refine lv_if_eq (tgt := 54) hx hb dX8_readReign_39 (by decide) (fun hc => ?_) (fun hc => ?_)
        · replace hf := (if_pos hc).symm.trans hf
          exact Kx _ (gm_si hf) _ _ _ (lv_sub hl [0] rfl) hw
        · replace hf := (if_neg hc).symm.trans hf
          refine gm_aload_n (G := GC) (r := 2) C rfl dX8_readReign_42 rfl (lv_at hl 0 rfl) ?_
          refine gm_aload_n (G := GC) (r := a1) C k_1_0 dX8_readReign_43 rfl (lv_at hl 1 rfl) ?_
          refine gm_aload_n (G := GC) (r := a2) C k_2_0 dX8_readReign_44 rfl (lv_at hl 2 rfl) ?_
          obtain ⟨u_10, hc_11, hf⟩ := gm_bnd hf
          refine gm_callV (G := GC) (u := u_8) (u' := u_10) (r := 2) (ci := 7) (As := [rv Z a1, rv Z a2]) (rest := []) (res := none) C hw hl (ok_X8_readReignLine l Z a1 a2 u_8 h1 h2 u_10 hc_11) cw_X8_111 im_X8_readReignLine rfl se_X8_readReignLine rfl rfl rfl ⟨Nat.le_trans (Nat.le_of_ble_eq_true rfl) hRf, Nat.le_trans (Nat.le_of_ble_eq_true rfl) hRl⟩ rfl rfl (Nat.le_of_ble_eq_true rfl) dX8_readReign_45 (fun H locs hw => ?_)
          refine lv_iinc (v := v3_9 + (1 : Int32)) (lv' := [(3, .int (v3_9 + (1 : Int32))), (0, rv Z 2), (1, rv Z a1), (2, rv Z a2)]) hx hb dX8_readReign_48 hl (k := 3) rfl rfl (by decide) (by simp [gm_cat, gm_catI, gm_catJ]) (fun ls hl => ?_)
          refine lv_goto (tgt := 18) hx hb dX8_readReign_51 (by decide) ?_
          exact Kc _ (gm_si hf) _ _ _ (lv_sub hl [1, 2, 3, 0] rfl) hw)
  refine L18_1 _ _ _ hlp ?_ _ _ _ (lv_sub hl [1, 2, 3, 0] rfl) hw
  obtain ⟨u_12, rfl⟩ : ∃ y, y = o1 := ⟨_, rfl⟩
  intro H locs ls hl hw
  try dsimp only at hf
  refine gm_aload_n (G := GC) (r := 2) C rfl dX8_readReign_54 rfl (lv_at hl 0 rfl) ?_
  refine gm_getI (G := GC) (u := u_12) (r := 2) (ci := 7) (k := 1) C hw rfl fl_X8_18 dX8_readReign_55 rfl ?_
  exact gm_iret C E hw rfl ((congrArg (fun z => some (Value.int z)) (gm_sp hf).1).symm) (gm_sp hf).2.symm dX8_readReign_58
/-! LeapCapital$Scribe.takeOnce -/
def j_X8_takeOnce_24 (v1_2 : Int32) (u_1 : gm_M) : Option gm_M := gm_let (sI u_1 2 2 ((gI u_1 2 2) ||| v1_2)) fun u_3 => (f_X8_take (1 : Int32) u_3).bind fun u_4 => some u_4
def f_X8_takeOnce  (u : gm_M) : Option gm_M := gm_let ((1 : Int32) <<< ((gI u 3 5) &&& 31)) fun v1_6 => if ((gI u 2 2) &&& v1_6) = 0 then j_X8_takeOnce_24 v1_6 u else (f_X8_refuse (3 : Int32) u).bind fun u_7 => j_X8_takeOnce_24 v1_6 u_7
set_option maxRecDepth 100000 in
set_option maxHeartbeats 4000000 in
theorem ok_X8_takeOnce (l : Launch) (Z : gm_Z)  (u : gm_M)  (u' : gm_M) (hf : f_X8_takeOnce u = some (u')) : gm_Met l GC Z yX8_takeOnce cX8_takeOnce 2 none ({ frames := 8, cells := 0, slots := 0, locals := 175 }) [rv Z 2] u none u' := by
  unfold f_X8_takeOnce at hf
  refine gm_ofW (by decide +kernel) (Nat.le_of_ble_eq_true rfl) ?_
  intro p e s m args below meth c A ls Q R hRf hRl C E hl hw
  obtain ⟨hx, hb, -⟩ := id C
  have hl : lv_has ls 2 [(0, rv Z 2)] := hl
  have J24 : ∀ (v1_2 : Int32) (u_1 : gm_M) (H : Heap) (locs : List Loc) (ls : Array Slot), j_X8_takeOnce_24 v1_2 u_1 = some (u') → lv_has ls 2 [(0, rv Z 2), (1, .int v1_2)] → wd GC Z u_1 A s.heap H locs → W p l e R s m args below meth c H locs 0 0 Q (F0 m 24 ls []) := by
    intro v1_2 u_1 H locs ls hf  hl hw
    unfold j_X8_takeOnce_24 at hf
    refine gm_aload_n (G := GC) (r := 2) C rfl dX8_takeOnce_24 rfl (lv_at hl 0 rfl) ?_
    refine lv_dup hx hb dX8_takeOnce_25 (gm_cat _ _) ?_
    refine gm_getI (G := GC) (u := u_1) (r := 2) (ci := 7) (k := 2) C hw rfl fl_X8_22 dX8_takeOnce_26 rfl ?_
    refine lv_iload_n hx hb dX8_takeOnce_29 rfl (lv_at hl 1 rfl) ?_
    refine lv_ior hx hb dX8_takeOnce_30 ?_
    refine gm_putI (G := GC) (u := u_1) (r := 2) (ci := 7) (k := 2) (v := (gI u_1 2 2) ||| v1_2) C hw rfl fl_X8_22 fp_7_2 dX8_takeOnce_31 rfl (fun H locs hw => ?_)
    obtain ⟨u_3, e_u_3, hf⟩ := gm_le hf
    rw [← e_u_3] at hw
    refine gm_aload_n (G := GC) (r := 2) C rfl dX8_takeOnce_34 rfl (lv_at hl 0 rfl) ?_
    refine lv_iconst (v := 1) hx hb dX8_takeOnce_35 (by decide) ?_
    obtain ⟨u_4, hc_5, hf⟩ := gm_bnd hf
    refine gm_callV (G := GC) (u := u_3) (u' := u_4) (r := 2) (ci := 7) (As := [.int (1 : Int32)]) (rest := []) (res := none) C hw hl (ok_X8_take l Z (1 : Int32) u_3 u_4 hc_5) cw_X8_156 im_X8_take rfl se_X8_take rfl rfl rfl ⟨Nat.le_trans (Nat.le_of_ble_eq_true rfl) hRf, Nat.le_trans (Nat.le_of_ble_eq_true rfl) hRl⟩ rfl rfl (Nat.le_of_ble_eq_true rfl) dX8_takeOnce_36 (fun H locs hw => ?_)
    exact gm_vret C E hw rfl rfl (Option.some.inj hf).symm dX8_takeOnce_39
  refine lv_iconst (v := 1) hx hb dX8_takeOnce_0 (by decide) ?_
  refine gm_aload_n (G := GC) (r := 2) C rfl dX8_takeOnce_1 rfl (lv_at hl 0 rfl) ?_
  refine gm_getS (G := GC) (u := u) (r := 2) (ci := 7) (k := 0) C hw rfl fl_X8_12 dX8_takeOnce_2 rfl (q := 3) rfl ?_
  refine gm_getI (G := GC) (u := u) (r := 3) (ci := 8) (k := 5) C hw rfl fl_X8_150 dX8_takeOnce_5 rfl ?_
  refine lv_ishl hx hb dX8_takeOnce_8 ?_
  obtain ⟨v1_6, e_v1_6, hf⟩ := gm_le hf
  refine gm_topI e_v1_6 ?_
  refine lv_istore_n (i := 1) (lv' := [(1, .int v1_6), (0, rv Z 2)]) hx hb dX8_takeOnce_9 rfl hl (by decide) rfl (fun ls hl => ?_)
  refine gm_aload_n (G := GC) (r := 2) C rfl dX8_takeOnce_10 rfl (lv_at hl 1 rfl) ?_
  refine gm_getI (G := GC) (u := u) (r := 2) (ci := 7) (k := 2) C hw rfl fl_X8_22 dX8_takeOnce_11 rfl ?_
  refine lv_iload_n hx hb dX8_takeOnce_14 rfl (lv_at hl 0 rfl) ?_
  refine lv_iand hx hb dX8_takeOnce_15 ?_
  refine lv_if_eq (tgt := 24) hx hb dX8_takeOnce_16 (by decide) (fun hc => ?_) (fun hc => ?_)
  · replace hf := (if_pos hc).symm.trans hf
    exact J24 v1_6 u _ _ _ hf  (lv_sub hl [1, 0] rfl) hw
  · replace hf := (if_neg hc).symm.trans hf
    refine gm_aload_n (G := GC) (r := 2) C rfl dX8_takeOnce_19 rfl (lv_at hl 1 rfl) ?_
    refine lv_iconst (v := 3) hx hb dX8_takeOnce_20 (by decide) ?_
    obtain ⟨u_7, hc_8, hf⟩ := gm_bnd hf
    refine gm_callV (G := GC) (u := u) (u' := u_7) (r := 2) (ci := 7) (As := [.int (3 : Int32)]) (rest := []) (res := none) C hw hl (ok_X8_refuse l Z (3 : Int32) u u_7 hc_8) cw_X8_71 im_X8_refuse rfl se_X8_refuse rfl rfl rfl ⟨Nat.le_trans (Nat.le_of_ble_eq_true rfl) hRf, Nat.le_trans (Nat.le_of_ble_eq_true rfl) hRl⟩ rfl rfl (Nat.le_of_ble_eq_true rfl) dX8_takeOnce_21 (fun H locs hw => ?_)
    exact J24 v1_6 u_7 _ _ _ hf  (lv_sub hl [1, 0] rfl) hw
/-! LeapCapital$Tape.addSigns -/
def j_X9_addSigns_43 (a1 : Int64) (v3_4 : Int32) (v4_5 : Int32) (t_6 : Int32) (u_3 : gm_M) : Option ((Int32 × gm_M) ⊕ gm_M) := if t_6 = 0 then some (.inl (v3_4 + (-8 : Int32), u_3)) else if (gI u_3 3 1) < 0 then some (.inl (v3_4 + (-8 : Int32), u_3)) else if (1000 : Int32) ≤ (gI u_3 3 1) then some (.inl (v3_4 + (-8 : Int32), u_3)) else if ib (gI u_3 3 1) 1000 = true then gm_let (sI u_3 4 (ix (gI u_3 3 1)) (gm_ch ((v4_5.toUInt32 % 65536).toInt32))) fun u_8 => gm_let (sI u_8 3 1 ((gI u_8 3 1) + (1 : Int32))) fun u_9 => some (.inl (v3_4 + (-8 : Int32), u_9)) else none
def j_X9_addSigns_42 (a1 : Int64) (v3_11 : Int32) (v4_12 : Int32) (u_10 : gm_M) : Option ((Int32 × gm_M) ⊕ gm_M) := j_X9_addSigns_43 a1 v3_11 v4_12 (0 : Int32) u_10
def j_X9_addSigns_38 (a1 : Int64) (v3_14 : Int32) (v4_15 : Int32) (u_13 : gm_M) : Option ((Int32 × gm_M) ⊕ gm_M) := j_X9_addSigns_43 a1 v3_14 v4_15 (1 : Int32) u_13
def b_X9_addSigns_3 (a1 : Int64) : (Int32 × gm_M) → Option ((Int32 × gm_M) ⊕ gm_M) := fun x => match x with | (v3_2, u_1) => if v3_2 < 0 then some (.inr u_1) else gm_let (((a1 >>> (v3_2.toInt64 &&& 63)) &&& (255 : Int64)).toInt32) fun v4_16 => if v4_16 = (10 : Int32) then j_X9_addSigns_38 a1 v3_2 v4_16 u_1 else if v4_16 < (32 : Int32) then j_X9_addSigns_42 a1 v3_2 v4_16 u_1 else if (126 : Int32) < v4_16 then j_X9_addSigns_42 a1 v3_2 v4_16 u_1 else j_X9_addSigns_38 a1 v3_2 v4_16 u_1
def f_X9_addSigns (a1 : Int64) (u : gm_M) : Option gm_M := ((gm_lp (b_X9_addSigns_3 a1) gm_FU ((56 : Int32), u)).bind fun o => match o with | u_17 => some u_17)
set_option maxRecDepth 100000 in
set_option maxHeartbeats 4000000 in
theorem ok_X9_addSigns (l : Launch) (Z : gm_Z) (a1 : Int64) (u : gm_M)  (u' : gm_M) (hf : f_X9_addSigns a1 u = some (u')) : gm_Met l GC Z yX9_addSigns cX9_addSigns 6 none ({ frames := 0, cells := 0, slots := 0, locals := 0 }) [rv Z 3, .long a1] u none u' := by
  unfold f_X9_addSigns at hf
  refine gm_ofW (by decide +kernel) (Nat.le_of_ble_eq_true rfl) ?_
  intro p e s m args below meth c A ls Q R hRf hRl C E hl hw
  obtain ⟨hx, hb, -⟩ := id C
  have hl : lv_has ls 6 [(0, rv Z 3), (1, .long a1)] := hl
  refine lv_bipush (v := 56) hx hb dX9_addSigns_0 (by decide) ?_
  refine lv_istore_n (i := 3) (lv' := [(3, .int (56 : Int32)), (0, rv Z 3), (1, .long a1)]) hx hb dX9_addSigns_2 rfl hl (by decide) rfl (fun ls hl => ?_)
  obtain ⟨o1, hlp, hf⟩ := gm_bnd hf
  have L3_1 := gm_loop (b_X9_addSigns_3 a1) (fun x : (Int32 × gm_M) => ∀ (H : Heap) (locs : List Loc) (ls : Array Slot), lv_has ls 6 [(0, rv Z 3), (1, .long a1), (3, .int x.1)] → wd GC Z x.2 A s.heap H locs → W p l e R s m args below meth c H locs 0 0 Q (F0 m 3 ls [])) (fun z : gm_M => ∀ (H : Heap) (locs : List Loc) (ls : Array Slot), lv_has ls 6 [] → wd GC Z z A s.heap H locs → W p l e R s m args below meth c H locs 0 0 Q (F0 m 97 ls [])) (by
    intro x o1 hf Kc Kx
    obtain ⟨v3_2, u_1⟩ := x
    intro H locs ls hl hw
    unfold b_X9_addSigns_3 at hf
    try dsimp only at hf
    have J43 : ∀ (v3_4 : Int32) (v4_5 : Int32) (t_6 : Int32) (u_3 : gm_M) (H : Heap) (locs : List Loc) (ls : Array Slot), j_X9_addSigns_43 a1 v3_4 v4_5 t_6 u_3 = some o1 → lv_has ls 6 [(0, rv Z 3), (1, .long a1), (3, .int v3_4), (4, .int v4_5)] → wd GC Z u_3 A s.heap H locs → W p l e R s m args below meth c H locs 0 0 Q (F0 m 43 ls [.int t_6]) := by
      intro v3_4 v4_5 t_6 u_3 H locs ls hf  hl hw
      unfold j_X9_addSigns_43 at hf
      refine lv_istore (i := 5) (lv' := [(5, .int t_6), (0, rv Z 3), (1, .long a1), (3, .int v3_4), (4, .int v4_5)]) hx hb dX9_addSigns_43 hl (by decide) rfl (fun ls hl => ?_)
      refine lv_iload hx hb dX9_addSigns_45 (lv_at hl 0 rfl) ?_
      refine lv_if_eq (tgt := 91) hx hb dX9_addSigns_47 (by decide) (fun hc => ?_) (fun hc => ?_)
      · replace hf := (if_pos hc).symm.trans hf
        refine lv_iinc (v := v3_4 + (-8 : Int32)) (lv' := [(3, .int (v3_4 + (-8 : Int32))), (5, .int t_6), (0, rv Z 3), (1, .long a1), (4, .int v4_5)]) hx hb dX9_addSigns_91 hl (k := 3) rfl rfl (by decide) rfl (fun ls hl => ?_)
        refine lv_goto (tgt := 3) hx hb dX9_addSigns_94 (by decide) ?_
        exact Kc _ (gm_si hf) _ _ _ (lv_sub hl [2, 3, 0] rfl) hw
      · replace hf := (if_neg hc).symm.trans hf
        refine gm_aload_n (G := GC) (r := 3) C rfl dX9_addSigns_50 rfl (lv_at hl 1 rfl) ?_
        refine gm_getI (G := GC) (u := u_3) (r := 3) (ci := 8) (k := 1) C hw rfl fl_X9_15 dX9_addSigns_51 rfl ?_
        refine lv_if_lt (tgt := 91) hx hb dX9_addSigns_54 (by decide) (fun hc => ?_) (fun hc => ?_)
        · replace hf := (if_pos hc).symm.trans hf
          refine lv_iinc (v := v3_4 + (-8 : Int32)) (lv' := [(3, .int (v3_4 + (-8 : Int32))), (5, .int t_6), (0, rv Z 3), (1, .long a1), (4, .int v4_5)]) hx hb dX9_addSigns_91 hl (k := 3) rfl rfl (by decide) rfl (fun ls hl => ?_)
          refine lv_goto (tgt := 3) hx hb dX9_addSigns_94 (by decide) ?_
          exact Kc _ (gm_si hf) _ _ _ (lv_sub hl [2, 3, 0] rfl) hw
        · replace hf := (if_neg hc).symm.trans hf
          refine gm_aload_n (G := GC) (r := 3) C rfl dX9_addSigns_57 rfl (lv_at hl 1 rfl) ?_
          refine gm_getI (G := GC) (u := u_3) (r := 3) (ci := 8) (k := 1) C hw rfl fl_X9_15 dX9_addSigns_58 rfl ?_
          refine gm_aload_n (G := GC) (r := 3) C rfl dX9_addSigns_61 rfl (lv_at hl 1 rfl) ?_
          refine gm_getS (G := GC) (u := u_3) (r := 3) (ci := 8) (k := 0) C hw rfl fl_X9_9 dX9_addSigns_62 rfl (q := 4) rfl ?_
          refine gm_alen (G := GC) (u := u_3) (r := 4) (t := 3) (n := 1000) (v := 1000) C hw rfl (by decide) (by decide) dX9_addSigns_65 ?_
          refine lv_icmp_ge (tgt := 91) hx hb dX9_addSigns_66 (by decide) (fun hc => ?_) (fun hc => ?_)
          · replace hf := (if_pos hc).symm.trans hf
            refine lv_iinc (v := v3_4 + (-8 : Int32)) (lv' := [(3, .int (v3_4 + (-8 : Int32))), (5, .int t_6), (0, rv Z 3), (1, .long a1), (4, .int v4_5)]) hx hb dX9_addSigns_91 hl (k := 3) rfl rfl (by decide) rfl (fun ls hl => ?_)
            refine lv_goto (tgt := 3) hx hb dX9_addSigns_94 (by decide) ?_
            exact Kc _ (gm_si hf) _ _ _ (lv_sub hl [2, 3, 0] rfl) hw
          · replace hf := (if_neg hc).symm.trans hf
            refine gm_aload_n (G := GC) (r := 3) C rfl dX9_addSigns_69 rfl (lv_at hl 1 rfl) ?_
            refine gm_getS (G := GC) (u := u_3) (r := 3) (ci := 8) (k := 0) C hw rfl fl_X9_9 dX9_addSigns_70 rfl (q := 4) rfl ?_
            refine gm_aload_n (G := GC) (r := 3) C rfl dX9_addSigns_73 rfl (lv_at hl 1 rfl) ?_
            refine gm_getI (G := GC) (u := u_3) (r := 3) (ci := 8) (k := 1) C hw rfl fl_X9_15 dX9_addSigns_74 rfl ?_
            refine lv_iload hx hb dX9_addSigns_77 (lv_at hl 4 rfl) ?_
            refine lv_i2c hx hb dX9_addSigns_79 rfl ?_
            obtain ⟨g_7, hf⟩ := gm_grd hf
            refine gm_cast (G := GC) (u := u_3) (r := 4) (n := 1000) (i := gI u_3 3 1) (x := (v4_5.toUInt32 % 65536).toInt32) C hw rfl g_7 rfl dX9_addSigns_80 (fun H locs hw => ?_)
            obtain ⟨u_8, e_u_8, hf⟩ := gm_le hf
            rw [← e_u_8] at hw
            refine gm_aload_n (G := GC) (r := 3) C rfl dX9_addSigns_81 rfl (lv_at hl 1 rfl) ?_
            refine lv_dup hx hb dX9_addSigns_82 (gm_cat _ _) ?_
            refine gm_getI (G := GC) (u := u_8) (r := 3) (ci := 8) (k := 1) C hw rfl fl_X9_15 dX9_addSigns_83 rfl ?_
            refine lv_iconst (v := 1) hx hb dX9_addSigns_86 (by decide) ?_
            refine lv_iadd hx hb dX9_addSigns_87 ?_
            refine gm_putI (G := GC) (u := u_8) (r := 3) (ci := 8) (k := 1) (v := (gI u_8 3 1) + (1 : Int32)) C hw rfl fl_X9_15 fp_8_1 dX9_addSigns_88 rfl (fun H locs hw => ?_)
            obtain ⟨u_9, e_u_9, hf⟩ := gm_le hf
            rw [← e_u_9] at hw
            refine lv_iinc (v := v3_4 + (-8 : Int32)) (lv' := [(3, .int (v3_4 + (-8 : Int32))), (5, .int t_6), (0, rv Z 3), (1, .long a1), (4, .int v4_5)]) hx hb dX9_addSigns_91 hl (k := 3) rfl rfl (by decide) rfl (fun ls hl => ?_)
            refine lv_goto (tgt := 3) hx hb dX9_addSigns_94 (by decide) ?_
            exact Kc _ (gm_si hf) _ _ _ (lv_sub hl [2, 3, 0] rfl) hw
    have J42 : ∀ (v3_11 : Int32) (v4_12 : Int32) (u_10 : gm_M) (H : Heap) (locs : List Loc) (ls : Array Slot), j_X9_addSigns_42 a1 v3_11 v4_12 u_10 = some o1 → lv_has ls 6 [(0, rv Z 3), (1, .long a1), (3, .int v3_11), (4, .int v4_12)] → wd GC Z u_10 A s.heap H locs → W p l e R s m args below meth c H locs 0 0 Q (F0 m 42 ls []) := by
      intro v3_11 v4_12 u_10 H locs ls hf  hl hw
      unfold j_X9_addSigns_42 at hf
      refine lv_iconst (v := 0) hx hb dX9_addSigns_42 (by decide) ?_
      exact J43 v3_11 v4_12 (0 : Int32) u_10 _ _ _ hf  (lv_sub hl [0, 1, 2, 3] rfl) hw
    have J38 : ∀ (v3_14 : Int32) (v4_15 : Int32) (u_13 : gm_M) (H : Heap) (locs : List Loc) (ls : Array Slot), j_X9_addSigns_38 a1 v3_14 v4_15 u_13 = some o1 → lv_has ls 6 [(0, rv Z 3), (1, .long a1), (3, .int v3_14), (4, .int v4_15)] → wd GC Z u_13 A s.heap H locs → W p l e R s m args below meth c H locs 0 0 Q (F0 m 38 ls []) := by
      intro v3_14 v4_15 u_13 H locs ls hf  hl hw
      unfold j_X9_addSigns_38 at hf
      refine lv_iconst (v := 1) hx hb dX9_addSigns_38 (by decide) ?_
      refine lv_goto (tgt := 43) hx hb dX9_addSigns_39 (by decide) ?_
      exact J43 v3_14 v4_15 (1 : Int32) u_13 _ _ _ hf  (lv_sub hl [0, 1, 2, 3] rfl) hw
    refine lv_iload_n hx hb dX9_addSigns_3 rfl (lv_at hl 2 rfl) ?_
    refine lv_if_lt (tgt := 97) hx hb dX9_addSigns_4 (by decide) (fun hc => ?_) (fun hc => ?_)
    · replace hf := (if_pos hc).symm.trans hf
      exact Kx _ (gm_si hf) _ _ _ (lv_sub hl [] rfl) hw
    · replace hf := (if_neg hc).symm.trans hf
      refine lv_lload_n hx hb dX9_addSigns_7 rfl (lv_at hl 1 rfl) ?_
      refine lv_iload_n hx hb dX9_addSigns_8 rfl (lv_at hl 2 rfl) ?_
      refine lv_lshr hx hb dX9_addSigns_9 rfl ?_
      refine lv_ldc2 hx hb C.2.2.2.1 (C.2.2.2.2.1 _ kn_X9_35) dX9_addSigns_10 ?_
      refine lv_land hx hb dX9_addSigns_13 ?_
      refine lv_l2i hx hb dX9_addSigns_14 rfl ?_
      obtain ⟨v4_16, e_v4_16, hf⟩ := gm_le hf
      refine gm_topI e_v4_16 ?_
      refine lv_istore (i := 4) (lv' := [(4, .int v4_16), (0, rv Z 3), (1, .long a1), (3, .int v3_2)]) hx hb dX9_addSigns_15 hl (by decide) rfl (fun ls hl => ?_)
      refine lv_iload hx hb dX9_addSigns_17 (lv_at hl 0 rfl) ?_
      refine lv_bipush (v := 10) hx hb dX9_addSigns_19 (by decide) ?_
      refine lv_icmp_eq (tgt := 38) hx hb dX9_addSigns_21 (by decide) (fun hc => ?_) (fun hc => ?_)
      · replace hf := (if_pos hc).symm.trans hf
        exact J38 v3_2 v4_16 u_1 _ _ _ hf  (lv_sub hl [1, 2, 3, 0] rfl) hw
      · replace hf := (if_neg hc).symm.trans hf
        refine lv_iload hx hb dX9_addSigns_24 (lv_at hl 0 rfl) ?_
        refine lv_bipush (v := 32) hx hb dX9_addSigns_26 (by decide) ?_
        refine lv_icmp_lt (tgt := 42) hx hb dX9_addSigns_28 (by decide) (fun hc => ?_) (fun hc => ?_)
        · replace hf := (if_pos hc).symm.trans hf
          exact J42 v3_2 v4_16 u_1 _ _ _ hf  (lv_sub hl [1, 2, 3, 0] rfl) hw
        · replace hf := (if_neg hc).symm.trans hf
          refine lv_iload hx hb dX9_addSigns_31 (lv_at hl 0 rfl) ?_
          refine lv_bipush (v := 126) hx hb dX9_addSigns_33 (by decide) ?_
          refine lv_icmp_gt (tgt := 42) hx hb dX9_addSigns_35 (by decide) (fun hc => ?_) (fun hc => ?_)
          · replace hf := (if_pos hc).symm.trans hf
            exact J42 v3_2 v4_16 u_1 _ _ _ hf  (lv_sub hl [1, 2, 3, 0] rfl) hw
          · replace hf := (if_neg hc).symm.trans hf
            exact J38 v3_2 v4_16 u_1 _ _ _ hf  (lv_sub hl [1, 2, 3, 0] rfl) hw)
  refine L3_1 _ _ _ hlp ?_ _ _ _ (lv_sub hl [1, 2, 0] rfl) hw
  obtain ⟨u_17, rfl⟩ : ∃ y, y = o1 := ⟨_, rfl⟩
  intro H locs ls hl hw
  try dsimp only at hf
  exact gm_vret C E hw rfl rfl (Option.some.inj hf).symm dX9_addSigns_97
/-! LeapCapital$Tape.empty -/
def f_X9_empty  (u : gm_M) : Option gm_M := gm_let (sI u 3 1 (0 : Int32)) fun u_1 => some u_1
set_option maxRecDepth 100000 in
set_option maxHeartbeats 4000000 in
theorem ok_X9_empty (l : Launch) (Z : gm_Z)  (u : gm_M)  (u' : gm_M) (hf : f_X9_empty u = some (u')) : gm_Met l GC Z yX9_empty cX9_empty 1 none ({ frames := 0, cells := 0, slots := 0, locals := 0 }) [rv Z 3] u none u' := by
  unfold f_X9_empty at hf
  refine gm_ofW (by decide +kernel) (Nat.le_of_ble_eq_true rfl) ?_
  intro p e s m args below meth c A ls Q R hRf hRl C E hl hw
  obtain ⟨hx, hb, -⟩ := id C
  have hl : lv_has ls 1 [(0, rv Z 3)] := hl
  refine gm_aload_n (G := GC) (r := 3) C rfl dX9_empty_0 rfl (lv_at hl 0 rfl) ?_
  refine lv_iconst (v := 0) hx hb dX9_empty_1 (by decide) ?_
  refine gm_putI (G := GC) (u := u) (r := 3) (ci := 8) (k := 1) (v := (0 : Int32)) C hw rfl fl_X9_15 fp_8_1 dX9_empty_2 rfl (fun H locs hw => ?_)
  obtain ⟨u_1, e_u_1, hf⟩ := gm_le hf
  rw [← e_u_1] at hw
  exact gm_vret C E hw rfl rfl (Option.some.inj hf).symm dX9_empty_5
/-! LeapCapital$Tape.isFact -/
def f_X9_isFact  (u : gm_M) : Int32 := if (gI u 3 4) = (1 : Int32) then if (gI u 3 5) < (19 : Int32) then (0 : Int32) else if (22 : Int32) < (gI u 3 5) then (0 : Int32) else (1 : Int32) else (0 : Int32)
set_option maxRecDepth 100000 in
set_option maxHeartbeats 4000000 in
theorem ok_X9_isFact (l : Launch) (Z : gm_Z)  (u : gm_M)  : gm_Met l GC Z yX9_isFact cX9_isFact 1 (some .boolean) ({ frames := 0, cells := 0, slots := 0, locals := 0 }) [rv Z 3] u (some (.int (f_X9_isFact u))) u := by
  obtain ⟨r, hf⟩ : ∃ r, f_X9_isFact u = r := ⟨_, rfl⟩
  rw [hf]
  unfold f_X9_isFact at hf
  refine gm_ofW (by decide +kernel) (Nat.le_of_ble_eq_true rfl) ?_
  intro p e s m args below meth c A ls Q R hRf hRl C E hl hw
  obtain ⟨hx, hb, -⟩ := id C
  have hl : lv_has ls 1 [(0, rv Z 3)] := hl
  refine gm_aload_n (G := GC) (r := 3) C rfl dX9_isFact_0 rfl (lv_at hl 0 rfl) ?_
  refine gm_getI (G := GC) (u := u) (r := 3) (ci := 8) (k := 4) C hw rfl fl_X9_25 dX9_isFact_1 rfl ?_
  refine lv_iconst (v := 1) hx hb dX9_isFact_4 (by decide) ?_
  refine lv_icmp_ne (tgt := 30) hx hb dX9_isFact_5 (by decide) (fun hc => ?_) (fun hc => ?_)
  · replace hf := (if_neg hc).symm.trans hf
    refine lv_iconst (v := 0) hx hb dX9_isFact_30 (by decide) ?_
    exact gm_zret C E hw rfl rfl ((congrArg (fun z => some (Value.int z)) hf).symm) rfl dX9_isFact_31
  · replace hf := (if_pos hc).symm.trans hf
    refine gm_aload_n (G := GC) (r := 3) C rfl dX9_isFact_8 rfl (lv_at hl 0 rfl) ?_
    refine gm_getI (G := GC) (u := u) (r := 3) (ci := 8) (k := 5) C hw rfl fl_X9_28 dX9_isFact_9 rfl ?_
    refine lv_bipush (v := 19) hx hb dX9_isFact_12 (by decide) ?_
    refine lv_icmp_lt (tgt := 30) hx hb dX9_isFact_14 (by decide) (fun hc => ?_) (fun hc => ?_)
    · replace hf := (if_pos hc).symm.trans hf
      refine lv_iconst (v := 0) hx hb dX9_isFact_30 (by decide) ?_
      exact gm_zret C E hw rfl rfl ((congrArg (fun z => some (Value.int z)) hf).symm) rfl dX9_isFact_31
    · replace hf := (if_neg hc).symm.trans hf
      refine gm_aload_n (G := GC) (r := 3) C rfl dX9_isFact_17 rfl (lv_at hl 0 rfl) ?_
      refine gm_getI (G := GC) (u := u) (r := 3) (ci := 8) (k := 5) C hw rfl fl_X9_28 dX9_isFact_18 rfl ?_
      refine lv_bipush (v := 22) hx hb dX9_isFact_21 (by decide) ?_
      refine lv_icmp_gt (tgt := 30) hx hb dX9_isFact_23 (by decide) (fun hc => ?_) (fun hc => ?_)
      · replace hf := (if_pos hc).symm.trans hf
        refine lv_iconst (v := 0) hx hb dX9_isFact_30 (by decide) ?_
        exact gm_zret C E hw rfl rfl ((congrArg (fun z => some (Value.int z)) hf).symm) rfl dX9_isFact_31
      · replace hf := (if_neg hc).symm.trans hf
        refine lv_iconst (v := 1) hx hb dX9_isFact_26 (by decide) ?_
        refine lv_goto (tgt := 31) hx hb dX9_isFact_27 (by decide) ?_
        exact gm_zret C E hw rfl rfl ((congrArg (fun z => some (Value.int z)) hf).symm) rfl dX9_isFact_31
/-! LeapCapital.feed -/
def f_X10_feed (a1 : Int64) (a3 : Int64) (a5 : Int64) (u : gm_M) : Option (Int32 × gm_M) := (f_X9_addSigns a1 u).bind fun u_1 => (f_X9_addSigns a3 u_1).bind fun u_3 => (f_X9_addSigns a5 u_3).bind fun u_5 => some (gI u_5 3 1, u_5)
set_option maxRecDepth 100000 in
set_option maxHeartbeats 4000000 in
theorem ok_X10_feed (l : Launch) (Z : gm_Z) (a1 : Int64) (a3 : Int64) (a5 : Int64) (u : gm_M)  (r : Int32) (u' : gm_M) (hf : f_X10_feed a1 a3 a5 u = some (r, u')) : gm_Met l GC Z yX10_feed cX10_feed 7 (some .int) ({ frames := 1, cells := 0, slots := 0, locals := 25 }) [rv Z 1, .long a1, .long a3, .long a5] u (some (.int r)) u' := by
  unfold f_X10_feed at hf
  refine gm_ofW (by decide +kernel) (Nat.le_of_ble_eq_true rfl) ?_
  intro p e s m args below meth c A ls Q R hRf hRl C E hl hw
  obtain ⟨hx, hb, -⟩ := id C
  have hl : lv_has ls 7 [(0, rv Z 1), (1, .long a1), (3, .long a3), (5, .long a5)] := hl
  refine gm_aload_n (G := GC) (r := 1) C rfl dX10_feed_0 rfl (lv_at hl 0 rfl) ?_
  refine gm_getS (G := GC) (u := u) (r := 1) (ci := 9) (k := 1) C hw rfl fl_X10_10 dX10_feed_1 rfl (q := 2) rfl ?_
  refine gm_getS (G := GC) (u := u) (r := 2) (ci := 7) (k := 0) C hw rfl fl_X10_90 dX10_feed_4 rfl (q := 3) rfl ?_
  refine lv_lload_n hx hb dX10_feed_7 rfl (lv_at hl 1 rfl) ?_
  obtain ⟨u_1, hc_2, hf⟩ := gm_bnd hf
  refine gm_callV (G := GC) (u := u) (u' := u_1) (r := 3) (ci := 8) (As := [.long a1]) (rest := []) (res := none) C hw hl (ok_X9_addSigns l Z a1 u u_1 hc_2) cw_X10_94 im_X9_addSigns rfl se_X9_addSigns rfl rfl rfl ⟨Nat.le_trans (Nat.le_of_ble_eq_true rfl) hRf, Nat.le_trans (Nat.le_of_ble_eq_true rfl) hRl⟩ rfl rfl (Nat.le_of_ble_eq_true rfl) dX10_feed_8 (fun H locs hw => ?_)
  refine gm_aload_n (G := GC) (r := 1) C rfl dX10_feed_11 rfl (lv_at hl 0 rfl) ?_
  refine gm_getS (G := GC) (u := u_1) (r := 1) (ci := 9) (k := 1) C hw rfl fl_X10_10 dX10_feed_12 rfl (q := 2) rfl ?_
  refine gm_getS (G := GC) (u := u_1) (r := 2) (ci := 7) (k := 0) C hw rfl fl_X10_90 dX10_feed_15 rfl (q := 3) rfl ?_
  refine lv_lload_n hx hb dX10_feed_18 rfl (lv_at hl 2 rfl) ?_
  obtain ⟨u_3, hc_4, hf⟩ := gm_bnd hf
  refine gm_callV (G := GC) (u := u_1) (u' := u_3) (r := 3) (ci := 8) (As := [.long a3]) (rest := []) (res := none) C hw hl (ok_X9_addSigns l Z a3 u_1 u_3 hc_4) cw_X10_94 im_X9_addSigns rfl se_X9_addSigns rfl rfl rfl ⟨Nat.le_trans (Nat.le_of_ble_eq_true rfl) hRf, Nat.le_trans (Nat.le_of_ble_eq_true rfl) hRl⟩ rfl rfl (Nat.le_of_ble_eq_true rfl) dX10_feed_19 (fun H locs hw => ?_)
  refine gm_aload_n (G := GC) (r := 1) C rfl dX10_feed_22 rfl (lv_at hl 0 rfl) ?_
  refine gm_getS (G := GC) (u := u_3) (r := 1) (ci := 9) (k := 1) C hw rfl fl_X10_10 dX10_feed_23 rfl (q := 2) rfl ?_
  refine gm_getS (G := GC) (u := u_3) (r := 2) (ci := 7) (k := 0) C hw rfl fl_X10_90 dX10_feed_26 rfl (q := 3) rfl ?_
  refine lv_lload hx hb dX10_feed_29 (lv_at hl 3 rfl) ?_
  obtain ⟨u_5, hc_6, hf⟩ := gm_bnd hf
  refine gm_callV (G := GC) (u := u_3) (u' := u_5) (r := 3) (ci := 8) (As := [.long a5]) (rest := []) (res := none) C hw hl (ok_X9_addSigns l Z a5 u_3 u_5 hc_6) cw_X10_94 im_X9_addSigns rfl se_X9_addSigns rfl rfl rfl ⟨Nat.le_trans (Nat.le_of_ble_eq_true rfl) hRf, Nat.le_trans (Nat.le_of_ble_eq_true rfl) hRl⟩ rfl rfl (Nat.le_of_ble_eq_true rfl) dX10_feed_31 (fun H locs hw => ?_)
  refine gm_aload_n (G := GC) (r := 1) C rfl dX10_feed_34 rfl (lv_at hl 0 rfl) ?_
  refine gm_getS (G := GC) (u := u_5) (r := 1) (ci := 9) (k := 1) C hw rfl fl_X10_10 dX10_feed_35 rfl (q := 2) rfl ?_
  refine gm_getS (G := GC) (u := u_5) (r := 2) (ci := 7) (k := 0) C hw rfl fl_X10_90 dX10_feed_38 rfl (q := 3) rfl ?_
  refine gm_getI (G := GC) (u := u_5) (r := 3) (ci := 8) (k := 1) C hw rfl fl_X10_100 dX10_feed_41 rfl ?_
  exact gm_iret C E hw rfl ((congrArg (fun z => some (Value.int z)) (gm_sp hf).1).symm) (gm_sp hf).2.symm dX10_feed_44
/-! LeapCapital.reign -/
def f_X10_reign  (u : gm_M) : Option (Int32 × gm_M) := if isRealm (gR u 1 2) = true then if isReign (gR u 1 5) = true then (f_X8_readReign (gR u 1 2) (gR u 1 5) u).bind fun o => match o with | (r_5, u_6) => (f_X9_empty u_6).bind fun u_9 => if r_5 = 0 then if isReign (gR u_9 1 5) = true then gm_let (gR u_9 1 5) fun v2_13 => if isReign (gR u_9 1 4) = true then gm_let (sR u_9 1 5 (gR u_9 1 4)) fun u_18 => gm_let (sR u_18 1 4 v2_13) fun u_19 => some ((0 : Int32), u_19) else none else none else some (r_5, u_9) else none else none
set_option maxRecDepth 100000 in
set_option maxHeartbeats 4000000 in
theorem ok_X10_reign (l : Launch) (Z : gm_Z)  (u : gm_M)  (r : Int32) (u' : gm_M) (hf : f_X10_reign u = some (r, u')) : gm_Met l GC Z yX10_reign cX10_reign 3 (some .int) ({ frames := 11, cells := 0, slots := 0, locals := 246 }) [rv Z 1] u (some (.int r)) u' := by
  unfold f_X10_reign at hf
  refine gm_ofW (by decide +kernel) (Nat.le_of_ble_eq_true rfl) ?_
  intro p e s m args below meth c A ls Q R hRf hRl C E hl hw
  obtain ⟨hx, hb, -⟩ := id C
  have hl : lv_has ls 3 [(0, rv Z 1)] := hl
  refine gm_aload_n (G := GC) (r := 1) C rfl dX10_reign_0 rfl (lv_at hl 0 rfl) ?_
  refine gm_getS (G := GC) (u := u) (r := 1) (ci := 9) (k := 1) C hw rfl fl_X10_10 dX10_reign_1 rfl (q := 2) rfl ?_
  refine gm_aload_n (G := GC) (r := 1) C rfl dX10_reign_4 rfl (lv_at hl 0 rfl) ?_
  refine gm_getR (G := GC) (u := u) (r := 1) (ci := 9) (k := 2) C hw rfl fl_X10_19 dX10_reign_5 rfl ?_
  obtain ⟨g_1, hf⟩ := gm_grd hf
  obtain ⟨k_2_0, k_2_1, k_2_2, k_2_3, k_2_4, k_2_5, k_2_6, k_2_7, k_2_8, k_2_9, k_2_10, k_2_11⟩ := fc_Realm g_1
  refine gm_aload_n (G := GC) (r := 1) C rfl dX10_reign_8 rfl (lv_at hl 0 rfl) ?_
  refine gm_getR (G := GC) (u := u) (r := 1) (ci := 9) (k := 5) C hw rfl fl_X10_33 dX10_reign_9 rfl ?_
  obtain ⟨g_3, hf⟩ := gm_grd hf
  obtain ⟨k_4_0, k_4_1, k_4_2, k_4_3, k_4_4⟩ := fc_Reign g_3
  obtain ⟨⟨r_5, u_6⟩, hc_7, hf⟩ := gm_bnd hf
  try dsimp only at hf
  refine gm_callV (G := GC) (u := u) (u' := u_6) (r := 2) (ci := 7) (As := [rv Z (gR u 1 2), rv Z (gR u 1 5)]) (rest := []) (res := (some (.int r_5))) C hw hl (ok_X8_readReign l Z (gR u 1 2) (gR u 1 5) u g_1 g_3 r_5 u_6 hc_7) cw_X10_118 im_X8_readReign rfl se_X8_readReign rfl rfl rfl ⟨Nat.le_trans (Nat.le_of_ble_eq_true rfl) hRf, Nat.le_trans (Nat.le_of_ble_eq_true rfl) hRl⟩ rfl rfl (Nat.le_of_ble_eq_true rfl) dX10_reign_12 (fun H locs hw => ?_)
  refine lv_istore_n (i := 1) (lv' := [(1, .int r_5), (0, rv Z 1)]) hx hb dX10_reign_15 rfl hl (by decide) rfl (fun ls hl => ?_)
  refine gm_aload_n (G := GC) (r := 1) C rfl dX10_reign_16 rfl (lv_at hl 1 rfl) ?_
  refine gm_getS (G := GC) (u := u_6) (r := 1) (ci := 9) (k := 1) C hw rfl fl_X10_10 dX10_reign_17 rfl (q := 2) rfl ?_
  refine gm_getS (G := GC) (u := u_6) (r := 2) (ci := 7) (k := 0) C hw rfl fl_X10_90 dX10_reign_20 rfl (q := 3) rfl ?_
  obtain ⟨u_9, hc_10, hf⟩ := gm_bnd hf
  refine gm_callV (G := GC) (u := u_6) (u' := u_9) (r := 3) (ci := 8) (As := []) (rest := []) (res := none) C hw hl (ok_X9_empty l Z u_6 u_9 hc_10) cw_X10_107 im_X9_empty rfl se_X9_empty rfl rfl rfl ⟨Nat.le_trans (Nat.le_of_ble_eq_true rfl) hRf, Nat.le_trans (Nat.le_of_ble_eq_true rfl) hRl⟩ rfl rfl (Nat.le_of_ble_eq_true rfl) dX10_reign_23 (fun H locs hw => ?_)
  refine lv_iload_n hx hb dX10_reign_26 rfl (lv_at hl 0 rfl) ?_
  refine lv_if_eq (tgt := 32) hx hb dX10_reign_27 (by decide) (fun hc => ?_) (fun hc => ?_)
  · replace hf := (if_pos hc).symm.trans hf
    refine gm_aload_n (G := GC) (r := 1) C rfl dX10_reign_32 rfl (lv_at hl 1 rfl) ?_
    refine gm_getR (G := GC) (u := u_9) (r := 1) (ci := 9) (k := 5) C hw rfl fl_X10_33 dX10_reign_33 rfl ?_
    obtain ⟨g_11, hf⟩ := gm_grd hf
    obtain ⟨k_12_0, k_12_1, k_12_2, k_12_3, k_12_4⟩ := fc_Reign g_11
    obtain ⟨v2_13, e_v2_13, hf⟩ := gm_le hf
    refine gm_topR e_v2_13 ?_
    have g_14 : isReign v2_13 = true := by rw [e_v2_13]; exact g_11
    obtain ⟨k_15_0, k_15_1, k_15_2, k_15_3, k_15_4⟩ := fc_Reign g_14
    refine gm_astore_n (G := GC) (i := 2) (r := v2_13) (lv' := [(2, rv Z v2_13), (1, .int r_5), (0, rv Z 1)]) C k_15_0 dX10_reign_36 rfl hl (by decide) rfl (fun ls hl => ?_)
    refine gm_aload_n (G := GC) (r := 1) C rfl dX10_reign_37 rfl (lv_at hl 2 rfl) ?_
    refine gm_aload_n (G := GC) (r := 1) C rfl dX10_reign_38 rfl (lv_at hl 2 rfl) ?_
    refine gm_getR (G := GC) (u := u_9) (r := 1) (ci := 9) (k := 4) C hw rfl fl_X10_29 dX10_reign_39 rfl ?_
    obtain ⟨g_16, hf⟩ := gm_grd hf
    obtain ⟨k_17_0, k_17_1, k_17_2, k_17_3, k_17_4⟩ := fc_Reign g_16
    refine gm_putR (G := GC) (u := u_9) (r := 1) (ci := 9) (k := 5) (v := gR u_9 1 4) C hw rfl fl_X10_33 fp_9_5 dX10_reign_42 rfl (fun H locs hw => ?_)
    obtain ⟨u_18, e_u_18, hf⟩ := gm_le hf
    rw [← e_u_18] at hw
    refine gm_aload_n (G := GC) (r := 1) C rfl dX10_reign_45 rfl (lv_at hl 2 rfl) ?_
    refine gm_aload_n (G := GC) (r := v2_13) C k_15_0 dX10_reign_46 rfl (lv_at hl 0 rfl) ?_
    refine gm_putR (G := GC) (u := u_18) (r := 1) (ci := 9) (k := 4) (v := v2_13) C hw rfl fl_X10_29 fp_9_4 dX10_reign_47 rfl (fun H locs hw => ?_)
    obtain ⟨u_19, e_u_19, hf⟩ := gm_le hf
    rw [← e_u_19] at hw
    refine lv_iconst (v := 0) hx hb dX10_reign_50 (by decide) ?_
    exact gm_iret C E hw rfl ((congrArg (fun z => some (Value.int z)) (gm_sp hf).1).symm) (gm_sp hf).2.symm dX10_reign_51
  · replace hf := (if_neg hc).symm.trans hf
    refine lv_iload_n hx hb dX10_reign_30 rfl (lv_at hl 0 rfl) ?_
    exact gm_iret C E hw rfl ((congrArg (fun z => some (Value.int z)) (gm_sp hf).1).symm) (gm_sp hf).2.symm dX10_reign_31
/-! LeapCapital.person -/
def f_X10_person (a1 : Int32) (a2 : Int32) (u : gm_M) : Option Int32 := if isRealm (gR u 1 2) = true then gm_let (f_X5_isPerson (gR u 1 2) a1 u) fun r_3 => if r_3 = 0 then some (-2 : Int32) else if a2 = (0 : Int32) then (f_X5_kindOf (gR u 1 2) a1 u).bind fun r_4 => some r_4 else if a2 = (1 : Int32) then (f_X5_bornOf (gR u 1 2) a1 u).bind fun r_7 => some r_7 else if a2 = (2 : Int32) then (f_X5_pleaOf (gR u 1 2) a1 u).bind fun r_10 => some r_10 else if a2 = (3 : Int32) then (f_X1_placeOf 27 a1 u).bind fun r_13 => some r_13 else if a2 = (4 : Int32) then some (((gI u 27 2) >>> (a1 &&& 31)) &&& (1 : Int32)) else if a2 = (5 : Int32) then (f_X5_isDead (gR u 1 2) a1 (gI u 27 0) u).bind fun r_17 => if r_17 = 0 then some (0 : Int32) else some (1 : Int32) else if a2 = (6 : Int32) then (f_X1_isQueued 27 a1 u).bind fun r_20 => if r_20 = 0 then some (0 : Int32) else (f_X1_stoodOf 27 a1 u).bind fun r_22 => some r_22 else if a2 = (7 : Int32) then (f_X1_isQueued 27 a1 u).bind fun r_25 => if r_25 = 0 then some (0 : Int32) else (f_X1_daysOf 27 a1 u).bind fun r_27 => some r_27 else some (-2 : Int32) else none
set_option maxRecDepth 100000 in
set_option maxHeartbeats 4000000 in
theorem ok_X10_person (l : Launch) (Z : gm_Z) (a1 : Int32) (a2 : Int32) (u : gm_M)  (r : Int32) (hf : f_X10_person a1 a2 u = some r) : gm_Met l GC Z yX10_person cX10_person 3 (some .int) ({ frames := 2, cells := 0, slots := 0, locals := 43 }) [rv Z 1, .int a1, .int a2] u (some (.int r)) u := by
  unfold f_X10_person at hf
  refine gm_ofW (by decide +kernel) (Nat.le_of_ble_eq_true rfl) ?_
  intro p e s m args below meth c A ls Q R hRf hRl C E hl hw
  obtain ⟨hx, hb, -⟩ := id C
  have hl : lv_has ls 3 [(0, rv Z 1), (1, .int a1), (2, .int a2)] := hl
  refine gm_aload_n (G := GC) (r := 1) C rfl dX10_person_0 rfl (lv_at hl 0 rfl) ?_
  refine gm_getR (G := GC) (u := u) (r := 1) (ci := 9) (k := 2) C hw rfl fl_X10_19 dX10_person_1 rfl ?_
  obtain ⟨g_1, hf⟩ := gm_grd hf
  obtain ⟨k_2_0, k_2_1, k_2_2, k_2_3, k_2_4, k_2_5, k_2_6, k_2_7, k_2_8, k_2_9, k_2_10, k_2_11⟩ := fc_Realm g_1
  refine lv_iload_n hx hb dX10_person_4 rfl (lv_at hl 1 rfl) ?_
  obtain ⟨r_3, e_r_3, hf⟩ := gm_le hf
  refine gm_callV (G := GC) (u := u) (u' := u) (r := (gR u 1 2)) (ci := 4) (As := [.int a1]) (rest := []) (res := (some (.int (f_X5_isPerson (gR u 1 2) a1 u)))) C hw hl (ok_X5_isPerson l Z (gR u 1 2) a1 u g_1) cw_X10_122 im_X5_isPerson rfl se_X5_isPerson k_2_0 rfl rfl ⟨Nat.le_trans (Nat.le_of_ble_eq_true rfl) hRf, Nat.le_trans (Nat.le_of_ble_eq_true rfl) hRl⟩ rfl rfl (Nat.le_of_ble_eq_true rfl) dX10_person_5 (fun H locs hw => ?_)
  refine gm_topI e_r_3 ?_
  refine lv_if_ne (tgt := 14) hx hb dX10_person_8 (by decide) (fun hc => ?_) (fun hc => ?_)
  · replace hf := (if_neg hc).symm.trans hf
    refine lv_iload_n hx hb dX10_person_14 rfl (lv_at hl 2 rfl) ?_
    by_cases hq_6 : a2 = (0 : Int32)
    · replace hf := (if_pos hq_6).symm.trans hf
      refine lv_tableIn (off := 45) (tgt := 60) hx hb dX10_person_15 (by rw [hq_6]; decide) (by rw [hq_6]; decide) (by rw [hq_6]; rfl) (by decide) ?_
      refine gm_aload_n (G := GC) (r := 1) C rfl dX10_person_60 rfl (lv_at hl 0 rfl) ?_
      refine gm_getR (G := GC) (u := u) (r := 1) (ci := 9) (k := 2) C hw rfl fl_X10_19 dX10_person_61 rfl ?_
      refine lv_iload_n hx hb dX10_person_64 rfl (lv_at hl 1 rfl) ?_
      obtain ⟨r_4, hc_5, hf⟩ := gm_bnd hf
      refine gm_callV (G := GC) (u := u) (u' := u) (r := (gR u 1 2)) (ci := 4) (As := [.int a1]) (rest := []) (res := (some (.int r_4))) C hw hl (ok_X5_kindOf l Z (gR u 1 2) a1 u g_1 r_4 hc_5) cw_X10_126 im_X5_kindOf rfl se_X5_kindOf k_2_0 rfl rfl ⟨Nat.le_trans (Nat.le_of_ble_eq_true rfl) hRf, Nat.le_trans (Nat.le_of_ble_eq_true rfl) hRl⟩ rfl rfl (Nat.le_of_ble_eq_true rfl) dX10_person_65 (fun H locs hw => ?_)
      exact gm_iret C E hw rfl ((congrArg (fun z => some (Value.int z)) (Option.some.inj hf)).symm) rfl dX10_person_68
    replace hf := (if_neg hq_6).symm.trans hf
    by_cases hq_9 : a2 = (1 : Int32)
    · replace hf := (if_pos hq_9).symm.trans hf
      refine lv_tableIn (off := 54) (tgt := 69) hx hb dX10_person_15 (by rw [hq_9]; decide) (by rw [hq_9]; decide) (by rw [hq_9]; rfl) (by decide) ?_
      refine gm_aload_n (G := GC) (r := 1) C rfl dX10_person_69 rfl (lv_at hl 0 rfl) ?_
      refine gm_getR (G := GC) (u := u) (r := 1) (ci := 9) (k := 2) C hw rfl fl_X10_19 dX10_person_70 rfl ?_
      refine lv_iload_n hx hb dX10_person_73 rfl (lv_at hl 1 rfl) ?_
      obtain ⟨r_7, hc_8, hf⟩ := gm_bnd hf
      refine gm_callV (G := GC) (u := u) (u' := u) (r := (gR u 1 2)) (ci := 4) (As := [.int a1]) (rest := []) (res := (some (.int r_7))) C hw hl (ok_X5_bornOf l Z (gR u 1 2) a1 u g_1 r_7 hc_8) cw_X10_130 im_X5_bornOf rfl se_X5_bornOf k_2_0 rfl rfl ⟨Nat.le_trans (Nat.le_of_ble_eq_true rfl) hRf, Nat.le_trans (Nat.le_of_ble_eq_true rfl) hRl⟩ rfl rfl (Nat.le_of_ble_eq_true rfl) dX10_person_74 (fun H locs hw => ?_)
      exact gm_iret C E hw rfl ((congrArg (fun z => some (Value.int z)) (Option.some.inj hf)).symm) rfl dX10_person_77
    replace hf := (if_neg hq_9).symm.trans hf
    by_cases hq_12 : a2 = (2 : Int32)
    · replace hf := (if_pos hq_12).symm.trans hf
      refine lv_tableIn (off := 63) (tgt := 78) hx hb dX10_person_15 (by rw [hq_12]; decide) (by rw [hq_12]; decide) (by rw [hq_12]; rfl) (by decide) ?_
      refine gm_aload_n (G := GC) (r := 1) C rfl dX10_person_78 rfl (lv_at hl 0 rfl) ?_
      refine gm_getR (G := GC) (u := u) (r := 1) (ci := 9) (k := 2) C hw rfl fl_X10_19 dX10_person_79 rfl ?_
      refine lv_iload_n hx hb dX10_person_82 rfl (lv_at hl 1 rfl) ?_
      obtain ⟨r_10, hc_11, hf⟩ := gm_bnd hf
      refine gm_callV (G := GC) (u := u) (u' := u) (r := (gR u 1 2)) (ci := 4) (As := [.int a1]) (rest := []) (res := (some (.int r_10))) C hw hl (ok_X5_pleaOf l Z (gR u 1 2) a1 u g_1 r_10 hc_11) cw_X10_133 im_X5_pleaOf rfl se_X5_pleaOf k_2_0 rfl rfl ⟨Nat.le_trans (Nat.le_of_ble_eq_true rfl) hRf, Nat.le_trans (Nat.le_of_ble_eq_true rfl) hRl⟩ rfl rfl (Nat.le_of_ble_eq_true rfl) dX10_person_83 (fun H locs hw => ?_)
      exact gm_iret C E hw rfl ((congrArg (fun z => some (Value.int z)) (Option.some.inj hf)).symm) rfl dX10_person_86
    replace hf := (if_neg hq_12).symm.trans hf
    by_cases hq_15 : a2 = (3 : Int32)
    · replace hf := (if_pos hq_15).symm.trans hf
      refine lv_tableIn (off := 72) (tgt := 87) hx hb dX10_person_15 (by rw [hq_15]; decide) (by rw [hq_15]; decide) (by rw [hq_15]; rfl) (by decide) ?_
      refine gm_aload_n (G := GC) (r := 1) C rfl dX10_person_87 rfl (lv_at hl 0 rfl) ?_
      refine gm_getS (G := GC) (u := u) (r := 1) (ci := 9) (k := 6) C hw rfl fl_X10_39 dX10_person_88 rfl (q := 27) rfl ?_
      refine lv_iload_n hx hb dX10_person_91 rfl (lv_at hl 1 rfl) ?_
      obtain ⟨r_13, hc_14, hf⟩ := gm_bnd hf
      refine gm_callV (G := GC) (u := u) (u' := u) (r := 27) (ci := 0) (As := [.int a1]) (rest := []) (res := (some (.int r_13))) C hw hl (ok_X1_placeOf l Z 27 a1 u rfl r_13 hc_14) cw_X10_136 im_X1_placeOf rfl se_X1_placeOf rfl rfl rfl ⟨Nat.le_trans (Nat.le_of_ble_eq_true rfl) hRf, Nat.le_trans (Nat.le_of_ble_eq_true rfl) hRl⟩ rfl rfl (Nat.le_of_ble_eq_true rfl) dX10_person_92 (fun H locs hw => ?_)
      exact gm_iret C E hw rfl ((congrArg (fun z => some (Value.int z)) (Option.some.inj hf)).symm) rfl dX10_person_95
    replace hf := (if_neg hq_15).symm.trans hf
    by_cases hq_16 : a2 = (4 : Int32)
    · replace hf := (if_pos hq_16).symm.trans hf
      refine lv_tableIn (off := 81) (tgt := 96) hx hb dX10_person_15 (by rw [hq_16]; decide) (by rw [hq_16]; decide) (by rw [hq_16]; rfl) (by decide) ?_
      refine gm_aload_n (G := GC) (r := 1) C rfl dX10_person_96 rfl (lv_at hl 0 rfl) ?_
      refine gm_getS (G := GC) (u := u) (r := 1) (ci := 9) (k := 6) C hw rfl fl_X10_39 dX10_person_97 rfl (q := 27) rfl ?_
      refine gm_getI (G := GC) (u := u) (r := 27) (ci := 0) (k := 2) C hw rfl fl_X10_139 dX10_person_100 rfl ?_
      refine lv_iload_n hx hb dX10_person_103 rfl (lv_at hl 1 rfl) ?_
      refine lv_ishr hx hb dX10_person_104 ?_
      refine lv_iconst (v := 1) hx hb dX10_person_105 (by decide) ?_
      refine lv_iand hx hb dX10_person_106 ?_
      exact gm_iret C E hw rfl ((congrArg (fun z => some (Value.int z)) (Option.some.inj hf)).symm) rfl dX10_person_107
    replace hf := (if_neg hq_16).symm.trans hf
    by_cases hq_19 : a2 = (5 : Int32)
    · replace hf := (if_pos hq_19).symm.trans hf
      refine lv_tableIn (off := 93) (tgt := 108) hx hb dX10_person_15 (by rw [hq_19]; decide) (by rw [hq_19]; decide) (by rw [hq_19]; rfl) (by decide) ?_
      refine gm_aload_n (G := GC) (r := 1) C rfl dX10_person_108 rfl (lv_at hl 0 rfl) ?_
      refine gm_getR (G := GC) (u := u) (r := 1) (ci := 9) (k := 2) C hw rfl fl_X10_19 dX10_person_109 rfl ?_
      refine lv_iload_n hx hb dX10_person_112 rfl (lv_at hl 1 rfl) ?_
      refine gm_aload_n (G := GC) (r := 1) C rfl dX10_person_113 rfl (lv_at hl 0 rfl) ?_
      refine gm_getS (G := GC) (u := u) (r := 1) (ci := 9) (k := 6) C hw rfl fl_X10_39 dX10_person_114 rfl (q := 27) rfl ?_
      refine gm_getI (G := GC) (u := u) (r := 27) (ci := 0) (k := 0) C hw rfl fl_X10_142 dX10_person_117 rfl ?_
      obtain ⟨r_17, hc_18, hf⟩ := gm_bnd hf
      refine gm_callV (G := GC) (u := u) (u' := u) (r := (gR u 1 2)) (ci := 4) (As := [.int a1, .int (gI u 27 0)]) (rest := []) (res := (some (.int r_17))) C hw hl (ok_X5_isDead l Z (gR u 1 2) a1 (gI u 27 0) u g_1 r_17 hc_18) cw_X10_145 im_X5_isDead rfl se_X5_isDead k_2_0 rfl rfl ⟨Nat.le_trans (Nat.le_of_ble_eq_true rfl) hRf, Nat.le_trans (Nat.le_of_ble_eq_true rfl) hRl⟩ rfl rfl (Nat.le_of_ble_eq_true rfl) dX10_person_120 (fun H locs hw => ?_)
      refine lv_if_eq (tgt := 130) hx hb dX10_person_123 (by decide) (fun hc => ?_) (fun hc => ?_)
      · replace hf := (if_pos hc).symm.trans hf
        refine lv_iconst (v := 0) hx hb dX10_person_130 (by decide) ?_
        exact gm_iret C E hw rfl ((congrArg (fun z => some (Value.int z)) (Option.some.inj hf)).symm) rfl dX10_person_131
      · replace hf := (if_neg hc).symm.trans hf
        refine lv_iconst (v := 1) hx hb dX10_person_126 (by decide) ?_
        refine lv_goto (tgt := 131) hx hb dX10_person_127 (by decide) ?_
        exact gm_iret C E hw rfl ((congrArg (fun z => some (Value.int z)) (Option.some.inj hf)).symm) rfl dX10_person_131
    replace hf := (if_neg hq_19).symm.trans hf
    by_cases hq_24 : a2 = (6 : Int32)
    · replace hf := (if_pos hq_24).symm.trans hf
      refine lv_tableIn (off := 117) (tgt := 132) hx hb dX10_person_15 (by rw [hq_24]; decide) (by rw [hq_24]; decide) (by rw [hq_24]; rfl) (by decide) ?_
      refine gm_aload_n (G := GC) (r := 1) C rfl dX10_person_132 rfl (lv_at hl 0 rfl) ?_
      refine gm_getS (G := GC) (u := u) (r := 1) (ci := 9) (k := 6) C hw rfl fl_X10_39 dX10_person_133 rfl (q := 27) rfl ?_
      refine lv_iload_n hx hb dX10_person_136 rfl (lv_at hl 1 rfl) ?_
      obtain ⟨r_20, hc_21, hf⟩ := gm_bnd hf
      refine gm_callV (G := GC) (u := u) (u' := u) (r := 27) (ci := 0) (As := [.int a1]) (rest := []) (res := (some (.int r_20))) C hw hl (ok_X1_isQueued l Z 27 a1 u rfl r_20 hc_21) cw_X10_149 im_X1_isQueued rfl se_X1_isQueued rfl rfl rfl ⟨Nat.le_trans (Nat.le_of_ble_eq_true rfl) hRf, Nat.le_trans (Nat.le_of_ble_eq_true rfl) hRl⟩ rfl rfl (Nat.le_of_ble_eq_true rfl) dX10_person_137 (fun H locs hw => ?_)
      refine lv_if_eq (tgt := 154) hx hb dX10_person_140 (by decide) (fun hc => ?_) (fun hc => ?_)
      · replace hf := (if_pos hc).symm.trans hf
        refine lv_iconst (v := 0) hx hb dX10_person_154 (by decide) ?_
        exact gm_iret C E hw rfl ((congrArg (fun z => some (Value.int z)) (Option.some.inj hf)).symm) rfl dX10_person_155
      · replace hf := (if_neg hc).symm.trans hf
        refine gm_aload_n (G := GC) (r := 1) C rfl dX10_person_143 rfl (lv_at hl 0 rfl) ?_
        refine gm_getS (G := GC) (u := u) (r := 1) (ci := 9) (k := 6) C hw rfl fl_X10_39 dX10_person_144 rfl (q := 27) rfl ?_
        refine lv_iload_n hx hb dX10_person_147 rfl (lv_at hl 1 rfl) ?_
        obtain ⟨r_22, hc_23, hf⟩ := gm_bnd hf
        refine gm_callV (G := GC) (u := u) (u' := u) (r := 27) (ci := 0) (As := [.int a1]) (rest := []) (res := (some (.int r_22))) C hw hl (ok_X1_stoodOf l Z 27 a1 u rfl r_22 hc_23) cw_X10_152 im_X1_stoodOf rfl se_X1_stoodOf rfl rfl rfl ⟨Nat.le_trans (Nat.le_of_ble_eq_true rfl) hRf, Nat.le_trans (Nat.le_of_ble_eq_true rfl) hRl⟩ rfl rfl (Nat.le_of_ble_eq_true rfl) dX10_person_148 (fun H locs hw => ?_)
        refine lv_goto (tgt := 155) hx hb dX10_person_151 (by decide) ?_
        exact gm_iret C E hw rfl ((congrArg (fun z => some (Value.int z)) (Option.some.inj hf)).symm) rfl dX10_person_155
    replace hf := (if_neg hq_24).symm.trans hf
    by_cases hq_29 : a2 = (7 : Int32)
    · replace hf := (if_pos hq_29).symm.trans hf
      refine lv_tableIn (off := 141) (tgt := 156) hx hb dX10_person_15 (by rw [hq_29]; decide) (by rw [hq_29]; decide) (by rw [hq_29]; rfl) (by decide) ?_
      refine gm_aload_n (G := GC) (r := 1) C rfl dX10_person_156 rfl (lv_at hl 0 rfl) ?_
      refine gm_getS (G := GC) (u := u) (r := 1) (ci := 9) (k := 6) C hw rfl fl_X10_39 dX10_person_157 rfl (q := 27) rfl ?_
      refine lv_iload_n hx hb dX10_person_160 rfl (lv_at hl 1 rfl) ?_
      obtain ⟨r_25, hc_26, hf⟩ := gm_bnd hf
      refine gm_callV (G := GC) (u := u) (u' := u) (r := 27) (ci := 0) (As := [.int a1]) (rest := []) (res := (some (.int r_25))) C hw hl (ok_X1_isQueued l Z 27 a1 u rfl r_25 hc_26) cw_X10_149 im_X1_isQueued rfl se_X1_isQueued rfl rfl rfl ⟨Nat.le_trans (Nat.le_of_ble_eq_true rfl) hRf, Nat.le_trans (Nat.le_of_ble_eq_true rfl) hRl⟩ rfl rfl (Nat.le_of_ble_eq_true rfl) dX10_person_161 (fun H locs hw => ?_)
      refine lv_if_eq (tgt := 178) hx hb dX10_person_164 (by decide) (fun hc => ?_) (fun hc => ?_)
      · replace hf := (if_pos hc).symm.trans hf
        refine lv_iconst (v := 0) hx hb dX10_person_178 (by decide) ?_
        exact gm_iret C E hw rfl ((congrArg (fun z => some (Value.int z)) (Option.some.inj hf)).symm) rfl dX10_person_179
      · replace hf := (if_neg hc).symm.trans hf
        refine gm_aload_n (G := GC) (r := 1) C rfl dX10_person_167 rfl (lv_at hl 0 rfl) ?_
        refine gm_getS (G := GC) (u := u) (r := 1) (ci := 9) (k := 6) C hw rfl fl_X10_39 dX10_person_168 rfl (q := 27) rfl ?_
        refine lv_iload_n hx hb dX10_person_171 rfl (lv_at hl 1 rfl) ?_
        obtain ⟨r_27, hc_28, hf⟩ := gm_bnd hf
        refine gm_callV (G := GC) (u := u) (u' := u) (r := 27) (ci := 0) (As := [.int a1]) (rest := []) (res := (some (.int r_27))) C hw hl (ok_X1_daysOf l Z 27 a1 u rfl r_27 hc_28) cw_X10_155 im_X1_daysOf rfl se_X1_daysOf rfl rfl rfl ⟨Nat.le_trans (Nat.le_of_ble_eq_true rfl) hRf, Nat.le_trans (Nat.le_of_ble_eq_true rfl) hRl⟩ rfl rfl (Nat.le_of_ble_eq_true rfl) dX10_person_172 (fun H locs hw => ?_)
        refine lv_goto (tgt := 179) hx hb dX10_person_175 (by decide) ?_
        exact gm_iret C E hw rfl ((congrArg (fun z => some (Value.int z)) (Option.some.inj hf)).symm) rfl dX10_person_179
    replace hf := (if_neg hq_29).symm.trans hf
    refine lv_tableOut (tgt := 180) hx hb dX10_person_15 (Classical.byContradiction (fun hq => by
      obtain ⟨i, hi, e⟩ := gm_rng hq
      match i, hi with
      | 0, _ => exact hq_6 (e.trans (by decide))
      | 1, _ => exact hq_9 (e.trans (by decide))
      | 2, _ => exact hq_12 (e.trans (by decide))
      | 3, _ => exact hq_15 (e.trans (by decide))
      | 4, _ => exact hq_16 (e.trans (by decide))
      | 5, _ => exact hq_19 (e.trans (by decide))
      | 6, _ => exact hq_24 (e.trans (by decide))
      | 7, _ => exact hq_29 (e.trans (by decide))
      | (n + 8), h => exact absurd h (by simp only [Int.reduceSub, Int.reduceAdd, Int.reduceToNat, Int.reduceNeg, Int.sub_neg]; omega))) (by decide) ?_
    refine lv_bipush (v := -2) hx hb dX10_person_180 (by decide) ?_
    exact gm_iret C E hw rfl ((congrArg (fun z => some (Value.int z)) (Option.some.inj hf)).symm) rfl dX10_person_182
  · replace hf := (if_pos hc).symm.trans hf
    refine lv_bipush (v := -2) hx hb dX10_person_11 (by decide) ?_
    exact gm_iret C E hw rfl ((congrArg (fun z => some (Value.int z)) (Option.some.inj hf)).symm) rfl dX10_person_13
/-! LeapCapital.remember -/
def j_X10_remember_74 (u_1 : gm_M) : Option gm_M := if (gI u_1 1 10) < 0 then some u_1 else if ib (gI u_1 1 10) 16 = true then if isCourt (gR u_1 38 (ix (gI u_1 1 10))) = true then (f_X1_copyFrom (gR u_1 38 (ix (gI u_1 1 10))) 27 u_1).bind fun u_5 => gm_let (sI u_5 1 10 ((gI u_5 1 10) + (1 : Int32))) fun u_7 => some u_7 else none else none
def b_X10_remember_21 (v1_10 : Nat) : (Int32 × gm_M) → Option ((Int32 × gm_M) ⊕ gm_M) := fun x => match x with | (v2_14, u_13) => if (16 : Int32) ≤ v2_14 then some (.inr u_13) else if ib v2_14 16 = true then if isCourt (gR u_13 38 (ix v2_14)) = true then if ib (v2_14 - (1 : Int32)) 16 = true then gm_let (sR u_13 38 (ix (v2_14 - (1 : Int32))) (gR u_13 38 (ix v2_14))) fun u_19 => some (.inl (v2_14 + (1 : Int32), u_19)) else none else none else none
def f_X10_remember  (u : gm_M) : Option gm_M := if (gI u 1 10) < (16 : Int32) then j_X10_remember_74 u else if isCourt (gR u 38 0) = true then gm_let (gR u 38 0) fun v1_10 => ((gm_lp (b_X10_remember_21 v1_10) gm_FU ((1 : Int32), u)).bind fun o => match o with | u_20 => if ib ((16 : Int32) - (1 : Int32)) 16 = true then gm_let (sR u_20 38 (ix ((16 : Int32) - (1 : Int32))) v1_10) fun u_22 => gm_let (sI u_22 1 10 ((16 : Int32) - (1 : Int32))) fun u_23 => j_X10_remember_74 u_23 else none) else none
set_option maxRecDepth 100000 in
set_option maxHeartbeats 4000000 in
theorem ok_X10_remember (l : Launch) (Z : gm_Z)  (u : gm_M)  (u' : gm_M) (hf : f_X10_remember u = some (u')) : gm_Met l GC Z yX10_remember cX10_remember 3 none ({ frames := 1, cells := 0, slots := 0, locals := 22 }) [rv Z 1] u none u' := by
  unfold f_X10_remember at hf
  refine gm_ofW (by decide +kernel) (Nat.le_of_ble_eq_true rfl) ?_
  intro p e s m args below meth c A ls Q R hRf hRl C E hl hw
  obtain ⟨hx, hb, -⟩ := id C
  have hl : lv_has ls 3 [(0, rv Z 1)] := hl
  have J74 : ∀  (u_1 : gm_M) (H : Heap) (locs : List Loc) (ls : Array Slot), j_X10_remember_74 u_1 = some (u') → lv_has ls 3 [(0, rv Z 1)] → wd GC Z u_1 A s.heap H locs → W p l e R s m args below meth c H locs 0 0 Q (F0 m 74 ls []) := by
    intro  u_1 H locs ls hf  hl hw
    unfold j_X10_remember_74 at hf
    refine gm_aload_n (G := GC) (r := 1) C rfl dX10_remember_74 rfl (lv_at hl 0 rfl) ?_
    refine gm_getI (G := GC) (u := u_1) (r := 1) (ci := 9) (k := 10) C hw rfl fl_X10_61 dX10_remember_75 rfl ?_
    refine lv_if_lt (tgt := 119) hx hb dX10_remember_78 (by decide) (fun hc => ?_) (fun hc => ?_)
    · replace hf := (if_pos hc).symm.trans hf
      exact gm_vret C E hw rfl rfl (Option.some.inj hf).symm dX10_remember_119
    · replace hf := (if_neg hc).symm.trans hf
      refine gm_aload_n (G := GC) (r := 1) C rfl dX10_remember_81 rfl (lv_at hl 0 rfl) ?_
      refine gm_getS (G := GC) (u := u_1) (r := 1) (ci := 9) (k := 9) C hw rfl fl_X10_57 dX10_remember_82 rfl (q := 38) rfl ?_
      refine gm_aload_n (G := GC) (r := 1) C rfl dX10_remember_85 rfl (lv_at hl 0 rfl) ?_
      refine gm_getI (G := GC) (u := u_1) (r := 1) (ci := 9) (k := 10) C hw rfl fl_X10_61 dX10_remember_86 rfl ?_
      obtain ⟨g_2, hf⟩ := gm_grd hf
      refine gm_aald4 (G := GC) (u := u_1) (r := 38) (n := 16) (i := gI u_1 1 10) C hw rfl g_2 rfl dX10_remember_89 ?_
      obtain ⟨g_3, hf⟩ := gm_grd hf
      obtain ⟨k_4_0, k_4_1, k_4_2, k_4_3, k_4_4, k_4_5, k_4_6⟩ := fc_Court g_3
      refine gm_ifnull (G := GC) (r := (gR u_1 38 (ix (gI u_1 1 10)))) C k_4_0 dX10_remember_90 ?_
      refine gm_aload_n (G := GC) (r := 1) C rfl dX10_remember_93 rfl (lv_at hl 0 rfl) ?_
      refine gm_getS (G := GC) (u := u_1) (r := 1) (ci := 9) (k := 9) C hw rfl fl_X10_57 dX10_remember_94 rfl (q := 38) rfl ?_
      refine gm_aload_n (G := GC) (r := 1) C rfl dX10_remember_97 rfl (lv_at hl 0 rfl) ?_
      refine gm_getI (G := GC) (u := u_1) (r := 1) (ci := 9) (k := 10) C hw rfl fl_X10_61 dX10_remember_98 rfl ?_
      refine gm_aald4 (G := GC) (u := u_1) (r := 38) (n := 16) (i := gI u_1 1 10) C hw rfl g_2 rfl dX10_remember_101 ?_
      refine gm_aload_n (G := GC) (r := 1) C rfl dX10_remember_102 rfl (lv_at hl 0 rfl) ?_
      refine gm_getS (G := GC) (u := u_1) (r := 1) (ci := 9) (k := 6) C hw rfl fl_X10_39 dX10_remember_103 rfl (q := 27) rfl ?_
      obtain ⟨u_5, hc_6, hf⟩ := gm_bnd hf
      refine gm_callV (G := GC) (u := u_1) (u' := u_5) (r := (gR u_1 38 (ix (gI u_1 1 10)))) (ci := 0) (As := [rv Z 27]) (rest := []) (res := none) C hw hl (ok_X1_copyFrom l Z (gR u_1 38 (ix (gI u_1 1 10))) 27 u_1 g_3 rfl u_5 hc_6) cw_X10_189 im_X1_copyFrom rfl se_X1_copyFrom k_4_0 rfl rfl ⟨Nat.le_trans (Nat.le_of_ble_eq_true rfl) hRf, Nat.le_trans (Nat.le_of_ble_eq_true rfl) hRl⟩ rfl rfl (Nat.le_of_ble_eq_true rfl) dX10_remember_106 (fun H locs hw => ?_)
      refine gm_aload_n (G := GC) (r := 1) C rfl dX10_remember_109 rfl (lv_at hl 0 rfl) ?_
      refine lv_dup hx hb dX10_remember_110 (gm_cat _ _) ?_
      refine gm_getI (G := GC) (u := u_5) (r := 1) (ci := 9) (k := 10) C hw rfl fl_X10_61 dX10_remember_111 rfl ?_
      refine lv_iconst (v := 1) hx hb dX10_remember_114 (by decide) ?_
      refine lv_iadd hx hb dX10_remember_115 ?_
      refine gm_putI (G := GC) (u := u_5) (r := 1) (ci := 9) (k := 10) (v := (gI u_5 1 10) + (1 : Int32)) C hw rfl fl_X10_61 fp_9_10 dX10_remember_116 rfl (fun H locs hw => ?_)
      obtain ⟨u_7, e_u_7, hf⟩ := gm_le hf
      rw [← e_u_7] at hw
      exact gm_vret C E hw rfl rfl (Option.some.inj hf).symm dX10_remember_119
  refine gm_aload_n (G := GC) (r := 1) C rfl dX10_remember_0 rfl (lv_at hl 0 rfl) ?_
  refine gm_getI (G := GC) (u := u) (r := 1) (ci := 9) (k := 10) C hw rfl fl_X10_61 dX10_remember_1 rfl ?_
  refine gm_aload_n (G := GC) (r := 1) C rfl dX10_remember_4 rfl (lv_at hl 0 rfl) ?_
  refine gm_getS (G := GC) (u := u) (r := 1) (ci := 9) (k := 9) C hw rfl fl_X10_57 dX10_remember_5 rfl (q := 38) rfl ?_
  refine gm_alen (G := GC) (u := u) (r := 38) (t := 4) (n := 16) (v := 16) C hw rfl (by decide) (by decide) dX10_remember_8 ?_
  refine lv_icmp_lt (tgt := 74) hx hb dX10_remember_9 (by decide) (fun hc => ?_) (fun hc => ?_)
  · replace hf := (if_pos hc).symm.trans hf
    exact J74 u _ _ _ hf  (lv_sub hl [0] rfl) hw
  · replace hf := (if_neg hc).symm.trans hf
    refine gm_aload_n (G := GC) (r := 1) C rfl dX10_remember_12 rfl (lv_at hl 0 rfl) ?_
    refine gm_getS (G := GC) (u := u) (r := 1) (ci := 9) (k := 9) C hw rfl fl_X10_57 dX10_remember_13 rfl (q := 38) rfl ?_
    refine lv_iconst (v := 0) hx hb dX10_remember_16 (by decide) ?_
    refine gm_aald4 (G := GC) (u := u) (r := 38) (n := 16) (i := (0 : Int32)) C hw rfl (by decide) (j := 0) (by decide) dX10_remember_17 ?_
    obtain ⟨g_8, hf⟩ := gm_grd hf
    obtain ⟨k_9_0, k_9_1, k_9_2, k_9_3, k_9_4, k_9_5, k_9_6⟩ := fc_Court g_8
    obtain ⟨v1_10, e_v1_10, hf⟩ := gm_le hf
    refine gm_topR e_v1_10 ?_
    have g_11 : isCourt v1_10 = true := by rw [e_v1_10]; exact g_8
    obtain ⟨k_12_0, k_12_1, k_12_2, k_12_3, k_12_4, k_12_5, k_12_6⟩ := fc_Court g_11
    refine gm_astore_n (G := GC) (i := 1) (r := v1_10) (lv' := [(1, rv Z v1_10), (0, rv Z 1)]) C k_12_0 dX10_remember_18 rfl hl (by decide) rfl (fun ls hl => ?_)
    refine lv_iconst (v := 1) hx hb dX10_remember_19 (by decide) ?_
    refine lv_istore_n (i := 2) (lv' := [(2, .int (1 : Int32)), (1, rv Z v1_10), (0, rv Z 1)]) hx hb dX10_remember_20 rfl hl (by decide) (by simp [gm_cat, gm_catI, gm_catJ]) (fun ls hl => ?_)
    obtain ⟨o1, hlp, hf⟩ := gm_bnd hf
    have L21_1 := gm_loop (b_X10_remember_21 v1_10) (fun x : (Int32 × gm_M) => ∀ (H : Heap) (locs : List Loc) (ls : Array Slot), lv_has ls 3 [(0, rv Z 1), (1, rv Z v1_10), (2, .int x.1)] → wd GC Z x.2 A s.heap H locs → W p l e R s m args below meth c H locs 0 0 Q (F0 m 21 ls [])) (fun z : gm_M => ∀ (H : Heap) (locs : List Loc) (ls : Array Slot), lv_has ls 3 [(0, rv Z 1), (1, rv Z v1_10)] → wd GC Z z A s.heap H locs → W p l e R s m args below meth c H locs 0 0 Q (F0 m 50 ls [])) (by
      intro x o1 hf Kc Kx
      obtain ⟨v2_14, u_13⟩ := x
      intro H locs ls hl hw
      unfold b_X10_remember_21 at hf
      try dsimp only at hf
      refine lv_iload_n hx hb dX10_remember_21 rfl (lv_at hl 2 rfl) ?_
      refine gm_aload_n (G := GC) (r := 1) C rfl dX10_remember_22 rfl (lv_at hl 0 rfl) ?_
      refine gm_getS (G := GC) (u := u_13) (r := 1) (ci := 9) (k := 9) C hw rfl fl_X10_57 dX10_remember_23 rfl (q := 38) rfl ?_
      refine gm_alen (G := GC) (u := u_13) (r := 38) (t := 4) (n := 16) (v := 16) C hw rfl (by decide) (by decide) dX10_remember_26 ?_
      refine lv_icmp_ge (tgt := 50) hx hb dX10_remember_27 (by decide) (fun hc => ?_) (fun hc => ?_)
      · replace hf := (if_pos hc).symm.trans hf
        exact Kx _ (gm_si hf) _ _ _ (lv_sub hl [0, 1] rfl) hw
      · replace hf := (if_neg hc).symm.trans hf
        refine gm_aload_n (G := GC) (r := 1) C rfl dX10_remember_30 rfl (lv_at hl 0 rfl) ?_
        refine gm_getS (G := GC) (u := u_13) (r := 1) (ci := 9) (k := 9) C hw rfl fl_X10_57 dX10_remember_31 rfl (q := 38) rfl ?_
        refine lv_iload_n hx hb dX10_remember_34 rfl (lv_at hl 2 rfl) ?_
        refine lv_iconst (v := 1) hx hb dX10_remember_35 (by decide) ?_
        refine lv_isub hx hb dX10_remember_36 ?_
        refine gm_aload_n (G := GC) (r := 1) C rfl dX10_remember_37 rfl (lv_at hl 0 rfl) ?_
        refine gm_getS (G := GC) (u := u_13) (r := 1) (ci := 9) (k := 9) C hw rfl fl_X10_57 dX10_remember_38 rfl (q := 38) rfl ?_
        refine lv_iload_n hx hb dX10_remember_41 rfl (lv_at hl 2 rfl) ?_
        obtain ⟨g_15, hf⟩ := gm_grd hf
        refine gm_aald4 (G := GC) (u := u_13) (r := 38) (n := 16) (i := v2_14) C hw rfl g_15 rfl dX10_remember_42 ?_
        obtain ⟨g_16, hf⟩ := gm_grd hf
        obtain ⟨k_17_0, k_17_1, k_17_2, k_17_3, k_17_4, k_17_5, k_17_6⟩ := fc_Court g_16
        obtain ⟨g_18, hf⟩ := gm_grd hf
        refine gm_aast (G := GC) (u := u_13) (r := 38) (n := 16) (q := (gR u_13 38 (ix v2_14))) (i := v2_14 - (1 : Int32)) C hw rfl k_17_0 g_18 rfl dX10_remember_43 (fun H locs hw => ?_)
        obtain ⟨u_19, e_u_19, hf⟩ := gm_le hf
        rw [← e_u_19] at hw
        refine lv_iinc (v := v2_14 + (1 : Int32)) (lv' := [(2, .int (v2_14 + (1 : Int32))), (0, rv Z 1), (1, rv Z v1_10)]) hx hb dX10_remember_44 hl (k := 2) rfl rfl (by decide) (by simp [gm_cat, gm_catI, gm_catJ]) (fun ls hl => ?_)
        refine lv_goto (tgt := 21) hx hb dX10_remember_47 (by decide) ?_
        exact Kc _ (gm_si hf) _ _ _ (lv_sub hl [1, 2, 0] rfl) hw)
    refine L21_1 _ _ _ hlp ?_ _ _ _ (lv_sub hl [2, 1, 0] rfl) hw
    obtain ⟨u_20, rfl⟩ : ∃ y, y = o1 := ⟨_, rfl⟩
    intro H locs ls hl hw
    try dsimp only at hf
    refine gm_aload_n (G := GC) (r := 1) C rfl dX10_remember_50 rfl (lv_at hl 0 rfl) ?_
    refine gm_getS (G := GC) (u := u_20) (r := 1) (ci := 9) (k := 9) C hw rfl fl_X10_57 dX10_remember_51 rfl (q := 38) rfl ?_
    refine gm_aload_n (G := GC) (r := 1) C rfl dX10_remember_54 rfl (lv_at hl 0 rfl) ?_
    refine gm_getS (G := GC) (u := u_20) (r := 1) (ci := 9) (k := 9) C hw rfl fl_X10_57 dX10_remember_55 rfl (q := 38) rfl ?_
    refine gm_alen (G := GC) (u := u_20) (r := 38) (t := 4) (n := 16) (v := 16) C hw rfl (by decide) (by decide) dX10_remember_58 ?_
    refine lv_iconst (v := 1) hx hb dX10_remember_59 (by decide) ?_
    refine lv_isub hx hb dX10_remember_60 ?_
    refine gm_aload_n (G := GC) (r := v1_10) C k_12_0 dX10_remember_61 rfl (lv_at hl 1 rfl) ?_
    obtain ⟨g_21, hf⟩ := gm_grd hf
    refine gm_aast (G := GC) (u := u_20) (r := 38) (n := 16) (q := v1_10) (i := (16 : Int32) - (1 : Int32)) C hw rfl k_12_0 g_21 rfl dX10_remember_62 (fun H locs hw => ?_)
    obtain ⟨u_22, e_u_22, hf⟩ := gm_le hf
    rw [← e_u_22] at hw
    refine gm_aload_n (G := GC) (r := 1) C rfl dX10_remember_63 rfl (lv_at hl 0 rfl) ?_
    refine gm_aload_n (G := GC) (r := 1) C rfl dX10_remember_64 rfl (lv_at hl 0 rfl) ?_
    refine gm_getS (G := GC) (u := u_22) (r := 1) (ci := 9) (k := 9) C hw rfl fl_X10_57 dX10_remember_65 rfl (q := 38) rfl ?_
    refine gm_alen (G := GC) (u := u_22) (r := 38) (t := 4) (n := 16) (v := 16) C hw rfl (by decide) (by decide) dX10_remember_68 ?_
    refine lv_iconst (v := 1) hx hb dX10_remember_69 (by decide) ?_
    refine lv_isub hx hb dX10_remember_70 ?_
    refine gm_putI (G := GC) (u := u_22) (r := 1) (ci := 9) (k := 10) (v := (16 : Int32) - (1 : Int32)) C hw rfl fl_X10_61 fp_9_10 dX10_remember_71 rfl (fun H locs hw => ?_)
    obtain ⟨u_23, e_u_23, hf⟩ := gm_le hf
    rw [← e_u_23] at hw
    exact J74 u_23 _ _ _ hf  (lv_sub hl [0] rfl) hw
/-! LeapCapital.come -/
def f_X10_come (a1 : Int32) (u : gm_M) : Option (Int32 × gm_M) := if isRealm (gR u 1 2) = true then (f_X1_mayEnter 27 (gR u 1 2) a1 u).bind fun r_3 => if r_3 = 0 then some ((-1 : Int32), u) else (f_X10_remember u).bind fun u_5 => (f_X1_enter 27 a1 u_5).bind fun u_7 => (f_X1_placeOf 27 a1 u_7).bind fun r_9 => some (r_9, u_7) else none
set_option maxRecDepth 100000 in
set_option maxHeartbeats 4000000 in
theorem ok_X10_come (l : Launch) (Z : gm_Z) (a1 : Int32) (u : gm_M)  (r : Int32) (u' : gm_M) (hf : f_X10_come a1 u = some (r, u')) : gm_Met l GC Z yX10_come cX10_come 2 (some .int) ({ frames := 3, cells := 0, slots := 0, locals := 65 }) [rv Z 1, .int a1] u (some (.int r)) u' := by
  unfold f_X10_come at hf
  refine gm_ofW (by decide +kernel) (Nat.le_of_ble_eq_true rfl) ?_
  intro p e s m args below meth c A ls Q R hRf hRl C E hl hw
  obtain ⟨hx, hb, -⟩ := id C
  have hl : lv_has ls 2 [(0, rv Z 1), (1, .int a1)] := hl
  refine gm_aload_n (G := GC) (r := 1) C rfl dX10_come_0 rfl (lv_at hl 0 rfl) ?_
  refine gm_getS (G := GC) (u := u) (r := 1) (ci := 9) (k := 6) C hw rfl fl_X10_39 dX10_come_1 rfl (q := 27) rfl ?_
  refine gm_aload_n (G := GC) (r := 1) C rfl dX10_come_4 rfl (lv_at hl 0 rfl) ?_
  refine gm_getR (G := GC) (u := u) (r := 1) (ci := 9) (k := 2) C hw rfl fl_X10_19 dX10_come_5 rfl ?_
  obtain ⟨g_1, hf⟩ := gm_grd hf
  obtain ⟨k_2_0, k_2_1, k_2_2, k_2_3, k_2_4, k_2_5, k_2_6, k_2_7, k_2_8, k_2_9, k_2_10, k_2_11⟩ := fc_Realm g_1
  refine lv_iload_n hx hb dX10_come_8 rfl (lv_at hl 1 rfl) ?_
  obtain ⟨r_3, hc_4, hf⟩ := gm_bnd hf
  refine gm_callV (G := GC) (u := u) (u' := u) (r := 27) (ci := 0) (As := [rv Z (gR u 1 2), .int a1]) (rest := []) (res := (some (.int r_3))) C hw hl (ok_X1_mayEnter l Z 27 (gR u 1 2) a1 u rfl g_1 r_3 hc_4) cw_X10_158 im_X1_mayEnter rfl se_X1_mayEnter rfl rfl rfl ⟨Nat.le_trans (Nat.le_of_ble_eq_true rfl) hRf, Nat.le_trans (Nat.le_of_ble_eq_true rfl) hRl⟩ rfl rfl (Nat.le_of_ble_eq_true rfl) dX10_come_9 (fun H locs hw => ?_)
  refine lv_if_ne (tgt := 17) hx hb dX10_come_12 (by decide) (fun hc => ?_) (fun hc => ?_)
  · replace hf := (if_neg hc).symm.trans hf
    refine gm_aload_n (G := GC) (r := 1) C rfl dX10_come_17 rfl (lv_at hl 0 rfl) ?_
    obtain ⟨u_5, hc_6, hf⟩ := gm_bnd hf
    refine gm_callV (G := GC) (u := u) (u' := u_5) (r := 1) (ci := 9) (As := []) (rest := []) (res := none) C hw hl (ok_X10_remember l Z u u_5 hc_6) cw_X10_162 im_X10_remember rfl se_X10_remember rfl rfl rfl ⟨Nat.le_trans (Nat.le_of_ble_eq_true rfl) hRf, Nat.le_trans (Nat.le_of_ble_eq_true rfl) hRl⟩ rfl rfl (Nat.le_of_ble_eq_true rfl) dX10_come_18 (fun H locs hw => ?_)
    refine gm_aload_n (G := GC) (r := 1) C rfl dX10_come_21 rfl (lv_at hl 0 rfl) ?_
    refine gm_getS (G := GC) (u := u_5) (r := 1) (ci := 9) (k := 6) C hw rfl fl_X10_39 dX10_come_22 rfl (q := 27) rfl ?_
    refine lv_iload_n hx hb dX10_come_25 rfl (lv_at hl 1 rfl) ?_
    obtain ⟨u_7, hc_8, hf⟩ := gm_bnd hf
    refine gm_callV (G := GC) (u := u_5) (u' := u_7) (r := 27) (ci := 0) (As := [.int a1]) (rest := []) (res := none) C hw hl (ok_X1_enter l Z 27 a1 u_5 rfl u_7 hc_8) cw_X10_165 im_X1_enter rfl se_X1_enter rfl rfl rfl ⟨Nat.le_trans (Nat.le_of_ble_eq_true rfl) hRf, Nat.le_trans (Nat.le_of_ble_eq_true rfl) hRl⟩ rfl rfl (Nat.le_of_ble_eq_true rfl) dX10_come_26 (fun H locs hw => ?_)
    refine gm_aload_n (G := GC) (r := 1) C rfl dX10_come_29 rfl (lv_at hl 0 rfl) ?_
    refine gm_getS (G := GC) (u := u_7) (r := 1) (ci := 9) (k := 6) C hw rfl fl_X10_39 dX10_come_30 rfl (q := 27) rfl ?_
    refine lv_iload_n hx hb dX10_come_33 rfl (lv_at hl 1 rfl) ?_
    obtain ⟨r_9, hc_10, hf⟩ := gm_bnd hf
    refine gm_callV (G := GC) (u := u_7) (u' := u_7) (r := 27) (ci := 0) (As := [.int a1]) (rest := []) (res := (some (.int r_9))) C hw hl (ok_X1_placeOf l Z 27 a1 u_7 rfl r_9 hc_10) cw_X10_136 im_X1_placeOf rfl se_X1_placeOf rfl rfl rfl ⟨Nat.le_trans (Nat.le_of_ble_eq_true rfl) hRf, Nat.le_trans (Nat.le_of_ble_eq_true rfl) hRl⟩ rfl rfl (Nat.le_of_ble_eq_true rfl) dX10_come_34 (fun H locs hw => ?_)
    exact gm_iret C E hw rfl ((congrArg (fun z => some (Value.int z)) (gm_sp hf).1).symm) (gm_sp hf).2.symm dX10_come_37
  · replace hf := (if_pos hc).symm.trans hf
    refine lv_iconst (v := -1) hx hb dX10_come_15 (by decide) ?_
    exact gm_iret C E hw rfl ((congrArg (fun z => some (Value.int z)) (gm_sp hf).1).symm) (gm_sp hf).2.symm dX10_come_16
