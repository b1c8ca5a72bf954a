/-! LeapCapitalModel.thrown -/
def f_X11_thrown  (u : gm_M) : Int32 := gI u 1 0
set_option maxRecDepth 100000 in
set_option maxHeartbeats 4000000 in
theorem ok_X11_thrown (l : Launch) (Z : gm_Z)  (u : gm_M)  : gm_Met l GM Z yX11_thrown cX11_thrown 1 (some .int) ({ frames := 0, cells := 0, slots := 0, locals := 0 }) [rv Z 1] u (some (.int (f_X11_thrown u))) u := by
  obtain ⟨r, hf⟩ : ∃ r, f_X11_thrown u = r := ⟨_, rfl⟩
  rw [hf]
  unfold f_X11_thrown at hf
  refine gm_ofW (by decide +kernel) (Nat.le_of_ble_eq_true rfl) ?_
  intro p e s m args below meth c A ls Q R hRf hRl C E hl hw
  obtain ⟨hx, hb, -⟩ := id C
  have hl : lv_has ls 1 [(0, rv Z 1)] := hl
  refine gm_aload_n (G := GM) (r := 1) C rfl dX11_thrown_0 rfl (lv_at hl 0 rfl) ?_
  refine gm_getI (G := GM) (u := u) (r := 1) (ci := 10) (k := 0) C hw rfl fl_X11_137 dX11_thrown_1 rfl ?_
  exact gm_iret C E hw rfl ((congrArg (fun z => some (Value.int z)) hf).symm) rfl dX11_thrown_4
/-! LeapCapitalModel.within -/
def f_X11_within (a0 : Int32) (a1 : Int32) (a2 : Int32) : Int32 := if a0 < a1 then (0 : Int32) else if a2 < a0 then (0 : Int32) else (1 : Int32)
set_option maxRecDepth 100000 in
set_option maxHeartbeats 4000000 in
theorem ok_X11_within (l : Launch) (Z : gm_Z) (a0 : Int32) (a1 : Int32) (a2 : Int32) (u : gm_M)  : gm_Met l GM Z yX11_within cX11_within 3 (some .boolean) ({ frames := 0, cells := 0, slots := 0, locals := 0 }) [.int a0, .int a1, .int a2] u (some (.int (f_X11_within a0 a1 a2))) u := by
  obtain ⟨r, hf⟩ : ∃ r, f_X11_within a0 a1 a2 = r := ⟨_, rfl⟩
  rw [hf]
  unfold f_X11_within at hf
  refine gm_ofW (by decide +kernel) (Nat.le_of_ble_eq_true rfl) ?_
  intro p e s m args below meth c A ls Q R hRf hRl C E hl hw
  obtain ⟨hx, hb, -⟩ := id C
  have hl : lv_has ls 3 [(0, .int a0), (1, .int a1), (2, .int a2)] := hl
  refine lv_iload_n hx hb dX11_within_0 rfl (lv_at hl 0 rfl) ?_
  refine lv_iload_n hx hb dX11_within_1 rfl (lv_at hl 1 rfl) ?_
  refine lv_icmp_lt (tgt := 14) hx hb dX11_within_2 (by decide) (fun hc => ?_) (fun hc => ?_)
  · replace hf := (if_pos hc).symm.trans hf
    refine lv_iconst (v := 0) hx hb dX11_within_14 (by decide) ?_
    exact gm_zret C E hw rfl rfl ((congrArg (fun z => some (Value.int z)) hf).symm) rfl dX11_within_15
  · replace hf := (if_neg hc).symm.trans hf
    refine lv_iload_n hx hb dX11_within_5 rfl (lv_at hl 0 rfl) ?_
    refine lv_iload_n hx hb dX11_within_6 rfl (lv_at hl 2 rfl) ?_
    refine lv_icmp_gt (tgt := 14) hx hb dX11_within_7 (by decide) (fun hc => ?_) (fun hc => ?_)
    · replace hf := (if_pos hc).symm.trans hf
      refine lv_iconst (v := 0) hx hb dX11_within_14 (by decide) ?_
      exact gm_zret C E hw rfl rfl ((congrArg (fun z => some (Value.int z)) hf).symm) rfl dX11_within_15
    · replace hf := (if_neg hc).symm.trans hf
      refine lv_iconst (v := 1) hx hb dX11_within_10 (by decide) ?_
      refine lv_goto (tgt := 15) hx hb dX11_within_11 (by decide) ?_
      exact gm_zret C E hw rfl rfl ((congrArg (fun z => some (Value.int z)) hf).symm) rfl dX11_within_15
/-! LeapCapitalModel.bits -/
def b_X11_bits_4 (a0 : Int32) : (Int32 × Int32) → Option ((Int32 × Int32) ⊕ Int32) := fun x => match x with | (v1_1, v2_2) => if (6 : Int32) ≤ v2_2 then some (.inr v1_1) else gm_let (v1_1 + ((a0 >>> (v2_2 &&& 31)) &&& (1 : Int32))) fun v1_3 => some (.inl (v1_3, v2_2 + (1 : Int32)))
def f_X11_bits (a0 : Int32) : Option Int32 := ((gm_lp (b_X11_bits_4 a0) gm_FU ((0 : Int32), (0 : Int32))).bind fun o => match o with | w1_4 => some w1_4)
set_option maxRecDepth 100000 in
set_option maxHeartbeats 4000000 in
theorem ok_X11_bits (l : Launch) (Z : gm_Z) (a0 : Int32) (u : gm_M)  (r : Int32) (hf : f_X11_bits a0 = some r) : gm_Met l GM Z yX11_bits cX11_bits 3 (some .int) ({ frames := 0, cells := 0, slots := 0, locals := 0 }) [.int a0] u (some (.int r)) u := by
  unfold f_X11_bits at hf
  refine gm_ofW (by decide +kernel) (Nat.le_of_ble_eq_true rfl) ?_
  intro p e s m args below meth c A ls Q R hRf hRl C E hl hw
  obtain ⟨hx, hb, -⟩ := id C
  have hl : lv_has ls 3 [(0, .int a0)] := hl
  refine lv_iconst (v := 0) hx hb dX11_bits_0 (by decide) ?_
  refine lv_istore_n (i := 1) (lv' := [(1, .int (0 : Int32)), (0, .int a0)]) hx hb dX11_bits_1 rfl hl (by decide) rfl (fun ls hl => ?_)
  refine lv_iconst (v := 0) hx hb dX11_bits_2 (by decide) ?_
  refine lv_istore_n (i := 2) (lv' := [(2, .int (0 : Int32)), (1, .int (0 : Int32)), (0, .int a0)]) hx hb dX11_bits_3 rfl hl (by decide) rfl (fun ls hl => ?_)
  obtain ⟨o1, hlp, hf⟩ := gm_bnd hf
  have L4_1 := gm_loop (b_X11_bits_4 a0) (fun x : (Int32 × Int32) => ∀ (H : Heap) (locs : List Loc) (ls : Array Slot), lv_has ls 3 [(0, .int a0), (1, .int x.1), (2, .int x.2)] → wd GM Z u A s.heap H locs → W p l e R s m args below meth c H locs 0 0 Q (F0 m 4 ls [])) (fun z : Int32 => ∀ (H : Heap) (locs : List Loc) (ls : Array Slot), lv_has ls 3 [(1, .int z)] → wd GM Z u A s.heap H locs → W p l e R s m args below meth c H locs 0 0 Q (F0 m 24 ls [])) (by
    intro x o1 hf Kc Kx
    obtain ⟨v1_1, v2_2⟩ := x
    intro H locs ls hl hw
    unfold b_X11_bits_4 at hf
    try dsimp only at hf
    refine lv_iload_n hx hb dX11_bits_4 rfl (lv_at hl 2 rfl) ?_
    refine lv_bipush (v := 6) hx hb dX11_bits_5 (by decide) ?_
    refine lv_icmp_ge (tgt := 24) hx hb dX11_bits_7 (by decide) (fun hc => ?_) (fun hc => ?_)
    · replace hf := (if_pos hc).symm.trans hf
      exact Kx _ (gm_si hf) _ _ _ (lv_sub hl [1] rfl) hw
    · replace hf := (if_neg hc).symm.trans hf
      refine lv_iload_n hx hb dX11_bits_10 rfl (lv_at hl 1 rfl) ?_
      refine lv_iload_n hx hb dX11_bits_11 rfl (lv_at hl 0 rfl) ?_
      refine lv_iload_n hx hb dX11_bits_12 rfl (lv_at hl 2 rfl) ?_
      refine lv_ishr hx hb dX11_bits_13 ?_
      refine lv_iconst (v := 1) hx hb dX11_bits_14 (by decide) ?_
      refine lv_iand hx hb dX11_bits_15 ?_
      refine lv_iadd hx hb dX11_bits_16 ?_
      obtain ⟨v1_3, e_v1_3, hf⟩ := gm_le hf
      refine gm_topI e_v1_3 ?_
      refine lv_istore_n (i := 1) (lv' := [(1, .int v1_3), (0, .int a0), (2, .int v2_2)]) hx hb dX11_bits_17 rfl hl (by decide) rfl (fun ls hl => ?_)
      refine lv_iinc (v := v2_2 + (1 : Int32)) (lv' := [(2, .int (v2_2 + (1 : Int32))), (1, .int v1_3), (0, .int a0)]) hx hb dX11_bits_18 hl (k := 2) rfl rfl (by decide) rfl (fun ls hl => ?_)
      refine lv_goto (tgt := 4) hx hb dX11_bits_21 (by decide) ?_
      exact Kc _ (gm_si hf) _ _ _ (lv_sub hl [2, 1, 0] rfl) hw)
  refine L4_1 _ _ _ hlp ?_ _ _ _ (lv_sub hl [2, 1, 0] rfl) hw
  obtain ⟨w1_4, rfl⟩ : ∃ y, y = o1 := ⟨_, rfl⟩
  intro H locs ls hl hw
  try dsimp only at hf
  refine lv_iload_n hx hb dX11_bits_24 rfl (lv_at hl 0 rfl) ?_
  exact gm_iret C E hw rfl ((congrArg (fun z => some (Value.int z)) (Option.some.inj hf)).symm) rfl dX11_bits_25
/-! LeapCapitalModel.feed -/
def j_X11_feed_93 (a1 : Int64) (a3 : Int64) (a5 : Int64) (v7_5 : Int32) (v10_6 : Int32) (u_4 : gm_M) : Option ((Int32 × gm_M) ⊕ gm_M) := if ib (gI u_4 1 1) 1000 = true then gm_let (sI u_4 2 (ix (gI u_4 1 1)) v10_6) fun u_8 => gm_let (sI u_8 1 1 ((gI u_8 1 1) + (1 : Int32))) fun u_9 => some (.inl (v7_5 + (1 : Int32), u_9)) else none
def j_X11_feed_39 (a1 : Int64) (a3 : Int64) (a5 : Int64) (v7_11 : Int32) (t_12 : Int64) (u_10 : gm_M) : Option ((Int32 × gm_M) ⊕ gm_M) := gm_let ((((t_12.toUInt64 >>> (((56 : Int32) - ((8 : Int32) * (v7_11 &&& (7 : Int32)))).toInt64.toUInt64 &&& Int64.toUInt64 63)).toInt64) &&& (255 : Int64)).toInt32) fun v10_13 => if (1000 : Int32) ≤ (gI u_10 1 1) then some (.inl (v7_11 + (1 : Int32), u_10)) else if v10_13 = (10 : Int32) then j_X11_feed_93 a1 a3 a5 v7_11 v10_13 u_10 else if v10_13 < (32 : Int32) then some (.inl (v7_11 + (1 : Int32), u_10)) else if (126 : Int32) < v10_13 then some (.inl (v7_11 + (1 : Int32), u_10)) else j_X11_feed_93 a1 a3 a5 v7_11 v10_13 u_10
def b_X11_feed_8 (a1 : Int64) (a3 : Int64) (a5 : Int64) : (Int32 × gm_M) → Option ((Int32 × gm_M) ⊕ gm_M) := fun x => match x with | (v7_3, u_2) => if (24 : Int32) ≤ v7_3 then some (.inr u_2) else if (8 : Int32) ≤ v7_3 then if (16 : Int32) ≤ v7_3 then j_X11_feed_39 a1 a3 a5 v7_3 a5 u_2 else j_X11_feed_39 a1 a3 a5 v7_3 a3 u_2 else j_X11_feed_39 a1 a3 a5 v7_3 a1 u_2
def f_X11_feed (a1 : Int64) (a3 : Int64) (a5 : Int64) (u : gm_M) : Option (Int32 × gm_M) := gm_let (sI u 1 0 (0 : Int32)) fun u_1 => ((gm_lp (b_X11_feed_8 a1 a3 a5) gm_FU ((0 : Int32), u_1)).bind fun o => match o with | u_14 => some (gI u_14 1 1, u_14))
set_option maxRecDepth 100000 in
set_option maxHeartbeats 4000000 in
theorem ok_X11_feed (l : Launch) (Z : gm_Z) (a1 : Int64) (a3 : Int64) (a5 : Int64) (u : gm_M)  (r : Int32) (u' : gm_M) (hf : f_X11_feed a1 a3 a5 u = some (r, u')) : gm_Met l GM Z yX11_feed cX11_feed 11 (some .int) ({ frames := 0, cells := 0, slots := 0, locals := 0 }) [rv Z 1, .long a1, .long a3, .long a5] u (some (.int r)) u' := by
  unfold f_X11_feed at hf
  refine gm_ofW (by decide +kernel) (Nat.le_of_ble_eq_true rfl) ?_
  intro p e s m args below meth c A ls Q R hRf hRl C E hl hw
  obtain ⟨hx, hb, -⟩ := id C
  have hl : lv_has ls 11 [(0, rv Z 1), (1, .long a1), (3, .long a3), (5, .long a5)] := hl
  refine gm_aload_n (G := GM) (r := 1) C rfl dX11_feed_0 rfl (lv_at hl 0 rfl) ?_
  refine lv_iconst (v := 0) hx hb dX11_feed_1 (by decide) ?_
  refine gm_putI (G := GM) (u := u) (r := 1) (ci := 10) (k := 0) (v := (0 : Int32)) C hw rfl fl_X11_137 fp_10_0 dX11_feed_2 rfl (fun H locs hw => ?_)
  obtain ⟨u_1, e_u_1, hf⟩ := gm_le hf
  rw [← e_u_1] at hw
  refine lv_iconst (v := 0) hx hb dX11_feed_5 (by decide) ?_
  refine lv_istore (i := 7) (lv' := [(7, .int (0 : Int32)), (0, rv Z 1), (1, .long a1), (3, .long a3), (5, .long a5)]) hx hb dX11_feed_6 hl (by decide) rfl (fun ls hl => ?_)
  obtain ⟨o1, hlp, hf⟩ := gm_bnd hf
  have L8_1 := gm_loop (b_X11_feed_8 a1 a3 a5) (fun x : (Int32 × gm_M) => ∀ (H : Heap) (locs : List Loc) (ls : Array Slot), lv_has ls 11 [(0, rv Z 1), (1, .long a1), (3, .long a3), (5, .long a5), (7, .int x.1)] → wd GM Z x.2 A s.heap H locs → W p l e R s m args below meth c H locs 0 0 Q (F0 m 8 ls [])) (fun z : gm_M => ∀ (H : Heap) (locs : List Loc) (ls : Array Slot), lv_has ls 11 [(0, rv Z 1)] → wd GM Z z A s.heap H locs → W p l e R s m args below meth c H locs 0 0 Q (F0 m 120 ls [])) (by
    intro x o1 hf Kc Kx
    obtain ⟨v7_3, u_2⟩ := x
    intro H locs ls hl hw
    unfold b_X11_feed_8 at hf
    try dsimp only at hf
    have J93 : ∀ (v7_5 : Int32) (v10_6 : Int32) (u_4 : gm_M) (H : Heap) (locs : List Loc) (ls : Array Slot), j_X11_feed_93 a1 a3 a5 v7_5 v10_6 u_4 = some o1 → lv_has ls 11 [(0, rv Z 1), (1, .long a1), (3, .long a3), (5, .long a5), (7, .int v7_5), (10, .int v10_6)] → wd GM Z u_4 A s.heap H locs → W p l e R s m args below meth c H locs 0 0 Q (F0 m 93 ls []) := by
      intro v7_5 v10_6 u_4 H locs ls hf  hl hw
      unfold j_X11_feed_93 at hf
      refine gm_aload_n (G := GM) (r := 1) C rfl dX11_feed_93 rfl (lv_at hl 0 rfl) ?_
      refine gm_getS (G := GM) (u := u_4) (r := 1) (ci := 10) (k := 2) C hw rfl fl_X11_7 dX11_feed_94 rfl (q := 2) rfl ?_
      refine gm_aload_n (G := GM) (r := 1) C rfl dX11_feed_97 rfl (lv_at hl 0 rfl) ?_
      refine gm_getI (G := GM) (u := u_4) (r := 1) (ci := 10) (k := 1) C hw rfl fl_X11_142 dX11_feed_98 rfl ?_
      refine lv_iload hx hb dX11_feed_101 (lv_at hl 5 rfl) ?_
      obtain ⟨g_7, hf⟩ := gm_grd hf
      refine gm_iast (G := GM) (u := u_4) (r := 2) (n := 1000) (i := gI u_4 1 1) (x := v10_6) C hw rfl g_7 rfl dX11_feed_103 (fun H locs hw => ?_)
      obtain ⟨u_8, e_u_8, hf⟩ := gm_le hf
      rw [← e_u_8] at hw
      refine gm_aload_n (G := GM) (r := 1) C rfl dX11_feed_104 rfl (lv_at hl 0 rfl) ?_
      refine lv_dup hx hb dX11_feed_105 (gm_cat _ _) ?_
      refine gm_getI (G := GM) (u := u_8) (r := 1) (ci := 10) (k := 1) C hw rfl fl_X11_142 dX11_feed_106 rfl ?_
      refine lv_iconst (v := 1) hx hb dX11_feed_109 (by decide) ?_
      refine lv_iadd hx hb dX11_feed_110 ?_
      refine gm_putI (G := GM) (u := u_8) (r := 1) (ci := 10) (k := 1) (v := (gI u_8 1 1) + (1 : Int32)) C hw rfl fl_X11_142 fp_10_1 dX11_feed_111 rfl (fun H locs hw => ?_)
      obtain ⟨u_9, e_u_9, hf⟩ := gm_le hf
      rw [← e_u_9] at hw
      refine lv_iinc (v := v7_5 + (1 : Int32)) (lv' := [(7, .int (v7_5 + (1 : Int32))), (0, rv Z 1), (1, .long a1), (3, .long a3), (5, .long a5), (10, .int v10_6)]) hx hb dX11_feed_114 hl (k := 4) rfl rfl (by decide) rfl (fun ls hl => ?_)
      refine lv_goto (tgt := 8) hx hb dX11_feed_117 (by decide) ?_
      exact Kc _ (gm_si hf) _ _ _ (lv_sub hl [1, 2, 3, 4, 0] rfl) hw
    have J39 : ∀ (v7_11 : Int32) (t_12 : Int64) (u_10 : gm_M) (H : Heap) (locs : List Loc) (ls : Array Slot), j_X11_feed_39 a1 a3 a5 v7_11 t_12 u_10 = some o1 → lv_has ls 11 [(0, rv Z 1), (1, .long a1), (3, .long a3), (5, .long a5), (7, .int v7_11)] → wd GM Z u_10 A s.heap H locs → W p l e R s m args below meth c H locs 0 0 Q (F0 m 39 ls [.long t_12]) := by
      intro v7_11 t_12 u_10 H locs ls hf  hl hw
      unfold j_X11_feed_39 at hf
      refine lv_lstore (i := 8) (lv' := [(8, .long t_12), (0, rv Z 1), (1, .long a1), (3, .long a3), (5, .long a5), (7, .int v7_11)]) hx hb dX11_feed_39 hl (by decide) rfl (fun ls hl => ?_)
      refine lv_lload hx hb dX11_feed_41 (lv_at hl 0 rfl) ?_
      refine lv_bipush (v := 56) hx hb dX11_feed_43 (by decide) ?_
      refine lv_bipush (v := 8) hx hb dX11_feed_45 (by decide) ?_
      refine lv_iload hx hb dX11_feed_47 (lv_at hl 5 rfl) ?_
      refine lv_bipush (v := 7) hx hb dX11_feed_49 (by decide) ?_
      refine lv_iand hx hb dX11_feed_51 ?_
      refine lv_imul hx hb dX11_feed_52 ?_
      refine lv_isub hx hb dX11_feed_53 ?_
      refine lv_lushr hx hb dX11_feed_54 rfl ?_
      refine lv_ldc2 hx hb C.2.2.2.1 (C.2.2.2.2.1 _ kn_X11_140) dX11_feed_55 ?_
      refine lv_land hx hb dX11_feed_58 ?_
      refine lv_l2i hx hb dX11_feed_59 rfl ?_
      obtain ⟨v10_13, e_v10_13, hf⟩ := gm_le hf
      refine gm_topI e_v10_13 ?_
      refine lv_istore (i := 10) (lv' := [(10, .int v10_13), (8, .long t_12), (0, rv Z 1), (1, .long a1), (3, .long a3), (5, .long a5), (7, .int v7_11)]) hx hb dX11_feed_60 hl (by decide) rfl (fun ls hl => ?_)
      refine gm_aload_n (G := GM) (r := 1) C rfl dX11_feed_62 rfl (lv_at hl 2 rfl) ?_
      refine gm_getI (G := GM) (u := u_10) (r := 1) (ci := 10) (k := 1) C hw rfl fl_X11_142 dX11_feed_63 rfl ?_
      refine lv_sipush (v := 1000) hx hb dX11_feed_66 (by decide) ?_
      refine lv_icmp_ge (tgt := 114) hx hb dX11_feed_69 (by decide) (fun hc => ?_) (fun hc => ?_)
      · replace hf := (if_pos hc).symm.trans hf
        refine lv_iinc (v := v7_11 + (1 : Int32)) (lv' := [(7, .int (v7_11 + (1 : Int32))), (10, .int v10_13), (8, .long t_12), (0, rv Z 1), (1, .long a1), (3, .long a3), (5, .long a5)]) hx hb dX11_feed_114 hl (k := 6) rfl rfl (by decide) rfl (fun ls hl => ?_)
        refine lv_goto (tgt := 8) hx hb dX11_feed_117 (by decide) ?_
        exact Kc _ (gm_si hf) _ _ _ (lv_sub hl [3, 4, 5, 6, 0] rfl) hw
      · replace hf := (if_neg hc).symm.trans hf
        refine lv_iload hx hb dX11_feed_72 (lv_at hl 0 rfl) ?_
        refine lv_bipush (v := 10) hx hb dX11_feed_74 (by decide) ?_
        refine lv_icmp_eq (tgt := 93) hx hb dX11_feed_76 (by decide) (fun hc => ?_) (fun hc => ?_)
        · replace hf := (if_pos hc).symm.trans hf
          exact J93 v7_11 v10_13 u_10 _ _ _ hf  (lv_sub hl [2, 3, 4, 5, 6, 0] rfl) hw
        · replace hf := (if_neg hc).symm.trans hf
          refine lv_iload hx hb dX11_feed_79 (lv_at hl 0 rfl) ?_
          refine lv_bipush (v := 32) hx hb dX11_feed_81 (by decide) ?_
          refine lv_icmp_lt (tgt := 114) hx hb dX11_feed_83 (by decide) (fun hc => ?_) (fun hc => ?_)
          · replace hf := (if_pos hc).symm.trans hf
            refine lv_iinc (v := v7_11 + (1 : Int32)) (lv' := [(7, .int (v7_11 + (1 : Int32))), (10, .int v10_13), (8, .long t_12), (0, rv Z 1), (1, .long a1), (3, .long a3), (5, .long a5)]) hx hb dX11_feed_114 hl (k := 6) rfl rfl (by decide) rfl (fun ls hl => ?_)
            refine lv_goto (tgt := 8) hx hb dX11_feed_117 (by decide) ?_
            exact Kc _ (gm_si hf) _ _ _ (lv_sub hl [3, 4, 5, 6, 0] rfl) hw
          · replace hf := (if_neg hc).symm.trans hf
            refine lv_iload hx hb dX11_feed_86 (lv_at hl 0 rfl) ?_
            refine lv_bipush (v := 126) hx hb dX11_feed_88 (by decide) ?_
            refine lv_icmp_gt (tgt := 114) hx hb dX11_feed_90 (by decide) (fun hc => ?_) (fun hc => ?_)
            · replace hf := (if_pos hc).symm.trans hf
              refine lv_iinc (v := v7_11 + (1 : Int32)) (lv' := [(7, .int (v7_11 + (1 : Int32))), (10, .int v10_13), (8, .long t_12), (0, rv Z 1), (1, .long a1), (3, .long a3), (5, .long a5)]) hx hb dX11_feed_114 hl (k := 6) rfl rfl (by decide) rfl (fun ls hl => ?_)
              refine lv_goto (tgt := 8) hx hb dX11_feed_117 (by decide) ?_
              exact Kc _ (gm_si hf) _ _ _ (lv_sub hl [3, 4, 5, 6, 0] rfl) hw
            · replace hf := (if_neg hc).symm.trans hf
              exact J93 v7_11 v10_13 u_10 _ _ _ hf  (lv_sub hl [2, 3, 4, 5, 6, 0] rfl) hw
    refine lv_iload hx hb dX11_feed_8 (lv_at hl 4 rfl) ?_
    refine lv_bipush (v := 24) hx hb dX11_feed_10 (by decide) ?_
    refine lv_icmp_ge (tgt := 120) hx hb dX11_feed_12 (by decide) (fun hc => ?_) (fun hc => ?_)
    · replace hf := (if_pos hc).symm.trans hf
      exact Kx _ (gm_si hf) _ _ _ (lv_sub hl [0] rfl) hw
    · replace hf := (if_neg hc).symm.trans hf
      refine lv_iload hx hb dX11_feed_15 (lv_at hl 4 rfl) ?_
      refine lv_bipush (v := 8) hx hb dX11_feed_17 (by decide) ?_
      refine lv_icmp_ge (tgt := 26) hx hb dX11_feed_19 (by decide) (fun hc => ?_) (fun hc => ?_)
      · replace hf := (if_pos hc).symm.trans hf
        refine lv_iload hx hb dX11_feed_26 (lv_at hl 4 rfl) ?_
        refine lv_bipush (v := 16) hx hb dX11_feed_28 (by decide) ?_
        refine lv_icmp_ge (tgt := 37) hx hb dX11_feed_30 (by decide) (fun hc => ?_) (fun hc => ?_)
        · replace hf := (if_pos hc).symm.trans hf
          refine lv_lload hx hb dX11_feed_37 (lv_at hl 3 rfl) ?_
          exact J39 v7_3 a5 u_2 _ _ _ hf  (lv_sub hl [0, 1, 2, 3, 4] rfl) hw
        · replace hf := (if_neg hc).symm.trans hf
          refine lv_lload_n hx hb dX11_feed_33 rfl (lv_at hl 2 rfl) ?_
          refine lv_goto (tgt := 39) hx hb dX11_feed_34 (by decide) ?_
          exact J39 v7_3 a3 u_2 _ _ _ hf  (lv_sub hl [0, 1, 2, 3, 4] rfl) hw
      · replace hf := (if_neg hc).symm.trans hf
        refine lv_lload_n hx hb dX11_feed_22 rfl (lv_at hl 1 rfl) ?_
        refine lv_goto (tgt := 39) hx hb dX11_feed_23 (by decide) ?_
        exact J39 v7_3 a1 u_2 _ _ _ hf  (lv_sub hl [0, 1, 2, 3, 4] rfl) hw)
  refine L8_1 _ _ _ hlp ?_ _ _ _ (lv_sub hl [1, 2, 3, 4, 0] rfl) hw
  obtain ⟨u_14, rfl⟩ : ∃ y, y = o1 := ⟨_, rfl⟩
  intro H locs ls hl hw
  try dsimp only at hf
  refine gm_aload_n (G := GM) (r := 1) C rfl dX11_feed_120 rfl (lv_at hl 0 rfl) ?_
  refine gm_getI (G := GM) (u := u_14) (r := 1) (ci := 10) (k := 1) C hw rfl fl_X11_142 dX11_feed_121 rfl ?_
  exact gm_iret C E hw rfl ((congrArg (fun z => some (Value.int z)) (gm_sp hf).1).symm) (gm_sp hf).2.symm dX11_feed_124
/-! LeapCapitalModel.signAt -/
def f_X11_signAt (a1 : Int32) (u : gm_M) : Option Int32 := if (gI u 1 3) ≤ a1 then some (0 : Int32) else if ib a1 1000 = true then some (gI u 2 (ix a1)) else none
set_option maxRecDepth 100000 in
set_option maxHeartbeats 4000000 in
theorem ok_X11_signAt (l : Launch) (Z : gm_Z) (a1 : Int32) (u : gm_M)  (r : Int32) (hf : f_X11_signAt a1 u = some r) : gm_Met l GM Z yX11_signAt cX11_signAt 2 (some .int) ({ frames := 0, cells := 0, slots := 0, locals := 0 }) [rv Z 1, .int a1] u (some (.int r)) u := by
  unfold f_X11_signAt at hf
  refine gm_ofW (by decide +kernel) (Nat.le_of_ble_eq_true rfl) ?_
  intro p e s m args below meth c A ls Q R hRf hRl C E hl hw
  obtain ⟨hx, hb, -⟩ := id C
  have hl : lv_has ls 2 [(0, rv Z 1), (1, .int a1)] := hl
  refine lv_iload_n hx hb dX11_signAt_0 rfl (lv_at hl 1 rfl) ?_
  refine gm_aload_n (G := GM) (r := 1) C rfl dX11_signAt_1 rfl (lv_at hl 0 rfl) ?_
  refine gm_getI (G := GM) (u := u) (r := 1) (ci := 10) (k := 3) C hw rfl fl_X11_145 dX11_signAt_2 rfl ?_
  refine lv_icmp_ge (tgt := 17) hx hb dX11_signAt_5 (by decide) (fun hc => ?_) (fun hc => ?_)
  · replace hf := (if_pos hc).symm.trans hf
    refine lv_iconst (v := 0) hx hb dX11_signAt_17 (by decide) ?_
    exact gm_iret C E hw rfl ((congrArg (fun z => some (Value.int z)) (Option.some.inj hf)).symm) rfl dX11_signAt_18
  · replace hf := (if_neg hc).symm.trans hf
    refine gm_aload_n (G := GM) (r := 1) C rfl dX11_signAt_8 rfl (lv_at hl 0 rfl) ?_
    refine gm_getS (G := GM) (u := u) (r := 1) (ci := 10) (k := 2) C hw rfl fl_X11_7 dX11_signAt_9 rfl (q := 2) rfl ?_
    refine lv_iload_n hx hb dX11_signAt_12 rfl (lv_at hl 1 rfl) ?_
    obtain ⟨g_1, hf⟩ := gm_grd hf
    refine gm_iald (G := GM) (u := u) (r := 2) (n := 1000) (i := a1) C hw rfl g_1 rfl dX11_signAt_13 ?_
    refine lv_goto (tgt := 18) hx hb dX11_signAt_14 (by decide) ?_
    exact gm_iret C E hw rfl ((congrArg (fun z => some (Value.int z)) (Option.some.inj hf)).symm) rfl dX11_signAt_18
/-! LeapCapitalModel.nextToken -/
def j_X11_nextToken_368 (t_2 : Int32) (u_1 : gm_M) : Option gm_M := gm_let (sI u_1 1 6 t_2) fun u_3 => some u_3
def j_X11_nextToken_367 (u_4 : gm_M) : Option gm_M := j_X11_nextToken_368 (4 : Int32) u_4
def j_X11_nextToken_363 (u_5 : gm_M) : Option gm_M := j_X11_nextToken_368 (3 : Int32) u_5
def j_X11_nextToken_345 (v1_7 : Int32) (u_6 : gm_M) : Option gm_M := if v1_7 = (45 : Int32) then j_X11_nextToken_363 u_6 else if v1_7 < (59 : Int32) then j_X11_nextToken_367 u_6 else if (61 : Int32) < v1_7 then j_X11_nextToken_367 u_6 else j_X11_nextToken_363 u_6
def j_X11_nextToken_322 (v1_9 : Int32) (u_8 : gm_M) : Option gm_M := gm_let (sI u_8 1 4 ((gI u_8 1 4) + (1 : Int32))) fun u_10 => if v1_9 < (40 : Int32) then j_X11_nextToken_345 v1_9 u_10 else if v1_9 ≤ (43 : Int32) then j_X11_nextToken_363 u_10 else j_X11_nextToken_345 v1_9 u_10
def j_X11_nextToken_318 (t_12 : Int32) (u_11 : gm_M) : Option gm_M := gm_let (sI u_11 1 6 t_12) fun u_13 => some u_13
def j_X11_nextToken_299 (u_14 : gm_M) : Option gm_M := if ((gI u_14 1 4) - (gI u_14 1 5)) ≤ (4 : Int32) then j_X11_nextToken_318 (2 : Int32) u_14 else j_X11_nextToken_318 (4 : Int32) u_14
def j_X11_nextToken_286 (u_18 : gm_M) : Option (gm_M ⊕ gm_M) := gm_let (sI u_18 1 4 ((gI u_18 1 4) + (1 : Int32))) fun u_19 => some (.inl u_19)
def b_X11_nextToken_224 : gm_M → Option (gm_M ⊕ gm_M) := fun x => match x with | u_17 => (f_X11_signAt (gI u_17 1 4) u_17).bind fun r_20 => if r_20 < (48 : Int32) then some (.inr u_17) else (f_X11_signAt (gI u_17 1 4) u_17).bind fun r_22 => if (57 : Int32) < r_22 then some (.inr u_17) else if (4 : Int32) ≤ ((gI u_17 1 4) - (gI u_17 1 5)) then j_X11_nextToken_286 u_17 else (f_X11_signAt (gI u_17 1 4) u_17).bind fun r_24 => gm_let (sI u_17 1 8 ((((gI u_17 1 8) * (10 : Int32)) + r_24) - (48 : Int32))) fun u_26 => j_X11_nextToken_286 u_26
def j_X11_nextToken_212 (v1_16 : Int32) (u_15 : gm_M) : Option gm_M := if v1_16 < (48 : Int32) then j_X11_nextToken_322 v1_16 u_15 else if (57 : Int32) < v1_16 then j_X11_nextToken_322 v1_16 u_15 else ((gm_lp (b_X11_nextToken_224) gm_FU u_15).bind fun o => match o with | u_27 => j_X11_nextToken_299 u_27)
def j_X11_nextToken_208 (t_29 : Int32) (u_28 : gm_M) : Option gm_M := gm_let (sI u_28 1 6 t_29) fun u_30 => some u_30
def j_X11_nextToken_188 (u_31 : gm_M) : Option gm_M := if ((gI u_31 1 4) - (gI u_31 1 5)) ≤ (8 : Int32) then j_X11_nextToken_208 (1 : Int32) u_31 else j_X11_nextToken_208 (4 : Int32) u_31
def j_X11_nextToken_175 (u_39 : gm_M) : Option (gm_M ⊕ gm_M) := gm_let (sI u_39 1 4 ((gI u_39 1 4) + (1 : Int32))) fun u_40 => some (.inl u_40)
def b_X11_nextToken_109 : gm_M → Option (gm_M ⊕ gm_M) := fun x => match x with | u_38 => (f_X11_signAt (gI u_38 1 4) u_38).bind fun r_41 => if r_41 < (97 : Int32) then some (.inr u_38) else (f_X11_signAt (gI u_38 1 4) u_38).bind fun r_43 => if (122 : Int32) < r_43 then some (.inr u_38) else if (8 : Int32) ≤ ((gI u_38 1 4) - (gI u_38 1 5)) then j_X11_nextToken_175 u_38 else (f_X11_signAt (gI u_38 1 4) u_38).bind fun r_45 => gm_let (sJ u_38 1 7 ((((gJ u_38 1 7) * (27 : Int64)) + r_45.toInt64) - (96 : Int64))) fun u_47 => j_X11_nextToken_175 u_47
def j_X11_nextToken_52 (u_32 : gm_M) : Option gm_M := gm_let (sI u_32 1 5 (gI u_32 1 4)) fun u_33 => gm_let (sJ u_33 1 7 (0 : Int64)) fun u_34 => gm_let (sI u_34 1 8 (0 : Int32)) fun u_35 => if (gI u_35 1 4) = (gI u_35 1 3) then gm_let (sI u_35 1 6 (0 : Int32)) fun u_49 => some u_49 else if ib (gI u_35 1 4) 1000 = true then gm_let (gI u_35 2 (ix (gI u_35 1 4))) fun v1_37 => if v1_37 < (97 : Int32) then j_X11_nextToken_212 v1_37 u_35 else if (122 : Int32) < v1_37 then j_X11_nextToken_212 v1_37 u_35 else ((gm_lp (b_X11_nextToken_109) gm_FU u_35).bind fun o => match o with | u_48 => j_X11_nextToken_188 u_48) else none
def j_X11_nextToken_39 (u_51 : gm_M) : Option (gm_M ⊕ gm_M) := gm_let (sI u_51 1 4 ((gI u_51 1 4) + (1 : Int32))) fun u_52 => some (.inl u_52)
def b_X11_nextToken_0 : gm_M → Option (gm_M ⊕ gm_M) := fun x => match x with | u_50 => if (gI u_50 1 3) ≤ (gI u_50 1 4) then some (.inr u_50) else if ib (gI u_50 1 4) 1000 = true then if (gI u_50 2 (ix (gI u_50 1 4))) = (32 : Int32) then j_X11_nextToken_39 u_50 else if (gI u_50 2 (ix (gI u_50 1 4))) = (10 : Int32) then j_X11_nextToken_39 u_50 else some (.inr u_50) else none
def f_X11_nextToken  (u : gm_M) : Option gm_M := ((gm_lp (b_X11_nextToken_0) gm_FU u).bind fun o => match o with | u_54 => j_X11_nextToken_52 u_54)
set_option maxRecDepth 100000 in
set_option maxHeartbeats 4000000 in
theorem ok_X11_nextToken (l : Launch) (Z : gm_Z)  (u : gm_M)  (u' : gm_M) (hf : f_X11_nextToken u = some (u')) : gm_Met l GM Z yX11_nextToken cX11_nextToken 2 none ({ frames := 1, cells := 0, slots := 0, locals := 21 }) [rv Z 1] u none u' := by
  unfold f_X11_nextToken at hf
  refine gm_ofW (by decide +kernel) (Nat.le_of_ble_eq_true rfl) ?_
  intro p e s m args below meth c A ls Q R hRf hRl C E hl hw
  obtain ⟨hx, hb, -⟩ := id C
  have hl : lv_has ls 2 [(0, rv Z 1)] := hl
  have J368 : ∀ (t_2 : Int32) (u_1 : gm_M) (H : Heap) (locs : List Loc) (ls : Array Slot), j_X11_nextToken_368 t_2 u_1 = some (u') → lv_has ls 2 [] → wd GM Z u_1 A s.heap H locs → W p l e R s m args below meth c H locs 0 0 Q (F0 m 368 ls [.int t_2, rv Z 1]) := by
    intro t_2 u_1 H locs ls hf  hl hw
    unfold j_X11_nextToken_368 at hf
    refine gm_putI (G := GM) (u := u_1) (r := 1) (ci := 10) (k := 6) (v := t_2) C hw rfl fl_X11_161 fp_10_6 dX11_nextToken_368 rfl (fun H locs hw => ?_)
    obtain ⟨u_3, e_u_3, hf⟩ := gm_le hf
    rw [← e_u_3] at hw
    exact gm_vret C E hw rfl rfl (Option.some.inj hf).symm dX11_nextToken_371
  have J367 : ∀  (u_4 : gm_M) (H : Heap) (locs : List Loc) (ls : Array Slot), j_X11_nextToken_367 u_4 = some (u') → lv_has ls 2 [] → wd GM Z u_4 A s.heap H locs → W p l e R s m args below meth c H locs 0 0 Q (F0 m 367 ls [rv Z 1]) := by
    intro  u_4 H locs ls hf  hl hw
    unfold j_X11_nextToken_367 at hf
    refine lv_iconst (v := 4) hx hb dX11_nextToken_367 (by decide) ?_
    exact J368 (4 : Int32) u_4 _ _ _ hf  (lv_sub hl [] rfl) hw
  have J363 : ∀  (u_5 : gm_M) (H : Heap) (locs : List Loc) (ls : Array Slot), j_X11_nextToken_363 u_5 = some (u') → lv_has ls 2 [] → wd GM Z u_5 A s.heap H locs → W p l e R s m args below meth c H locs 0 0 Q (F0 m 363 ls [rv Z 1]) := by
    intro  u_5 H locs ls hf  hl hw
    unfold j_X11_nextToken_363 at hf
    refine lv_iconst (v := 3) hx hb dX11_nextToken_363 (by decide) ?_
    refine lv_goto (tgt := 368) hx hb dX11_nextToken_364 (by decide) ?_
    exact J368 (3 : Int32) u_5 _ _ _ hf  (lv_sub hl [] rfl) hw
  have J345 : ∀ (v1_7 : Int32) (u_6 : gm_M) (H : Heap) (locs : List Loc) (ls : Array Slot), j_X11_nextToken_345 v1_7 u_6 = some (u') → lv_has ls 2 [(1, .int v1_7)] → wd GM Z u_6 A s.heap H locs → W p l e R s m args below meth c H locs 0 0 Q (F0 m 345 ls [rv Z 1]) := by
    intro v1_7 u_6 H locs ls hf  hl hw
    unfold j_X11_nextToken_345 at hf
    refine lv_iload_n hx hb dX11_nextToken_345 rfl (lv_at hl 0 rfl) ?_
    refine lv_bipush (v := 45) hx hb dX11_nextToken_346 (by decide) ?_
    refine lv_icmp_eq (tgt := 363) hx hb dX11_nextToken_348 (by decide) (fun hc => ?_) (fun hc => ?_)
    · replace hf := (if_pos hc).symm.trans hf
      exact J363 u_6 _ _ _ hf  (lv_sub hl [] rfl) hw
    · replace hf := (if_neg hc).symm.trans hf
      refine lv_iload_n hx hb dX11_nextToken_351 rfl (lv_at hl 0 rfl) ?_
      refine lv_bipush (v := 59) hx hb dX11_nextToken_352 (by decide) ?_
      refine lv_icmp_lt (tgt := 367) hx hb dX11_nextToken_354 (by decide) (fun hc => ?_) (fun hc => ?_)
      · replace hf := (if_pos hc).symm.trans hf
        exact J367 u_6 _ _ _ hf  (lv_sub hl [] rfl) hw
      · replace hf := (if_neg hc).symm.trans hf
        refine lv_iload_n hx hb dX11_nextToken_357 rfl (lv_at hl 0 rfl) ?_
        refine lv_bipush (v := 61) hx hb dX11_nextToken_358 (by decide) ?_
        refine lv_icmp_gt (tgt := 367) hx hb dX11_nextToken_360 (by decide) (fun hc => ?_) (fun hc => ?_)
        · replace hf := (if_pos hc).symm.trans hf
          exact J367 u_6 _ _ _ hf  (lv_sub hl [] rfl) hw
        · replace hf := (if_neg hc).symm.trans hf
          exact J363 u_6 _ _ _ hf  (lv_sub hl [] rfl) hw
  have J322 : ∀ (v1_9 : Int32) (u_8 : gm_M) (H : Heap) (locs : List Loc) (ls : Array Slot), j_X11_nextToken_322 v1_9 u_8 = some (u') → lv_has ls 2 [(0, rv Z 1), (1, .int v1_9)] → wd GM Z u_8 A s.heap H locs → W p l e R s m args below meth c H locs 0 0 Q (F0 m 322 ls []) := by
    intro v1_9 u_8 H locs ls hf  hl hw
    unfold j_X11_nextToken_322 at hf
    refine gm_aload_n (G := GM) (r := 1) C rfl dX11_nextToken_322 rfl (lv_at hl 0 rfl) ?_
    refine lv_dup hx hb dX11_nextToken_323 (gm_cat _ _) ?_
    refine gm_getI (G := GM) (u := u_8) (r := 1) (ci := 10) (k := 4) C hw rfl fl_X11_148 dX11_nextToken_324 rfl ?_
    refine lv_iconst (v := 1) hx hb dX11_nextToken_327 (by decide) ?_
    refine lv_iadd hx hb dX11_nextToken_328 ?_
    refine gm_putI (G := GM) (u := u_8) (r := 1) (ci := 10) (k := 4) (v := (gI u_8 1 4) + (1 : Int32)) C hw rfl fl_X11_148 fp_10_4 dX11_nextToken_329 rfl (fun H locs hw => ?_)
    obtain ⟨u_10, e_u_10, hf⟩ := gm_le hf
    rw [← e_u_10] at hw
    refine gm_aload_n (G := GM) (r := 1) C rfl dX11_nextToken_332 rfl (lv_at hl 0 rfl) ?_
    refine lv_iload_n hx hb dX11_nextToken_333 rfl (lv_at hl 1 rfl) ?_
    refine lv_bipush (v := 40) hx hb dX11_nextToken_334 (by decide) ?_
    refine lv_icmp_lt (tgt := 345) hx hb dX11_nextToken_336 (by decide) (fun hc => ?_) (fun hc => ?_)
    · replace hf := (if_pos hc).symm.trans hf
      exact J345 v1_9 u_10 _ _ _ hf  (lv_sub hl [1] rfl) hw
    · replace hf := (if_neg hc).symm.trans hf
      refine lv_iload_n hx hb dX11_nextToken_339 rfl (lv_at hl 1 rfl) ?_
      refine lv_bipush (v := 43) hx hb dX11_nextToken_340 (by decide) ?_
      refine lv_icmp_le (tgt := 363) hx hb dX11_nextToken_342 (by decide) (fun hc => ?_) (fun hc => ?_)
      · replace hf := (if_pos hc).symm.trans hf
        exact J363 u_10 _ _ _ hf  (lv_sub hl [] rfl) hw
      · replace hf := (if_neg hc).symm.trans hf
        exact J345 v1_9 u_10 _ _ _ hf  (lv_sub hl [1] rfl) hw
  have J318 : ∀ (t_12 : Int32) (u_11 : gm_M) (H : Heap) (locs : List Loc) (ls : Array Slot), j_X11_nextToken_318 t_12 u_11 = some (u') → lv_has ls 2 [] → wd GM Z u_11 A s.heap H locs → W p l e R s m args below meth c H locs 0 0 Q (F0 m 318 ls [.int t_12, rv Z 1]) := by
    intro t_12 u_11 H locs ls hf  hl hw
    unfold j_X11_nextToken_318 at hf
    refine gm_putI (G := GM) (u := u_11) (r := 1) (ci := 10) (k := 6) (v := t_12) C hw rfl fl_X11_161 fp_10_6 dX11_nextToken_318 rfl (fun H locs hw => ?_)
    obtain ⟨u_13, e_u_13, hf⟩ := gm_le hf
    rw [← e_u_13] at hw
    exact gm_vret C E hw rfl rfl (Option.some.inj hf).symm dX11_nextToken_321
  have J299 : ∀  (u_14 : gm_M) (H : Heap) (locs : List Loc) (ls : Array Slot), j_X11_nextToken_299 u_14 = some (u') → lv_has ls 2 [(0, rv Z 1)] → wd GM Z u_14 A s.heap H locs → W p l e R s m args below meth c H locs 0 0 Q (F0 m 299 ls []) := by
    intro  u_14 H locs ls hf  hl hw
    unfold j_X11_nextToken_299 at hf
    refine gm_aload_n (G := GM) (r := 1) C rfl dX11_nextToken_299 rfl (lv_at hl 0 rfl) ?_
    refine gm_aload_n (G := GM) (r := 1) C rfl dX11_nextToken_300 rfl (lv_at hl 0 rfl) ?_
    refine gm_getI (G := GM) (u := u_14) (r := 1) (ci := 10) (k := 4) C hw rfl fl_X11_148 dX11_nextToken_301 rfl ?_
    refine gm_aload_n (G := GM) (r := 1) C rfl dX11_nextToken_304 rfl (lv_at hl 0 rfl) ?_
    refine gm_getI (G := GM) (u := u_14) (r := 1) (ci := 10) (k := 5) C hw rfl fl_X11_151 dX11_nextToken_305 rfl ?_
    refine lv_isub hx hb dX11_nextToken_308 ?_
    refine lv_iconst (v := 4) hx hb dX11_nextToken_309 (by decide) ?_
    refine lv_icmp_le (tgt := 317) hx hb dX11_nextToken_310 (by decide) (fun hc => ?_) (fun hc => ?_)
    · replace hf := (if_pos hc).symm.trans hf
      refine lv_iconst (v := 2) hx hb dX11_nextToken_317 (by decide) ?_
      exact J318 (2 : Int32) u_14 _ _ _ hf  (lv_sub hl [] rfl) hw
    · replace hf := (if_neg hc).symm.trans hf
      refine lv_iconst (v := 4) hx hb dX11_nextToken_313 (by decide) ?_
      refine lv_goto (tgt := 318) hx hb dX11_nextToken_314 (by decide) ?_
      exact J318 (4 : Int32) u_14 _ _ _ hf  (lv_sub hl [] rfl) hw
  have J212 : ∀ (v1_16 : Int32) (u_15 : gm_M) (H : Heap) (locs : List Loc) (ls : Array Slot), j_X11_nextToken_212 v1_16 u_15 = some (u') → lv_has ls 2 [(0, rv Z 1), (1, .int v1_16)] → wd GM Z u_15 A s.heap H locs → W p l e R s m args below meth c H locs 0 0 Q (F0 m 212 ls []) := by
    intro v1_16 u_15 H locs ls hf  hl hw
    unfold j_X11_nextToken_212 at hf
    refine lv_iload_n hx hb dX11_nextToken_212 rfl (lv_at hl 1 rfl) ?_
    refine lv_bipush (v := 48) hx hb dX11_nextToken_213 (by decide) ?_
    refine lv_icmp_lt (tgt := 322) hx hb dX11_nextToken_215 (by decide) (fun hc => ?_) (fun hc => ?_)
    · replace hf := (if_pos hc).symm.trans hf
      exact J322 v1_16 u_15 _ _ _ hf  (lv_sub hl [0, 1] rfl) hw
    · replace hf := (if_neg hc).symm.trans hf
      refine lv_iload_n hx hb dX11_nextToken_218 rfl (lv_at hl 1 rfl) ?_
      refine lv_bipush (v := 57) hx hb dX11_nextToken_219 (by decide) ?_
      refine lv_icmp_gt (tgt := 322) hx hb dX11_nextToken_221 (by decide) (fun hc => ?_) (fun hc => ?_)
      · replace hf := (if_pos hc).symm.trans hf
        exact J322 v1_16 u_15 _ _ _ hf  (lv_sub hl [0, 1] rfl) hw
      · replace hf := (if_neg hc).symm.trans hf
        obtain ⟨o1, hlp, hf⟩ := gm_bnd hf
        have L224_1 := gm_loop (b_X11_nextToken_224) (fun x : gm_M => ∀ (H : Heap) (locs : List Loc) (ls : Array Slot), lv_has ls 2 [(0, rv Z 1)] → wd GM Z x A s.heap H locs → W p l e R s m args below meth c H locs 0 0 Q (F0 m 224 ls [])) (fun z : gm_M => ∀ (H : Heap) (locs : List Loc) (ls : Array Slot), lv_has ls 2 [(0, rv Z 1)] → wd GM Z z A s.heap H locs → W p l e R s m args below meth c H locs 0 0 Q (F0 m 299 ls [])) (by
          intro x o1 hf Kc Kx
          obtain ⟨u_17, rfl⟩ : ∃ y, y = x := ⟨_, rfl⟩
          intro H locs ls hl hw
          unfold b_X11_nextToken_224 at hf
          try dsimp only at hf
          have J286 : ∀  (u_18 : gm_M) (H : Heap) (locs : List Loc) (ls : Array Slot), j_X11_nextToken_286 u_18 = some o1 → lv_has ls 2 [(0, rv Z 1)] → wd GM Z u_18 A s.heap H locs → W p l e R s m args below meth c H locs 0 0 Q (F0 m 286 ls []) := by
            intro  u_18 H locs ls hf  hl hw
            unfold j_X11_nextToken_286 at hf
            refine gm_aload_n (G := GM) (r := 1) C rfl dX11_nextToken_286 rfl (lv_at hl 0 rfl) ?_
            refine lv_dup hx hb dX11_nextToken_287 (gm_cat _ _) ?_
            refine gm_getI (G := GM) (u := u_18) (r := 1) (ci := 10) (k := 4) C hw rfl fl_X11_148 dX11_nextToken_288 rfl ?_
            refine lv_iconst (v := 1) hx hb dX11_nextToken_291 (by decide) ?_
            refine lv_iadd hx hb dX11_nextToken_292 ?_
            refine gm_putI (G := GM) (u := u_18) (r := 1) (ci := 10) (k := 4) (v := (gI u_18 1 4) + (1 : Int32)) C hw rfl fl_X11_148 fp_10_4 dX11_nextToken_293 rfl (fun H locs hw => ?_)
            obtain ⟨u_19, e_u_19, hf⟩ := gm_le hf
            rw [← e_u_19] at hw
            refine lv_goto (tgt := 224) hx hb dX11_nextToken_296 (by decide) ?_
            exact Kc _ (gm_si hf) _ _ _ (lv_sub hl [0] rfl) hw
          refine gm_aload_n (G := GM) (r := 1) C rfl dX11_nextToken_224 rfl (lv_at hl 0 rfl) ?_
          refine gm_aload_n (G := GM) (r := 1) C rfl dX11_nextToken_225 rfl (lv_at hl 0 rfl) ?_
          refine gm_getI (G := GM) (u := u_17) (r := 1) (ci := 10) (k := 4) C hw rfl fl_X11_148 dX11_nextToken_226 rfl ?_
          obtain ⟨r_20, hc_21, hf⟩ := gm_bnd hf
          refine gm_callV (G := GM) (u := u_17) (u' := u_17) (r := 1) (ci := 10) (As := [.int (gI u_17 1 4)]) (rest := []) (res := (some (.int r_20))) C hw hl (ok_X11_signAt l Z (gI u_17 1 4) u_17 r_20 hc_21) cw_X11_164 im_X11_signAt rfl se_X11_signAt rfl rfl rfl ⟨Nat.le_trans (Nat.le_of_ble_eq_true rfl) hRf, Nat.le_trans (Nat.le_of_ble_eq_true rfl) hRl⟩ rfl rfl (Nat.le_of_ble_eq_true rfl) dX11_nextToken_229 (fun H locs hw => ?_)
          refine lv_bipush (v := 48) hx hb dX11_nextToken_232 (by decide) ?_
          refine lv_icmp_lt (tgt := 299) hx hb dX11_nextToken_234 (by decide) (fun hc => ?_) (fun hc => ?_)
          · replace hf := (if_pos hc).symm.trans hf
            exact Kx _ (gm_si hf) _ _ _ (lv_sub hl [0] rfl) hw
          · replace hf := (if_neg hc).symm.trans hf
            refine gm_aload_n (G := GM) (r := 1) C rfl dX11_nextToken_237 rfl (lv_at hl 0 rfl) ?_
            refine gm_aload_n (G := GM) (r := 1) C rfl dX11_nextToken_238 rfl (lv_at hl 0 rfl) ?_
            refine gm_getI (G := GM) (u := u_17) (r := 1) (ci := 10) (k := 4) C hw rfl fl_X11_148 dX11_nextToken_239 rfl ?_
            obtain ⟨r_22, hc_23, hf⟩ := gm_bnd hf
            refine gm_callV (G := GM) (u := u_17) (u' := u_17) (r := 1) (ci := 10) (As := [.int (gI u_17 1 4)]) (rest := []) (res := (some (.int r_22))) C hw hl (ok_X11_signAt l Z (gI u_17 1 4) u_17 r_22 hc_23) cw_X11_164 im_X11_signAt rfl se_X11_signAt rfl rfl rfl ⟨Nat.le_trans (Nat.le_of_ble_eq_true rfl) hRf, Nat.le_trans (Nat.le_of_ble_eq_true rfl) hRl⟩ rfl rfl (Nat.le_of_ble_eq_true rfl) dX11_nextToken_242 (fun H locs hw => ?_)
            refine lv_bipush (v := 57) hx hb dX11_nextToken_245 (by decide) ?_
            refine lv_icmp_gt (tgt := 299) hx hb dX11_nextToken_247 (by decide) (fun hc => ?_) (fun hc => ?_)
            · replace hf := (if_pos hc).symm.trans hf
              exact Kx _ (gm_si hf) _ _ _ (lv_sub hl [0] rfl) hw
            · replace hf := (if_neg hc).symm.trans hf
              refine gm_aload_n (G := GM) (r := 1) C rfl dX11_nextToken_250 rfl (lv_at hl 0 rfl) ?_
              refine gm_getI (G := GM) (u := u_17) (r := 1) (ci := 10) (k := 4) C hw rfl fl_X11_148 dX11_nextToken_251 rfl ?_
              refine gm_aload_n (G := GM) (r := 1) C rfl dX11_nextToken_254 rfl (lv_at hl 0 rfl) ?_
              refine gm_getI (G := GM) (u := u_17) (r := 1) (ci := 10) (k := 5) C hw rfl fl_X11_151 dX11_nextToken_255 rfl ?_
              refine lv_isub hx hb dX11_nextToken_258 ?_
              refine lv_iconst (v := 4) hx hb dX11_nextToken_259 (by decide) ?_
              refine lv_icmp_ge (tgt := 286) hx hb dX11_nextToken_260 (by decide) (fun hc => ?_) (fun hc => ?_)
              · replace hf := (if_pos hc).symm.trans hf
                exact J286 u_17 _ _ _ hf  (lv_sub hl [0] rfl) hw
              · replace hf := (if_neg hc).symm.trans hf
                refine gm_aload_n (G := GM) (r := 1) C rfl dX11_nextToken_263 rfl (lv_at hl 0 rfl) ?_
                refine gm_aload_n (G := GM) (r := 1) C rfl dX11_nextToken_264 rfl (lv_at hl 0 rfl) ?_
                refine gm_getI (G := GM) (u := u_17) (r := 1) (ci := 10) (k := 8) C hw rfl fl_X11_158 dX11_nextToken_265 rfl ?_
                refine lv_bipush (v := 10) hx hb dX11_nextToken_268 (by decide) ?_
                refine lv_imul hx hb dX11_nextToken_270 ?_
                refine gm_aload_n (G := GM) (r := 1) C rfl dX11_nextToken_271 rfl (lv_at hl 0 rfl) ?_
                refine gm_aload_n (G := GM) (r := 1) C rfl dX11_nextToken_272 rfl (lv_at hl 0 rfl) ?_
                refine gm_getI (G := GM) (u := u_17) (r := 1) (ci := 10) (k := 4) C hw rfl fl_X11_148 dX11_nextToken_273 rfl ?_
                obtain ⟨r_24, hc_25, hf⟩ := gm_bnd hf
                refine gm_callV (G := GM) (u := u_17) (u' := u_17) (r := 1) (ci := 10) (As := [.int (gI u_17 1 4)]) (rest := [.int ((gI u_17 1 8) * (10 : Int32)), rv Z 1]) (res := (some (.int r_24))) C hw hl (ok_X11_signAt l Z (gI u_17 1 4) u_17 r_24 hc_25) cw_X11_164 im_X11_signAt rfl se_X11_signAt rfl rfl rfl ⟨Nat.le_trans (Nat.le_of_ble_eq_true rfl) hRf, Nat.le_trans (Nat.le_of_ble_eq_true rfl) hRl⟩ rfl rfl (Nat.le_of_ble_eq_true rfl) dX11_nextToken_276 (fun H locs hw => ?_)
                refine lv_iadd hx hb dX11_nextToken_279 ?_
                refine lv_bipush (v := 48) hx hb dX11_nextToken_280 (by decide) ?_
                refine lv_isub hx hb dX11_nextToken_282 ?_
                refine gm_putI (G := GM) (u := u_17) (r := 1) (ci := 10) (k := 8) (v := (((gI u_17 1 8) * (10 : Int32)) + r_24) - (48 : Int32)) C hw rfl fl_X11_158 fp_10_8 dX11_nextToken_283 rfl (fun H locs hw => ?_)
                obtain ⟨u_26, e_u_26, hf⟩ := gm_le hf
                rw [← e_u_26] at hw
                exact J286 u_26 _ _ _ hf  (lv_sub hl [0] rfl) hw)
        refine L224_1 _ _ _ hlp ?_ _ _ _ (lv_sub hl [0] rfl) hw
        obtain ⟨u_27, rfl⟩ : ∃ y, y = o1 := ⟨_, rfl⟩
        intro H locs ls hl hw
        try dsimp only at hf
        exact J299 u_27 _ _ _ hf  (lv_sub hl [0] rfl) hw
  have J208 : ∀ (t_29 : Int32) (u_28 : gm_M) (H : Heap) (locs : List Loc) (ls : Array Slot), j_X11_nextToken_208 t_29 u_28 = some (u') → lv_has ls 2 [] → wd GM Z u_28 A s.heap H locs → W p l e R s m args below meth c H locs 0 0 Q (F0 m 208 ls [.int t_29, rv Z 1]) := by
    intro t_29 u_28 H locs ls hf  hl hw
    unfold j_X11_nextToken_208 at hf
    refine gm_putI (G := GM) (u := u_28) (r := 1) (ci := 10) (k := 6) (v := t_29) C hw rfl fl_X11_161 fp_10_6 dX11_nextToken_208 rfl (fun H locs hw => ?_)
    obtain ⟨u_30, e_u_30, hf⟩ := gm_le hf
    rw [← e_u_30] at hw
    exact gm_vret C E hw rfl rfl (Option.some.inj hf).symm dX11_nextToken_211
  have J188 : ∀  (u_31 : gm_M) (H : Heap) (locs : List Loc) (ls : Array Slot), j_X11_nextToken_188 u_31 = some (u') → lv_has ls 2 [(0, rv Z 1)] → wd GM Z u_31 A s.heap H locs → W p l e R s m args below meth c H locs 0 0 Q (F0 m 188 ls []) := by
    intro  u_31 H locs ls hf  hl hw
    unfold j_X11_nextToken_188 at hf
    refine gm_aload_n (G := GM) (r := 1) C rfl dX11_nextToken_188 rfl (lv_at hl 0 rfl) ?_
    refine gm_aload_n (G := GM) (r := 1) C rfl dX11_nextToken_189 rfl (lv_at hl 0 rfl) ?_
    refine gm_getI (G := GM) (u := u_31) (r := 1) (ci := 10) (k := 4) C hw rfl fl_X11_148 dX11_nextToken_190 rfl ?_
    refine gm_aload_n (G := GM) (r := 1) C rfl dX11_nextToken_193 rfl (lv_at hl 0 rfl) ?_
    refine gm_getI (G := GM) (u := u_31) (r := 1) (ci := 10) (k := 5) C hw rfl fl_X11_151 dX11_nextToken_194 rfl ?_
    refine lv_isub hx hb dX11_nextToken_197 ?_
    refine lv_bipush (v := 8) hx hb dX11_nextToken_198 (by decide) ?_
    refine lv_icmp_le (tgt := 207) hx hb dX11_nextToken_200 (by decide) (fun hc => ?_) (fun hc => ?_)
    · replace hf := (if_pos hc).symm.trans hf
      refine lv_iconst (v := 1) hx hb dX11_nextToken_207 (by decide) ?_
      exact J208 (1 : Int32) u_31 _ _ _ hf  (lv_sub hl [] rfl) hw
    · replace hf := (if_neg hc).symm.trans hf
      refine lv_iconst (v := 4) hx hb dX11_nextToken_203 (by decide) ?_
      refine lv_goto (tgt := 208) hx hb dX11_nextToken_204 (by decide) ?_
      exact J208 (4 : Int32) u_31 _ _ _ hf  (lv_sub hl [] rfl) hw
  have J52 : ∀  (u_32 : gm_M) (H : Heap) (locs : List Loc) (ls : Array Slot), j_X11_nextToken_52 u_32 = some (u') → lv_has ls 2 [(0, rv Z 1)] → wd GM Z u_32 A s.heap H locs → W p l e R s m args below meth c H locs 0 0 Q (F0 m 52 ls []) := by
    intro  u_32 H locs ls hf  hl hw
    unfold j_X11_nextToken_52 at hf
    refine gm_aload_n (G := GM) (r := 1) C rfl dX11_nextToken_52 rfl (lv_at hl 0 rfl) ?_
    refine gm_aload_n (G := GM) (r := 1) C rfl dX11_nextToken_53 rfl (lv_at hl 0 rfl) ?_
    refine gm_getI (G := GM) (u := u_32) (r := 1) (ci := 10) (k := 4) C hw rfl fl_X11_148 dX11_nextToken_54 rfl ?_
    refine gm_putI (G := GM) (u := u_32) (r := 1) (ci := 10) (k := 5) (v := gI u_32 1 4) C hw rfl fl_X11_151 fp_10_5 dX11_nextToken_57 rfl (fun H locs hw => ?_)
    obtain ⟨u_33, e_u_33, hf⟩ := gm_le hf
    rw [← e_u_33] at hw
    refine gm_aload_n (G := GM) (r := 1) C rfl dX11_nextToken_60 rfl (lv_at hl 0 rfl) ?_
    refine lv_lconst (v := 0) hx hb dX11_nextToken_61 (by decide) ?_
    refine gm_putJ (G := GM) (u := u_33) (r := 1) (ci := 10) (k := 7) (v := (0 : Int64)) C hw rfl fl_X11_154 fp_10_7 dX11_nextToken_62 rfl (fun H locs hw => ?_)
    obtain ⟨u_34, e_u_34, hf⟩ := gm_le hf
    rw [← e_u_34] at hw
    refine gm_aload_n (G := GM) (r := 1) C rfl dX11_nextToken_65 rfl (lv_at hl 0 rfl) ?_
    refine lv_iconst (v := 0) hx hb dX11_nextToken_66 (by decide) ?_
    refine gm_putI (G := GM) (u := u_34) (r := 1) (ci := 10) (k := 8) (v := (0 : Int32)) C hw rfl fl_X11_158 fp_10_8 dX11_nextToken_67 rfl (fun H locs hw => ?_)
    obtain ⟨u_35, e_u_35, hf⟩ := gm_le hf
    rw [← e_u_35] at hw
    refine gm_aload_n (G := GM) (r := 1) C rfl dX11_nextToken_70 rfl (lv_at hl 0 rfl) ?_
    refine gm_getI (G := GM) (u := u_35) (r := 1) (ci := 10) (k := 4) C hw rfl fl_X11_148 dX11_nextToken_71 rfl ?_
    refine gm_aload_n (G := GM) (r := 1) C rfl dX11_nextToken_74 rfl (lv_at hl 0 rfl) ?_
    refine gm_getI (G := GM) (u := u_35) (r := 1) (ci := 10) (k := 3) C hw rfl fl_X11_145 dX11_nextToken_75 rfl ?_
    refine lv_icmp_ne (tgt := 87) hx hb dX11_nextToken_78 (by decide) (fun hc => ?_) (fun hc => ?_)
    · replace hf := (if_neg hc).symm.trans hf
      refine gm_aload_n (G := GM) (r := 1) C rfl dX11_nextToken_87 rfl (lv_at hl 0 rfl) ?_
      refine gm_getS (G := GM) (u := u_35) (r := 1) (ci := 10) (k := 2) C hw rfl fl_X11_7 dX11_nextToken_88 rfl (q := 2) rfl ?_
      refine gm_aload_n (G := GM) (r := 1) C rfl dX11_nextToken_91 rfl (lv_at hl 0 rfl) ?_
      refine gm_getI (G := GM) (u := u_35) (r := 1) (ci := 10) (k := 4) C hw rfl fl_X11_148 dX11_nextToken_92 rfl ?_
      obtain ⟨g_36, hf⟩ := gm_grd hf
      refine gm_iald (G := GM) (u := u_35) (r := 2) (n := 1000) (i := gI u_35 1 4) C hw rfl g_36 rfl dX11_nextToken_95 ?_
      obtain ⟨v1_37, e_v1_37, hf⟩ := gm_le hf
      refine gm_topI e_v1_37 ?_
      refine lv_istore_n (i := 1) (lv' := [(1, .int v1_37), (0, rv Z 1)]) hx hb dX11_nextToken_96 rfl hl (by decide) rfl (fun ls hl => ?_)
      refine lv_iload_n hx hb dX11_nextToken_97 rfl (lv_at hl 0 rfl) ?_
      refine lv_bipush (v := 97) hx hb dX11_nextToken_98 (by decide) ?_
      refine lv_icmp_lt (tgt := 212) hx hb dX11_nextToken_100 (by decide) (fun hc => ?_) (fun hc => ?_)
      · replace hf := (if_pos hc).symm.trans hf
        exact J212 v1_37 u_35 _ _ _ hf  (lv_sub hl [1, 0] rfl) hw
      · replace hf := (if_neg hc).symm.trans hf
        refine lv_iload_n hx hb dX11_nextToken_103 rfl (lv_at hl 0 rfl) ?_
        refine lv_bipush (v := 122) hx hb dX11_nextToken_104 (by decide) ?_
        refine lv_icmp_gt (tgt := 212) hx hb dX11_nextToken_106 (by decide) (fun hc => ?_) (fun hc => ?_)
        · replace hf := (if_pos hc).symm.trans hf
          exact J212 v1_37 u_35 _ _ _ hf  (lv_sub hl [1, 0] rfl) hw
        · replace hf := (if_neg hc).symm.trans hf
          obtain ⟨o2, hlp, hf⟩ := gm_bnd hf
          have L109_2 := gm_loop (b_X11_nextToken_109) (fun x : gm_M => ∀ (H : Heap) (locs : List Loc) (ls : Array Slot), lv_has ls 2 [(0, rv Z 1)] → wd GM Z x A s.heap H locs → W p l e R s m args below meth c H locs 0 0 Q (F0 m 109 ls [])) (fun z : gm_M => ∀ (H : Heap) (locs : List Loc) (ls : Array Slot), lv_has ls 2 [(0, rv Z 1)] → wd GM Z z A s.heap H locs → W p l e R s m args below meth c H locs 0 0 Q (F0 m 188 ls [])) (by
            intro x o2 hf Kc Kx
            obtain ⟨u_38, rfl⟩ : ∃ y, y = x := ⟨_, rfl⟩
            intro H locs ls hl hw
            unfold b_X11_nextToken_109 at hf
            try dsimp only at hf
            have J175 : ∀  (u_39 : gm_M) (H : Heap) (locs : List Loc) (ls : Array Slot), j_X11_nextToken_175 u_39 = some o2 → lv_has ls 2 [(0, rv Z 1)] → wd GM Z u_39 A s.heap H locs → W p l e R s m args below meth c H locs 0 0 Q (F0 m 175 ls []) := by
              intro  u_39 H locs ls hf  hl hw
              unfold j_X11_nextToken_175 at hf
              refine gm_aload_n (G := GM) (r := 1) C rfl dX11_nextToken_175 rfl (lv_at hl 0 rfl) ?_
              refine lv_dup hx hb dX11_nextToken_176 (gm_cat _ _) ?_
              refine gm_getI (G := GM) (u := u_39) (r := 1) (ci := 10) (k := 4) C hw rfl fl_X11_148 dX11_nextToken_177 rfl ?_
              refine lv_iconst (v := 1) hx hb dX11_nextToken_180 (by decide) ?_
              refine lv_iadd hx hb dX11_nextToken_181 ?_
              refine gm_putI (G := GM) (u := u_39) (r := 1) (ci := 10) (k := 4) (v := (gI u_39 1 4) + (1 : Int32)) C hw rfl fl_X11_148 fp_10_4 dX11_nextToken_182 rfl (fun H locs hw => ?_)
              obtain ⟨u_40, e_u_40, hf⟩ := gm_le hf
              rw [← e_u_40] at hw
              refine lv_goto (tgt := 109) hx hb dX11_nextToken_185 (by decide) ?_
              exact Kc _ (gm_si hf) _ _ _ (lv_sub hl [0] rfl) hw
            refine gm_aload_n (G := GM) (r := 1) C rfl dX11_nextToken_109 rfl (lv_at hl 0 rfl) ?_
            refine gm_aload_n (G := GM) (r := 1) C rfl dX11_nextToken_110 rfl (lv_at hl 0 rfl) ?_
            refine gm_getI (G := GM) (u := u_38) (r := 1) (ci := 10) (k := 4) C hw rfl fl_X11_148 dX11_nextToken_111 rfl ?_
            obtain ⟨r_41, hc_42, hf⟩ := gm_bnd hf
            refine gm_callV (G := GM) (u := u_38) (u' := u_38) (r := 1) (ci := 10) (As := [.int (gI u_38 1 4)]) (rest := []) (res := (some (.int r_41))) C hw hl (ok_X11_signAt l Z (gI u_38 1 4) u_38 r_41 hc_42) cw_X11_164 im_X11_signAt rfl se_X11_signAt rfl rfl rfl ⟨Nat.le_trans (Nat.le_of_ble_eq_true rfl) hRf, Nat.le_trans (Nat.le_of_ble_eq_true rfl) hRl⟩ rfl rfl (Nat.le_of_ble_eq_true rfl) dX11_nextToken_114 (fun H locs hw => ?_)
            refine lv_bipush (v := 97) hx hb dX11_nextToken_117 (by decide) ?_
            refine lv_icmp_lt (tgt := 188) hx hb dX11_nextToken_119 (by decide) (fun hc => ?_) (fun hc => ?_)
            · replace hf := (if_pos hc).symm.trans hf
              exact Kx _ (gm_si hf) _ _ _ (lv_sub hl [0] rfl) hw
            · replace hf := (if_neg hc).symm.trans hf
              refine gm_aload_n (G := GM) (r := 1) C rfl dX11_nextToken_122 rfl (lv_at hl 0 rfl) ?_
              refine gm_aload_n (G := GM) (r := 1) C rfl dX11_nextToken_123 rfl (lv_at hl 0 rfl) ?_
              refine gm_getI (G := GM) (u := u_38) (r := 1) (ci := 10) (k := 4) C hw rfl fl_X11_148 dX11_nextToken_124 rfl ?_
              obtain ⟨r_43, hc_44, hf⟩ := gm_bnd hf
              refine gm_callV (G := GM) (u := u_38) (u' := u_38) (r := 1) (ci := 10) (As := [.int (gI u_38 1 4)]) (rest := []) (res := (some (.int r_43))) C hw hl (ok_X11_signAt l Z (gI u_38 1 4) u_38 r_43 hc_44) cw_X11_164 im_X11_signAt rfl se_X11_signAt rfl rfl rfl ⟨Nat.le_trans (Nat.le_of_ble_eq_true rfl) hRf, Nat.le_trans (Nat.le_of_ble_eq_true rfl) hRl⟩ rfl rfl (Nat.le_of_ble_eq_true rfl) dX11_nextToken_127 (fun H locs hw => ?_)
              refine lv_bipush (v := 122) hx hb dX11_nextToken_130 (by decide) ?_
              refine lv_icmp_gt (tgt := 188) hx hb dX11_nextToken_132 (by decide) (fun hc => ?_) (fun hc => ?_)
              · replace hf := (if_pos hc).symm.trans hf
                exact Kx _ (gm_si hf) _ _ _ (lv_sub hl [0] rfl) hw
              · replace hf := (if_neg hc).symm.trans hf
                refine gm_aload_n (G := GM) (r := 1) C rfl dX11_nextToken_135 rfl (lv_at hl 0 rfl) ?_
                refine gm_getI (G := GM) (u := u_38) (r := 1) (ci := 10) (k := 4) C hw rfl fl_X11_148 dX11_nextToken_136 rfl ?_
                refine gm_aload_n (G := GM) (r := 1) C rfl dX11_nextToken_139 rfl (lv_at hl 0 rfl) ?_
                refine gm_getI (G := GM) (u := u_38) (r := 1) (ci := 10) (k := 5) C hw rfl fl_X11_151 dX11_nextToken_140 rfl ?_
                refine lv_isub hx hb dX11_nextToken_143 ?_
                refine lv_bipush (v := 8) hx hb dX11_nextToken_144 (by decide) ?_
                refine lv_icmp_ge (tgt := 175) hx hb dX11_nextToken_146 (by decide) (fun hc => ?_) (fun hc => ?_)
                · replace hf := (if_pos hc).symm.trans hf
                  exact J175 u_38 _ _ _ hf  (lv_sub hl [0] rfl) hw
                · replace hf := (if_neg hc).symm.trans hf
                  refine gm_aload_n (G := GM) (r := 1) C rfl dX11_nextToken_149 rfl (lv_at hl 0 rfl) ?_
                  refine gm_aload_n (G := GM) (r := 1) C rfl dX11_nextToken_150 rfl (lv_at hl 0 rfl) ?_
                  refine gm_getJ (G := GM) (u := u_38) (r := 1) (ci := 10) (k := 7) C hw rfl fl_X11_154 dX11_nextToken_151 rfl ?_
                  refine lv_ldc2 hx hb C.2.2.2.1 (C.2.2.2.2.1 _ kn_X11_168) dX11_nextToken_154 ?_
                  refine lv_lmul hx hb dX11_nextToken_157 ?_
                  refine gm_aload_n (G := GM) (r := 1) C rfl dX11_nextToken_158 rfl (lv_at hl 0 rfl) ?_
                  refine gm_aload_n (G := GM) (r := 1) C rfl dX11_nextToken_159 rfl (lv_at hl 0 rfl) ?_
                  refine gm_getI (G := GM) (u := u_38) (r := 1) (ci := 10) (k := 4) C hw rfl fl_X11_148 dX11_nextToken_160 rfl ?_
                  obtain ⟨r_45, hc_46, hf⟩ := gm_bnd hf
                  refine gm_callV (G := GM) (u := u_38) (u' := u_38) (r := 1) (ci := 10) (As := [.int (gI u_38 1 4)]) (rest := [.long ((gJ u_38 1 7) * (27 : Int64)), rv Z 1]) (res := (some (.int r_45))) C hw hl (ok_X11_signAt l Z (gI u_38 1 4) u_38 r_45 hc_46) cw_X11_164 im_X11_signAt rfl se_X11_signAt rfl rfl rfl ⟨Nat.le_trans (Nat.le_of_ble_eq_true rfl) hRf, Nat.le_trans (Nat.le_of_ble_eq_true rfl) hRl⟩ rfl rfl (Nat.le_of_ble_eq_true rfl) dX11_nextToken_163 (fun H locs hw => ?_)
                  refine lv_i2l hx hb dX11_nextToken_166 rfl ?_
                  refine lv_ladd hx hb dX11_nextToken_167 ?_
                  refine lv_ldc2 hx hb C.2.2.2.1 (C.2.2.2.2.1 _ kn_X11_170) dX11_nextToken_168 ?_
                  refine lv_lsub hx hb dX11_nextToken_171 ?_
                  refine gm_putJ (G := GM) (u := u_38) (r := 1) (ci := 10) (k := 7) (v := (((gJ u_38 1 7) * (27 : Int64)) + r_45.toInt64) - (96 : Int64)) C hw rfl fl_X11_154 fp_10_7 dX11_nextToken_172 rfl (fun H locs hw => ?_)
                  obtain ⟨u_47, e_u_47, hf⟩ := gm_le hf
                  rw [← e_u_47] at hw
                  exact J175 u_47 _ _ _ hf  (lv_sub hl [0] rfl) hw)
          refine L109_2 _ _ _ hlp ?_ _ _ _ (lv_sub hl [1] rfl) hw
          obtain ⟨u_48, rfl⟩ : ∃ y, y = o2 := ⟨_, rfl⟩
          intro H locs ls hl hw
          try dsimp only at hf
          exact J188 u_48 _ _ _ hf  (lv_sub hl [0] rfl) hw
    · replace hf := (if_pos hc).symm.trans hf
      refine gm_aload_n (G := GM) (r := 1) C rfl dX11_nextToken_81 rfl (lv_at hl 0 rfl) ?_
      refine lv_iconst (v := 0) hx hb dX11_nextToken_82 (by decide) ?_
      refine gm_putI (G := GM) (u := u_35) (r := 1) (ci := 10) (k := 6) (v := (0 : Int32)) C hw rfl fl_X11_161 fp_10_6 dX11_nextToken_83 rfl (fun H locs hw => ?_)
      obtain ⟨u_49, e_u_49, hf⟩ := gm_le hf
      rw [← e_u_49] at hw
      exact gm_vret C E hw rfl rfl (Option.some.inj hf).symm dX11_nextToken_86
  obtain ⟨o3, hlp, hf⟩ := gm_bnd hf
  have L0_3 := gm_loop (b_X11_nextToken_0) (fun x : gm_M => ∀ (H : Heap) (locs : List Loc) (ls : Array Slot), lv_has ls 2 [(0, rv Z 1)] → wd GM Z x A s.heap H locs → W p l e R s m args below meth c H locs 0 0 Q (F0 m 0 ls [])) (fun z : gm_M => ∀ (H : Heap) (locs : List Loc) (ls : Array Slot), lv_has ls 2 [(0, rv Z 1)] → wd GM Z z A s.heap H locs → W p l e R s m args below meth c H locs 0 0 Q (F0 m 52 ls [])) (by
    intro x o3 hf Kc Kx
    obtain ⟨u_50, rfl⟩ : ∃ y, y = x := ⟨_, rfl⟩
    intro H locs ls hl hw
    unfold b_X11_nextToken_0 at hf
    try dsimp only at hf
    have J39 : ∀  (u_51 : gm_M) (H : Heap) (locs : List Loc) (ls : Array Slot), j_X11_nextToken_39 u_51 = some o3 → lv_has ls 2 [(0, rv Z 1)] → wd GM Z u_51 A s.heap H locs → W p l e R s m args below meth c H locs 0 0 Q (F0 m 39 ls []) := by
      intro  u_51 H locs ls hf  hl hw
      unfold j_X11_nextToken_39 at hf
      refine gm_aload_n (G := GM) (r := 1) C rfl dX11_nextToken_39 rfl (lv_at hl 0 rfl) ?_
      refine lv_dup hx hb dX11_nextToken_40 (gm_cat _ _) ?_
      refine gm_getI (G := GM) (u := u_51) (r := 1) (ci := 10) (k := 4) C hw rfl fl_X11_148 dX11_nextToken_41 rfl ?_
      refine lv_iconst (v := 1) hx hb dX11_nextToken_44 (by decide) ?_
      refine lv_iadd hx hb dX11_nextToken_45 ?_
      refine gm_putI (G := GM) (u := u_51) (r := 1) (ci := 10) (k := 4) (v := (gI u_51 1 4) + (1 : Int32)) C hw rfl fl_X11_148 fp_10_4 dX11_nextToken_46 rfl (fun H locs hw => ?_)
      obtain ⟨u_52, e_u_52, hf⟩ := gm_le hf
      rw [← e_u_52] at hw
      refine lv_goto (tgt := 0) hx hb dX11_nextToken_49 (by decide) ?_
      exact Kc _ (gm_si hf) _ _ _ (lv_sub hl [0] rfl) hw
    refine gm_aload_n (G := GM) (r := 1) C rfl dX11_nextToken_0 rfl (lv_at hl 0 rfl) ?_
    refine gm_getI (G := GM) (u := u_50) (r := 1) (ci := 10) (k := 4) C hw rfl fl_X11_148 dX11_nextToken_1 rfl ?_
    refine gm_aload_n (G := GM) (r := 1) C rfl dX11_nextToken_4 rfl (lv_at hl 0 rfl) ?_
    refine gm_getI (G := GM) (u := u_50) (r := 1) (ci := 10) (k := 3) C hw rfl fl_X11_145 dX11_nextToken_5 rfl ?_
    refine lv_icmp_ge (tgt := 52) hx hb dX11_nextToken_8 (by decide) (fun hc => ?_) (fun hc => ?_)
    · replace hf := (if_pos hc).symm.trans hf
      exact Kx _ (gm_si hf) _ _ _ (lv_sub hl [0] rfl) hw
    · replace hf := (if_neg hc).symm.trans hf
      refine gm_aload_n (G := GM) (r := 1) C rfl dX11_nextToken_11 rfl (lv_at hl 0 rfl) ?_
      refine gm_getS (G := GM) (u := u_50) (r := 1) (ci := 10) (k := 2) C hw rfl fl_X11_7 dX11_nextToken_12 rfl (q := 2) rfl ?_
      refine gm_aload_n (G := GM) (r := 1) C rfl dX11_nextToken_15 rfl (lv_at hl 0 rfl) ?_
      refine gm_getI (G := GM) (u := u_50) (r := 1) (ci := 10) (k := 4) C hw rfl fl_X11_148 dX11_nextToken_16 rfl ?_
      obtain ⟨g_53, hf⟩ := gm_grd hf
      refine gm_iald (G := GM) (u := u_50) (r := 2) (n := 1000) (i := gI u_50 1 4) C hw rfl g_53 rfl dX11_nextToken_19 ?_
      refine lv_bipush (v := 32) hx hb dX11_nextToken_20 (by decide) ?_
      refine lv_icmp_eq (tgt := 39) hx hb dX11_nextToken_22 (by decide) (fun hc => ?_) (fun hc => ?_)
      · replace hf := (if_pos hc).symm.trans hf
        exact J39 u_50 _ _ _ hf  (lv_sub hl [0] rfl) hw
      · replace hf := (if_neg hc).symm.trans hf
        refine gm_aload_n (G := GM) (r := 1) C rfl dX11_nextToken_25 rfl (lv_at hl 0 rfl) ?_
        refine gm_getS (G := GM) (u := u_50) (r := 1) (ci := 10) (k := 2) C hw rfl fl_X11_7 dX11_nextToken_26 rfl (q := 2) rfl ?_
        refine gm_aload_n (G := GM) (r := 1) C rfl dX11_nextToken_29 rfl (lv_at hl 0 rfl) ?_
        refine gm_getI (G := GM) (u := u_50) (r := 1) (ci := 10) (k := 4) C hw rfl fl_X11_148 dX11_nextToken_30 rfl ?_
        refine gm_iald (G := GM) (u := u_50) (r := 2) (n := 1000) (i := gI u_50 1 4) C hw rfl g_53 rfl dX11_nextToken_33 ?_
        refine lv_bipush (v := 10) hx hb dX11_nextToken_34 (by decide) ?_
        refine lv_icmp_ne (tgt := 52) hx hb dX11_nextToken_36 (by decide) (fun hc => ?_) (fun hc => ?_)
        · replace hf := (if_neg hc).symm.trans hf
          exact Kx _ (gm_si hf) _ _ _ (lv_sub hl [0] rfl) hw
        · replace hf := (if_pos hc).symm.trans hf
          exact J39 u_50 _ _ _ hf  (lv_sub hl [0] rfl) hw)
  refine L0_3 _ _ _ hlp ?_ _ _ _ (lv_sub hl [0] rfl) hw
  obtain ⟨u_54, rfl⟩ : ∃ y, y = o3 := ⟨_, rfl⟩
  intro H locs ls hl hw
  try dsimp only at hf
  exact J52 u_54 _ _ _ hf  (lv_sub hl [0] rfl) hw
/-! LeapCapitalModel.isWord -/
def f_X11_isWord (a1 : Int64) (u : gm_M) : Int32 := if (gI u 1 6) = (1 : Int32) then if (lg_cmp (gJ u 1 7) a1) = 0 then (1 : Int32) else (0 : Int32) else (0 : Int32)
set_option maxRecDepth 100000 in
set_option maxHeartbeats 4000000 in
theorem ok_X11_isWord (l : Launch) (Z : gm_Z) (a1 : Int64) (u : gm_M)  : gm_Met l GM Z yX11_isWord cX11_isWord 3 (some .boolean) ({ frames := 0, cells := 0, slots := 0, locals := 0 }) [rv Z 1, .long a1] u (some (.int (f_X11_isWord a1 u))) u := by
  obtain ⟨r, hf⟩ : ∃ r, f_X11_isWord a1 u = r := ⟨_, rfl⟩
  rw [hf]
  unfold f_X11_isWord at hf
  refine gm_ofW (by decide +kernel) (Nat.le_of_ble_eq_true rfl) ?_
  intro p e s m args below meth c A ls Q R hRf hRl C E hl hw
  obtain ⟨hx, hb, -⟩ := id C
  have hl : lv_has ls 3 [(0, rv Z 1), (1, .long a1)] := hl
  refine gm_aload_n (G := GM) (r := 1) C rfl dX11_isWord_0 rfl (lv_at hl 0 rfl) ?_
  refine gm_getI (G := GM) (u := u) (r := 1) (ci := 10) (k := 6) C hw rfl fl_X11_161 dX11_isWord_1 rfl ?_
  refine lv_iconst (v := 1) hx hb dX11_isWord_4 (by decide) ?_
  refine lv_icmp_ne (tgt := 21) hx hb dX11_isWord_5 (by decide) (fun hc => ?_) (fun hc => ?_)
  · replace hf := (if_neg hc).symm.trans hf
    refine lv_iconst (v := 0) hx hb dX11_isWord_21 (by decide) ?_
    exact gm_zret C E hw rfl rfl ((congrArg (fun z => some (Value.int z)) hf).symm) rfl dX11_isWord_22
  · replace hf := (if_pos hc).symm.trans hf
    refine gm_aload_n (G := GM) (r := 1) C rfl dX11_isWord_8 rfl (lv_at hl 0 rfl) ?_
    refine gm_getJ (G := GM) (u := u) (r := 1) (ci := 10) (k := 7) C hw rfl fl_X11_154 dX11_isWord_9 rfl ?_
    refine lv_lload_n hx hb dX11_isWord_12 rfl (lv_at hl 1 rfl) ?_
    refine W.lcmp hx hb dX11_isWord_13 ?_
    refine lv_if_ne (tgt := 21) hx hb dX11_isWord_14 (by decide) (fun hc => ?_) (fun hc => ?_)
    · replace hf := (if_neg hc).symm.trans hf
      refine lv_iconst (v := 0) hx hb dX11_isWord_21 (by decide) ?_
      exact gm_zret C E hw rfl rfl ((congrArg (fun z => some (Value.int z)) hf).symm) rfl dX11_isWord_22
    · replace hf := (if_pos hc).symm.trans hf
      refine lv_iconst (v := 1) hx hb dX11_isWord_17 (by decide) ?_
      refine lv_goto (tgt := 22) hx hb dX11_isWord_18 (by decide) ?_
      exact gm_zret C E hw rfl rfl ((congrArg (fun z => some (Value.int z)) hf).symm) rfl dX11_isWord_22
/-! LeapCapitalModel.isSign -/
def f_X11_isSign (a1 : Int32) (u : gm_M) : Option Int32 := if (gI u 1 6) = (3 : Int32) then if ib (gI u 1 5) 1000 = true then if (gI u 2 (ix (gI u 1 5))) = a1 then some (1 : Int32) else some (0 : Int32) else none else some (0 : Int32)
set_option maxRecDepth 100000 in
set_option maxHeartbeats 4000000 in
theorem ok_X11_isSign (l : Launch) (Z : gm_Z) (a1 : Int32) (u : gm_M)  (r : Int32) (hf : f_X11_isSign a1 u = some r) : gm_Met l GM Z yX11_isSign cX11_isSign 2 (some .boolean) ({ frames := 0, cells := 0, slots := 0, locals := 0 }) [rv Z 1, .int a1] u (some (.int r)) u := by
  unfold f_X11_isSign at hf
  refine gm_ofW (by decide +kernel) (Nat.le_of_ble_eq_true rfl) ?_
  intro p e s m args below meth c A ls Q R hRf hRl C E hl hw
  obtain ⟨hx, hb, -⟩ := id C
  have hl : lv_has ls 2 [(0, rv Z 1), (1, .int a1)] := hl
  refine gm_aload_n (G := GM) (r := 1) C rfl dX11_isSign_0 rfl (lv_at hl 0 rfl) ?_
  refine gm_getI (G := GM) (u := u) (r := 1) (ci := 10) (k := 6) C hw rfl fl_X11_161 dX11_isSign_1 rfl ?_
  refine lv_iconst (v := 3) hx hb dX11_isSign_4 (by decide) ?_
  refine lv_icmp_ne (tgt := 25) hx hb dX11_isSign_5 (by decide) (fun hc => ?_) (fun hc => ?_)
  · replace hf := (if_neg hc).symm.trans hf
    refine lv_iconst (v := 0) hx hb dX11_isSign_25 (by decide) ?_
    exact gm_zret C E hw rfl rfl ((congrArg (fun z => some (Value.int z)) (Option.some.inj hf)).symm) rfl dX11_isSign_26
  · replace hf := (if_pos hc).symm.trans hf
    refine gm_aload_n (G := GM) (r := 1) C rfl dX11_isSign_8 rfl (lv_at hl 0 rfl) ?_
    refine gm_getS (G := GM) (u := u) (r := 1) (ci := 10) (k := 2) C hw rfl fl_X11_7 dX11_isSign_9 rfl (q := 2) rfl ?_
    refine gm_aload_n (G := GM) (r := 1) C rfl dX11_isSign_12 rfl (lv_at hl 0 rfl) ?_
    refine gm_getI (G := GM) (u := u) (r := 1) (ci := 10) (k := 5) C hw rfl fl_X11_151 dX11_isSign_13 rfl ?_
    obtain ⟨g_1, hf⟩ := gm_grd hf
    refine gm_iald (G := GM) (u := u) (r := 2) (n := 1000) (i := gI u 1 5) C hw rfl g_1 rfl dX11_isSign_16 ?_
    refine lv_iload_n hx hb dX11_isSign_17 rfl (lv_at hl 1 rfl) ?_
    refine lv_icmp_ne (tgt := 25) hx hb dX11_isSign_18 (by decide) (fun hc => ?_) (fun hc => ?_)
    · replace hf := (if_neg hc).symm.trans hf
      refine lv_iconst (v := 0) hx hb dX11_isSign_25 (by decide) ?_
      exact gm_zret C E hw rfl rfl ((congrArg (fun z => some (Value.int z)) (Option.some.inj hf)).symm) rfl dX11_isSign_26
    · replace hf := (if_pos hc).symm.trans hf
      refine lv_iconst (v := 1) hx hb dX11_isSign_21 (by decide) ?_
      refine lv_goto (tgt := 26) hx hb dX11_isSign_22 (by decide) ?_
      exact gm_zret C E hw rfl rfl ((congrArg (fun z => some (Value.int z)) (Option.some.inj hf)).symm) rfl dX11_isSign_26
/-! LeapCapitalModel.fails -/
def f_X11_fails (a1 : Int32) (u : gm_M) : Option (Int32 × gm_M) := gm_let (sI u 1 9 (a1 + ((16 : Int32) * (gI u 1 5)))) fun u_1 => some ((0 : Int32), u_1)
set_option maxRecDepth 100000 in
set_option maxHeartbeats 4000000 in
theorem ok_X11_fails (l : Launch) (Z : gm_Z) (a1 : Int32) (u : gm_M)  (r : Int32) (u' : gm_M) (hf : f_X11_fails a1 u = some (r, u')) : gm_Met l GM Z yX11_fails cX11_fails 2 (some .boolean) ({ frames := 0, cells := 0, slots := 0, locals := 0 }) [rv Z 1, .int a1] u (some (.int r)) u' := by
  unfold f_X11_fails at hf
  refine gm_ofW (by decide +kernel) (Nat.le_of_ble_eq_true rfl) ?_
  intro p e s m args below meth c A ls Q R hRf hRl C E hl hw
  obtain ⟨hx, hb, -⟩ := id C
  have hl : lv_has ls 2 [(0, rv Z 1), (1, .int a1)] := hl
  refine gm_aload_n (G := GM) (r := 1) C rfl dX11_fails_0 rfl (lv_at hl 0 rfl) ?_
  refine lv_iload_n hx hb dX11_fails_1 rfl (lv_at hl 1 rfl) ?_
  refine lv_bipush (v := 16) hx hb dX11_fails_2 (by decide) ?_
  refine gm_aload_n (G := GM) (r := 1) C rfl dX11_fails_4 rfl (lv_at hl 0 rfl) ?_
  refine gm_getI (G := GM) (u := u) (r := 1) (ci := 10) (k := 5) C hw rfl fl_X11_151 dX11_fails_5 rfl ?_
  refine lv_imul hx hb dX11_fails_8 ?_
  refine lv_iadd hx hb dX11_fails_9 ?_
  refine gm_putI (G := GM) (u := u) (r := 1) (ci := 10) (k := 9) (v := a1 + ((16 : Int32) * (gI u 1 5))) C hw rfl fl_X11_172 fp_10_9 dX11_fails_10 rfl (fun H locs hw => ?_)
  obtain ⟨u_1, e_u_1, hf⟩ := gm_le hf
  rw [← e_u_1] at hw
  refine lv_iconst (v := 0) hx hb dX11_fails_13 (by decide) ?_
  exact gm_zret C E hw rfl rfl ((congrArg (fun z => some (Value.int z)) (gm_sp hf).1).symm) (gm_sp hf).2.symm dX11_fails_14
/-! LeapCapitalModel.usual -/
def f_X11_usual (a1 : Int32) (u : gm_M) : Option gm_M := if ib (((4 : Int32) * a1) + (0 : Int32)) 8 = true then gm_let (sI u 3 (ix (((4 : Int32) * a1) + (0 : Int32))) (0 : Int32)) fun u_2 => if ib (((4 : Int32) * a1) + (1 : Int32)) 8 = true then gm_let (sI u_2 3 (ix (((4 : Int32) * a1) + (1 : Int32))) (1896 : Int32)) fun u_4 => if ib (((4 : Int32) * a1) + (2 : Int32)) 8 = true then gm_let (sI u_4 3 (ix (((4 : Int32) * a1) + (2 : Int32))) (10 : Int32)) fun u_6 => if ib (((4 : Int32) * a1) + (3 : Int32)) 8 = true then gm_let (sI u_6 3 (ix (((4 : Int32) * a1) + (3 : Int32))) (70 : Int32)) fun u_8 => some u_8 else none else none else none else none
set_option maxRecDepth 100000 in
set_option maxHeartbeats 4000000 in
theorem ok_X11_usual (l : Launch) (Z : gm_Z) (a1 : Int32) (u : gm_M)  (u' : gm_M) (hf : f_X11_usual a1 u = some (u')) : gm_Met l GM Z yX11_usual cX11_usual 2 none ({ frames := 0, cells := 0, slots := 0, locals := 0 }) [rv Z 1, .int a1] u none u' := by
  unfold f_X11_usual at hf
  refine gm_ofW (by decide +kernel) (Nat.le_of_ble_eq_true rfl) ?_
  intro p e s m args below meth c A ls Q R hRf hRl C E hl hw
  obtain ⟨hx, hb, -⟩ := id C
  have hl : lv_has ls 2 [(0, rv Z 1), (1, .int a1)] := hl
  refine gm_aload_n (G := GM) (r := 1) C rfl dX11_usual_0 rfl (lv_at hl 0 rfl) ?_
  refine gm_getS (G := GM) (u := u) (r := 1) (ci := 10) (k := 10) C hw rfl fl_X11_13 dX11_usual_1 rfl (q := 3) rfl ?_
  refine lv_iconst (v := 4) hx hb dX11_usual_4 (by decide) ?_
  refine lv_iload_n hx hb dX11_usual_5 rfl (lv_at hl 1 rfl) ?_
  refine lv_imul hx hb dX11_usual_6 ?_
  refine lv_iconst (v := 0) hx hb dX11_usual_7 (by decide) ?_
  refine lv_iadd hx hb dX11_usual_8 ?_
  refine lv_iconst (v := 0) hx hb dX11_usual_9 (by decide) ?_
  obtain ⟨g_1, hf⟩ := gm_grd hf
  refine gm_iast (G := GM) (u := u) (r := 3) (n := 8) (i := ((4 : Int32) * a1) + (0 : Int32)) (x := (0 : Int32)) C hw rfl g_1 rfl dX11_usual_10 (fun H locs hw => ?_)
  obtain ⟨u_2, e_u_2, hf⟩ := gm_le hf
  rw [← e_u_2] at hw
  refine gm_aload_n (G := GM) (r := 1) C rfl dX11_usual_11 rfl (lv_at hl 0 rfl) ?_
  refine gm_getS (G := GM) (u := u_2) (r := 1) (ci := 10) (k := 10) C hw rfl fl_X11_13 dX11_usual_12 rfl (q := 3) rfl ?_
  refine lv_iconst (v := 4) hx hb dX11_usual_15 (by decide) ?_
  refine lv_iload_n hx hb dX11_usual_16 rfl (lv_at hl 1 rfl) ?_
  refine lv_imul hx hb dX11_usual_17 ?_
  refine lv_iconst (v := 1) hx hb dX11_usual_18 (by decide) ?_
  refine lv_iadd hx hb dX11_usual_19 ?_
  refine lv_sipush (v := 1896) hx hb dX11_usual_20 (by decide) ?_
  obtain ⟨g_3, hf⟩ := gm_grd hf
  refine gm_iast (G := GM) (u := u_2) (r := 3) (n := 8) (i := ((4 : Int32) * a1) + (1 : Int32)) (x := (1896 : Int32)) C hw rfl g_3 rfl dX11_usual_23 (fun H locs hw => ?_)
  obtain ⟨u_4, e_u_4, hf⟩ := gm_le hf
  rw [← e_u_4] at hw
  refine gm_aload_n (G := GM) (r := 1) C rfl dX11_usual_24 rfl (lv_at hl 0 rfl) ?_
  refine gm_getS (G := GM) (u := u_4) (r := 1) (ci := 10) (k := 10) C hw rfl fl_X11_13 dX11_usual_25 rfl (q := 3) rfl ?_
  refine lv_iconst (v := 4) hx hb dX11_usual_28 (by decide) ?_
  refine lv_iload_n hx hb dX11_usual_29 rfl (lv_at hl 1 rfl) ?_
  refine lv_imul hx hb dX11_usual_30 ?_
  refine lv_iconst (v := 2) hx hb dX11_usual_31 (by decide) ?_
  refine lv_iadd hx hb dX11_usual_32 ?_
  refine lv_bipush (v := 10) hx hb dX11_usual_33 (by decide) ?_
  obtain ⟨g_5, hf⟩ := gm_grd hf
  refine gm_iast (G := GM) (u := u_4) (r := 3) (n := 8) (i := ((4 : Int32) * a1) + (2 : Int32)) (x := (10 : Int32)) C hw rfl g_5 rfl dX11_usual_35 (fun H locs hw => ?_)
  obtain ⟨u_6, e_u_6, hf⟩ := gm_le hf
  rw [← e_u_6] at hw
  refine gm_aload_n (G := GM) (r := 1) C rfl dX11_usual_36 rfl (lv_at hl 0 rfl) ?_
  refine gm_getS (G := GM) (u := u_6) (r := 1) (ci := 10) (k := 10) C hw rfl fl_X11_13 dX11_usual_37 rfl (q := 3) rfl ?_
  refine lv_iconst (v := 4) hx hb dX11_usual_40 (by decide) ?_
  refine lv_iload_n hx hb dX11_usual_41 rfl (lv_at hl 1 rfl) ?_
  refine lv_imul hx hb dX11_usual_42 ?_
  refine lv_iconst (v := 3) hx hb dX11_usual_43 (by decide) ?_
  refine lv_iadd hx hb dX11_usual_44 ?_
  refine lv_bipush (v := 70) hx hb dX11_usual_45 (by decide) ?_
  obtain ⟨g_7, hf⟩ := gm_grd hf
  refine gm_iast (G := GM) (u := u_6) (r := 3) (n := 8) (i := ((4 : Int32) * a1) + (3 : Int32)) (x := (70 : Int32)) C hw rfl g_7 rfl dX11_usual_47 (fun H locs hw => ?_)
  obtain ⟨u_8, e_u_8, hf⟩ := gm_le hf
  rw [← e_u_8] at hw
  exact gm_vret C E hw rfl rfl (Option.some.inj hf).symm dX11_usual_48
/-! LeapCapitalModel.puts -/
def f_X11_puts (a1 : Int32) (u : gm_M) : Option gm_M := if ib (gI u 1 18) 2000 = true then gm_let (sI u 10 (ix (gI u 1 18)) a1) fun u_2 => gm_let (sI u_2 1 18 ((gI u_2 1 18) + (1 : Int32))) fun u_3 => some u_3 else none
set_option maxRecDepth 100000 in
set_option maxHeartbeats 4000000 in
theorem ok_X11_puts (l : Launch) (Z : gm_Z) (a1 : Int32) (u : gm_M)  (u' : gm_M) (hf : f_X11_puts a1 u = some (u')) : gm_Met l GM Z yX11_puts cX11_puts 2 none ({ frames := 0, cells := 0, slots := 0, locals := 0 }) [rv Z 1, .int a1] u none u' := by
  unfold f_X11_puts at hf
  refine gm_ofW (by decide +kernel) (Nat.le_of_ble_eq_true rfl) ?_
  intro p e s m args below meth c A ls Q R hRf hRl C E hl hw
  obtain ⟨hx, hb, -⟩ := id C
  have hl : lv_has ls 2 [(0, rv Z 1), (1, .int a1)] := hl
  refine gm_aload_n (G := GM) (r := 1) C rfl dX11_puts_0 rfl (lv_at hl 0 rfl) ?_
  refine gm_getS (G := GM) (u := u) (r := 1) (ci := 10) (k := 17) C hw rfl fl_X11_35 dX11_puts_1 rfl (q := 10) rfl ?_
  refine gm_aload_n (G := GM) (r := 1) C rfl dX11_puts_4 rfl (lv_at hl 0 rfl) ?_
  refine gm_getI (G := GM) (u := u) (r := 1) (ci := 10) (k := 18) C hw rfl fl_X11_175 dX11_puts_5 rfl ?_
  refine lv_iload_n hx hb dX11_puts_8 rfl (lv_at hl 1 rfl) ?_
  obtain ⟨g_1, hf⟩ := gm_grd hf
  refine gm_iast (G := GM) (u := u) (r := 10) (n := 2000) (i := gI u 1 18) (x := a1) C hw rfl g_1 rfl dX11_puts_9 (fun H locs hw => ?_)
  obtain ⟨u_2, e_u_2, hf⟩ := gm_le hf
  rw [← e_u_2] at hw
  refine gm_aload_n (G := GM) (r := 1) C rfl dX11_puts_10 rfl (lv_at hl 0 rfl) ?_
  refine lv_dup hx hb dX11_puts_11 (gm_cat _ _) ?_
  refine gm_getI (G := GM) (u := u_2) (r := 1) (ci := 10) (k := 18) C hw rfl fl_X11_175 dX11_puts_12 rfl ?_
  refine lv_iconst (v := 1) hx hb dX11_puts_15 (by decide) ?_
  refine lv_iadd hx hb dX11_puts_16 ?_
  refine gm_putI (G := GM) (u := u_2) (r := 1) (ci := 10) (k := 18) (v := (gI u_2 1 18) + (1 : Int32)) C hw rfl fl_X11_175 fp_10_18 dX11_puts_17 rfl (fun H locs hw => ?_)
  obtain ⟨u_3, e_u_3, hf⟩ := gm_le hf
  rw [← e_u_3] at hw
  exact gm_vret C E hw rfl rfl (Option.some.inj hf).symm dX11_puts_20
/-! LeapCapitalModel.fact -/
def f_X11_fact  (u : gm_M) : Int32 := if (gI u 1 6) = (1 : Int32) then if (lg_cmp (gJ u 1 7) (10502383 : Int64)) = 0 then (1 : Int32) else if (lg_cmp (gJ u 1 7) (33850 : Int64)) = 0 then (2 : Int32) else if (lg_cmp (gJ u 1 7) (923 : Int64)) = 0 then (3 : Int32) else if (lg_cmp (gJ u 1 7) (80155 : Int64)) = 0 then (4 : Int32) else (0 : Int32) else (0 : Int32)
set_option maxRecDepth 100000 in
set_option maxHeartbeats 4000000 in
theorem ok_X11_fact (l : Launch) (Z : gm_Z)  (u : gm_M)  : gm_Met l GM Z yX11_fact cX11_fact 1 (some .int) ({ frames := 0, cells := 0, slots := 0, locals := 0 }) [rv Z 1] u (some (.int (f_X11_fact u))) u := by
  obtain ⟨r, hf⟩ : ∃ r, f_X11_fact u = r := ⟨_, rfl⟩
  rw [hf]
  unfold f_X11_fact at hf
  refine gm_ofW (by decide +kernel) (Nat.le_of_ble_eq_true rfl) ?_
  intro p e s m args below meth c A ls Q R hRf hRl C E hl hw
  obtain ⟨hx, hb, -⟩ := id C
  have hl : lv_has ls 1 [(0, rv Z 1)] := hl
  refine gm_aload_n (G := GM) (r := 1) C rfl dX11_fact_0 rfl (lv_at hl 0 rfl) ?_
  refine gm_getI (G := GM) (u := u) (r := 1) (ci := 10) (k := 6) C hw rfl fl_X11_161 dX11_fact_1 rfl ?_
  refine lv_iconst (v := 1) hx hb dX11_fact_4 (by decide) ?_
  refine lv_icmp_eq (tgt := 10) hx hb dX11_fact_5 (by decide) (fun hc => ?_) (fun hc => ?_)
  · replace hf := (if_pos hc).symm.trans hf
    refine gm_aload_n (G := GM) (r := 1) C rfl dX11_fact_10 rfl (lv_at hl 0 rfl) ?_
    refine gm_getJ (G := GM) (u := u) (r := 1) (ci := 10) (k := 7) C hw rfl fl_X11_154 dX11_fact_11 rfl ?_
    refine lv_ldc2 hx hb C.2.2.2.1 (C.2.2.2.2.1 _ kn_X11_178) dX11_fact_14 ?_
    refine W.lcmp hx hb dX11_fact_17 ?_
    refine lv_if_ne (tgt := 23) hx hb dX11_fact_18 (by decide) (fun hc => ?_) (fun hc => ?_)
    · replace hf := (if_neg hc).symm.trans hf
      refine gm_aload_n (G := GM) (r := 1) C rfl dX11_fact_23 rfl (lv_at hl 0 rfl) ?_
      refine gm_getJ (G := GM) (u := u) (r := 1) (ci := 10) (k := 7) C hw rfl fl_X11_154 dX11_fact_24 rfl ?_
      refine lv_ldc2 hx hb C.2.2.2.1 (C.2.2.2.2.1 _ kn_X11_180) dX11_fact_27 ?_
      refine W.lcmp hx hb dX11_fact_30 ?_
      refine lv_if_ne (tgt := 36) hx hb dX11_fact_31 (by decide) (fun hc => ?_) (fun hc => ?_)
      · replace hf := (if_neg hc).symm.trans hf
        refine gm_aload_n (G := GM) (r := 1) C rfl dX11_fact_36 rfl (lv_at hl 0 rfl) ?_
        refine gm_getJ (G := GM) (u := u) (r := 1) (ci := 10) (k := 7) C hw rfl fl_X11_154 dX11_fact_37 rfl ?_
        refine lv_ldc2 hx hb C.2.2.2.1 (C.2.2.2.2.1 _ kn_X11_182) dX11_fact_40 ?_
        refine W.lcmp hx hb dX11_fact_43 ?_
        refine lv_if_ne (tgt := 51) hx hb dX11_fact_44 (by decide) (fun hc => ?_) (fun hc => ?_)
        · replace hf := (if_neg hc).symm.trans hf
          refine gm_aload_n (G := GM) (r := 1) C rfl dX11_fact_51 rfl (lv_at hl 0 rfl) ?_
          refine gm_getJ (G := GM) (u := u) (r := 1) (ci := 10) (k := 7) C hw rfl fl_X11_154 dX11_fact_52 rfl ?_
          refine lv_ldc2 hx hb C.2.2.2.1 (C.2.2.2.2.1 _ kn_X11_184) dX11_fact_55 ?_
          refine W.lcmp hx hb dX11_fact_58 ?_
          refine lv_if_ne (tgt := 66) hx hb dX11_fact_59 (by decide) (fun hc => ?_) (fun hc => ?_)
          · replace hf := (if_neg hc).symm.trans hf
            refine lv_iconst (v := 0) hx hb dX11_fact_66 (by decide) ?_
            exact gm_iret C E hw rfl ((congrArg (fun z => some (Value.int z)) hf).symm) rfl dX11_fact_67
          · replace hf := (if_pos hc).symm.trans hf
            refine lv_iconst (v := 4) hx hb dX11_fact_62 (by decide) ?_
            refine lv_goto (tgt := 67) hx hb dX11_fact_63 (by decide) ?_
            exact gm_iret C E hw rfl ((congrArg (fun z => some (Value.int z)) hf).symm) rfl dX11_fact_67
        · replace hf := (if_pos hc).symm.trans hf
          refine lv_iconst (v := 3) hx hb dX11_fact_47 (by decide) ?_
          refine lv_goto (tgt := 67) hx hb dX11_fact_48 (by decide) ?_
          exact gm_iret C E hw rfl ((congrArg (fun z => some (Value.int z)) hf).symm) rfl dX11_fact_67
      · replace hf := (if_pos hc).symm.trans hf
        refine lv_iconst (v := 2) hx hb dX11_fact_34 (by decide) ?_
        exact gm_iret C E hw rfl ((congrArg (fun z => some (Value.int z)) hf).symm) rfl dX11_fact_35
    · replace hf := (if_pos hc).symm.trans hf
      refine lv_iconst (v := 1) hx hb dX11_fact_21 (by decide) ?_
      exact gm_iret C E hw rfl ((congrArg (fun z => some (Value.int z)) hf).symm) rfl dX11_fact_22
  · replace hf := (if_neg hc).symm.trans hf
    refine lv_iconst (v := 0) hx hb dX11_fact_8 (by decide) ?_
    exact gm_iret C E hw rfl ((congrArg (fun z => some (Value.int z)) hf).symm) rfl dX11_fact_9
/-! LeapCapitalModel.reads -/
def j_X11_reads_418 (u_1 : gm_M) : Option (Int32 × gm_M) := (f_X11_fails (1 : Int32) u_1).bind fun o => match o with | (r_2, u_3) => some (r_2 &&& 1, u_3)
def j_X11_reads_399 (v1_7 : Int32) (u_6 : gm_M) : Option (Int32 × gm_M) := if v1_7 = 0 then (f_X11_isSign (59 : Int32) u_6).bind fun r_8 => if r_8 = 0 then j_X11_reads_418 u_6 else (f_X11_nextToken u_6).bind fun u_10 => some ((1 : Int32), u_10) else j_X11_reads_418 u_6
def j_X11_reads_424 (v1_17 : Int32) (v2_18 : Int32) (u_16 : gm_M) : Option ((Int32 × Int32 × gm_M) ⊕ (gm_M ⊕ gm_M ⊕ (Int32 × gm_M))) := (f_X11_nextToken u_16).bind fun u_19 => some (.inl (v1_17, v2_18, u_19))
def j_X11_reads_342 (v1_22 : Int32) (t_23 : Int32) (u_21 : gm_M) : Option ((Int32 × Int32 × gm_M) ⊕ (gm_M ⊕ gm_M ⊕ (Int32 × gm_M))) := (f_X11_puts t_23 u_21).bind fun u_24 => if ib v1_22 7 = true then gm_let (sI u_24 12 (ix v1_22) ((0 : Int32) &&& 1)) fun u_27 => j_X11_reads_424 v1_22 (1 : Int32) u_27 else none
def j_X11_reads_324 (v1_29 : Int32) (u_28 : gm_M) : Option ((Int32 × Int32 × gm_M) ⊕ (gm_M ⊕ gm_M ⊕ (Int32 × gm_M))) := gm_let (f_X11_isWord (1111 : Int64) u_28) fun r_30 => if r_30 = 0 then j_X11_reads_342 v1_29 (27 : Int32) u_28 else j_X11_reads_342 v1_29 (26 : Int32) u_28
def b_X11_reads_379 (v2_33 : Int32) (u_38 : gm_M) : Int32 → Option (Int32 ⊕ Int32) := fun x => match x with | v1_40 => if v1_40 ≤ 0 then some (.inr v1_40) else if ib v1_40 7 = true then if (gI u_38 11 (ix v1_40)) = (1 : Int32) then some (.inl (v1_40 + (-1 : Int32))) else some (.inr v1_40) else none
def j_X11_reads_304 (v1_32 : Int32) (v2_33 : Int32) (u_31 : gm_M) : Option ((Int32 × Int32 × gm_M) ⊕ (gm_M ⊕ gm_M ⊕ (Int32 × gm_M))) := gm_let (f_X11_isWord (1111 : Int64) u_31) fun r_34 => if r_34 = 0 then gm_let (f_X11_isWord (423 : Int64) u_31) fun r_35 => if r_35 = 0 then (f_X11_isSign (41 : Int32) u_31).bind fun r_36 => if r_36 = 0 then some (.inr (.inr (.inr (v1_32, u_31)))) else if v1_32 ≤ 0 then some (.inr (.inr (.inr (v1_32, u_31)))) else (f_X11_puts (29 : Int32) u_31).bind fun u_38 => ((gm_lp (b_X11_reads_379 v2_33 u_38) gm_FU (v1_32 + (-1 : Int32))).bind fun o => match o with | w1_42 => j_X11_reads_424 w1_42 v2_33 u_38) else j_X11_reads_324 v1_32 u_31 else j_X11_reads_324 v1_32 u_31
def j_X11_reads_289 (v1_44 : Int32) (t_45 : Int32) (u_43 : gm_M) : Option ((Int32 × Int32 × gm_M) ⊕ (gm_M ⊕ gm_M ⊕ (Int32 × gm_M))) := (f_X11_puts t_45 u_43).bind fun u_46 => if ib v1_44 7 = true then gm_let (sI u_46 12 (ix v1_44) ((1 : Int32) &&& 1)) fun u_49 => j_X11_reads_424 v1_44 (1 : Int32) u_49 else none
def j_X11_reads_263 (v1_51 : Int32) (v2_52 : Int32) (u_50 : gm_M) : Option ((Int32 × Int32 × gm_M) ⊕ (gm_M ⊕ gm_M ⊕ (Int32 × gm_M))) := if ib v1_51 7 = true then if (gI u_50 12 (ix v1_51)) = 0 then (f_X11_isSign (60 : Int32) u_50).bind fun r_54 => if r_54 = 0 then j_X11_reads_289 v1_51 (25 : Int32) u_50 else j_X11_reads_289 v1_51 (24 : Int32) u_50 else j_X11_reads_304 v1_51 v2_52 u_50 else none
def j_X11_reads_237 (v1_57 : Int32) (t_58 : Int32) (u_56 : gm_M) : Option ((Int32 × Int32 × gm_M) ⊕ (gm_M ⊕ gm_M ⊕ (Int32 × gm_M))) := (f_X11_puts t_58 u_56).bind fun u_59 => j_X11_reads_424 v1_57 (1 : Int32) u_59
def j_X11_reads_206 (v1_62 : Int32) (u_61 : gm_M) : Option ((Int32 × Int32 × gm_M) ⊕ (gm_M ⊕ gm_M ⊕ (Int32 × gm_M))) := (f_X11_isSign (43 : Int32) u_61).bind fun r_63 => if r_63 = 0 then (f_X11_isSign (45 : Int32) u_61).bind fun r_65 => if r_65 = 0 then j_X11_reads_237 v1_62 (22 : Int32) u_61 else j_X11_reads_237 v1_62 (21 : Int32) u_61 else j_X11_reads_237 v1_62 (20 : Int32) u_61
def j_X11_reads_172 (v1_68 : Int32) (v2_69 : Int32) (u_67 : gm_M) : Option ((Int32 × Int32 × gm_M) ⊕ (gm_M ⊕ gm_M ⊕ (Int32 × gm_M))) := (f_X11_nextToken u_67).bind fun u_70 => some (.inl (v1_68, v2_69, u_70))
def b_X11_reads_152 (u_75 : gm_M) : Int32 → Option (Int32 ⊕ Int32) := fun x => match x with | v1_77 => if v1_77 ≤ 0 then some (.inr v1_77) else if ib v1_77 7 = true then if (gI u_75 11 (ix v1_77)) = (1 : Int32) then some (.inl (v1_77 + (-1 : Int32))) else some (.inr v1_77) else none
def j_X11_reads_147 (v1_73 : Int32) (t_74 : Int32) (u_72 : gm_M) : Option ((Int32 × Int32 × gm_M) ⊕ (gm_M ⊕ gm_M ⊕ (Int32 × gm_M))) := (f_X11_puts t_74 u_72).bind fun u_75 => ((gm_lp (b_X11_reads_152 u_75) gm_FU v1_73).bind fun o => match o with | w1_79 => j_X11_reads_172 w1_79 (0 : Int32) u_75)
def j_X11_reads_120 (v1_81 : Int32) (v2_82 : Int32) (t_83 : Int32) (t_84 : Int32) (u_80 : gm_M) : Option ((Int32 × Int32 × gm_M) ⊕ (gm_M ⊕ gm_M ⊕ (Int32 × gm_M))) := if ib t_83 7 = true then gm_let (sI u_80 11 (ix t_83) t_84) fun u_86 => if ib v1_81 7 = true then gm_let (sI u_86 12 (ix v1_81) ((0 : Int32) &&& 1)) fun u_88 => j_X11_reads_172 v1_81 v2_82 u_88 else none else none
def j_X11_reads_99 (v1_90 : Int32) (v2_91 : Int32) (v4_92 : Int32) (t_93 : Int32) (u_89 : gm_M) : Option ((Int32 × Int32 × gm_M) ⊕ (gm_M ⊕ gm_M ⊕ (Int32 × gm_M))) := (f_X11_puts t_93 u_89).bind fun u_94 => if v4_92 = 0 then j_X11_reads_120 (v1_90 + (1 : Int32)) v2_91 (v1_90 + (1 : Int32)) (2 : Int32) u_94 else j_X11_reads_120 (v1_90 + (1 : Int32)) v2_91 (v1_90 + (1 : Int32)) (1 : Int32) u_94
def j_X11_reads_86 (v1_97 : Int32) (v2_98 : Int32) (v4_99 : Int32) (u_96 : gm_M) : Option ((Int32 × Int32 × gm_M) ⊕ (gm_M ⊕ gm_M ⊕ (Int32 × gm_M))) := if v4_99 = 0 then j_X11_reads_99 v1_97 v2_98 v4_99 (28 : Int32) u_96 else j_X11_reads_99 v1_97 v2_98 v4_99 (30 : Int32) u_96
def j_X11_reads_65 (v1_101 : Int32) (v2_102 : Int32) (v3_103 : Int32) (v4_104 : Int32) (v5_105 : Int32) (u_100 : gm_M) : Option ((Int32 × Int32 × gm_M) ⊕ (gm_M ⊕ gm_M ⊕ (Int32 × gm_M))) := if v1_101 = (5 : Int32) then some (.inr (.inr (.inl u_100))) else if v4_104 = 0 then if v5_105 = 0 then if v3_103 ≤ 0 then j_X11_reads_147 v1_101 ((100 : Int32) + (gI u_100 1 8)) u_100 else j_X11_reads_147 v1_101 v3_103 u_100 else j_X11_reads_86 v1_101 v2_102 v4_104 u_100 else j_X11_reads_86 v1_101 v2_102 v4_104 u_100
def b_X11_reads_11 : (Int32 × Int32 × gm_M) → Option ((Int32 × Int32 × gm_M) ⊕ (gm_M ⊕ gm_M ⊕ (Int32 × gm_M))) := fun x => match x with | (v1_14, v2_15, u_13) => if v2_15 = 0 then (f_X11_isSign (43 : Int32) u_13).bind fun r_106 => if r_106 = 0 then (f_X11_isSign (45 : Int32) u_13).bind fun r_108 => if r_108 = 0 then (f_X11_isSign (42 : Int32) u_13).bind fun r_110 => if r_110 = 0 then (f_X11_isSign (60 : Int32) u_13).bind fun r_112 => if r_112 = 0 then (f_X11_isSign (61 : Int32) u_13).bind fun r_114 => if r_114 = 0 then j_X11_reads_304 v1_14 v2_15 u_13 else j_X11_reads_263 v1_14 v2_15 u_13 else j_X11_reads_263 v1_14 v2_15 u_13 else j_X11_reads_206 v1_14 u_13 else j_X11_reads_206 v1_14 u_13 else j_X11_reads_206 v1_14 u_13 else gm_let (f_X11_fact u_13) fun r_116 => gm_let (f_X11_isWord (10631 : Int64) u_13) fun r_117 => (f_X11_isSign (40 : Int32) u_13).bind fun r_118 => if r_116 = 0 then if r_117 = 0 then if r_118 = 0 then if (gI u_13 1 6) = (2 : Int32) then j_X11_reads_65 v1_14 v2_15 r_116 r_117 r_118 u_13 else some (.inr (.inl u_13)) else j_X11_reads_65 v1_14 v2_15 r_116 r_117 r_118 u_13 else j_X11_reads_65 v1_14 v2_15 r_116 r_117 r_118 u_13 else j_X11_reads_65 v1_14 v2_15 r_116 r_117 r_118 u_13
def f_X11_reads  (u : gm_M) : Option (Int32 × gm_M) := gm_let (sI u 12 0 ((0 : Int32) &&& 1)) fun u_12 => ((gm_lp (b_X11_reads_11) gm_FU ((0 : Int32), (1 : Int32), u_12)).bind fun o => match o with | .inl u_120 => ((f_X11_fails (1 : Int32) u_120).bind fun o => match o with | (r_121, u_122) => some (r_121 &&& 1, u_122)) | .inr (.inl u_125) => ((f_X11_fails (5 : Int32) u_125).bind fun o => match o with | (r_126, u_127) => some (r_126 &&& 1, u_127)) | .inr (.inr ((w1_130, u_131))) => (j_X11_reads_399 w1_130 u_131))
set_option maxRecDepth 100000 in
set_option maxHeartbeats 4000000 in
theorem ok_X11_reads (l : Launch) (Z : gm_Z)  (u : gm_M)  (r : Int32) (u' : gm_M) (hf : f_X11_reads u = some (r, u')) : gm_Met l GM Z yX11_reads cX11_reads 6 (some .boolean) ({ frames := 2, cells := 0, slots := 0, locals := 42 }) [rv Z 1] u (some (.int r)) u' := by
  unfold f_X11_reads at hf
  refine gm_ofW (by decide +kernel) (Nat.le_of_ble_eq_true rfl) ?_
  intro p e s m args below meth c A ls Q R hRf hRl C E hl hw
  obtain ⟨hx, hb, -⟩ := id C
  have hl : lv_has ls 6 [(0, rv Z 1)] := hl
  have J418 : ∀  (u_1 : gm_M) (H : Heap) (locs : List Loc) (ls : Array Slot), j_X11_reads_418 u_1 = some (r, u') → lv_has ls 6 [(0, rv Z 1)] → wd GM Z u_1 A s.heap H locs → W p l e R s m args below meth c H locs 0 0 Q (F0 m 418 ls []) := by
    intro  u_1 H locs ls hf  hl hw
    unfold j_X11_reads_418 at hf
    refine gm_aload_n (G := GM) (r := 1) C rfl dX11_reads_418 rfl (lv_at hl 0 rfl) ?_
    refine lv_iconst (v := 1) hx hb dX11_reads_419 (by decide) ?_
    obtain ⟨⟨r_2, u_3⟩, hc_4, hf⟩ := gm_bnd hf
    try dsimp only at hf
    refine gm_callV (G := GM) (u := u_1) (u' := u_3) (r := 1) (ci := 10) (As := [.int (1 : Int32)]) (rest := []) (res := (some (.int r_2))) C hw hl (ok_X11_fails l Z (1 : Int32) u_1 r_2 u_3 hc_4) cw_X11_200 im_X11_fails rfl se_X11_fails rfl rfl rfl ⟨Nat.le_trans (Nat.le_of_ble_eq_true rfl) hRf, Nat.le_trans (Nat.le_of_ble_eq_true rfl) hRl⟩ rfl rfl (Nat.le_of_ble_eq_true rfl) dX11_reads_420 (fun H locs hw => ?_)
    exact gm_zret C E hw rfl rfl ((congrArg (fun z => some (Value.int z)) (gm_sp hf).1).symm) (gm_sp hf).2.symm dX11_reads_423
  have J399 : ∀ (v1_7 : Int32) (u_6 : gm_M) (H : Heap) (locs : List Loc) (ls : Array Slot), j_X11_reads_399 v1_7 u_6 = some (r, u') → lv_has ls 6 [(0, rv Z 1), (1, .int v1_7)] → wd GM Z u_6 A s.heap H locs → W p l e R s m args below meth c H locs 0 0 Q (F0 m 399 ls []) := by
    intro v1_7 u_6 H locs ls hf  hl hw
    unfold j_X11_reads_399 at hf
    refine lv_iload_n hx hb dX11_reads_399 rfl (lv_at hl 1 rfl) ?_
    refine lv_if_ne (tgt := 418) hx hb dX11_reads_400 (by decide) (fun hc => ?_) (fun hc => ?_)
    · replace hf := (if_neg hc).symm.trans hf
      exact J418 u_6 _ _ _ hf  (lv_sub hl [0] rfl) hw
    · replace hf := (if_pos hc).symm.trans hf
      refine gm_aload_n (G := GM) (r := 1) C rfl dX11_reads_403 rfl (lv_at hl 0 rfl) ?_
      refine lv_bipush (v := 59) hx hb dX11_reads_404 (by decide) ?_
      obtain ⟨r_8, hc_9, hf⟩ := gm_bnd hf
      refine gm_callV (G := GM) (u := u_6) (u' := u_6) (r := 1) (ci := 10) (As := [.int (59 : Int32)]) (rest := []) (res := (some (.int r_8))) C hw hl (ok_X11_isSign l Z (59 : Int32) u_6 r_8 hc_9) cw_X11_196 im_X11_isSign rfl se_X11_isSign rfl rfl rfl ⟨Nat.le_trans (Nat.le_of_ble_eq_true rfl) hRf, Nat.le_trans (Nat.le_of_ble_eq_true rfl) hRl⟩ rfl rfl (Nat.le_of_ble_eq_true rfl) dX11_reads_406 (fun H locs hw => ?_)
      refine lv_if_eq (tgt := 418) hx hb dX11_reads_409 (by decide) (fun hc => ?_) (fun hc => ?_)
      · replace hf := (if_pos hc).symm.trans hf
        exact J418 u_6 _ _ _ hf  (lv_sub hl [0] rfl) hw
      · replace hf := (if_neg hc).symm.trans hf
        refine gm_aload_n (G := GM) (r := 1) C rfl dX11_reads_412 rfl (lv_at hl 0 rfl) ?_
        obtain ⟨u_10, hc_11, hf⟩ := gm_bnd hf
        refine gm_callV (G := GM) (u := u_6) (u' := u_10) (r := 1) (ci := 10) (As := []) (rest := []) (res := none) C hw hl (ok_X11_nextToken l Z u_6 u_10 hc_11) cw_X11_206 im_X11_nextToken rfl se_X11_nextToken rfl rfl rfl ⟨Nat.le_trans (Nat.le_of_ble_eq_true rfl) hRf, Nat.le_trans (Nat.le_of_ble_eq_true rfl) hRl⟩ rfl rfl (Nat.le_of_ble_eq_true rfl) dX11_reads_413 (fun H locs hw => ?_)
        refine lv_iconst (v := 1) hx hb dX11_reads_416 (by decide) ?_
        exact gm_zret C E hw rfl rfl ((congrArg (fun z => some (Value.int z)) (gm_sp hf).1).symm) (gm_sp hf).2.symm dX11_reads_417
  refine lv_iconst (v := 0) hx hb dX11_reads_0 (by decide) ?_
  refine lv_istore_n (i := 1) (lv' := [(1, .int (0 : Int32)), (0, rv Z 1)]) hx hb dX11_reads_1 rfl hl (by decide) rfl (fun ls hl => ?_)
  refine lv_iconst (v := 1) hx hb dX11_reads_2 (by decide) ?_
  refine lv_istore_n (i := 2) (lv' := [(2, .int (1 : Int32)), (1, .int (0 : Int32)), (0, rv Z 1)]) hx hb dX11_reads_3 rfl hl (by decide) rfl (fun ls hl => ?_)
  refine gm_aload_n (G := GM) (r := 1) C rfl dX11_reads_4 rfl (lv_at hl 2 rfl) ?_
  refine gm_getS (G := GM) (u := u) (r := 1) (ci := 10) (k := 21) C hw rfl fl_X11_41 dX11_reads_5 rfl (q := 12) rfl ?_
  refine lv_iconst (v := 0) hx hb dX11_reads_8 (by decide) ?_
  refine lv_iconst (v := 0) hx hb dX11_reads_9 (by decide) ?_
  refine gm_zast (G := GM) (u := u) (r := 12) (n := 7) (i := (0 : Int32)) (x := (0 : Int32)) C hw rfl (by decide) (j := 0) (by decide) dX11_reads_10 (fun H locs hw => ?_)
  obtain ⟨u_12, e_u_12, hf⟩ := gm_le hf
  rw [← e_u_12] at hw
  obtain ⟨o1, hlp, hf⟩ := gm_bnd hf
  have L11_3 := gm_loop (b_X11_reads_11) (fun x : (Int32 × Int32 × gm_M) => ∀ (H : Heap) (locs : List Loc) (ls : Array Slot), lv_has ls 6 [(0, rv Z 1), (1, .int x.1), (2, .int x.2.1)] → wd GM Z x.2.2 A s.heap H locs → W p l e R s m args below meth c H locs 0 0 Q (F0 m 11 ls [])) (fun z : (gm_M ⊕ gm_M ⊕ (Int32 × gm_M)) => match z with | .inl q0 => ∀ (H : Heap) (locs : List Loc) (ls : Array Slot), lv_has ls 6 [(0, rv Z 1)] → wd GM Z q0 A s.heap H locs → W p l e R s m args below meth c H locs 0 0 Q (F0 m 59 ls []) | .inr p0 => match p0 with | .inl q1 => ∀ (H : Heap) (locs : List Loc) (ls : Array Slot), lv_has ls 6 [(0, rv Z 1)] → wd GM Z q1 A s.heap H locs → W p l e R s m args below meth c H locs 0 0 Q (F0 m 70 ls []) | .inr p1 => ∀ (H : Heap) (locs : List Loc) (ls : Array Slot), lv_has ls 6 [(0, rv Z 1), (1, .int p1.1)] → wd GM Z p1.2 A s.heap H locs → W p l e R s m args below meth c H locs 0 0 Q (F0 m 399 ls [])) (by
    intro x o1 hf Kc Kx
    obtain ⟨v1_14, v2_15, u_13⟩ := x
    intro H locs ls hl hw
    unfold b_X11_reads_11 at hf
    try dsimp only at hf
    have J424 : ∀ (v1_17 : Int32) (v2_18 : Int32) (u_16 : gm_M) (H : Heap) (locs : List Loc) (ls : Array Slot), j_X11_reads_424 v1_17 v2_18 u_16 = some o1 → lv_has ls 6 [(0, rv Z 1), (1, .int v1_17), (2, .int v2_18)] → wd GM Z u_16 A s.heap H locs → W p l e R s m args below meth c H locs 0 0 Q (F0 m 424 ls []) := by
      intro v1_17 v2_18 u_16 H locs ls hf  hl hw
      unfold j_X11_reads_424 at hf
      refine gm_aload_n (G := GM) (r := 1) C rfl dX11_reads_424 rfl (lv_at hl 0 rfl) ?_
      obtain ⟨u_19, hc_20, hf⟩ := gm_bnd hf
      refine gm_callV (G := GM) (u := u_16) (u' := u_19) (r := 1) (ci := 10) (As := []) (rest := []) (res := none) C hw hl (ok_X11_nextToken l Z u_16 u_19 hc_20) cw_X11_206 im_X11_nextToken rfl se_X11_nextToken rfl rfl rfl ⟨Nat.le_trans (Nat.le_of_ble_eq_true rfl) hRf, Nat.le_trans (Nat.le_of_ble_eq_true rfl) hRl⟩ rfl rfl (Nat.le_of_ble_eq_true rfl) dX11_reads_425 (fun H locs hw => ?_)
      refine lv_goto (tgt := 11) hx hb dX11_reads_428 (by decide) ?_
      exact Kc _ (gm_si hf) _ _ _ (lv_sub hl [0, 1, 2] rfl) hw
    have J342 : ∀ (v1_22 : Int32) (t_23 : Int32) (u_21 : gm_M) (H : Heap) (locs : List Loc) (ls : Array Slot), j_X11_reads_342 v1_22 t_23 u_21 = some o1 → lv_has ls 6 [(0, rv Z 1), (1, .int v1_22)] → wd GM Z u_21 A s.heap H locs → W p l e R s m args below meth c H locs 0 0 Q (F0 m 342 ls [.int t_23, rv Z 1]) := by
      intro v1_22 t_23 u_21 H locs ls hf  hl hw
      unfold j_X11_reads_342 at hf
      obtain ⟨u_24, hc_25, hf⟩ := gm_bnd hf
      refine gm_callV (G := GM) (u := u_21) (u' := u_24) (r := 1) (ci := 10) (As := [.int t_23]) (rest := []) (res := none) C hw hl (ok_X11_puts l Z t_23 u_21 u_24 hc_25) cw_X11_203 im_X11_puts rfl se_X11_puts rfl rfl rfl ⟨Nat.le_trans (Nat.le_of_ble_eq_true rfl) hRf, Nat.le_trans (Nat.le_of_ble_eq_true rfl) hRl⟩ rfl rfl (Nat.le_of_ble_eq_true rfl) dX11_reads_342 (fun H locs hw => ?_)
      refine gm_aload_n (G := GM) (r := 1) C rfl dX11_reads_345 rfl (lv_at hl 0 rfl) ?_
      refine gm_getS (G := GM) (u := u_24) (r := 1) (ci := 10) (k := 21) C hw rfl fl_X11_41 dX11_reads_346 rfl (q := 12) rfl ?_
      refine lv_iload_n hx hb dX11_reads_349 rfl (lv_at hl 1 rfl) ?_
      refine lv_iconst (v := 0) hx hb dX11_reads_350 (by decide) ?_
      obtain ⟨g_26, hf⟩ := gm_grd hf
      refine gm_zast (G := GM) (u := u_24) (r := 12) (n := 7) (i := v1_22) (x := (0 : Int32)) C hw rfl g_26 rfl dX11_reads_351 (fun H locs hw => ?_)
      obtain ⟨u_27, e_u_27, hf⟩ := gm_le hf
      rw [← e_u_27] at hw
      refine lv_iconst (v := 1) hx hb dX11_reads_352 (by decide) ?_
      refine lv_istore_n (i := 2) (lv' := [(2, .int (1 : Int32)), (0, rv Z 1), (1, .int v1_22)]) hx hb dX11_reads_353 rfl hl (by decide) rfl (fun ls hl => ?_)
      refine lv_goto (tgt := 424) hx hb dX11_reads_354 (by decide) ?_
      exact J424 v1_22 (1 : Int32) u_27 _ _ _ hf  (lv_sub hl [1, 2, 0] rfl) hw
    have J324 : ∀ (v1_29 : Int32) (u_28 : gm_M) (H : Heap) (locs : List Loc) (ls : Array Slot), j_X11_reads_324 v1_29 u_28 = some o1 → lv_has ls 6 [(0, rv Z 1), (1, .int v1_29)] → wd GM Z u_28 A s.heap H locs → W p l e R s m args below meth c H locs 0 0 Q (F0 m 324 ls []) := by
      intro v1_29 u_28 H locs ls hf  hl hw
      unfold j_X11_reads_324 at hf
      refine gm_aload_n (G := GM) (r := 1) C rfl dX11_reads_324 rfl (lv_at hl 0 rfl) ?_
      refine gm_aload_n (G := GM) (r := 1) C rfl dX11_reads_325 rfl (lv_at hl 0 rfl) ?_
      refine lv_ldc2 hx hb C.2.2.2.1 (C.2.2.2.2.1 _ kn_X11_209) dX11_reads_326 ?_
      obtain ⟨r_30, e_r_30, hf⟩ := gm_le hf
      refine gm_callV (G := GM) (u := u_28) (u' := u_28) (r := 1) (ci := 10) (As := [.long (1111 : Int64)]) (rest := [rv Z 1]) (res := (some (.int (f_X11_isWord (1111 : Int64) u_28)))) C hw hl (ok_X11_isWord l Z (1111 : Int64) u_28) cw_X11_192 im_X11_isWord rfl se_X11_isWord rfl rfl rfl ⟨Nat.le_trans (Nat.le_of_ble_eq_true rfl) hRf, Nat.le_trans (Nat.le_of_ble_eq_true rfl) hRl⟩ rfl rfl (Nat.le_of_ble_eq_true rfl) dX11_reads_329 (fun H locs hw => ?_)
      refine gm_topI e_r_30 ?_
      refine lv_if_eq (tgt := 340) hx hb dX11_reads_332 (by decide) (fun hc => ?_) (fun hc => ?_)
      · replace hf := (if_pos hc).symm.trans hf
        refine lv_bipush (v := 27) hx hb dX11_reads_340 (by decide) ?_
        exact J342 v1_29 (27 : Int32) u_28 _ _ _ hf  (lv_sub hl [0, 1] rfl) hw
      · replace hf := (if_neg hc).symm.trans hf
        refine lv_bipush (v := 26) hx hb dX11_reads_335 (by decide) ?_
        refine lv_goto (tgt := 342) hx hb dX11_reads_337 (by decide) ?_
        exact J342 v1_29 (26 : Int32) u_28 _ _ _ hf  (lv_sub hl [0, 1] rfl) hw
    have J304 : ∀ (v1_32 : Int32) (v2_33 : Int32) (u_31 : gm_M) (H : Heap) (locs : List Loc) (ls : Array Slot), j_X11_reads_304 v1_32 v2_33 u_31 = some o1 → lv_has ls 6 [(0, rv Z 1), (1, .int v1_32), (2, .int v2_33)] → wd GM Z u_31 A s.heap H locs → W p l e R s m args below meth c H locs 0 0 Q (F0 m 304 ls []) := by
      intro v1_32 v2_33 u_31 H locs ls hf  hl hw
      unfold j_X11_reads_304 at hf
      refine gm_aload_n (G := GM) (r := 1) C rfl dX11_reads_304 rfl (lv_at hl 0 rfl) ?_
      refine lv_ldc2 hx hb C.2.2.2.1 (C.2.2.2.2.1 _ kn_X11_209) dX11_reads_305 ?_
      obtain ⟨r_34, e_r_34, hf⟩ := gm_le hf
      refine gm_callV (G := GM) (u := u_31) (u' := u_31) (r := 1) (ci := 10) (As := [.long (1111 : Int64)]) (rest := []) (res := (some (.int (f_X11_isWord (1111 : Int64) u_31)))) C hw hl (ok_X11_isWord l Z (1111 : Int64) u_31) cw_X11_192 im_X11_isWord rfl se_X11_isWord rfl rfl rfl ⟨Nat.le_trans (Nat.le_of_ble_eq_true rfl) hRf, Nat.le_trans (Nat.le_of_ble_eq_true rfl) hRl⟩ rfl rfl (Nat.le_of_ble_eq_true rfl) dX11_reads_308 (fun H locs hw => ?_)
      refine gm_topI e_r_34 ?_
      refine lv_if_ne (tgt := 324) hx hb dX11_reads_311 (by decide) (fun hc => ?_) (fun hc => ?_)
      · replace hf := (if_neg hc).symm.trans hf
        exact J324 v1_32 u_31 _ _ _ hf  (lv_sub hl [0, 1] rfl) hw
      · replace hf := (if_pos hc).symm.trans hf
        refine gm_aload_n (G := GM) (r := 1) C rfl dX11_reads_314 rfl (lv_at hl 0 rfl) ?_
        refine lv_ldc2 hx hb C.2.2.2.1 (C.2.2.2.2.1 _ kn_X11_211) dX11_reads_315 ?_
        obtain ⟨r_35, e_r_35, hf⟩ := gm_le hf
        refine gm_callV (G := GM) (u := u_31) (u' := u_31) (r := 1) (ci := 10) (As := [.long (423 : Int64)]) (rest := []) (res := (some (.int (f_X11_isWord (423 : Int64) u_31)))) C hw hl (ok_X11_isWord l Z (423 : Int64) u_31) cw_X11_192 im_X11_isWord rfl se_X11_isWord rfl rfl rfl ⟨Nat.le_trans (Nat.le_of_ble_eq_true rfl) hRf, Nat.le_trans (Nat.le_of_ble_eq_true rfl) hRl⟩ rfl rfl (Nat.le_of_ble_eq_true rfl) dX11_reads_318 (fun H locs hw => ?_)
        refine gm_topI e_r_35 ?_
        refine lv_if_eq (tgt := 357) hx hb dX11_reads_321 (by decide) (fun hc => ?_) (fun hc => ?_)
        · replace hf := (if_pos hc).symm.trans hf
          refine gm_aload_n (G := GM) (r := 1) C rfl dX11_reads_357 rfl (lv_at hl 0 rfl) ?_
          refine lv_bipush (v := 41) hx hb dX11_reads_358 (by decide) ?_
          obtain ⟨r_36, hc_37, hf⟩ := gm_bnd hf
          refine gm_callV (G := GM) (u := u_31) (u' := u_31) (r := 1) (ci := 10) (As := [.int (41 : Int32)]) (rest := []) (res := (some (.int r_36))) C hw hl (ok_X11_isSign l Z (41 : Int32) u_31 r_36 hc_37) cw_X11_196 im_X11_isSign rfl se_X11_isSign rfl rfl rfl ⟨Nat.le_trans (Nat.le_of_ble_eq_true rfl) hRf, Nat.le_trans (Nat.le_of_ble_eq_true rfl) hRl⟩ rfl rfl (Nat.le_of_ble_eq_true rfl) dX11_reads_360 (fun H locs hw => ?_)
          refine lv_if_eq (tgt := 399) hx hb dX11_reads_363 (by decide) (fun hc => ?_) (fun hc => ?_)
          · replace hf := (if_pos hc).symm.trans hf
            exact Kx _ (gm_si hf) _ _ _ (lv_sub hl [0, 1] rfl) hw
          · replace hf := (if_neg hc).symm.trans hf
            refine lv_iload_n hx hb dX11_reads_366 rfl (lv_at hl 1 rfl) ?_
            refine lv_if_le (tgt := 399) hx hb dX11_reads_367 (by decide) (fun hc => ?_) (fun hc => ?_)
            · replace hf := (if_pos hc).symm.trans hf
              exact Kx _ (gm_si hf) _ _ _ (lv_sub hl [0, 1] rfl) hw
            · replace hf := (if_neg hc).symm.trans hf
              refine gm_aload_n (G := GM) (r := 1) C rfl dX11_reads_370 rfl (lv_at hl 0 rfl) ?_
              refine lv_bipush (v := 29) hx hb dX11_reads_371 (by decide) ?_
              obtain ⟨u_38, hc_39, hf⟩ := gm_bnd hf
              refine gm_callV (G := GM) (u := u_31) (u' := u_38) (r := 1) (ci := 10) (As := [.int (29 : Int32)]) (rest := []) (res := none) C hw hl (ok_X11_puts l Z (29 : Int32) u_31 u_38 hc_39) cw_X11_203 im_X11_puts rfl se_X11_puts rfl rfl rfl ⟨Nat.le_trans (Nat.le_of_ble_eq_true rfl) hRf, Nat.le_trans (Nat.le_of_ble_eq_true rfl) hRl⟩ rfl rfl (Nat.le_of_ble_eq_true rfl) dX11_reads_373 (fun H locs hw => ?_)
              refine lv_iinc (v := v1_32 + (-1 : Int32)) (lv' := [(1, .int (v1_32 + (-1 : Int32))), (0, rv Z 1), (2, .int v2_33)]) hx hb dX11_reads_376 hl (k := 1) rfl rfl (by decide) rfl (fun ls hl => ?_)
              obtain ⟨o2, hlp, hf⟩ := gm_bnd hf
              have L379_2 := gm_loop (b_X11_reads_379 v2_33 u_38) (fun x : Int32 => ∀ (H : Heap) (locs : List Loc) (ls : Array Slot), lv_has ls 6 [(0, rv Z 1), (1, .int x), (2, .int v2_33)] → wd GM Z u_38 A s.heap H locs → W p l e R s m args below meth c H locs 0 0 Q (F0 m 379 ls [])) (fun z : Int32 => ∀ (H : Heap) (locs : List Loc) (ls : Array Slot), lv_has ls 6 [(0, rv Z 1), (1, .int z), (2, .int v2_33)] → wd GM Z u_38 A s.heap H locs → W p l e R s m args below meth c H locs 0 0 Q (F0 m 424 ls [])) (by
                intro x o2 hf Kc Kx
                obtain ⟨v1_40, rfl⟩ : ∃ y, y = x := ⟨_, rfl⟩
                intro H locs ls hl hw
                unfold b_X11_reads_379 at hf
                try dsimp only at hf
                refine lv_iload_n hx hb dX11_reads_379 rfl (lv_at hl 1 rfl) ?_
                refine lv_if_le (tgt := 424) hx hb dX11_reads_380 (by decide) (fun hc => ?_) (fun hc => ?_)
                · replace hf := (if_pos hc).symm.trans hf
                  exact Kx _ (gm_si hf) _ _ _ (lv_sub hl [0, 1, 2] rfl) hw
                · replace hf := (if_neg hc).symm.trans hf
                  refine gm_aload_n (G := GM) (r := 1) C rfl dX11_reads_383 rfl (lv_at hl 0 rfl) ?_
                  refine gm_getS (G := GM) (u := u_38) (r := 1) (ci := 10) (k := 20) C hw rfl fl_X11_38 dX11_reads_384 rfl (q := 11) rfl ?_
                  refine lv_iload_n hx hb dX11_reads_387 rfl (lv_at hl 1 rfl) ?_
                  obtain ⟨g_41, hf⟩ := gm_grd hf
                  refine gm_iald (G := GM) (u := u_38) (r := 11) (n := 7) (i := v1_40) C hw rfl g_41 rfl dX11_reads_388 ?_
                  refine lv_iconst (v := 1) hx hb dX11_reads_389 (by decide) ?_
                  refine lv_icmp_ne (tgt := 424) hx hb dX11_reads_390 (by decide) (fun hc => ?_) (fun hc => ?_)
                  · replace hf := (if_neg hc).symm.trans hf
                    exact Kx _ (gm_si hf) _ _ _ (lv_sub hl [0, 1, 2] rfl) hw
                  · replace hf := (if_pos hc).symm.trans hf
                    refine lv_iinc (v := v1_40 + (-1 : Int32)) (lv' := [(1, .int (v1_40 + (-1 : Int32))), (0, rv Z 1), (2, .int v2_33)]) hx hb dX11_reads_393 hl (k := 1) rfl rfl (by decide) rfl (fun ls hl => ?_)
                    refine lv_goto (tgt := 379) hx hb dX11_reads_396 (by decide) ?_
                    exact Kc _ (gm_si hf) _ _ _ (lv_sub hl [1, 0, 2] rfl) hw)
              refine L379_2 _ _ _ hlp ?_ _ _ _ (lv_sub hl [1, 0, 2] rfl) hw
              obtain ⟨w1_42, rfl⟩ : ∃ y, y = o2 := ⟨_, rfl⟩
              intro H locs ls hl hw
              try dsimp only at hf
              exact J424 w1_42 v2_33 u_38 _ _ _ hf  (lv_sub hl [0, 1, 2] rfl) hw
        · replace hf := (if_neg hc).symm.trans hf
          exact J324 v1_32 u_31 _ _ _ hf  (lv_sub hl [0, 1] rfl) hw
    have J289 : ∀ (v1_44 : Int32) (t_45 : Int32) (u_43 : gm_M) (H : Heap) (locs : List Loc) (ls : Array Slot), j_X11_reads_289 v1_44 t_45 u_43 = some o1 → lv_has ls 6 [(0, rv Z 1), (1, .int v1_44)] → wd GM Z u_43 A s.heap H locs → W p l e R s m args below meth c H locs 0 0 Q (F0 m 289 ls [.int t_45, rv Z 1]) := by
      intro v1_44 t_45 u_43 H locs ls hf  hl hw
      unfold j_X11_reads_289 at hf
      obtain ⟨u_46, hc_47, hf⟩ := gm_bnd hf
      refine gm_callV (G := GM) (u := u_43) (u' := u_46) (r := 1) (ci := 10) (As := [.int t_45]) (rest := []) (res := none) C hw hl (ok_X11_puts l Z t_45 u_43 u_46 hc_47) cw_X11_203 im_X11_puts rfl se_X11_puts rfl rfl rfl ⟨Nat.le_trans (Nat.le_of_ble_eq_true rfl) hRf, Nat.le_trans (Nat.le_of_ble_eq_true rfl) hRl⟩ rfl rfl (Nat.le_of_ble_eq_true rfl) dX11_reads_289 (fun H locs hw => ?_)
      refine gm_aload_n (G := GM) (r := 1) C rfl dX11_reads_292 rfl (lv_at hl 0 rfl) ?_
      refine gm_getS (G := GM) (u := u_46) (r := 1) (ci := 10) (k := 21) C hw rfl fl_X11_41 dX11_reads_293 rfl (q := 12) rfl ?_
      refine lv_iload_n hx hb dX11_reads_296 rfl (lv_at hl 1 rfl) ?_
      refine lv_iconst (v := 1) hx hb dX11_reads_297 (by decide) ?_
      obtain ⟨g_48, hf⟩ := gm_grd hf
      refine gm_zast (G := GM) (u := u_46) (r := 12) (n := 7) (i := v1_44) (x := (1 : Int32)) C hw rfl g_48 rfl dX11_reads_298 (fun H locs hw => ?_)
      obtain ⟨u_49, e_u_49, hf⟩ := gm_le hf
      rw [← e_u_49] at hw
      refine lv_iconst (v := 1) hx hb dX11_reads_299 (by decide) ?_
      refine lv_istore_n (i := 2) (lv' := [(2, .int (1 : Int32)), (0, rv Z 1), (1, .int v1_44)]) hx hb dX11_reads_300 rfl hl (by decide) rfl (fun ls hl => ?_)
      refine lv_goto (tgt := 424) hx hb dX11_reads_301 (by decide) ?_
      exact J424 v1_44 (1 : Int32) u_49 _ _ _ hf  (lv_sub hl [1, 2, 0] rfl) hw
    have J263 : ∀ (v1_51 : Int32) (v2_52 : Int32) (u_50 : gm_M) (H : Heap) (locs : List Loc) (ls : Array Slot), j_X11_reads_263 v1_51 v2_52 u_50 = some o1 → lv_has ls 6 [(0, rv Z 1), (1, .int v1_51), (2, .int v2_52)] → wd GM Z u_50 A s.heap H locs → W p l e R s m args below meth c H locs 0 0 Q (F0 m 263 ls []) := by
      intro v1_51 v2_52 u_50 H locs ls hf  hl hw
      unfold j_X11_reads_263 at hf
      refine gm_aload_n (G := GM) (r := 1) C rfl dX11_reads_263 rfl (lv_at hl 0 rfl) ?_
      refine gm_getS (G := GM) (u := u_50) (r := 1) (ci := 10) (k := 21) C hw rfl fl_X11_41 dX11_reads_264 rfl (q := 12) rfl ?_
      refine lv_iload_n hx hb dX11_reads_267 rfl (lv_at hl 1 rfl) ?_
      obtain ⟨g_53, hf⟩ := gm_grd hf
      refine gm_zald (G := GM) (u := u_50) (r := 12) (n := 7) (i := v1_51) C hw rfl g_53 rfl dX11_reads_268 ?_
      refine lv_if_ne (tgt := 304) hx hb dX11_reads_269 (by decide) (fun hc => ?_) (fun hc => ?_)
      · replace hf := (if_neg hc).symm.trans hf
        exact J304 v1_51 v2_52 u_50 _ _ _ hf  (lv_sub hl [0, 1, 2] rfl) hw
      · replace hf := (if_pos hc).symm.trans hf
        refine gm_aload_n (G := GM) (r := 1) C rfl dX11_reads_272 rfl (lv_at hl 0 rfl) ?_
        refine gm_aload_n (G := GM) (r := 1) C rfl dX11_reads_273 rfl (lv_at hl 0 rfl) ?_
        refine lv_bipush (v := 60) hx hb dX11_reads_274 (by decide) ?_
        obtain ⟨r_54, hc_55, hf⟩ := gm_bnd hf
        refine gm_callV (G := GM) (u := u_50) (u' := u_50) (r := 1) (ci := 10) (As := [.int (60 : Int32)]) (rest := [rv Z 1]) (res := (some (.int r_54))) C hw hl (ok_X11_isSign l Z (60 : Int32) u_50 r_54 hc_55) cw_X11_196 im_X11_isSign rfl se_X11_isSign rfl rfl rfl ⟨Nat.le_trans (Nat.le_of_ble_eq_true rfl) hRf, Nat.le_trans (Nat.le_of_ble_eq_true rfl) hRl⟩ rfl rfl (Nat.le_of_ble_eq_true rfl) dX11_reads_276 (fun H locs hw => ?_)
        refine lv_if_eq (tgt := 287) hx hb dX11_reads_279 (by decide) (fun hc => ?_) (fun hc => ?_)
        · replace hf := (if_pos hc).symm.trans hf
          refine lv_bipush (v := 25) hx hb dX11_reads_287 (by decide) ?_
          exact J289 v1_51 (25 : Int32) u_50 _ _ _ hf  (lv_sub hl [0, 1] rfl) hw
        · replace hf := (if_neg hc).symm.trans hf
          refine lv_bipush (v := 24) hx hb dX11_reads_282 (by decide) ?_
          refine lv_goto (tgt := 289) hx hb dX11_reads_284 (by decide) ?_
          exact J289 v1_51 (24 : Int32) u_50 _ _ _ hf  (lv_sub hl [0, 1] rfl) hw
    have J237 : ∀ (v1_57 : Int32) (t_58 : Int32) (u_56 : gm_M) (H : Heap) (locs : List Loc) (ls : Array Slot), j_X11_reads_237 v1_57 t_58 u_56 = some o1 → lv_has ls 6 [(0, rv Z 1), (1, .int v1_57)] → wd GM Z u_56 A s.heap H locs → W p l e R s m args below meth c H locs 0 0 Q (F0 m 237 ls [.int t_58, rv Z 1]) := by
      intro v1_57 t_58 u_56 H locs ls hf  hl hw
      unfold j_X11_reads_237 at hf
      obtain ⟨u_59, hc_60, hf⟩ := gm_bnd hf
      refine gm_callV (G := GM) (u := u_56) (u' := u_59) (r := 1) (ci := 10) (As := [.int t_58]) (rest := []) (res := none) C hw hl (ok_X11_puts l Z t_58 u_56 u_59 hc_60) cw_X11_203 im_X11_puts rfl se_X11_puts rfl rfl rfl ⟨Nat.le_trans (Nat.le_of_ble_eq_true rfl) hRf, Nat.le_trans (Nat.le_of_ble_eq_true rfl) hRl⟩ rfl rfl (Nat.le_of_ble_eq_true rfl) dX11_reads_237 (fun H locs hw => ?_)
      refine lv_iconst (v := 1) hx hb dX11_reads_240 (by decide) ?_
      refine lv_istore_n (i := 2) (lv' := [(2, .int (1 : Int32)), (0, rv Z 1), (1, .int v1_57)]) hx hb dX11_reads_241 rfl hl (by decide) rfl (fun ls hl => ?_)
      refine lv_goto (tgt := 424) hx hb dX11_reads_242 (by decide) ?_
      exact J424 v1_57 (1 : Int32) u_59 _ _ _ hf  (lv_sub hl [1, 2, 0] rfl) hw
    have J206 : ∀ (v1_62 : Int32) (u_61 : gm_M) (H : Heap) (locs : List Loc) (ls : Array Slot), j_X11_reads_206 v1_62 u_61 = some o1 → lv_has ls 6 [(0, rv Z 1), (1, .int v1_62)] → wd GM Z u_61 A s.heap H locs → W p l e R s m args below meth c H locs 0 0 Q (F0 m 206 ls []) := by
      intro v1_62 u_61 H locs ls hf  hl hw
      unfold j_X11_reads_206 at hf
      refine gm_aload_n (G := GM) (r := 1) C rfl dX11_reads_206 rfl (lv_at hl 0 rfl) ?_
      refine gm_aload_n (G := GM) (r := 1) C rfl dX11_reads_207 rfl (lv_at hl 0 rfl) ?_
      refine lv_bipush (v := 43) hx hb dX11_reads_208 (by decide) ?_
      obtain ⟨r_63, hc_64, hf⟩ := gm_bnd hf
      refine gm_callV (G := GM) (u := u_61) (u' := u_61) (r := 1) (ci := 10) (As := [.int (43 : Int32)]) (rest := [rv Z 1]) (res := (some (.int r_63))) C hw hl (ok_X11_isSign l Z (43 : Int32) u_61 r_63 hc_64) cw_X11_196 im_X11_isSign rfl se_X11_isSign rfl rfl rfl ⟨Nat.le_trans (Nat.le_of_ble_eq_true rfl) hRf, Nat.le_trans (Nat.le_of_ble_eq_true rfl) hRl⟩ rfl rfl (Nat.le_of_ble_eq_true rfl) dX11_reads_210 (fun H locs hw => ?_)
      refine lv_if_eq (tgt := 221) hx hb dX11_reads_213 (by decide) (fun hc => ?_) (fun hc => ?_)
      · replace hf := (if_pos hc).symm.trans hf
        refine gm_aload_n (G := GM) (r := 1) C rfl dX11_reads_221 rfl (lv_at hl 0 rfl) ?_
        refine lv_bipush (v := 45) hx hb dX11_reads_222 (by decide) ?_
        obtain ⟨r_65, hc_66, hf⟩ := gm_bnd hf
        refine gm_callV (G := GM) (u := u_61) (u' := u_61) (r := 1) (ci := 10) (As := [.int (45 : Int32)]) (rest := [rv Z 1]) (res := (some (.int r_65))) C hw hl (ok_X11_isSign l Z (45 : Int32) u_61 r_65 hc_66) cw_X11_196 im_X11_isSign rfl se_X11_isSign rfl rfl rfl ⟨Nat.le_trans (Nat.le_of_ble_eq_true rfl) hRf, Nat.le_trans (Nat.le_of_ble_eq_true rfl) hRl⟩ rfl rfl (Nat.le_of_ble_eq_true rfl) dX11_reads_224 (fun H locs hw => ?_)
        refine lv_if_eq (tgt := 235) hx hb dX11_reads_227 (by decide) (fun hc => ?_) (fun hc => ?_)
        · replace hf := (if_pos hc).symm.trans hf
          refine lv_bipush (v := 22) hx hb dX11_reads_235 (by decide) ?_
          exact J237 v1_62 (22 : Int32) u_61 _ _ _ hf  (lv_sub hl [0, 1] rfl) hw
        · replace hf := (if_neg hc).symm.trans hf
          refine lv_bipush (v := 21) hx hb dX11_reads_230 (by decide) ?_
          refine lv_goto (tgt := 237) hx hb dX11_reads_232 (by decide) ?_
          exact J237 v1_62 (21 : Int32) u_61 _ _ _ hf  (lv_sub hl [0, 1] rfl) hw
      · replace hf := (if_neg hc).symm.trans hf
        refine lv_bipush (v := 20) hx hb dX11_reads_216 (by decide) ?_
        refine lv_goto (tgt := 237) hx hb dX11_reads_218 (by decide) ?_
        exact J237 v1_62 (20 : Int32) u_61 _ _ _ hf  (lv_sub hl [0, 1] rfl) hw
    have J172 : ∀ (v1_68 : Int32) (v2_69 : Int32) (u_67 : gm_M) (H : Heap) (locs : List Loc) (ls : Array Slot), j_X11_reads_172 v1_68 v2_69 u_67 = some o1 → lv_has ls 6 [(0, rv Z 1), (1, .int v1_68), (2, .int v2_69)] → wd GM Z u_67 A s.heap H locs → W p l e R s m args below meth c H locs 0 0 Q (F0 m 172 ls []) := by
      intro v1_68 v2_69 u_67 H locs ls hf  hl hw
      unfold j_X11_reads_172 at hf
      refine gm_aload_n (G := GM) (r := 1) C rfl dX11_reads_172 rfl (lv_at hl 0 rfl) ?_
      obtain ⟨u_70, hc_71, hf⟩ := gm_bnd hf
      refine gm_callV (G := GM) (u := u_67) (u' := u_70) (r := 1) (ci := 10) (As := []) (rest := []) (res := none) C hw hl (ok_X11_nextToken l Z u_67 u_70 hc_71) cw_X11_206 im_X11_nextToken rfl se_X11_nextToken rfl rfl rfl ⟨Nat.le_trans (Nat.le_of_ble_eq_true rfl) hRf, Nat.le_trans (Nat.le_of_ble_eq_true rfl) hRl⟩ rfl rfl (Nat.le_of_ble_eq_true rfl) dX11_reads_173 (fun H locs hw => ?_)
      refine lv_goto (tgt := 11) hx hb dX11_reads_176 (by decide) ?_
      exact Kc _ (gm_si hf) _ _ _ (lv_sub hl [0, 1, 2] rfl) hw
    have J147 : ∀ (v1_73 : Int32) (t_74 : Int32) (u_72 : gm_M) (H : Heap) (locs : List Loc) (ls : Array Slot), j_X11_reads_147 v1_73 t_74 u_72 = some o1 → lv_has ls 6 [(0, rv Z 1), (1, .int v1_73)] → wd GM Z u_72 A s.heap H locs → W p l e R s m args below meth c H locs 0 0 Q (F0 m 147 ls [.int t_74, rv Z 1]) := by
      intro v1_73 t_74 u_72 H locs ls hf  hl hw
      unfold j_X11_reads_147 at hf
      obtain ⟨u_75, hc_76, hf⟩ := gm_bnd hf
      refine gm_callV (G := GM) (u := u_72) (u' := u_75) (r := 1) (ci := 10) (As := [.int t_74]) (rest := []) (res := none) C hw hl (ok_X11_puts l Z t_74 u_72 u_75 hc_76) cw_X11_203 im_X11_puts rfl se_X11_puts rfl rfl rfl ⟨Nat.le_trans (Nat.le_of_ble_eq_true rfl) hRf, Nat.le_trans (Nat.le_of_ble_eq_true rfl) hRl⟩ rfl rfl (Nat.le_of_ble_eq_true rfl) dX11_reads_147 (fun H locs hw => ?_)
      refine lv_iconst (v := 0) hx hb dX11_reads_150 (by decide) ?_
      refine lv_istore_n (i := 2) (lv' := [(2, .int (0 : Int32)), (0, rv Z 1), (1, .int v1_73)]) hx hb dX11_reads_151 rfl hl (by decide) rfl (fun ls hl => ?_)
      obtain ⟨o3, hlp, hf⟩ := gm_bnd hf
      have L152_3 := gm_loop (b_X11_reads_152 u_75) (fun x : Int32 => ∀ (H : Heap) (locs : List Loc) (ls : Array Slot), lv_has ls 6 [(0, rv Z 1), (1, .int x), (2, .int (0 : Int32))] → wd GM Z u_75 A s.heap H locs → W p l e R s m args below meth c H locs 0 0 Q (F0 m 152 ls [])) (fun z : Int32 => ∀ (H : Heap) (locs : List Loc) (ls : Array Slot), lv_has ls 6 [(0, rv Z 1), (1, .int z), (2, .int (0 : Int32))] → wd GM Z u_75 A s.heap H locs → W p l e R s m args below meth c H locs 0 0 Q (F0 m 172 ls [])) (by
        intro x o3 hf Kc Kx
        obtain ⟨v1_77, rfl⟩ : ∃ y, y = x := ⟨_, rfl⟩
        intro H locs ls hl hw
        unfold b_X11_reads_152 at hf
        try dsimp only at hf
        refine lv_iload_n hx hb dX11_reads_152 rfl (lv_at hl 1 rfl) ?_
        refine lv_if_le (tgt := 172) hx hb dX11_reads_153 (by decide) (fun hc => ?_) (fun hc => ?_)
        · replace hf := (if_pos hc).symm.trans hf
          exact Kx _ (gm_si hf) _ _ _ (lv_sub hl [0, 1, 2] rfl) hw
        · replace hf := (if_neg hc).symm.trans hf
          refine gm_aload_n (G := GM) (r := 1) C rfl dX11_reads_156 rfl (lv_at hl 0 rfl) ?_
          refine gm_getS (G := GM) (u := u_75) (r := 1) (ci := 10) (k := 20) C hw rfl fl_X11_38 dX11_reads_157 rfl (q := 11) rfl ?_
          refine lv_iload_n hx hb dX11_reads_160 rfl (lv_at hl 1 rfl) ?_
          obtain ⟨g_78, hf⟩ := gm_grd hf
          refine gm_iald (G := GM) (u := u_75) (r := 11) (n := 7) (i := v1_77) C hw rfl g_78 rfl dX11_reads_161 ?_
          refine lv_iconst (v := 1) hx hb dX11_reads_162 (by decide) ?_
          refine lv_icmp_ne (tgt := 172) hx hb dX11_reads_163 (by decide) (fun hc => ?_) (fun hc => ?_)
          · replace hf := (if_neg hc).symm.trans hf
            exact Kx _ (gm_si hf) _ _ _ (lv_sub hl [0, 1, 2] rfl) hw
          · replace hf := (if_pos hc).symm.trans hf
            refine lv_iinc (v := v1_77 + (-1 : Int32)) (lv' := [(1, .int (v1_77 + (-1 : Int32))), (0, rv Z 1), (2, .int (0 : Int32))]) hx hb dX11_reads_166 hl (k := 1) rfl rfl (by decide) rfl (fun ls hl => ?_)
            refine lv_goto (tgt := 152) hx hb dX11_reads_169 (by decide) ?_
            exact Kc _ (gm_si hf) _ _ _ (lv_sub hl [1, 0, 2] rfl) hw)
      refine L152_3 _ _ _ hlp ?_ _ _ _ (lv_sub hl [1, 2, 0] rfl) hw
      obtain ⟨w1_79, rfl⟩ : ∃ y, y = o3 := ⟨_, rfl⟩
      intro H locs ls hl hw
      try dsimp only at hf
      exact J172 w1_79 (0 : Int32) u_75 _ _ _ hf  (lv_sub hl [0, 1, 2] rfl) hw
    have J120 : ∀ (v1_81 : Int32) (v2_82 : Int32) (t_83 : Int32) (t_84 : Int32) (u_80 : gm_M) (H : Heap) (locs : List Loc) (ls : Array Slot), j_X11_reads_120 v1_81 v2_82 t_83 t_84 u_80 = some o1 → lv_has ls 6 [(0, rv Z 1), (1, .int v1_81), (2, .int v2_82)] → wd GM Z u_80 A s.heap H locs → W p l e R s m args below meth c H locs 0 0 Q (F0 m 120 ls [.int t_84, .int t_83, rv Z 11]) := by
      intro v1_81 v2_82 t_83 t_84 u_80 H locs ls hf  hl hw
      unfold j_X11_reads_120 at hf
      obtain ⟨g_85, hf⟩ := gm_grd hf
      refine gm_iast (G := GM) (u := u_80) (r := 11) (n := 7) (i := t_83) (x := t_84) C hw rfl g_85 rfl dX11_reads_120 (fun H locs hw => ?_)
      obtain ⟨u_86, e_u_86, hf⟩ := gm_le hf
      rw [← e_u_86] at hw
      refine gm_aload_n (G := GM) (r := 1) C rfl dX11_reads_121 rfl (lv_at hl 0 rfl) ?_
      refine gm_getS (G := GM) (u := u_86) (r := 1) (ci := 10) (k := 21) C hw rfl fl_X11_41 dX11_reads_122 rfl (q := 12) rfl ?_
      refine lv_iload_n hx hb dX11_reads_125 rfl (lv_at hl 1 rfl) ?_
      refine lv_iconst (v := 0) hx hb dX11_reads_126 (by decide) ?_
      obtain ⟨g_87, hf⟩ := gm_grd hf
      refine gm_zast (G := GM) (u := u_86) (r := 12) (n := 7) (i := v1_81) (x := (0 : Int32)) C hw rfl g_87 rfl dX11_reads_127 (fun H locs hw => ?_)
      obtain ⟨u_88, e_u_88, hf⟩ := gm_le hf
      rw [← e_u_88] at hw
      refine lv_goto (tgt := 172) hx hb dX11_reads_128 (by decide) ?_
      exact J172 v1_81 v2_82 u_88 _ _ _ hf  (lv_sub hl [0, 1, 2] rfl) hw
    have J99 : ∀ (v1_90 : Int32) (v2_91 : Int32) (v4_92 : Int32) (t_93 : Int32) (u_89 : gm_M) (H : Heap) (locs : List Loc) (ls : Array Slot), j_X11_reads_99 v1_90 v2_91 v4_92 t_93 u_89 = some o1 → lv_has ls 6 [(0, rv Z 1), (1, .int v1_90), (2, .int v2_91), (4, .int v4_92)] → wd GM Z u_89 A s.heap H locs → W p l e R s m args below meth c H locs 0 0 Q (F0 m 99 ls [.int t_93, rv Z 1]) := by
      intro v1_90 v2_91 v4_92 t_93 u_89 H locs ls hf  hl hw
      unfold j_X11_reads_99 at hf
      obtain ⟨u_94, hc_95, hf⟩ := gm_bnd hf
      refine gm_callV (G := GM) (u := u_89) (u' := u_94) (r := 1) (ci := 10) (As := [.int t_93]) (rest := []) (res := none) C hw hl (ok_X11_puts l Z t_93 u_89 u_94 hc_95) cw_X11_203 im_X11_puts rfl se_X11_puts rfl rfl rfl ⟨Nat.le_trans (Nat.le_of_ble_eq_true rfl) hRf, Nat.le_trans (Nat.le_of_ble_eq_true rfl) hRl⟩ rfl rfl (Nat.le_of_ble_eq_true rfl) dX11_reads_99 (fun H locs hw => ?_)
      refine lv_iinc (v := v1_90 + (1 : Int32)) (lv' := [(1, .int (v1_90 + (1 : Int32))), (0, rv Z 1), (2, .int v2_91), (4, .int v4_92)]) hx hb dX11_reads_102 hl (k := 1) rfl rfl (by decide) rfl (fun ls hl => ?_)
      refine gm_aload_n (G := GM) (r := 1) C rfl dX11_reads_105 rfl (lv_at hl 1 rfl) ?_
      refine gm_getS (G := GM) (u := u_94) (r := 1) (ci := 10) (k := 20) C hw rfl fl_X11_38 dX11_reads_106 rfl (q := 11) rfl ?_
      refine lv_iload_n hx hb dX11_reads_109 rfl (lv_at hl 0 rfl) ?_
      refine lv_iload hx hb dX11_reads_110 (lv_at hl 3 rfl) ?_
      refine lv_if_eq (tgt := 119) hx hb dX11_reads_112 (by decide) (fun hc => ?_) (fun hc => ?_)
      · replace hf := (if_pos hc).symm.trans hf
        refine lv_iconst (v := 2) hx hb dX11_reads_119 (by decide) ?_
        exact J120 (v1_90 + (1 : Int32)) v2_91 (v1_90 + (1 : Int32)) (2 : Int32) u_94 _ _ _ hf  (lv_sub hl [1, 0, 2] rfl) hw
      · replace hf := (if_neg hc).symm.trans hf
        refine lv_iconst (v := 1) hx hb dX11_reads_115 (by decide) ?_
        refine lv_goto (tgt := 120) hx hb dX11_reads_116 (by decide) ?_
        exact J120 (v1_90 + (1 : Int32)) v2_91 (v1_90 + (1 : Int32)) (1 : Int32) u_94 _ _ _ hf  (lv_sub hl [1, 0, 2] rfl) hw
    have J86 : ∀ (v1_97 : Int32) (v2_98 : Int32) (v4_99 : Int32) (u_96 : gm_M) (H : Heap) (locs : List Loc) (ls : Array Slot), j_X11_reads_86 v1_97 v2_98 v4_99 u_96 = some o1 → lv_has ls 6 [(0, rv Z 1), (1, .int v1_97), (2, .int v2_98), (4, .int v4_99)] → wd GM Z u_96 A s.heap H locs → W p l e R s m args below meth c H locs 0 0 Q (F0 m 86 ls []) := by
      intro v1_97 v2_98 v4_99 u_96 H locs ls hf  hl hw
      unfold j_X11_reads_86 at hf
      refine gm_aload_n (G := GM) (r := 1) C rfl dX11_reads_86 rfl (lv_at hl 0 rfl) ?_
      refine lv_iload hx hb dX11_reads_87 (lv_at hl 3 rfl) ?_
      refine lv_if_eq (tgt := 97) hx hb dX11_reads_89 (by decide) (fun hc => ?_) (fun hc => ?_)
      · replace hf := (if_pos hc).symm.trans hf
        refine lv_bipush (v := 28) hx hb dX11_reads_97 (by decide) ?_
        exact J99 v1_97 v2_98 v4_99 (28 : Int32) u_96 _ _ _ hf  (lv_sub hl [0, 1, 2, 3] rfl) hw
      · replace hf := (if_neg hc).symm.trans hf
        refine lv_bipush (v := 30) hx hb dX11_reads_92 (by decide) ?_
        refine lv_goto (tgt := 99) hx hb dX11_reads_94 (by decide) ?_
        exact J99 v1_97 v2_98 v4_99 (30 : Int32) u_96 _ _ _ hf  (lv_sub hl [0, 1, 2, 3] rfl) hw
    have J65 : ∀ (v1_101 : Int32) (v2_102 : Int32) (v3_103 : Int32) (v4_104 : Int32) (v5_105 : Int32) (u_100 : gm_M) (H : Heap) (locs : List Loc) (ls : Array Slot), j_X11_reads_65 v1_101 v2_102 v3_103 v4_104 v5_105 u_100 = some o1 → lv_has ls 6 [(0, rv Z 1), (1, .int v1_101), (2, .int v2_102), (3, .int v3_103), (4, .int v4_104), (5, .int v5_105)] → wd GM Z u_100 A s.heap H locs → W p l e R s m args below meth c H locs 0 0 Q (F0 m 65 ls []) := by
      intro v1_101 v2_102 v3_103 v4_104 v5_105 u_100 H locs ls hf  hl hw
      unfold j_X11_reads_65 at hf
      refine lv_iload_n hx hb dX11_reads_65 rfl (lv_at hl 1 rfl) ?_
      refine lv_iconst (v := 5) hx hb dX11_reads_66 (by decide) ?_
      refine lv_icmp_ne (tgt := 76) hx hb dX11_reads_67 (by decide) (fun hc => ?_) (fun hc => ?_)
      · replace hf := (if_neg hc).symm.trans hf
        refine lv_iload hx hb dX11_reads_76 (lv_at hl 4 rfl) ?_
        refine lv_if_ne (tgt := 86) hx hb dX11_reads_78 (by decide) (fun hc => ?_) (fun hc => ?_)
        · replace hf := (if_neg hc).symm.trans hf
          exact J86 v1_101 v2_102 v4_104 u_100 _ _ _ hf  (lv_sub hl [0, 1, 2, 4] rfl) hw
        · replace hf := (if_pos hc).symm.trans hf
          refine lv_iload hx hb dX11_reads_81 (lv_at hl 5 rfl) ?_
          refine lv_if_eq (tgt := 131) hx hb dX11_reads_83 (by decide) (fun hc => ?_) (fun hc => ?_)
          · replace hf := (if_pos hc).symm.trans hf
            refine gm_aload_n (G := GM) (r := 1) C rfl dX11_reads_131 rfl (lv_at hl 0 rfl) ?_
            refine lv_iload_n hx hb dX11_reads_132 rfl (lv_at hl 3 rfl) ?_
            refine lv_if_le (tgt := 140) hx hb dX11_reads_133 (by decide) (fun hc => ?_) (fun hc => ?_)
            · replace hf := (if_pos hc).symm.trans hf
              refine lv_bipush (v := 100) hx hb dX11_reads_140 (by decide) ?_
              refine gm_aload_n (G := GM) (r := 1) C rfl dX11_reads_142 rfl (lv_at hl 0 rfl) ?_
              refine gm_getI (G := GM) (u := u_100) (r := 1) (ci := 10) (k := 8) C hw rfl fl_X11_158 dX11_reads_143 rfl ?_
              refine lv_iadd hx hb dX11_reads_146 ?_
              exact J147 v1_101 ((100 : Int32) + (gI u_100 1 8)) u_100 _ _ _ hf  (lv_sub hl [0, 1] rfl) hw
            · replace hf := (if_neg hc).symm.trans hf
              refine lv_iload_n hx hb dX11_reads_136 rfl (lv_at hl 3 rfl) ?_
              refine lv_goto (tgt := 147) hx hb dX11_reads_137 (by decide) ?_
              exact J147 v1_101 v3_103 u_100 _ _ _ hf  (lv_sub hl [0, 1] rfl) hw
          · replace hf := (if_neg hc).symm.trans hf
            exact J86 v1_101 v2_102 v4_104 u_100 _ _ _ hf  (lv_sub hl [0, 1, 2, 4] rfl) hw
      · replace hf := (if_pos hc).symm.trans hf
        exact Kx _ (gm_si hf) _ _ _ (lv_sub hl [0] rfl) hw
    refine lv_iload_n hx hb dX11_reads_11 rfl (lv_at hl 2 rfl) ?_
    refine lv_if_eq (tgt := 179) hx hb dX11_reads_12 (by decide) (fun hc => ?_) (fun hc => ?_)
    · replace hf := (if_pos hc).symm.trans hf
      refine gm_aload_n (G := GM) (r := 1) C rfl dX11_reads_179 rfl (lv_at hl 0 rfl) ?_
      refine lv_bipush (v := 43) hx hb dX11_reads_180 (by decide) ?_
      obtain ⟨r_106, hc_107, hf⟩ := gm_bnd hf
      refine gm_callV (G := GM) (u := u_13) (u' := u_13) (r := 1) (ci := 10) (As := [.int (43 : Int32)]) (rest := []) (res := (some (.int r_106))) C hw hl (ok_X11_isSign l Z (43 : Int32) u_13 r_106 hc_107) cw_X11_196 im_X11_isSign rfl se_X11_isSign rfl rfl rfl ⟨Nat.le_trans (Nat.le_of_ble_eq_true rfl) hRf, Nat.le_trans (Nat.le_of_ble_eq_true rfl) hRl⟩ rfl rfl (Nat.le_of_ble_eq_true rfl) dX11_reads_182 (fun H locs hw => ?_)
      refine lv_if_ne (tgt := 206) hx hb dX11_reads_185 (by decide) (fun hc => ?_) (fun hc => ?_)
      · replace hf := (if_neg hc).symm.trans hf
        exact J206 v1_14 u_13 _ _ _ hf  (lv_sub hl [0, 1] rfl) hw
      · replace hf := (if_pos hc).symm.trans hf
        refine gm_aload_n (G := GM) (r := 1) C rfl dX11_reads_188 rfl (lv_at hl 0 rfl) ?_
        refine lv_bipush (v := 45) hx hb dX11_reads_189 (by decide) ?_
        obtain ⟨r_108, hc_109, hf⟩ := gm_bnd hf
        refine gm_callV (G := GM) (u := u_13) (u' := u_13) (r := 1) (ci := 10) (As := [.int (45 : Int32)]) (rest := []) (res := (some (.int r_108))) C hw hl (ok_X11_isSign l Z (45 : Int32) u_13 r_108 hc_109) cw_X11_196 im_X11_isSign rfl se_X11_isSign rfl rfl rfl ⟨Nat.le_trans (Nat.le_of_ble_eq_true rfl) hRf, Nat.le_trans (Nat.le_of_ble_eq_true rfl) hRl⟩ rfl rfl (Nat.le_of_ble_eq_true rfl) dX11_reads_191 (fun H locs hw => ?_)
        refine lv_if_ne (tgt := 206) hx hb dX11_reads_194 (by decide) (fun hc => ?_) (fun hc => ?_)
        · replace hf := (if_neg hc).symm.trans hf
          exact J206 v1_14 u_13 _ _ _ hf  (lv_sub hl [0, 1] rfl) hw
        · replace hf := (if_pos hc).symm.trans hf
          refine gm_aload_n (G := GM) (r := 1) C rfl dX11_reads_197 rfl (lv_at hl 0 rfl) ?_
          refine lv_bipush (v := 42) hx hb dX11_reads_198 (by decide) ?_
          obtain ⟨r_110, hc_111, hf⟩ := gm_bnd hf
          refine gm_callV (G := GM) (u := u_13) (u' := u_13) (r := 1) (ci := 10) (As := [.int (42 : Int32)]) (rest := []) (res := (some (.int r_110))) C hw hl (ok_X11_isSign l Z (42 : Int32) u_13 r_110 hc_111) cw_X11_196 im_X11_isSign rfl se_X11_isSign rfl rfl rfl ⟨Nat.le_trans (Nat.le_of_ble_eq_true rfl) hRf, Nat.le_trans (Nat.le_of_ble_eq_true rfl) hRl⟩ rfl rfl (Nat.le_of_ble_eq_true rfl) dX11_reads_200 (fun H locs hw => ?_)
          refine lv_if_eq (tgt := 245) hx hb dX11_reads_203 (by decide) (fun hc => ?_) (fun hc => ?_)
          · replace hf := (if_pos hc).symm.trans hf
            refine gm_aload_n (G := GM) (r := 1) C rfl dX11_reads_245 rfl (lv_at hl 0 rfl) ?_
            refine lv_bipush (v := 60) hx hb dX11_reads_246 (by decide) ?_
            obtain ⟨r_112, hc_113, hf⟩ := gm_bnd hf
            refine gm_callV (G := GM) (u := u_13) (u' := u_13) (r := 1) (ci := 10) (As := [.int (60 : Int32)]) (rest := []) (res := (some (.int r_112))) C hw hl (ok_X11_isSign l Z (60 : Int32) u_13 r_112 hc_113) cw_X11_196 im_X11_isSign rfl se_X11_isSign rfl rfl rfl ⟨Nat.le_trans (Nat.le_of_ble_eq_true rfl) hRf, Nat.le_trans (Nat.le_of_ble_eq_true rfl) hRl⟩ rfl rfl (Nat.le_of_ble_eq_true rfl) dX11_reads_248 (fun H locs hw => ?_)
            refine lv_if_ne (tgt := 263) hx hb dX11_reads_251 (by decide) (fun hc => ?_) (fun hc => ?_)
            · replace hf := (if_neg hc).symm.trans hf
              exact J263 v1_14 v2_15 u_13 _ _ _ hf  (lv_sub hl [0, 1, 2] rfl) hw
            · replace hf := (if_pos hc).symm.trans hf
              refine gm_aload_n (G := GM) (r := 1) C rfl dX11_reads_254 rfl (lv_at hl 0 rfl) ?_
              refine lv_bipush (v := 61) hx hb dX11_reads_255 (by decide) ?_
              obtain ⟨r_114, hc_115, hf⟩ := gm_bnd hf
              refine gm_callV (G := GM) (u := u_13) (u' := u_13) (r := 1) (ci := 10) (As := [.int (61 : Int32)]) (rest := []) (res := (some (.int r_114))) C hw hl (ok_X11_isSign l Z (61 : Int32) u_13 r_114 hc_115) cw_X11_196 im_X11_isSign rfl se_X11_isSign rfl rfl rfl ⟨Nat.le_trans (Nat.le_of_ble_eq_true rfl) hRf, Nat.le_trans (Nat.le_of_ble_eq_true rfl) hRl⟩ rfl rfl (Nat.le_of_ble_eq_true rfl) dX11_reads_257 (fun H locs hw => ?_)
              refine lv_if_eq (tgt := 304) hx hb dX11_reads_260 (by decide) (fun hc => ?_) (fun hc => ?_)
              · replace hf := (if_pos hc).symm.trans hf
                exact J304 v1_14 v2_15 u_13 _ _ _ hf  (lv_sub hl [0, 1, 2] rfl) hw
              · replace hf := (if_neg hc).symm.trans hf
                exact J263 v1_14 v2_15 u_13 _ _ _ hf  (lv_sub hl [0, 1, 2] rfl) hw
          · replace hf := (if_neg hc).symm.trans hf
            exact J206 v1_14 u_13 _ _ _ hf  (lv_sub hl [0, 1] rfl) hw
    · replace hf := (if_neg hc).symm.trans hf
      refine gm_aload_n (G := GM) (r := 1) C rfl dX11_reads_15 rfl (lv_at hl 0 rfl) ?_
      obtain ⟨r_116, e_r_116, hf⟩ := gm_le hf
      refine gm_callV (G := GM) (u := u_13) (u' := u_13) (r := 1) (ci := 10) (As := []) (rest := []) (res := (some (.int (f_X11_fact u_13)))) C hw hl (ok_X11_fact l Z u_13) cw_X11_186 im_X11_fact rfl se_X11_fact rfl rfl rfl ⟨Nat.le_trans (Nat.le_of_ble_eq_true rfl) hRf, Nat.le_trans (Nat.le_of_ble_eq_true rfl) hRl⟩ rfl rfl (Nat.le_of_ble_eq_true rfl) dX11_reads_16 (fun H locs hw => ?_)
      refine gm_topI e_r_116 ?_
      refine lv_istore_n (i := 3) (lv' := [(3, .int r_116), (0, rv Z 1), (1, .int v1_14), (2, .int v2_15)]) hx hb dX11_reads_19 rfl hl (by decide) rfl (fun ls hl => ?_)
      refine gm_aload_n (G := GM) (r := 1) C rfl dX11_reads_20 rfl (lv_at hl 1 rfl) ?_
      refine lv_ldc2 hx hb C.2.2.2.1 (C.2.2.2.2.1 _ kn_X11_190) dX11_reads_21 ?_
      obtain ⟨r_117, e_r_117, hf⟩ := gm_le hf
      refine gm_callV (G := GM) (u := u_13) (u' := u_13) (r := 1) (ci := 10) (As := [.long (10631 : Int64)]) (rest := []) (res := (some (.int (f_X11_isWord (10631 : Int64) u_13)))) C hw hl (ok_X11_isWord l Z (10631 : Int64) u_13) cw_X11_192 im_X11_isWord rfl se_X11_isWord rfl rfl rfl ⟨Nat.le_trans (Nat.le_of_ble_eq_true rfl) hRf, Nat.le_trans (Nat.le_of_ble_eq_true rfl) hRl⟩ rfl rfl (Nat.le_of_ble_eq_true rfl) dX11_reads_24 (fun H locs hw => ?_)
      refine gm_topI e_r_117 ?_
      refine lv_istore (i := 4) (lv' := [(4, .int r_117), (3, .int r_116), (0, rv Z 1), (1, .int v1_14), (2, .int v2_15)]) hx hb dX11_reads_27 hl (by decide) rfl (fun ls hl => ?_)
      refine gm_aload_n (G := GM) (r := 1) C rfl dX11_reads_29 rfl (lv_at hl 2 rfl) ?_
      refine lv_bipush (v := 40) hx hb dX11_reads_30 (by decide) ?_
      obtain ⟨r_118, hc_119, hf⟩ := gm_bnd hf
      refine gm_callV (G := GM) (u := u_13) (u' := u_13) (r := 1) (ci := 10) (As := [.int (40 : Int32)]) (rest := []) (res := (some (.int r_118))) C hw hl (ok_X11_isSign l Z (40 : Int32) u_13 r_118 hc_119) cw_X11_196 im_X11_isSign rfl se_X11_isSign rfl rfl rfl ⟨Nat.le_trans (Nat.le_of_ble_eq_true rfl) hRf, Nat.le_trans (Nat.le_of_ble_eq_true rfl) hRl⟩ rfl rfl (Nat.le_of_ble_eq_true rfl) dX11_reads_32 (fun H locs hw => ?_)
      refine lv_istore (i := 5) (lv' := [(5, .int r_118), (4, .int r_117), (3, .int r_116), (0, rv Z 1), (1, .int v1_14), (2, .int v2_15)]) hx hb dX11_reads_35 hl (by decide) rfl (fun ls hl => ?_)
      refine lv_iload_n hx hb dX11_reads_37 rfl (lv_at hl 2 rfl) ?_
      refine lv_if_ne (tgt := 65) hx hb dX11_reads_38 (by decide) (fun hc => ?_) (fun hc => ?_)
      · replace hf := (if_neg hc).symm.trans hf
        exact J65 v1_14 v2_15 r_116 r_117 r_118 u_13 _ _ _ hf  (lv_sub hl [3, 4, 5, 2, 1, 0] rfl) hw
      · replace hf := (if_pos hc).symm.trans hf
        refine lv_iload hx hb dX11_reads_41 (lv_at hl 1 rfl) ?_
        refine lv_if_ne (tgt := 65) hx hb dX11_reads_43 (by decide) (fun hc => ?_) (fun hc => ?_)
        · replace hf := (if_neg hc).symm.trans hf
          exact J65 v1_14 v2_15 r_116 r_117 r_118 u_13 _ _ _ hf  (lv_sub hl [3, 4, 5, 2, 1, 0] rfl) hw
        · replace hf := (if_pos hc).symm.trans hf
          refine lv_iload hx hb dX11_reads_46 (lv_at hl 0 rfl) ?_
          refine lv_if_ne (tgt := 65) hx hb dX11_reads_48 (by decide) (fun hc => ?_) (fun hc => ?_)
          · replace hf := (if_neg hc).symm.trans hf
            exact J65 v1_14 v2_15 r_116 r_117 r_118 u_13 _ _ _ hf  (lv_sub hl [3, 4, 5, 2, 1, 0] rfl) hw
          · replace hf := (if_pos hc).symm.trans hf
            refine gm_aload_n (G := GM) (r := 1) C rfl dX11_reads_51 rfl (lv_at hl 3 rfl) ?_
            refine gm_getI (G := GM) (u := u_13) (r := 1) (ci := 10) (k := 6) C hw rfl fl_X11_161 dX11_reads_52 rfl ?_
            refine lv_iconst (v := 2) hx hb dX11_reads_55 (by decide) ?_
            refine lv_icmp_eq (tgt := 65) hx hb dX11_reads_56 (by decide) (fun hc => ?_) (fun hc => ?_)
            · replace hf := (if_pos hc).symm.trans hf
              exact J65 v1_14 v2_15 r_116 r_117 r_118 u_13 _ _ _ hf  (lv_sub hl [3, 4, 5, 2, 1, 0] rfl) hw
            · replace hf := (if_neg hc).symm.trans hf
              exact Kx _ (gm_si hf) _ _ _ (lv_sub hl [3] rfl) hw)
  refine L11_3 _ _ _ hlp ?_ _ _ _ (lv_sub hl [2, 1, 0] rfl) hw
  cases o1 with
  | inl q0_z_132 =>
    obtain ⟨u_120, rfl⟩ : ∃ y, y = q0_z_132 := ⟨_, rfl⟩
    intro H locs ls hl hw
    try dsimp only at hf
    refine gm_aload_n (G := GM) (r := 1) C rfl dX11_reads_59 rfl (lv_at hl 0 rfl) ?_
    refine lv_iconst (v := 1) hx hb dX11_reads_60 (by decide) ?_
    obtain ⟨⟨r_121, u_122⟩, hc_123, hf⟩ := gm_bnd hf
    try dsimp only at hf
    refine gm_callV (G := GM) (u := u_120) (u' := u_122) (r := 1) (ci := 10) (As := [.int (1 : Int32)]) (rest := []) (res := (some (.int r_121))) C hw hl (ok_X11_fails l Z (1 : Int32) u_120 r_121 u_122 hc_123) cw_X11_200 im_X11_fails rfl se_X11_fails rfl rfl rfl ⟨Nat.le_trans (Nat.le_of_ble_eq_true rfl) hRf, Nat.le_trans (Nat.le_of_ble_eq_true rfl) hRl⟩ rfl rfl (Nat.le_of_ble_eq_true rfl) dX11_reads_61 (fun H locs hw => ?_)
    exact gm_zret C E hw rfl rfl ((congrArg (fun z => some (Value.int z)) (gm_sp hf).1).symm) (gm_sp hf).2.symm dX11_reads_64
  | inr p0_z_132 =>
    cases p0_z_132 with
    | inl q1_z_132 =>
      obtain ⟨u_125, rfl⟩ : ∃ y, y = q1_z_132 := ⟨_, rfl⟩
      intro H locs ls hl hw
      try dsimp only at hf
      refine gm_aload_n (G := GM) (r := 1) C rfl dX11_reads_70 rfl (lv_at hl 0 rfl) ?_
      refine lv_iconst (v := 5) hx hb dX11_reads_71 (by decide) ?_
      obtain ⟨⟨r_126, u_127⟩, hc_128, hf⟩ := gm_bnd hf
      try dsimp only at hf
      refine gm_callV (G := GM) (u := u_125) (u' := u_127) (r := 1) (ci := 10) (As := [.int (5 : Int32)]) (rest := []) (res := (some (.int r_126))) C hw hl (ok_X11_fails l Z (5 : Int32) u_125 r_126 u_127 hc_128) cw_X11_200 im_X11_fails rfl se_X11_fails rfl rfl rfl ⟨Nat.le_trans (Nat.le_of_ble_eq_true rfl) hRf, Nat.le_trans (Nat.le_of_ble_eq_true rfl) hRl⟩ rfl rfl (Nat.le_of_ble_eq_true rfl) dX11_reads_72 (fun H locs hw => ?_)
      exact gm_zret C E hw rfl rfl ((congrArg (fun z => some (Value.int z)) (gm_sp hf).1).symm) (gm_sp hf).2.symm dX11_reads_75
    | inr p1_z_132 =>
      obtain ⟨w1_130, u_131⟩ := p1_z_132
      intro H locs ls hl hw
      try dsimp only at hf
      exact J399 w1_130 u_131 _ _ _ hf  (lv_sub hl [0, 1] rfl) hw
