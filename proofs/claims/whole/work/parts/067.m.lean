/-! LeapCapital.swapInRow -/
def f_X10_swapInRow (a1 : Int32) (a2 : Int32) (u : gm_M) : Option gm_M := if a1 < 0 then some u else if a2 < 0 then some u else if (6 : Int32) ≤ a1 then some u else if a2 < (6 : Int32) then if ib a1 6 = true then gm_let (gI u 44 (ix a1)) fun v3_2 => if ib a2 6 = true then gm_let (sI u 44 (ix a1) (gI u 44 (ix a2))) fun u_4 => gm_let (sI u_4 44 (ix a2) v3_2) fun u_5 => some u_5 else none else none else some u
set_option maxRecDepth 100000 in
set_option maxHeartbeats 4000000 in
theorem ok_X10_swapInRow (l : Launch) (Z : gm_Z) (a1 : Int32) (a2 : Int32) (u : gm_M)  (u' : gm_M) (hf : f_X10_swapInRow a1 a2 u = some (u')) : gm_Met l GC Z yX10_swapInRow cX10_swapInRow 4 none ({ frames := 0, cells := 0, slots := 0, locals := 0 }) [rv Z 1, .int a1, .int a2] u none u' := by
  unfold f_X10_swapInRow at hf
  refine gm_ofW (by decide +kernel) (Nat.le_of_ble_eq_true rfl) ?_
  intro p e s m args below meth c A ls Q R hRf hRl C E hl hw
  obtain ⟨hx, hb, -⟩ := id C
  have hl : lv_has ls 4 [(0, rv Z 1), (1, .int a1), (2, .int a2)] := hl
  refine lv_iload_n hx hb dX10_swapInRow_0 rfl (lv_at hl 1 rfl) ?_
  refine lv_if_lt (tgt := 26) hx hb dX10_swapInRow_1 (by decide) (fun hc => ?_) (fun hc => ?_)
  · replace hf := (if_pos hc).symm.trans hf
    exact gm_vret C E hw rfl rfl (Option.some.inj hf).symm dX10_swapInRow_26
  · replace hf := (if_neg hc).symm.trans hf
    refine lv_iload_n hx hb dX10_swapInRow_4 rfl (lv_at hl 2 rfl) ?_
    refine lv_if_lt (tgt := 26) hx hb dX10_swapInRow_5 (by decide) (fun hc => ?_) (fun hc => ?_)
    · replace hf := (if_pos hc).symm.trans hf
      exact gm_vret C E hw rfl rfl (Option.some.inj hf).symm dX10_swapInRow_26
    · replace hf := (if_neg hc).symm.trans hf
      refine lv_iload_n hx hb dX10_swapInRow_8 rfl (lv_at hl 1 rfl) ?_
      refine gm_aload_n (G := GC) (r := 1) C rfl dX10_swapInRow_9 rfl (lv_at hl 0 rfl) ?_
      refine gm_getS (G := GC) (u := u) (r := 1) (ci := 9) (k := 13) C hw rfl fl_X10_74 dX10_swapInRow_10 rfl (q := 44) rfl ?_
      refine gm_alen (G := GC) (u := u) (r := 44) (t := 0) (n := 6) (v := 6) C hw rfl (by decide) (by decide) dX10_swapInRow_13 ?_
      refine lv_icmp_ge (tgt := 26) hx hb dX10_swapInRow_14 (by decide) (fun hc => ?_) (fun hc => ?_)
      · replace hf := (if_pos hc).symm.trans hf
        exact gm_vret C E hw rfl rfl (Option.some.inj hf).symm dX10_swapInRow_26
      · replace hf := (if_neg hc).symm.trans hf
        refine lv_iload_n hx hb dX10_swapInRow_17 rfl (lv_at hl 2 rfl) ?_
        refine gm_aload_n (G := GC) (r := 1) C rfl dX10_swapInRow_18 rfl (lv_at hl 0 rfl) ?_
        refine gm_getS (G := GC) (u := u) (r := 1) (ci := 9) (k := 13) C hw rfl fl_X10_74 dX10_swapInRow_19 rfl (q := 44) rfl ?_
        refine gm_alen (G := GC) (u := u) (r := 44) (t := 0) (n := 6) (v := 6) C hw rfl (by decide) (by decide) dX10_swapInRow_22 ?_
        refine lv_icmp_lt (tgt := 27) hx hb dX10_swapInRow_23 (by decide) (fun hc => ?_) (fun hc => ?_)
        · replace hf := (if_pos hc).symm.trans hf
          refine gm_aload_n (G := GC) (r := 1) C rfl dX10_swapInRow_27 rfl (lv_at hl 0 rfl) ?_
          refine gm_getS (G := GC) (u := u) (r := 1) (ci := 9) (k := 13) C hw rfl fl_X10_74 dX10_swapInRow_28 rfl (q := 44) rfl ?_
          refine lv_iload_n hx hb dX10_swapInRow_31 rfl (lv_at hl 1 rfl) ?_
          obtain ⟨g_1, hf⟩ := gm_grd hf
          refine gm_iald (G := GC) (u := u) (r := 44) (n := 6) (i := a1) C hw rfl g_1 rfl dX10_swapInRow_32 ?_
          obtain ⟨v3_2, e_v3_2, hf⟩ := gm_le hf
          refine gm_topI e_v3_2 ?_
          refine lv_istore_n (i := 3) (lv' := [(3, .int v3_2), (0, rv Z 1), (1, .int a1), (2, .int a2)]) hx hb dX10_swapInRow_33 rfl hl (by decide) rfl (fun ls hl => ?_)
          refine gm_aload_n (G := GC) (r := 1) C rfl dX10_swapInRow_34 rfl (lv_at hl 1 rfl) ?_
          refine gm_getS (G := GC) (u := u) (r := 1) (ci := 9) (k := 13) C hw rfl fl_X10_74 dX10_swapInRow_35 rfl (q := 44) rfl ?_
          refine lv_iload_n hx hb dX10_swapInRow_38 rfl (lv_at hl 2 rfl) ?_
          refine gm_aload_n (G := GC) (r := 1) C rfl dX10_swapInRow_39 rfl (lv_at hl 1 rfl) ?_
          refine gm_getS (G := GC) (u := u) (r := 1) (ci := 9) (k := 13) C hw rfl fl_X10_74 dX10_swapInRow_40 rfl (q := 44) rfl ?_
          refine lv_iload_n hx hb dX10_swapInRow_43 rfl (lv_at hl 3 rfl) ?_
          obtain ⟨g_3, hf⟩ := gm_grd hf
          refine gm_iald (G := GC) (u := u) (r := 44) (n := 6) (i := a2) C hw rfl g_3 rfl dX10_swapInRow_44 ?_
          refine gm_iast (G := GC) (u := u) (r := 44) (n := 6) (i := a1) (x := gI u 44 (ix a2)) C hw rfl g_1 rfl dX10_swapInRow_45 (fun H locs hw => ?_)
          obtain ⟨u_4, e_u_4, hf⟩ := gm_le hf
          rw [← e_u_4] at hw
          refine gm_aload_n (G := GC) (r := 1) C rfl dX10_swapInRow_46 rfl (lv_at hl 1 rfl) ?_
          refine gm_getS (G := GC) (u := u_4) (r := 1) (ci := 9) (k := 13) C hw rfl fl_X10_74 dX10_swapInRow_47 rfl (q := 44) rfl ?_
          refine lv_iload_n hx hb dX10_swapInRow_50 rfl (lv_at hl 3 rfl) ?_
          refine lv_iload_n hx hb dX10_swapInRow_51 rfl (lv_at hl 0 rfl) ?_
          refine gm_iast (G := GC) (u := u_4) (r := 44) (n := 6) (i := a2) (x := v3_2) C hw rfl g_3 rfl dX10_swapInRow_52 (fun H locs hw => ?_)
          obtain ⟨u_5, e_u_5, hf⟩ := gm_le hf
          rw [← e_u_5] at hw
          exact gm_vret C E hw rfl rfl (Option.some.inj hf).symm dX10_swapInRow_53
        · replace hf := (if_neg hc).symm.trans hf
          exact gm_vret C E hw rfl rfl (Option.some.inj hf).symm dX10_swapInRow_26
/-! LeapCapital.nextRow -/
def b_X10_nextRow_94 (a1 : Int32) : (Int32 × Int32 × gm_M) → Option ((Int32 × Int32 × gm_M) ⊕ gm_M) := fun x => match x with | (v4_9, v5_10, u_8) => if v5_10 ≤ v4_9 then some (.inr u_8) else (f_X10_swapInRow v4_9 v5_10 u_8).bind fun u_11 => some (.inl (v4_9 + (1 : Int32), v5_10 + (-1 : Int32), u_11))
def j_X10_nextRow_78 (a1 : Int32) (v2_2 : Int32) (v3_3 : Int32) (u_1 : gm_M) : Option (Int32 × gm_M) := (f_X10_swapInRow v2_2 v3_3 u_1).bind fun u_4 => gm_let (v2_2 + (1 : Int32)) fun v4_6 => gm_let (a1 - (1 : Int32)) fun v5_7 => ((gm_lp (b_X10_nextRow_94 a1) gm_FU (v4_6, v5_7, u_4)).bind fun o => match o with | u_13 => some ((1 : Int32), u_13))
def b_X10_nextRow_52 (a1 : Int32) (v2_15 : Int32) (u_14 : gm_M) : Int32 → Option (Int32 ⊕ Int32) := fun x => match x with | v3_17 => if v3_17 ≤ v2_15 then some (.inr v3_17) else if ib v3_17 6 = true then if ib v2_15 6 = true then if (gI u_14 44 (ix v2_15)) ≤ (gI u_14 44 (ix v3_17)) then some (.inr v3_17) else some (.inl (v3_17 + (-1 : Int32))) else none else none
def j_X10_nextRow_42 (a1 : Int32) (v2_15 : Int32) (u_14 : gm_M) : Option (Int32 × gm_M) := if 0 ≤ v2_15 then gm_let (a1 - (1 : Int32)) fun v3_16 => ((gm_lp (b_X10_nextRow_52 a1 v2_15 u_14) gm_FU v3_16).bind fun o => match o with | w3_20 => j_X10_nextRow_78 a1 v2_15 w3_20 u_14) else some ((0 : Int32), u_14)
def b_X10_nextRow_15 (a1 : Int32) (u : gm_M) : Int32 → Option (Int32 ⊕ Int32) := fun x => match x with | v2_22 => if v2_22 < 0 then some (.inr v2_22) else if ib v2_22 6 = true then if ib (v2_22 + (1 : Int32)) 6 = true then if (gI u 44 (ix v2_22)) ≤ (gI u 44 (ix (v2_22 + (1 : Int32)))) then some (.inr v2_22) else some (.inl (v2_22 + (-1 : Int32))) else none else none
def f_X10_nextRow (a1 : Int32) (u : gm_M) : Option (Int32 × gm_M) := if a1 ≤ (6 : Int32) then gm_let (a1 - (2 : Int32)) fun v2_21 => ((gm_lp (b_X10_nextRow_15 a1 u) gm_FU v2_21).bind fun o => match o with | w2_25 => j_X10_nextRow_42 a1 w2_25 u) else some ((0 : Int32), u)
set_option maxRecDepth 100000 in
set_option maxHeartbeats 4000000 in
theorem ok_X10_nextRow (l : Launch) (Z : gm_Z) (a1 : Int32) (u : gm_M)  (r : Int32) (u' : gm_M) (hf : f_X10_nextRow a1 u = some (r, u')) : gm_Met l GC Z yX10_nextRow cX10_nextRow 6 (some .boolean) ({ frames := 1, cells := 0, slots := 0, locals := 23 }) [rv Z 1, .int a1] u (some (.int r)) u' := by
  unfold f_X10_nextRow at hf
  refine gm_ofW (by decide +kernel) (Nat.le_of_ble_eq_true rfl) ?_
  intro p e s m args below meth c A ls Q R hRf hRl C E hl hw
  obtain ⟨hx, hb, -⟩ := id C
  have hl : lv_has ls 6 [(0, rv Z 1), (1, .int a1)] := hl
  have J78 : ∀ (v2_2 : Int32) (v3_3 : Int32) (u_1 : gm_M) (H : Heap) (locs : List Loc) (ls : Array Slot), j_X10_nextRow_78 a1 v2_2 v3_3 u_1 = some (r, u') → lv_has ls 6 [(0, rv Z 1), (1, .int a1), (2, .int v2_2), (3, .int v3_3)] → wd GC Z u_1 A s.heap H locs → W p l e R s m args below meth c H locs 0 0 Q (F0 m 78 ls []) := by
    intro v2_2 v3_3 u_1 H locs ls hf  hl hw
    unfold j_X10_nextRow_78 at hf
    refine gm_aload_n (G := GC) (r := 1) C rfl dX10_nextRow_78 rfl (lv_at hl 0 rfl) ?_
    refine lv_iload_n hx hb dX10_nextRow_79 rfl (lv_at hl 2 rfl) ?_
    refine lv_iload_n hx hb dX10_nextRow_80 rfl (lv_at hl 3 rfl) ?_
    obtain ⟨u_4, hc_5, hf⟩ := gm_bnd hf
    refine gm_callV (G := GC) (u := u_1) (u' := u_4) (r := 1) (ci := 9) (As := [.int v2_2, .int v3_3]) (rest := []) (res := none) C hw hl (ok_X10_swapInRow l Z v2_2 v3_3 u_1 u_4 hc_5) cw_X10_283 im_X10_swapInRow rfl se_X10_swapInRow rfl rfl rfl ⟨Nat.le_trans (Nat.le_of_ble_eq_true rfl) hRf, Nat.le_trans (Nat.le_of_ble_eq_true rfl) hRl⟩ rfl rfl (Nat.le_of_ble_eq_true rfl) dX10_nextRow_81 (fun H locs hw => ?_)
    refine lv_iload_n hx hb dX10_nextRow_84 rfl (lv_at hl 2 rfl) ?_
    refine lv_iconst (v := 1) hx hb dX10_nextRow_85 (by decide) ?_
    refine lv_iadd hx hb dX10_nextRow_86 ?_
    obtain ⟨v4_6, e_v4_6, hf⟩ := gm_le hf
    refine gm_topI e_v4_6 ?_
    refine lv_istore (i := 4) (lv' := [(4, .int v4_6), (0, rv Z 1), (1, .int a1), (2, .int v2_2), (3, .int v3_3)]) hx hb dX10_nextRow_87 hl (by decide) rfl (fun ls hl => ?_)
    refine lv_iload_n hx hb dX10_nextRow_89 rfl (lv_at hl 2 rfl) ?_
    refine lv_iconst (v := 1) hx hb dX10_nextRow_90 (by decide) ?_
    refine lv_isub hx hb dX10_nextRow_91 ?_
    obtain ⟨v5_7, e_v5_7, hf⟩ := gm_le hf
    refine gm_topI e_v5_7 ?_
    refine lv_istore (i := 5) (lv' := [(5, .int v5_7), (4, .int v4_6), (0, rv Z 1), (1, .int a1), (2, .int v2_2), (3, .int v3_3)]) hx hb dX10_nextRow_92 hl (by decide) rfl (fun ls hl => ?_)
    obtain ⟨o1, hlp, hf⟩ := gm_bnd hf
    have L94_1 := gm_loop (b_X10_nextRow_94 a1) (fun x : (Int32 × Int32 × gm_M) => ∀ (H : Heap) (locs : List Loc) (ls : Array Slot), lv_has ls 6 [(0, rv Z 1), (4, .int x.1), (5, .int x.2.1)] → wd GC Z x.2.2 A s.heap H locs → W p l e R s m args below meth c H locs 0 0 Q (F0 m 94 ls [])) (fun z : gm_M => ∀ (H : Heap) (locs : List Loc) (ls : Array Slot), lv_has ls 6 [] → wd GC Z z A s.heap H locs → W p l e R s m args below meth c H locs 0 0 Q (F0 m 118 ls [])) (by
      intro x o1 hf Kc Kx
      obtain ⟨v4_9, v5_10, u_8⟩ := x
      intro H locs ls hl hw
      unfold b_X10_nextRow_94 at hf
      try dsimp only at hf
      refine lv_iload hx hb dX10_nextRow_94 (lv_at hl 1 rfl) ?_
      refine lv_iload hx hb dX10_nextRow_96 (lv_at hl 2 rfl) ?_
      refine lv_icmp_ge (tgt := 118) hx hb dX10_nextRow_98 (by decide) (fun hc => ?_) (fun hc => ?_)
      · replace hf := (if_pos hc).symm.trans hf
        exact Kx _ (gm_si hf) _ _ _ (lv_sub hl [] rfl) hw
      · replace hf := (if_neg hc).symm.trans hf
        refine gm_aload_n (G := GC) (r := 1) C rfl dX10_nextRow_101 rfl (lv_at hl 0 rfl) ?_
        refine lv_iload hx hb dX10_nextRow_102 (lv_at hl 1 rfl) ?_
        refine lv_iload hx hb dX10_nextRow_104 (lv_at hl 2 rfl) ?_
        obtain ⟨u_11, hc_12, hf⟩ := gm_bnd hf
        refine gm_callV (G := GC) (u := u_8) (u' := u_11) (r := 1) (ci := 9) (As := [.int v4_9, .int v5_10]) (rest := []) (res := none) C hw hl (ok_X10_swapInRow l Z v4_9 v5_10 u_8 u_11 hc_12) cw_X10_283 im_X10_swapInRow rfl se_X10_swapInRow rfl rfl rfl ⟨Nat.le_trans (Nat.le_of_ble_eq_true rfl) hRf, Nat.le_trans (Nat.le_of_ble_eq_true rfl) hRl⟩ rfl rfl (Nat.le_of_ble_eq_true rfl) dX10_nextRow_106 (fun H locs hw => ?_)
        refine lv_iinc (v := v4_9 + (1 : Int32)) (lv' := [(4, .int (v4_9 + (1 : Int32))), (0, rv Z 1), (5, .int v5_10)]) hx hb dX10_nextRow_109 hl (k := 1) rfl rfl (by decide) rfl (fun ls hl => ?_)
        refine lv_iinc (v := v5_10 + (-1 : Int32)) (lv' := [(5, .int (v5_10 + (-1 : Int32))), (4, .int (v4_9 + (1 : Int32))), (0, rv Z 1)]) hx hb dX10_nextRow_112 hl (k := 2) rfl rfl (by decide) rfl (fun ls hl => ?_)
        refine lv_goto (tgt := 94) hx hb dX10_nextRow_115 (by decide) ?_
        exact Kc _ (gm_si hf) _ _ _ (lv_sub hl [2, 1, 0] rfl) hw)
    refine L94_1 _ _ _ hlp ?_ _ _ _ (lv_sub hl [2, 1, 0] rfl) hw
    obtain ⟨u_13, rfl⟩ : ∃ y, y = o1 := ⟨_, rfl⟩
    intro H locs ls hl hw
    try dsimp only at hf
    refine lv_iconst (v := 1) hx hb dX10_nextRow_118 (by decide) ?_
    exact gm_zret C E hw rfl rfl ((congrArg (fun z => some (Value.int z)) (gm_sp hf).1).symm) (gm_sp hf).2.symm dX10_nextRow_119
  have J42 : ∀ (v2_15 : Int32) (u_14 : gm_M) (H : Heap) (locs : List Loc) (ls : Array Slot), j_X10_nextRow_42 a1 v2_15 u_14 = some (r, u') → lv_has ls 6 [(0, rv Z 1), (1, .int a1), (2, .int v2_15)] → wd GC Z u_14 A s.heap H locs → W p l e R s m args below meth c H locs 0 0 Q (F0 m 42 ls []) := by
    intro v2_15 u_14 H locs ls hf  hl hw
    unfold j_X10_nextRow_42 at hf
    refine lv_iload_n hx hb dX10_nextRow_42 rfl (lv_at hl 2 rfl) ?_
    refine lv_if_ge (tgt := 48) hx hb dX10_nextRow_43 (by decide) (fun hc => ?_) (fun hc => ?_)
    · replace hf := (if_pos hc).symm.trans hf
      refine lv_iload_n hx hb dX10_nextRow_48 rfl (lv_at hl 1 rfl) ?_
      refine lv_iconst (v := 1) hx hb dX10_nextRow_49 (by decide) ?_
      refine lv_isub hx hb dX10_nextRow_50 ?_
      obtain ⟨v3_16, e_v3_16, hf⟩ := gm_le hf
      refine gm_topI e_v3_16 ?_
      refine lv_istore_n (i := 3) (lv' := [(3, .int v3_16), (0, rv Z 1), (1, .int a1), (2, .int v2_15)]) hx hb dX10_nextRow_51 rfl hl (by decide) rfl (fun ls hl => ?_)
      obtain ⟨o2, hlp, hf⟩ := gm_bnd hf
      have L52_2 := gm_loop (b_X10_nextRow_52 a1 v2_15 u_14) (fun x : Int32 => ∀ (H : Heap) (locs : List Loc) (ls : Array Slot), lv_has ls 6 [(0, rv Z 1), (1, .int a1), (2, .int v2_15), (3, .int x)] → wd GC Z u_14 A s.heap H locs → W p l e R s m args below meth c H locs 0 0 Q (F0 m 52 ls [])) (fun z : Int32 => ∀ (H : Heap) (locs : List Loc) (ls : Array Slot), lv_has ls 6 [(0, rv Z 1), (1, .int a1), (2, .int v2_15), (3, .int z)] → wd GC Z u_14 A s.heap H locs → W p l e R s m args below meth c H locs 0 0 Q (F0 m 78 ls [])) (by
        intro x o2 hf Kc Kx
        obtain ⟨v3_17, rfl⟩ : ∃ y, y = x := ⟨_, rfl⟩
        intro H locs ls hl hw
        unfold b_X10_nextRow_52 at hf
        try dsimp only at hf
        refine lv_iload_n hx hb dX10_nextRow_52 rfl (lv_at hl 3 rfl) ?_
        refine lv_iload_n hx hb dX10_nextRow_53 rfl (lv_at hl 2 rfl) ?_
        refine lv_icmp_le (tgt := 78) hx hb dX10_nextRow_54 (by decide) (fun hc => ?_) (fun hc => ?_)
        · replace hf := (if_pos hc).symm.trans hf
          exact Kx _ (gm_si hf) _ _ _ (lv_sub hl [0, 1, 2, 3] rfl) hw
        · replace hf := (if_neg hc).symm.trans hf
          refine gm_aload_n (G := GC) (r := 1) C rfl dX10_nextRow_57 rfl (lv_at hl 0 rfl) ?_
          refine gm_getS (G := GC) (u := u_14) (r := 1) (ci := 9) (k := 13) C hw rfl fl_X10_74 dX10_nextRow_58 rfl (q := 44) rfl ?_
          refine lv_iload_n hx hb dX10_nextRow_61 rfl (lv_at hl 3 rfl) ?_
          obtain ⟨g_18, hf⟩ := gm_grd hf
          refine gm_iald (G := GC) (u := u_14) (r := 44) (n := 6) (i := v3_17) C hw rfl g_18 rfl dX10_nextRow_62 ?_
          refine gm_aload_n (G := GC) (r := 1) C rfl dX10_nextRow_63 rfl (lv_at hl 0 rfl) ?_
          refine gm_getS (G := GC) (u := u_14) (r := 1) (ci := 9) (k := 13) C hw rfl fl_X10_74 dX10_nextRow_64 rfl (q := 44) rfl ?_
          refine lv_iload_n hx hb dX10_nextRow_67 rfl (lv_at hl 2 rfl) ?_
          obtain ⟨g_19, hf⟩ := gm_grd hf
          refine gm_iald (G := GC) (u := u_14) (r := 44) (n := 6) (i := v2_15) C hw rfl g_19 rfl dX10_nextRow_68 ?_
          refine lv_icmp_ge (tgt := 78) hx hb dX10_nextRow_69 (by decide) (fun hc => ?_) (fun hc => ?_)
          · replace hf := (if_pos hc).symm.trans hf
            exact Kx _ (gm_si hf) _ _ _ (lv_sub hl [0, 1, 2, 3] rfl) hw
          · replace hf := (if_neg hc).symm.trans hf
            refine lv_iinc (v := v3_17 + (-1 : Int32)) (lv' := [(3, .int (v3_17 + (-1 : Int32))), (0, rv Z 1), (1, .int a1), (2, .int v2_15)]) hx hb dX10_nextRow_72 hl (k := 3) rfl rfl (by decide) rfl (fun ls hl => ?_)
            refine lv_goto (tgt := 52) hx hb dX10_nextRow_75 (by decide) ?_
            exact Kc _ (gm_si hf) _ _ _ (lv_sub hl [1, 2, 3, 0] rfl) hw)
      refine L52_2 _ _ _ hlp ?_ _ _ _ (lv_sub hl [1, 2, 3, 0] rfl) hw
      obtain ⟨w3_20, rfl⟩ : ∃ y, y = o2 := ⟨_, rfl⟩
      intro H locs ls hl hw
      try dsimp only at hf
      exact J78 v2_15 w3_20 u_14 _ _ _ hf  (lv_sub hl [0, 1, 2, 3] rfl) hw
    · replace hf := (if_neg hc).symm.trans hf
      refine lv_iconst (v := 0) hx hb dX10_nextRow_46 (by decide) ?_
      exact gm_zret C E hw rfl rfl ((congrArg (fun z => some (Value.int z)) (gm_sp hf).1).symm) (gm_sp hf).2.symm dX10_nextRow_47
  refine lv_iload_n hx hb dX10_nextRow_0 rfl (lv_at hl 1 rfl) ?_
  refine gm_aload_n (G := GC) (r := 1) C rfl dX10_nextRow_1 rfl (lv_at hl 0 rfl) ?_
  refine gm_getS (G := GC) (u := u) (r := 1) (ci := 9) (k := 13) C hw rfl fl_X10_74 dX10_nextRow_2 rfl (q := 44) rfl ?_
  refine gm_alen (G := GC) (u := u) (r := 44) (t := 0) (n := 6) (v := 6) C hw rfl (by decide) (by decide) dX10_nextRow_5 ?_
  refine lv_icmp_le (tgt := 11) hx hb dX10_nextRow_6 (by decide) (fun hc => ?_) (fun hc => ?_)
  · replace hf := (if_pos hc).symm.trans hf
    refine lv_iload_n hx hb dX10_nextRow_11 rfl (lv_at hl 1 rfl) ?_
    refine lv_iconst (v := 2) hx hb dX10_nextRow_12 (by decide) ?_
    refine lv_isub hx hb dX10_nextRow_13 ?_
    obtain ⟨v2_21, e_v2_21, hf⟩ := gm_le hf
    refine gm_topI e_v2_21 ?_
    refine lv_istore_n (i := 2) (lv' := [(2, .int v2_21), (0, rv Z 1), (1, .int a1)]) hx hb dX10_nextRow_14 rfl hl (by decide) rfl (fun ls hl => ?_)
    obtain ⟨o3, hlp, hf⟩ := gm_bnd hf
    have L15_3 := gm_loop (b_X10_nextRow_15 a1 u) (fun x : Int32 => ∀ (H : Heap) (locs : List Loc) (ls : Array Slot), lv_has ls 6 [(0, rv Z 1), (1, .int a1), (2, .int x)] → wd GC Z u A s.heap H locs → W p l e R s m args below meth c H locs 0 0 Q (F0 m 15 ls [])) (fun z : Int32 => ∀ (H : Heap) (locs : List Loc) (ls : Array Slot), lv_has ls 6 [(0, rv Z 1), (1, .int a1), (2, .int z)] → wd GC Z u A s.heap H locs → W p l e R s m args below meth c H locs 0 0 Q (F0 m 42 ls [])) (by
      intro x o3 hf Kc Kx
      obtain ⟨v2_22, rfl⟩ : ∃ y, y = x := ⟨_, rfl⟩
      intro H locs ls hl hw
      unfold b_X10_nextRow_15 at hf
      try dsimp only at hf
      refine lv_iload_n hx hb dX10_nextRow_15 rfl (lv_at hl 2 rfl) ?_
      refine lv_if_lt (tgt := 42) hx hb dX10_nextRow_16 (by decide) (fun hc => ?_) (fun hc => ?_)
      · replace hf := (if_pos hc).symm.trans hf
        exact Kx _ (gm_si hf) _ _ _ (lv_sub hl [0, 1, 2] rfl) hw
      · replace hf := (if_neg hc).symm.trans hf
        refine gm_aload_n (G := GC) (r := 1) C rfl dX10_nextRow_19 rfl (lv_at hl 0 rfl) ?_
        refine gm_getS (G := GC) (u := u) (r := 1) (ci := 9) (k := 13) C hw rfl fl_X10_74 dX10_nextRow_20 rfl (q := 44) rfl ?_
        refine lv_iload_n hx hb dX10_nextRow_23 rfl (lv_at hl 2 rfl) ?_
        obtain ⟨g_23, hf⟩ := gm_grd hf
        refine gm_iald (G := GC) (u := u) (r := 44) (n := 6) (i := v2_22) C hw rfl g_23 rfl dX10_nextRow_24 ?_
        refine gm_aload_n (G := GC) (r := 1) C rfl dX10_nextRow_25 rfl (lv_at hl 0 rfl) ?_
        refine gm_getS (G := GC) (u := u) (r := 1) (ci := 9) (k := 13) C hw rfl fl_X10_74 dX10_nextRow_26 rfl (q := 44) rfl ?_
        refine lv_iload_n hx hb dX10_nextRow_29 rfl (lv_at hl 2 rfl) ?_
        refine lv_iconst (v := 1) hx hb dX10_nextRow_30 (by decide) ?_
        refine lv_iadd hx hb dX10_nextRow_31 ?_
        obtain ⟨g_24, hf⟩ := gm_grd hf
        refine gm_iald (G := GC) (u := u) (r := 44) (n := 6) (i := v2_22 + (1 : Int32)) C hw rfl g_24 rfl dX10_nextRow_32 ?_
        refine lv_icmp_le (tgt := 42) hx hb dX10_nextRow_33 (by decide) (fun hc => ?_) (fun hc => ?_)
        · replace hf := (if_pos hc).symm.trans hf
          exact Kx _ (gm_si hf) _ _ _ (lv_sub hl [0, 1, 2] rfl) hw
        · replace hf := (if_neg hc).symm.trans hf
          refine lv_iinc (v := v2_22 + (-1 : Int32)) (lv' := [(2, .int (v2_22 + (-1 : Int32))), (0, rv Z 1), (1, .int a1)]) hx hb dX10_nextRow_36 hl (k := 2) rfl rfl (by decide) rfl (fun ls hl => ?_)
          refine lv_goto (tgt := 15) hx hb dX10_nextRow_39 (by decide) ?_
          exact Kc _ (gm_si hf) _ _ _ (lv_sub hl [1, 2, 0] rfl) hw)
    refine L15_3 _ _ _ hlp ?_ _ _ _ (lv_sub hl [1, 2, 0] rfl) hw
    obtain ⟨w2_25, rfl⟩ : ∃ y, y = o3 := ⟨_, rfl⟩
    intro H locs ls hl hw
    try dsimp only at hf
    exact J42 w2_25 u _ _ _ hf  (lv_sub hl [0, 1, 2] rfl) hw
  · replace hf := (if_neg hc).symm.trans hf
    refine lv_iconst (v := 0) hx hb dX10_nextRow_9 (by decide) ?_
    exact gm_zret C E hw rfl rfl ((congrArg (fun z => some (Value.int z)) (gm_sp hf).1).symm) (gm_sp hf).2.symm dX10_nextRow_10
/-! LeapCapital.coming -/
def j_X10_coming_112 (a1 : Int32) (a2 : Int32) (v4_2 : Int32) (u_1 : gm_M) : Option (Int32 × gm_M) := if a2 = (-1 : Int32) then some (v4_2, u_1) else if (6 : Int32) ≤ a2 then some ((-2 : Int32), u_1) else if ib a2 6 = true then some (gI u_1 45 (ix a2), u_1) else none
def j_X10_coming_77 (a1 : Int32) (a2 : Int32) (r_4 : Int32) (v4_13 : Int32) (v6_14 : Int32) (u_12 : gm_M) : Option ((Int32 × Int32 × Int32 × gm_M) ⊕ ((Int32 × gm_M))) := if (r_4 + (gI u_12 27 3)) ≤ v4_13 then some (.inl (v4_13, (0 : Int32), v6_14 + (1 : Int32), u_12)) else (f_X10_nextRow r_4 u_12).bind fun o => match o with | (r_15, u_16) => if r_15 = 0 then some (.inl (v4_13, (0 : Int32), v6_14 + (1 : Int32), u_16)) else some (.inl (v4_13, (1 : Int32), v6_14 + (1 : Int32), u_16))
def b_X10_coming_40 (a1 : Int32) (a2 : Int32) (r_4 : Int32) : (Int32 × Int32 × Int32 × gm_M) → Option ((Int32 × Int32 × Int32 × gm_M) ⊕ ((Int32 × gm_M))) := fun x => match x with | (v4_9, v5_10, v6_11, u_8) => if (720 : Int32) ≤ v6_11 then some (.inr (v4_9, u_8)) else if v5_10 = 0 then some (.inr (v4_9, u_8)) else (f_X10_heardByRow r_4 a1 u_8).bind fun o => match o with | (r_19, u_20) => if r_19 ≤ v4_9 then j_X10_coming_77 a1 a2 r_4 v4_9 v6_11 u_20 else (f_X10_keepRow r_4 u_20).bind fun u_23 => j_X10_coming_77 a1 a2 r_4 r_19 v6_11 u_23
def f_X10_coming (a1 : Int32) (a2 : Int32) (u : gm_M) : Option (Int32 × gm_M) := if a1 < (1 : Int32) then some ((-2 : Int32), u) else if (4 : Int32) < a1 then some ((-2 : Int32), u) else if (-1 : Int32) ≤ a2 then (f_X10_firstRow u).bind fun o => match o with | (r_4, u_5) => if a2 < r_4 then ((gm_lp (b_X10_coming_40 a1 a2 r_4) gm_FU ((-1 : Int32), (1 : Int32), (0 : Int32), u_5)).bind fun o => match o with | (w4_25, u_26) => j_X10_coming_112 a1 a2 w4_25 u_26) else some ((-2 : Int32), u_5) else some ((-2 : Int32), u)
set_option maxRecDepth 100000 in
set_option maxHeartbeats 4000000 in
theorem ok_X10_coming (l : Launch) (Z : gm_Z) (a1 : Int32) (a2 : Int32) (u : gm_M)  (r : Int32) (u' : gm_M) (hf : f_X10_coming a1 a2 u = some (r, u')) : gm_Met l GC Z yX10_coming cX10_coming 8 (some .int) ({ frames := 7, cells := 0, slots := 0, locals := 175 }) [rv Z 1, .int a1, .int a2] u (some (.int r)) u' := by
  unfold f_X10_coming at hf
  refine gm_ofW (by decide +kernel) (Nat.le_of_ble_eq_true rfl) ?_
  intro p e s m args below meth c A ls Q R hRf hRl C E hl hw
  obtain ⟨hx, hb, -⟩ := id C
  have hl : lv_has ls 8 [(0, rv Z 1), (1, .int a1), (2, .int a2)] := hl
  have J112 : ∀ (v4_2 : Int32) (u_1 : gm_M) (H : Heap) (locs : List Loc) (ls : Array Slot), j_X10_coming_112 a1 a2 v4_2 u_1 = some (r, u') → lv_has ls 8 [(0, rv Z 1), (2, .int a2), (4, .int v4_2)] → wd GC Z u_1 A s.heap H locs → W p l e R s m args below meth c H locs 0 0 Q (F0 m 112 ls []) := by
    intro v4_2 u_1 H locs ls hf  hl hw
    unfold j_X10_coming_112 at hf
    refine lv_iload_n hx hb dX10_coming_112 rfl (lv_at hl 1 rfl) ?_
    refine lv_iconst (v := -1) hx hb dX10_coming_113 (by decide) ?_
    refine lv_icmp_ne (tgt := 120) hx hb dX10_coming_114 (by decide) (fun hc => ?_) (fun hc => ?_)
    · replace hf := (if_neg hc).symm.trans hf
      refine lv_iload_n hx hb dX10_coming_120 rfl (lv_at hl 1 rfl) ?_
      refine gm_aload_n (G := GC) (r := 1) C rfl dX10_coming_121 rfl (lv_at hl 0 rfl) ?_
      refine gm_getS (G := GC) (u := u_1) (r := 1) (ci := 9) (k := 14) C hw rfl fl_X10_78 dX10_coming_122 rfl (q := 45) rfl ?_
      refine gm_alen (G := GC) (u := u_1) (r := 45) (t := 0) (n := 6) (v := 6) C hw rfl (by decide) (by decide) dX10_coming_125 ?_
      refine lv_icmp_ge (tgt := 138) hx hb dX10_coming_126 (by decide) (fun hc => ?_) (fun hc => ?_)
      · replace hf := (if_pos hc).symm.trans hf
        refine lv_bipush (v := -2) hx hb dX10_coming_138 (by decide) ?_
        exact gm_iret C E hw rfl ((congrArg (fun z => some (Value.int z)) (gm_sp hf).1).symm) (gm_sp hf).2.symm dX10_coming_140
      · replace hf := (if_neg hc).symm.trans hf
        refine gm_aload_n (G := GC) (r := 1) C rfl dX10_coming_129 rfl (lv_at hl 0 rfl) ?_
        refine gm_getS (G := GC) (u := u_1) (r := 1) (ci := 9) (k := 14) C hw rfl fl_X10_78 dX10_coming_130 rfl (q := 45) rfl ?_
        refine lv_iload_n hx hb dX10_coming_133 rfl (lv_at hl 1 rfl) ?_
        obtain ⟨g_3, hf⟩ := gm_grd hf
        refine gm_iald (G := GC) (u := u_1) (r := 45) (n := 6) (i := a2) C hw rfl g_3 rfl dX10_coming_134 ?_
        refine lv_goto (tgt := 140) hx hb dX10_coming_135 (by decide) ?_
        exact gm_iret C E hw rfl ((congrArg (fun z => some (Value.int z)) (gm_sp hf).1).symm) (gm_sp hf).2.symm dX10_coming_140
    · replace hf := (if_pos hc).symm.trans hf
      refine lv_iload hx hb dX10_coming_117 (lv_at hl 2 rfl) ?_
      exact gm_iret C E hw rfl ((congrArg (fun z => some (Value.int z)) (gm_sp hf).1).symm) (gm_sp hf).2.symm dX10_coming_119
  refine lv_iload_n hx hb dX10_coming_0 rfl (lv_at hl 1 rfl) ?_
  refine lv_iconst (v := 1) hx hb dX10_coming_1 (by decide) ?_
  refine lv_icmp_lt (tgt := 15) hx hb dX10_coming_2 (by decide) (fun hc => ?_) (fun hc => ?_)
  · replace hf := (if_pos hc).symm.trans hf
    refine lv_bipush (v := -2) hx hb dX10_coming_15 (by decide) ?_
    exact gm_iret C E hw rfl ((congrArg (fun z => some (Value.int z)) (gm_sp hf).1).symm) (gm_sp hf).2.symm dX10_coming_17
  · replace hf := (if_neg hc).symm.trans hf
    refine lv_iload_n hx hb dX10_coming_5 rfl (lv_at hl 1 rfl) ?_
    refine lv_iconst (v := 4) hx hb dX10_coming_6 (by decide) ?_
    refine lv_icmp_gt (tgt := 15) hx hb dX10_coming_7 (by decide) (fun hc => ?_) (fun hc => ?_)
    · replace hf := (if_pos hc).symm.trans hf
      refine lv_bipush (v := -2) hx hb dX10_coming_15 (by decide) ?_
      exact gm_iret C E hw rfl ((congrArg (fun z => some (Value.int z)) (gm_sp hf).1).symm) (gm_sp hf).2.symm dX10_coming_17
    · replace hf := (if_neg hc).symm.trans hf
      refine lv_iload_n hx hb dX10_coming_10 rfl (lv_at hl 2 rfl) ?_
      refine lv_iconst (v := -1) hx hb dX10_coming_11 (by decide) ?_
      refine lv_icmp_ge (tgt := 18) hx hb dX10_coming_12 (by decide) (fun hc => ?_) (fun hc => ?_)
      · replace hf := (if_pos hc).symm.trans hf
        refine gm_aload_n (G := GC) (r := 1) C rfl dX10_coming_18 rfl (lv_at hl 0 rfl) ?_
        obtain ⟨⟨r_4, u_5⟩, hc_6, hf⟩ := gm_bnd hf
        try dsimp only at hf
        refine gm_callV (G := GC) (u := u) (u' := u_5) (r := 1) (ci := 9) (As := []) (rest := []) (res := (some (.int r_4))) C hw hl (ok_X10_firstRow l Z u r_4 u_5 hc_6) cw_X10_270 im_X10_firstRow rfl se_X10_firstRow rfl rfl rfl ⟨Nat.le_trans (Nat.le_of_ble_eq_true rfl) hRf, Nat.le_trans (Nat.le_of_ble_eq_true rfl) hRl⟩ rfl rfl (Nat.le_of_ble_eq_true rfl) dX10_coming_19 (fun H locs hw => ?_)
        refine lv_istore_n (i := 3) (lv' := [(3, .int r_4), (0, rv Z 1), (1, .int a1), (2, .int a2)]) hx hb dX10_coming_22 rfl hl (by decide) rfl (fun ls hl => ?_)
        refine lv_iload_n hx hb dX10_coming_23 rfl (lv_at hl 3 rfl) ?_
        refine lv_iload_n hx hb dX10_coming_24 rfl (lv_at hl 0 rfl) ?_
        refine lv_icmp_lt (tgt := 31) hx hb dX10_coming_25 (by decide) (fun hc => ?_) (fun hc => ?_)
        · replace hf := (if_pos hc).symm.trans hf
          refine lv_iconst (v := -1) hx hb dX10_coming_31 (by decide) ?_
          refine lv_istore (i := 4) (lv' := [(4, .int (-1 : Int32)), (3, .int r_4), (0, rv Z 1), (1, .int a1), (2, .int a2)]) hx hb dX10_coming_32 hl (by decide) rfl (fun ls hl => ?_)
          refine lv_iconst (v := 1) hx hb dX10_coming_34 (by decide) ?_
          refine lv_istore (i := 5) (lv' := [(5, .int (1 : Int32)), (4, .int (-1 : Int32)), (3, .int r_4), (0, rv Z 1), (1, .int a1), (2, .int a2)]) hx hb dX10_coming_35 hl (by decide) rfl (fun ls hl => ?_)
          refine lv_iconst (v := 0) hx hb dX10_coming_37 (by decide) ?_
          refine lv_istore (i := 6) (lv' := [(6, .int (0 : Int32)), (5, .int (1 : Int32)), (4, .int (-1 : Int32)), (3, .int r_4), (0, rv Z 1), (1, .int a1), (2, .int a2)]) hx hb dX10_coming_38 hl (by decide) rfl (fun ls hl => ?_)
          obtain ⟨o1, hlp, hf⟩ := gm_bnd hf
          have L40_1 := gm_loop (b_X10_coming_40 a1 a2 r_4) (fun x : (Int32 × Int32 × Int32 × gm_M) => ∀ (H : Heap) (locs : List Loc) (ls : Array Slot), lv_has ls 8 [(0, rv Z 1), (1, .int a1), (2, .int a2), (3, .int r_4), (4, .int x.1), (5, .int x.2.1), (6, .int x.2.2.1)] → wd GC Z x.2.2.2 A s.heap H locs → W p l e R s m args below meth c H locs 0 0 Q (F0 m 40 ls [])) (fun z : ((Int32 × gm_M)) => ∀ (H : Heap) (locs : List Loc) (ls : Array Slot), lv_has ls 8 [(0, rv Z 1), (2, .int a2), (4, .int z.1)] → wd GC Z z.2 A s.heap H locs → W p l e R s m args below meth c H locs 0 0 Q (F0 m 112 ls [])) (by
            intro x o1 hf Kc Kx
            obtain ⟨v4_9, v5_10, v6_11, u_8⟩ := x
            intro H locs ls hl hw
            unfold b_X10_coming_40 at hf
            try dsimp only at hf
            have J77 : ∀ (v4_13 : Int32) (v6_14 : Int32) (u_12 : gm_M) (H : Heap) (locs : List Loc) (ls : Array Slot), j_X10_coming_77 a1 a2 r_4 v4_13 v6_14 u_12 = some o1 → lv_has ls 8 [(0, rv Z 1), (1, .int a1), (2, .int a2), (3, .int r_4), (4, .int v4_13), (6, .int v6_14)] → wd GC Z u_12 A s.heap H locs → W p l e R s m args below meth c H locs 0 0 Q (F0 m 77 ls []) := by
              intro v4_13 v6_14 u_12 H locs ls hf  hl hw
              unfold j_X10_coming_77 at hf
              refine lv_iload hx hb dX10_coming_77 (lv_at hl 4 rfl) ?_
              refine lv_iload_n hx hb dX10_coming_79 rfl (lv_at hl 3 rfl) ?_
              refine gm_aload_n (G := GC) (r := 1) C rfl dX10_coming_80 rfl (lv_at hl 0 rfl) ?_
              refine gm_getS (G := GC) (u := u_12) (r := 1) (ci := 9) (k := 6) C hw rfl fl_X10_39 dX10_coming_81 rfl (q := 27) rfl ?_
              refine gm_getI (G := GC) (u := u_12) (r := 27) (ci := 0) (k := 3) C hw rfl fl_X10_279 dX10_coming_84 rfl ?_
              refine lv_iadd hx hb dX10_coming_87 ?_
              refine lv_icmp_ge (tgt := 103) hx hb dX10_coming_88 (by decide) (fun hc => ?_) (fun hc => ?_)
              · replace hf := (if_pos hc).symm.trans hf
                refine lv_iconst (v := 0) hx hb dX10_coming_103 (by decide) ?_
                refine lv_istore (i := 5) (lv' := [(5, .int (0 : Int32)), (0, rv Z 1), (1, .int a1), (2, .int a2), (3, .int r_4), (4, .int v4_13), (6, .int v6_14)]) hx hb dX10_coming_104 hl (by decide) rfl (fun ls hl => ?_)
                refine lv_iinc (v := v6_14 + (1 : Int32)) (lv' := [(6, .int (v6_14 + (1 : Int32))), (5, .int (0 : Int32)), (0, rv Z 1), (1, .int a1), (2, .int a2), (3, .int r_4), (4, .int v4_13)]) hx hb dX10_coming_106 hl (k := 6) rfl rfl (by decide) rfl (fun ls hl => ?_)
                refine lv_goto (tgt := 40) hx hb dX10_coming_109 (by decide) ?_
                exact Kc _ (gm_si hf) _ _ _ (lv_sub hl [2, 3, 4, 5, 6, 1, 0] rfl) hw
              · replace hf := (if_neg hc).symm.trans hf
                refine gm_aload_n (G := GC) (r := 1) C rfl dX10_coming_91 rfl (lv_at hl 0 rfl) ?_
                refine lv_iload_n hx hb dX10_coming_92 rfl (lv_at hl 3 rfl) ?_
                obtain ⟨⟨r_15, u_16⟩, hc_17, hf⟩ := gm_bnd hf
                try dsimp only at hf
                refine gm_callV (G := GC) (u := u_12) (u' := u_16) (r := 1) (ci := 9) (As := [.int r_4]) (rest := []) (res := (some (.int r_15))) C hw hl (ok_X10_nextRow l Z r_4 u_12 r_15 u_16 hc_17) cw_X10_280 im_X10_nextRow rfl se_X10_nextRow rfl rfl rfl ⟨Nat.le_trans (Nat.le_of_ble_eq_true rfl) hRf, Nat.le_trans (Nat.le_of_ble_eq_true rfl) hRl⟩ rfl rfl (Nat.le_of_ble_eq_true rfl) dX10_coming_93 (fun H locs hw => ?_)
                refine lv_if_eq (tgt := 103) hx hb dX10_coming_96 (by decide) (fun hc => ?_) (fun hc => ?_)
                · replace hf := (if_pos hc).symm.trans hf
                  refine lv_iconst (v := 0) hx hb dX10_coming_103 (by decide) ?_
                  refine lv_istore (i := 5) (lv' := [(5, .int (0 : Int32)), (0, rv Z 1), (1, .int a1), (2, .int a2), (3, .int r_4), (4, .int v4_13), (6, .int v6_14)]) hx hb dX10_coming_104 hl (by decide) rfl (fun ls hl => ?_)
                  refine lv_iinc (v := v6_14 + (1 : Int32)) (lv' := [(6, .int (v6_14 + (1 : Int32))), (5, .int (0 : Int32)), (0, rv Z 1), (1, .int a1), (2, .int a2), (3, .int r_4), (4, .int v4_13)]) hx hb dX10_coming_106 hl (k := 6) rfl rfl (by decide) rfl (fun ls hl => ?_)
                  refine lv_goto (tgt := 40) hx hb dX10_coming_109 (by decide) ?_
                  exact Kc _ (gm_si hf) _ _ _ (lv_sub hl [2, 3, 4, 5, 6, 1, 0] rfl) hw
                · replace hf := (if_neg hc).symm.trans hf
                  refine lv_iconst (v := 1) hx hb dX10_coming_99 (by decide) ?_
                  refine lv_goto (tgt := 104) hx hb dX10_coming_100 (by decide) ?_
                  refine lv_istore (i := 5) (lv' := [(5, .int (1 : Int32)), (0, rv Z 1), (1, .int a1), (2, .int a2), (3, .int r_4), (4, .int v4_13), (6, .int v6_14)]) hx hb dX10_coming_104 hl (by decide) rfl (fun ls hl => ?_)
                  refine lv_iinc (v := v6_14 + (1 : Int32)) (lv' := [(6, .int (v6_14 + (1 : Int32))), (5, .int (1 : Int32)), (0, rv Z 1), (1, .int a1), (2, .int a2), (3, .int r_4), (4, .int v4_13)]) hx hb dX10_coming_106 hl (k := 6) rfl rfl (by decide) rfl (fun ls hl => ?_)
                  refine lv_goto (tgt := 40) hx hb dX10_coming_109 (by decide) ?_
                  exact Kc _ (gm_si hf) _ _ _ (lv_sub hl [2, 3, 4, 5, 6, 1, 0] rfl) hw
            refine lv_iload hx hb dX10_coming_40 (lv_at hl 6 rfl) ?_
            refine lv_sipush (v := 720) hx hb dX10_coming_42 (by decide) ?_
            refine lv_icmp_ge (tgt := 112) hx hb dX10_coming_45 (by decide) (fun hc => ?_) (fun hc => ?_)
            · replace hf := (if_pos hc).symm.trans hf
              exact Kx _ (gm_si hf) _ _ _ (lv_sub hl [0, 2, 4] rfl) hw
            · replace hf := (if_neg hc).symm.trans hf
              refine lv_iload hx hb dX10_coming_48 (lv_at hl 5 rfl) ?_
              refine lv_if_eq (tgt := 112) hx hb dX10_coming_50 (by decide) (fun hc => ?_) (fun hc => ?_)
              · replace hf := (if_pos hc).symm.trans hf
                exact Kx _ (gm_si hf) _ _ _ (lv_sub hl [0, 2, 4] rfl) hw
              · replace hf := (if_neg hc).symm.trans hf
                refine gm_aload_n (G := GC) (r := 1) C rfl dX10_coming_53 rfl (lv_at hl 0 rfl) ?_
                refine lv_iload_n hx hb dX10_coming_54 rfl (lv_at hl 3 rfl) ?_
                refine lv_iload_n hx hb dX10_coming_55 rfl (lv_at hl 1 rfl) ?_
                obtain ⟨⟨r_19, u_20⟩, hc_21, hf⟩ := gm_bnd hf
                try dsimp only at hf
                refine gm_callV (G := GC) (u := u_8) (u' := u_20) (r := 1) (ci := 9) (As := [.int r_4, .int a1]) (rest := []) (res := (some (.int r_19))) C hw hl (ok_X10_heardByRow l Z r_4 a1 u_8 r_19 u_20 hc_21) cw_X10_273 im_X10_heardByRow rfl se_X10_heardByRow rfl rfl rfl ⟨Nat.le_trans (Nat.le_of_ble_eq_true rfl) hRf, Nat.le_trans (Nat.le_of_ble_eq_true rfl) hRl⟩ rfl rfl (Nat.le_of_ble_eq_true rfl) dX10_coming_56 (fun H locs hw => ?_)
                refine lv_istore (i := 7) (lv' := [(7, .int r_19), (0, rv Z 1), (1, .int a1), (2, .int a2), (3, .int r_4), (4, .int v4_9), (5, .int v5_10), (6, .int v6_11)]) hx hb dX10_coming_59 hl (by decide) rfl (fun ls hl => ?_)
                refine lv_iload hx hb dX10_coming_61 (lv_at hl 0 rfl) ?_
                refine lv_iload hx hb dX10_coming_63 (lv_at hl 5 rfl) ?_
                refine lv_icmp_le (tgt := 77) hx hb dX10_coming_65 (by decide) (fun hc => ?_) (fun hc => ?_)
                · replace hf := (if_pos hc).symm.trans hf
                  exact J77 v4_9 v6_11 u_20 _ _ _ hf  (lv_sub hl [1, 2, 3, 4, 5, 7] rfl) hw
                · replace hf := (if_neg hc).symm.trans hf
                  refine lv_iload hx hb dX10_coming_68 (lv_at hl 0 rfl) ?_
                  refine lv_istore (i := 4) (lv' := [(4, .int r_19), (7, .int r_19), (0, rv Z 1), (1, .int a1), (2, .int a2), (3, .int r_4), (5, .int v5_10), (6, .int v6_11)]) hx hb dX10_coming_70 hl (by decide) rfl (fun ls hl => ?_)
                  refine gm_aload_n (G := GC) (r := 1) C rfl dX10_coming_72 rfl (lv_at hl 2 rfl) ?_
                  refine lv_iload_n hx hb dX10_coming_73 rfl (lv_at hl 5 rfl) ?_
                  obtain ⟨u_23, hc_24, hf⟩ := gm_bnd hf
                  refine gm_callV (G := GC) (u := u_20) (u' := u_23) (r := 1) (ci := 9) (As := [.int r_4]) (rest := []) (res := none) C hw hl (ok_X10_keepRow l Z r_4 u_20 u_23 hc_24) cw_X10_276 im_X10_keepRow rfl se_X10_keepRow rfl rfl rfl ⟨Nat.le_trans (Nat.le_of_ble_eq_true rfl) hRf, Nat.le_trans (Nat.le_of_ble_eq_true rfl) hRl⟩ rfl rfl (Nat.le_of_ble_eq_true rfl) dX10_coming_74 (fun H locs hw => ?_)
                  exact J77 r_19 v6_11 u_23 _ _ _ hf  (lv_sub hl [2, 3, 4, 5, 0, 7] rfl) hw)
          refine L40_1 _ _ _ hlp ?_ _ _ _ (lv_sub hl [4, 5, 6, 3, 2, 1, 0] rfl) hw
          obtain ⟨w4_25, u_26⟩ := o1
          intro H locs ls hl hw
          try dsimp only at hf
          exact J112 w4_25 u_26 _ _ _ hf  (lv_sub hl [0, 1, 2] rfl) hw
        · replace hf := (if_neg hc).symm.trans hf
          refine lv_bipush (v := -2) hx hb dX10_coming_28 (by decide) ?_
          exact gm_iret C E hw rfl ((congrArg (fun z => some (Value.int z)) (gm_sp hf).1).symm) (gm_sp hf).2.symm dX10_coming_30
      · replace hf := (if_neg hc).symm.trans hf
        refine lv_bipush (v := -2) hx hb dX10_coming_15 (by decide) ?_
        exact gm_iret C E hw rfl ((congrArg (fun z => some (Value.int z)) (gm_sp hf).1).symm) (gm_sp hf).2.symm dX10_coming_17
/-! LeapCapital.say -/
def f_X10_say (a1 : Int32) (a2 : Int32) (u : gm_M) : Option (Int32 × gm_M) := (f_X7_add 31 a1 a2 u).bind fun o => match o with | (r_1, u_2) => some (r_1 &&& 1, u_2)
set_option maxRecDepth 100000 in
set_option maxHeartbeats 4000000 in
theorem ok_X10_say (l : Launch) (Z : gm_Z) (a1 : Int32) (a2 : Int32) (u : gm_M)  (r : Int32) (u' : gm_M) (hf : f_X10_say a1 a2 u = some (r, u')) : gm_Met l GC Z yX10_say cX10_say 3 (some .boolean) ({ frames := 1, cells := 0, slots := 0, locals := 22 }) [rv Z 1, .int a1, .int a2] u (some (.int r)) u' := by
  unfold f_X10_say at hf
  refine gm_ofW (by decide +kernel) (Nat.le_of_ble_eq_true rfl) ?_
  intro p e s m args below meth c A ls Q R hRf hRl C E hl hw
  obtain ⟨hx, hb, -⟩ := id C
  have hl : lv_has ls 3 [(0, rv Z 1), (1, .int a1), (2, .int a2)] := hl
  refine gm_aload_n (G := GC) (r := 1) C rfl dX10_say_0 rfl (lv_at hl 0 rfl) ?_
  refine gm_getS (G := GC) (u := u) (r := 1) (ci := 9) (k := 7) C hw rfl fl_X10_46 dX10_say_1 rfl (q := 31) rfl ?_
  refine lv_iload_n hx hb dX10_say_4 rfl (lv_at hl 1 rfl) ?_
  refine lv_iload_n hx hb dX10_say_5 rfl (lv_at hl 2 rfl) ?_
  obtain ⟨⟨r_1, u_2⟩, hc_3, hf⟩ := gm_bnd hf
  try dsimp only at hf
  refine gm_callV (G := GC) (u := u) (u' := u_2) (r := 31) (ci := 6) (As := [.int a1, .int a2]) (rest := []) (res := (some (.int r_1))) C hw hl (ok_X7_add l Z 31 a1 a2 u rfl r_1 u_2 hc_3) cw_X10_286 im_X7_add rfl se_X7_add rfl rfl rfl ⟨Nat.le_trans (Nat.le_of_ble_eq_true rfl) hRf, Nat.le_trans (Nat.le_of_ble_eq_true rfl) hRl⟩ rfl rfl (Nat.le_of_ble_eq_true rfl) dX10_say_6 (fun H locs hw => ?_)
  exact gm_zret C E hw rfl rfl ((congrArg (fun z => some (Value.int z)) (gm_sp hf).1).symm) (gm_sp hf).2.symm dX10_say_9
/-! LeapCapital.fits -/
def b_X10_fits_10 (a1 : Int32) (u : gm_M) : (Int32 × Int32 × Int32 × Int32) → Option ((Int32 × Int32 × Int32 × Int32) ⊕ ((Int32 × Int32 × Int32))) := fun x => match x with | (v2_1, v3_2, v4_3, v5_4) => if (2000 : Int32) < v5_4 then some (.inr (v2_1, v3_2, v4_3)) else (f_X7_allowYear 31 v5_4 u).bind fun r_5 => if r_5 = 0 then some (.inl (v2_1, v3_2, v4_3, v5_4 + (1 : Int32))) else if v3_2 = (-1 : Int32) then some (.inl (v2_1 + (1 : Int32), v5_4, v5_4, v5_4 + (1 : Int32))) else some (.inl (v2_1 + (1 : Int32), v3_2, v5_4, v5_4 + (1 : Int32)))
def f_X10_fits (a1 : Int32) (u : gm_M) : Option Int32 := ((gm_lp (b_X10_fits_10 a1 u) gm_FU ((0 : Int32), (-1 : Int32), (-1 : Int32), (1 : Int32))).bind fun o => match o with | (w2_7, w3_8, w4_9) => if a1 = (0 : Int32) then some w2_7 else if a1 = (1 : Int32) then some w3_8 else if a1 = (2 : Int32) then some w4_9 else some (-1 : Int32))
set_option maxRecDepth 100000 in
set_option maxHeartbeats 4000000 in
theorem ok_X10_fits (l : Launch) (Z : gm_Z) (a1 : Int32) (u : gm_M)  (r : Int32) (hf : f_X10_fits a1 u = some r) : gm_Met l GC Z yX10_fits cX10_fits 6 (some .int) ({ frames := 2, cells := 0, slots := 0, locals := 42 }) [rv Z 1, .int a1] u (some (.int r)) u := by
  unfold f_X10_fits at hf
  refine gm_ofW (by decide +kernel) (Nat.le_of_ble_eq_true rfl) ?_
  intro p e s m args below meth c A ls Q R hRf hRl C E hl hw
  obtain ⟨hx, hb, -⟩ := id C
  have hl : lv_has ls 6 [(0, rv Z 1), (1, .int a1)] := hl
  refine lv_iconst (v := 0) hx hb dX10_fits_0 (by decide) ?_
  refine lv_istore_n (i := 2) (lv' := [(2, .int (0 : Int32)), (0, rv Z 1), (1, .int a1)]) hx hb dX10_fits_1 rfl hl (by decide) rfl (fun ls hl => ?_)
  refine lv_iconst (v := -1) hx hb dX10_fits_2 (by decide) ?_
  refine lv_istore_n (i := 3) (lv' := [(3, .int (-1 : Int32)), (2, .int (0 : Int32)), (0, rv Z 1), (1, .int a1)]) hx hb dX10_fits_3 rfl hl (by decide) rfl (fun ls hl => ?_)
  refine lv_iconst (v := -1) hx hb dX10_fits_4 (by decide) ?_
  refine lv_istore (i := 4) (lv' := [(4, .int (-1 : Int32)), (3, .int (-1 : Int32)), (2, .int (0 : Int32)), (0, rv Z 1), (1, .int a1)]) hx hb dX10_fits_5 hl (by decide) rfl (fun ls hl => ?_)
  refine lv_iconst (v := 1) hx hb dX10_fits_7 (by decide) ?_
  refine lv_istore (i := 5) (lv' := [(5, .int (1 : Int32)), (4, .int (-1 : Int32)), (3, .int (-1 : Int32)), (2, .int (0 : Int32)), (0, rv Z 1), (1, .int a1)]) hx hb dX10_fits_8 hl (by decide) rfl (fun ls hl => ?_)
  obtain ⟨o1, hlp, hf⟩ := gm_bnd hf
  have L10_1 := gm_loop (b_X10_fits_10 a1 u) (fun x : (Int32 × Int32 × Int32 × Int32) => ∀ (H : Heap) (locs : List Loc) (ls : Array Slot), lv_has ls 6 [(0, rv Z 1), (1, .int a1), (2, .int x.1), (3, .int x.2.1), (4, .int x.2.2.1), (5, .int x.2.2.2)] → wd GC Z u A s.heap H locs → W p l e R s m args below meth c H locs 0 0 Q (F0 m 10 ls [])) (fun z : ((Int32 × Int32 × Int32)) => ∀ (H : Heap) (locs : List Loc) (ls : Array Slot), lv_has ls 6 [(1, .int a1), (2, .int z.1), (3, .int z.2.1), (4, .int z.2.2)] → wd GC Z u A s.heap H locs → W p l e R s m args below meth c H locs 0 0 Q (F0 m 55 ls [])) (by
    intro x o1 hf Kc Kx
    obtain ⟨v2_1, v3_2, v4_3, v5_4⟩ := x
    intro H locs ls hl hw
    unfold b_X10_fits_10 at hf
    try dsimp only at hf
    refine lv_iload hx hb dX10_fits_10 (lv_at hl 5 rfl) ?_
    refine lv_sipush (v := 2000) hx hb dX10_fits_12 (by decide) ?_
    refine lv_icmp_gt (tgt := 55) hx hb dX10_fits_15 (by decide) (fun hc => ?_) (fun hc => ?_)
    · replace hf := (if_pos hc).symm.trans hf
      exact Kx _ (gm_si hf) _ _ _ (lv_sub hl [1, 2, 3, 4] rfl) hw
    · replace hf := (if_neg hc).symm.trans hf
      refine gm_aload_n (G := GC) (r := 1) C rfl dX10_fits_18 rfl (lv_at hl 0 rfl) ?_
      refine gm_getS (G := GC) (u := u) (r := 1) (ci := 9) (k := 7) C hw rfl fl_X10_46 dX10_fits_19 rfl (q := 31) rfl ?_
      refine lv_iload hx hb dX10_fits_22 (lv_at hl 5 rfl) ?_
      obtain ⟨r_5, hc_6, hf⟩ := gm_bnd hf
      refine gm_callV (G := GC) (u := u) (u' := u) (r := 31) (ci := 6) (As := [.int v5_4]) (rest := []) (res := (some (.int r_5))) C hw hl (ok_X7_allowYear l Z 31 v5_4 u rfl r_5 hc_6) cw_X10_290 im_X7_allowYear rfl se_X7_allowYear rfl rfl rfl ⟨Nat.le_trans (Nat.le_of_ble_eq_true rfl) hRf, Nat.le_trans (Nat.le_of_ble_eq_true rfl) hRl⟩ rfl rfl (Nat.le_of_ble_eq_true rfl) dX10_fits_24 (fun H locs hw => ?_)
      refine lv_if_eq (tgt := 49) hx hb dX10_fits_27 (by decide) (fun hc => ?_) (fun hc => ?_)
      · replace hf := (if_pos hc).symm.trans hf
        refine lv_iinc (v := v5_4 + (1 : Int32)) (lv' := [(5, .int (v5_4 + (1 : Int32))), (0, rv Z 1), (1, .int a1), (2, .int v2_1), (3, .int v3_2), (4, .int v4_3)]) hx hb dX10_fits_49 hl (k := 5) rfl rfl (by decide) rfl (fun ls hl => ?_)
        refine lv_goto (tgt := 10) hx hb dX10_fits_52 (by decide) ?_
        exact Kc _ (gm_si hf) _ _ _ (lv_sub hl [1, 2, 3, 4, 5, 0] rfl) hw
      · replace hf := (if_neg hc).symm.trans hf
        refine lv_iinc (v := v2_1 + (1 : Int32)) (lv' := [(2, .int (v2_1 + (1 : Int32))), (0, rv Z 1), (1, .int a1), (3, .int v3_2), (4, .int v4_3), (5, .int v5_4)]) hx hb dX10_fits_30 hl (k := 2) rfl rfl (by decide) rfl (fun ls hl => ?_)
        refine lv_iload_n hx hb dX10_fits_33 rfl (lv_at hl 3 rfl) ?_
        refine lv_iconst (v := -1) hx hb dX10_fits_34 (by decide) ?_
        refine lv_icmp_ne (tgt := 43) hx hb dX10_fits_35 (by decide) (fun hc => ?_) (fun hc => ?_)
        · replace hf := (if_neg hc).symm.trans hf
          refine lv_iload_n hx hb dX10_fits_43 rfl (lv_at hl 3 rfl) ?_
          refine lv_istore_n (i := 3) (lv' := [(3, .int v3_2), (2, .int (v2_1 + (1 : Int32))), (0, rv Z 1), (1, .int a1), (4, .int v4_3), (5, .int v5_4)]) hx hb dX10_fits_44 rfl hl (by decide) rfl (fun ls hl => ?_)
          refine lv_iload hx hb dX10_fits_45 (lv_at hl 5 rfl) ?_
          refine lv_istore (i := 4) (lv' := [(4, .int v5_4), (3, .int v3_2), (2, .int (v2_1 + (1 : Int32))), (0, rv Z 1), (1, .int a1), (5, .int v5_4)]) hx hb dX10_fits_47 hl (by decide) rfl (fun ls hl => ?_)
          refine lv_iinc (v := v5_4 + (1 : Int32)) (lv' := [(5, .int (v5_4 + (1 : Int32))), (4, .int v5_4), (3, .int v3_2), (2, .int (v2_1 + (1 : Int32))), (0, rv Z 1), (1, .int a1)]) hx hb dX10_fits_49 hl (k := 5) rfl rfl (by decide) rfl (fun ls hl => ?_)
          refine lv_goto (tgt := 10) hx hb dX10_fits_52 (by decide) ?_
          exact Kc _ (gm_si hf) _ _ _ (lv_sub hl [4, 5, 3, 2, 1, 0] rfl) hw
        · replace hf := (if_pos hc).symm.trans hf
          refine lv_iload hx hb dX10_fits_38 (lv_at hl 5 rfl) ?_
          refine lv_goto (tgt := 44) hx hb dX10_fits_40 (by decide) ?_
          refine lv_istore_n (i := 3) (lv' := [(3, .int v5_4), (2, .int (v2_1 + (1 : Int32))), (0, rv Z 1), (1, .int a1), (4, .int v4_3), (5, .int v5_4)]) hx hb dX10_fits_44 rfl hl (by decide) rfl (fun ls hl => ?_)
          refine lv_iload hx hb dX10_fits_45 (lv_at hl 5 rfl) ?_
          refine lv_istore (i := 4) (lv' := [(4, .int v5_4), (3, .int v5_4), (2, .int (v2_1 + (1 : Int32))), (0, rv Z 1), (1, .int a1), (5, .int v5_4)]) hx hb dX10_fits_47 hl (by decide) rfl (fun ls hl => ?_)
          refine lv_iinc (v := v5_4 + (1 : Int32)) (lv' := [(5, .int (v5_4 + (1 : Int32))), (4, .int v5_4), (3, .int v5_4), (2, .int (v2_1 + (1 : Int32))), (0, rv Z 1), (1, .int a1)]) hx hb dX10_fits_49 hl (k := 5) rfl rfl (by decide) rfl (fun ls hl => ?_)
          refine lv_goto (tgt := 10) hx hb dX10_fits_52 (by decide) ?_
          exact Kc _ (gm_si hf) _ _ _ (lv_sub hl [4, 5, 3, 2, 1, 0] rfl) hw)
  refine L10_1 _ _ _ hlp ?_ _ _ _ (lv_sub hl [4, 5, 3, 2, 1, 0] rfl) hw
  obtain ⟨w2_7, w3_8, w4_9⟩ := o1
  intro H locs ls hl hw
  try dsimp only at hf
  refine lv_iload_n hx hb dX10_fits_55 rfl (lv_at hl 0 rfl) ?_
  by_cases hq_10 : a1 = (0 : Int32)
  · replace hf := (if_pos hq_10).symm.trans hf
    refine lv_tableIn (off := 28) (tgt := 84) hx hb dX10_fits_56 (by rw [hq_10]; decide) (by rw [hq_10]; decide) (by rw [hq_10]; rfl) (by decide) ?_
    refine lv_iload_n hx hb dX10_fits_84 rfl (lv_at hl 1 rfl) ?_
    exact gm_iret C E hw rfl ((congrArg (fun z => some (Value.int z)) (Option.some.inj hf)).symm) rfl dX10_fits_85
  replace hf := (if_neg hq_10).symm.trans hf
  by_cases hq_11 : a1 = (1 : Int32)
  · replace hf := (if_pos hq_11).symm.trans hf
    refine lv_tableIn (off := 30) (tgt := 86) hx hb dX10_fits_56 (by rw [hq_11]; decide) (by rw [hq_11]; decide) (by rw [hq_11]; rfl) (by decide) ?_
    refine lv_iload_n hx hb dX10_fits_86 rfl (lv_at hl 2 rfl) ?_
    exact gm_iret C E hw rfl ((congrArg (fun z => some (Value.int z)) (Option.some.inj hf)).symm) rfl dX10_fits_87
  replace hf := (if_neg hq_11).symm.trans hf
  by_cases hq_12 : a1 = (2 : Int32)
  · replace hf := (if_pos hq_12).symm.trans hf
    refine lv_tableIn (off := 32) (tgt := 88) hx hb dX10_fits_56 (by rw [hq_12]; decide) (by rw [hq_12]; decide) (by rw [hq_12]; rfl) (by decide) ?_
    refine lv_iload hx hb dX10_fits_88 (lv_at hl 3 rfl) ?_
    exact gm_iret C E hw rfl ((congrArg (fun z => some (Value.int z)) (Option.some.inj hf)).symm) rfl dX10_fits_90
  replace hf := (if_neg hq_12).symm.trans hf
  refine lv_tableOut (tgt := 91) hx hb dX10_fits_56 (Classical.byContradiction (fun hq => by
    obtain ⟨i, hi, e⟩ := gm_rng hq
    match i, hi with
    | 0, _ => exact hq_10 (e.trans (by decide))
    | 1, _ => exact hq_11 (e.trans (by decide))
    | 2, _ => exact hq_12 (e.trans (by decide))
    | (n + 3), h => exact absurd h (by simp only [Int.reduceSub, Int.reduceAdd, Int.reduceToNat, Int.reduceNeg, Int.sub_neg]; omega))) (by decide) ?_
  refine lv_iconst (v := -1) hx hb dX10_fits_91 (by decide) ?_
  exact gm_iret C E hw rfl ((congrArg (fun z => some (Value.int z)) (Option.some.inj hf)).symm) rfl dX10_fits_92
/-! LeapCapital.ask -/
def f_X10_ask  (u : gm_M) : Option (Int32 × gm_M) := (f_X7_bestQuestion 31 u).bind fun o => match o with | (r_1, u_2) => some (r_1, u_2)
set_option maxRecDepth 100000 in
set_option maxHeartbeats 4000000 in
theorem ok_X10_ask (l : Launch) (Z : gm_Z)  (u : gm_M)  (r : Int32) (u' : gm_M) (hf : f_X10_ask u = some (r, u')) : gm_Met l GC Z yX10_ask cX10_ask 1 (some .int) ({ frames := 4, cells := 0, slots := 0, locals := 90 }) [rv Z 1] u (some (.int r)) u' := by
  unfold f_X10_ask at hf
  refine gm_ofW (by decide +kernel) (Nat.le_of_ble_eq_true rfl) ?_
  intro p e s m args below meth c A ls Q R hRf hRl C E hl hw
  obtain ⟨hx, hb, -⟩ := id C
  have hl : lv_has ls 1 [(0, rv Z 1)] := hl
  refine gm_aload_n (G := GC) (r := 1) C rfl dX10_ask_0 rfl (lv_at hl 0 rfl) ?_
  refine gm_getS (G := GC) (u := u) (r := 1) (ci := 9) (k := 7) C hw rfl fl_X10_46 dX10_ask_1 rfl (q := 31) rfl ?_
  obtain ⟨⟨r_1, u_2⟩, hc_3, hf⟩ := gm_bnd hf
  try dsimp only at hf
  refine gm_callV (G := GC) (u := u) (u' := u_2) (r := 31) (ci := 6) (As := []) (rest := []) (res := (some (.int r_1))) C hw hl (ok_X7_bestQuestion l Z 31 u rfl r_1 u_2 hc_3) cw_X10_293 im_X7_bestQuestion rfl se_X7_bestQuestion rfl rfl rfl ⟨Nat.le_trans (Nat.le_of_ble_eq_true rfl) hRf, Nat.le_trans (Nat.le_of_ble_eq_true rfl) hRl⟩ rfl rfl (Nat.le_of_ble_eq_true rfl) dX10_ask_4 (fun H locs hw => ?_)
  exact gm_iret C E hw rfl ((congrArg (fun z => some (Value.int z)) (gm_sp hf).1).symm) (gm_sp hf).2.symm dX10_ask_7
/-! LeapCapital.isStake -/
def f_X10_isStake (a0 : Int32) : Int32 := if a0 < 0 then (0 : Int32) else if (9 : Int32) < a0 then (0 : Int32) else (1 : Int32)
set_option maxRecDepth 100000 in
set_option maxHeartbeats 4000000 in
theorem ok_X10_isStake (l : Launch) (Z : gm_Z) (a0 : Int32) (u : gm_M)  : gm_Met l GC Z yX10_isStake cX10_isStake 1 (some .boolean) ({ frames := 0, cells := 0, slots := 0, locals := 0 }) [.int a0] u (some (.int (f_X10_isStake a0))) u := by
  obtain ⟨r, hf⟩ : ∃ r, f_X10_isStake a0 = r := ⟨_, rfl⟩
  rw [hf]
  unfold f_X10_isStake at hf
  refine gm_ofW (by decide +kernel) (Nat.le_of_ble_eq_true rfl) ?_
  intro p e s m args below meth c A ls Q R hRf hRl C E hl hw
  obtain ⟨hx, hb, -⟩ := id C
  have hl : lv_has ls 1 [(0, .int a0)] := hl
  refine lv_iload_n hx hb dX10_isStake_0 rfl (lv_at hl 0 rfl) ?_
  refine lv_if_lt (tgt := 14) hx hb dX10_isStake_1 (by decide) (fun hc => ?_) (fun hc => ?_)
  · replace hf := (if_pos hc).symm.trans hf
    refine lv_iconst (v := 0) hx hb dX10_isStake_14 (by decide) ?_
    exact gm_zret C E hw rfl rfl ((congrArg (fun z => some (Value.int z)) hf).symm) rfl dX10_isStake_15
  · replace hf := (if_neg hc).symm.trans hf
    refine lv_iload_n hx hb dX10_isStake_4 rfl (lv_at hl 0 rfl) ?_
    refine lv_bipush (v := 9) hx hb dX10_isStake_5 (by decide) ?_
    refine lv_icmp_gt (tgt := 14) hx hb dX10_isStake_7 (by decide) (fun hc => ?_) (fun hc => ?_)
    · replace hf := (if_pos hc).symm.trans hf
      refine lv_iconst (v := 0) hx hb dX10_isStake_14 (by decide) ?_
      exact gm_zret C E hw rfl rfl ((congrArg (fun z => some (Value.int z)) hf).symm) rfl dX10_isStake_15
    · replace hf := (if_neg hc).symm.trans hf
      refine lv_iconst (v := 1) hx hb dX10_isStake_10 (by decide) ?_
      refine lv_goto (tgt := 15) hx hb dX10_isStake_11 (by decide) ?_
      exact gm_zret C E hw rfl rfl ((congrArg (fun z => some (Value.int z)) hf).symm) rfl dX10_isStake_15
/-! LeapCapital.gain -/
def f_X10_gain (a0 : Int32) (a1 : Int32) (a2 : Int32) (a3 : Int32) (a4 : Int32) : Int32 := if a0 = (1 : Int32) then if a1 = (1 : Int32) then -a2 else a3 else if a1 = (1 : Int32) then a4 else (0 : Int32)
set_option maxRecDepth 100000 in
set_option maxHeartbeats 4000000 in
theorem ok_X10_gain (l : Launch) (Z : gm_Z) (a0 : Int32) (a1 : Int32) (a2 : Int32) (a3 : Int32) (a4 : Int32) (u : gm_M)  : gm_Met l GC Z yX10_gain cX10_gain 5 (some .int) ({ frames := 0, cells := 0, slots := 0, locals := 0 }) [.int a0, .int a1, .int a2, .int a3, .int a4] u (some (.int (f_X10_gain a0 a1 a2 a3 a4))) u := by
  obtain ⟨r, hf⟩ : ∃ r, f_X10_gain a0 a1 a2 a3 a4 = r := ⟨_, rfl⟩
  rw [hf]
  unfold f_X10_gain at hf
  refine gm_ofW (by decide +kernel) (Nat.le_of_ble_eq_true rfl) ?_
  intro p e s m args below meth c A ls Q R hRf hRl C E hl hw
  obtain ⟨hx, hb, -⟩ := id C
  have hl : lv_has ls 5 [(0, .int a0), (1, .int a1), (2, .int a2), (3, .int a3), (4, .int a4)] := hl
  refine lv_iload_n hx hb dX10_gain_0 rfl (lv_at hl 0 rfl) ?_
  refine lv_iconst (v := 1) hx hb dX10_gain_1 (by decide) ?_
  refine lv_icmp_ne (tgt := 17) hx hb dX10_gain_2 (by decide) (fun hc => ?_) (fun hc => ?_)
  · replace hf := (if_neg hc).symm.trans hf
    refine lv_iload_n hx hb dX10_gain_17 rfl (lv_at hl 1 rfl) ?_
    refine lv_iconst (v := 1) hx hb dX10_gain_18 (by decide) ?_
    refine lv_icmp_ne (tgt := 27) hx hb dX10_gain_19 (by decide) (fun hc => ?_) (fun hc => ?_)
    · replace hf := (if_neg hc).symm.trans hf
      refine lv_iconst (v := 0) hx hb dX10_gain_27 (by decide) ?_
      exact gm_iret C E hw rfl ((congrArg (fun z => some (Value.int z)) hf).symm) rfl dX10_gain_28
    · replace hf := (if_pos hc).symm.trans hf
      refine lv_iload hx hb dX10_gain_22 (lv_at hl 4 rfl) ?_
      refine lv_goto (tgt := 28) hx hb dX10_gain_24 (by decide) ?_
      exact gm_iret C E hw rfl ((congrArg (fun z => some (Value.int z)) hf).symm) rfl dX10_gain_28
  · replace hf := (if_pos hc).symm.trans hf
    refine lv_iload_n hx hb dX10_gain_5 rfl (lv_at hl 1 rfl) ?_
    refine lv_iconst (v := 1) hx hb dX10_gain_6 (by decide) ?_
    refine lv_icmp_ne (tgt := 15) hx hb dX10_gain_7 (by decide) (fun hc => ?_) (fun hc => ?_)
    · replace hf := (if_neg hc).symm.trans hf
      refine lv_iload_n hx hb dX10_gain_15 rfl (lv_at hl 3 rfl) ?_
      exact gm_iret C E hw rfl ((congrArg (fun z => some (Value.int z)) hf).symm) rfl dX10_gain_16
    · replace hf := (if_pos hc).symm.trans hf
      refine lv_iload_n hx hb dX10_gain_10 rfl (lv_at hl 2 rfl) ?_
      refine lv_ineg hx hb dX10_gain_11 ?_
      refine lv_goto (tgt := 16) hx hb dX10_gain_12 (by decide) ?_
      exact gm_iret C E hw rfl ((congrArg (fun z => some (Value.int z)) hf).symm) rfl dX10_gain_16
/-! LeapCapital.draw -/
def f_X10_draw (a1 : Int32) (u : gm_M) : Option (Int32 × gm_M) := if (1 : Int32) ≤ a1 then gm_let (sJ u 1 0 (lRem (((gJ u 1 0) * (1103515245 : Int64)) + (12345 : Int64)) (2147483648 : Int64))) fun u_1 => if ¬ a1.toInt64 = 0 then some ((lRem ((gJ u_1 1 0) / (65536 : Int64)) a1.toInt64).toInt32, u_1) else none else some ((0 : Int32), u)
set_option maxRecDepth 100000 in
set_option maxHeartbeats 4000000 in
theorem ok_X10_draw (l : Launch) (Z : gm_Z) (a1 : Int32) (u : gm_M)  (r : Int32) (u' : gm_M) (hf : f_X10_draw a1 u = some (r, u')) : gm_Met l GC Z yX10_draw cX10_draw 2 (some .int) ({ frames := 0, cells := 0, slots := 0, locals := 0 }) [rv Z 1, .int a1] u (some (.int r)) u' := by
  unfold f_X10_draw at hf
  refine gm_ofW (by decide +kernel) (Nat.le_of_ble_eq_true rfl) ?_
  intro p e s m args below meth c A ls Q R hRf hRl C E hl hw
  obtain ⟨hx, hb, -⟩ := id C
  have hl : lv_has ls 2 [(0, rv Z 1), (1, .int a1)] := hl
  refine lv_iload_n hx hb dX10_draw_0 rfl (lv_at hl 1 rfl) ?_
  refine lv_iconst (v := 1) hx hb dX10_draw_1 (by decide) ?_
  refine lv_icmp_ge (tgt := 7) hx hb dX10_draw_2 (by decide) (fun hc => ?_) (fun hc => ?_)
  · replace hf := (if_pos hc).symm.trans hf
    refine gm_aload_n (G := GC) (r := 1) C rfl dX10_draw_7 rfl (lv_at hl 0 rfl) ?_
    refine gm_aload_n (G := GC) (r := 1) C rfl dX10_draw_8 rfl (lv_at hl 0 rfl) ?_
    refine gm_getJ (G := GC) (u := u) (r := 1) (ci := 9) (k := 0) C hw rfl fl_X10_81 dX10_draw_9 rfl ?_
    refine lv_ldc2 hx hb C.2.2.2.1 (C.2.2.2.2.1 _ kn_X10_315) dX10_draw_12 ?_
    refine lv_lmul hx hb dX10_draw_15 ?_
    refine lv_ldc2 hx hb C.2.2.2.1 (C.2.2.2.2.1 _ kn_X10_317) dX10_draw_16 ?_
    refine lv_ladd hx hb dX10_draw_19 ?_
    refine lv_ldc2 hx hb C.2.2.2.1 (C.2.2.2.2.1 _ kn_X10_319) dX10_draw_20 ?_
    refine lv_lrem hx hb dX10_draw_23 (by decide) ?_
    refine gm_putJ (G := GC) (u := u) (r := 1) (ci := 9) (k := 0) (v := lRem (((gJ u 1 0) * (1103515245 : Int64)) + (12345 : Int64)) (2147483648 : Int64)) C hw rfl fl_X10_81 fp_9_0 dX10_draw_24 rfl (fun H locs hw => ?_)
    obtain ⟨u_1, e_u_1, hf⟩ := gm_le hf
    rw [← e_u_1] at hw
    refine gm_aload_n (G := GC) (r := 1) C rfl dX10_draw_27 rfl (lv_at hl 0 rfl) ?_
    refine gm_getJ (G := GC) (u := u_1) (r := 1) (ci := 9) (k := 0) C hw rfl fl_X10_81 dX10_draw_28 rfl ?_
    refine lv_ldc2 hx hb C.2.2.2.1 (C.2.2.2.2.1 _ kn_X10_321) dX10_draw_31 ?_
    refine lv_ldiv hx hb dX10_draw_34 (by decide) ?_
    refine lv_iload_n hx hb dX10_draw_35 rfl (lv_at hl 1 rfl) ?_
    refine lv_i2l hx hb dX10_draw_36 rfl ?_
    obtain ⟨g_2, hf⟩ := gm_grd hf
    refine lv_lrem hx hb dX10_draw_37 g_2 ?_
    refine lv_l2i hx hb dX10_draw_38 rfl ?_
    exact gm_iret C E hw rfl ((congrArg (fun z => some (Value.int z)) (gm_sp hf).1).symm) (gm_sp hf).2.symm dX10_draw_39
  · replace hf := (if_neg hc).symm.trans hf
    refine lv_iconst (v := 0) hx hb dX10_draw_5 (by decide) ?_
    exact gm_iret C E hw rfl ((congrArg (fun z => some (Value.int z)) (gm_sp hf).1).symm) (gm_sp hf).2.symm dX10_draw_6
/-! LeapCapital.drawVisit -/
def f_X10_drawVisit  (u : gm_M) : Option gm_M := if isRealm (gR u 1 2) = true then if 0 < (gI u (gR u 1 2) 0) then (f_X10_draw (gI u (gR u 1 2) 0) u).bind fun o => match o with | (r_3, u_4) => if isRealm (gR u_4 1 2) = true then (f_X1_mayEnter 40 (gR u_4 1 2) r_3 u_4).bind fun r_9 => if r_9 = 0 then (f_X1_isQueued 40 r_3 u_4).bind fun r_11 => if r_11 = 0 then some u_4 else (f_X10_draw (8 : Int32) u_4).bind fun o => match o with | (r_13, u_14) => if r_13 = 0 then (f_X1_goOut 40 r_3 u_14).bind fun u_17 => some u_17 else some u_14 else (f_X1_enter 40 r_3 u_4).bind fun u_19 => some u_19 else none else some u else none
set_option maxRecDepth 100000 in
set_option maxHeartbeats 4000000 in
theorem ok_X10_drawVisit (l : Launch) (Z : gm_Z)  (u : gm_M)  (u' : gm_M) (hf : f_X10_drawVisit u = some (u')) : gm_Met l GC Z yX10_drawVisit cX10_drawVisit 2 none ({ frames := 3, cells := 0, slots := 0, locals := 65 }) [rv Z 1] u none u' := by
  unfold f_X10_drawVisit at hf
  refine gm_ofW (by decide +kernel) (Nat.le_of_ble_eq_true rfl) ?_
  intro p e s m args below meth c A ls Q R hRf hRl C E hl hw
  obtain ⟨hx, hb, -⟩ := id C
  have hl : lv_has ls 2 [(0, rv Z 1)] := hl
  refine gm_aload_n (G := GC) (r := 1) C rfl dX10_drawVisit_0 rfl (lv_at hl 0 rfl) ?_
  refine gm_getR (G := GC) (u := u) (r := 1) (ci := 9) (k := 2) C hw rfl fl_X10_19 dX10_drawVisit_1 rfl ?_
  obtain ⟨g_1, hf⟩ := gm_grd hf
  obtain ⟨k_2_0, k_2_1, k_2_2, k_2_3, k_2_4, k_2_5, k_2_6, k_2_7, k_2_8, k_2_9, k_2_10, k_2_11⟩ := fc_Realm g_1
  refine gm_getI (G := GC) (u := u) (r := (gR u 1 2)) (ci := 4) (k := 0) C hw k_2_0 fl_X10_312 dX10_drawVisit_4 rfl ?_
  refine lv_if_gt (tgt := 11) hx hb dX10_drawVisit_7 (by decide) (fun hc => ?_) (fun hc => ?_)
  · replace hf := (if_pos hc).symm.trans hf
    refine gm_aload_n (G := GC) (r := 1) C rfl dX10_drawVisit_11 rfl (lv_at hl 0 rfl) ?_
    refine gm_aload_n (G := GC) (r := 1) C rfl dX10_drawVisit_12 rfl (lv_at hl 0 rfl) ?_
    refine gm_getR (G := GC) (u := u) (r := 1) (ci := 9) (k := 2) C hw rfl fl_X10_19 dX10_drawVisit_13 rfl ?_
    refine gm_getI (G := GC) (u := u) (r := (gR u 1 2)) (ci := 4) (k := 0) C hw k_2_0 fl_X10_312 dX10_drawVisit_16 rfl ?_
    obtain ⟨⟨r_3, u_4⟩, hc_5, hf⟩ := gm_bnd hf
    try dsimp only at hf
    refine gm_callV (G := GC) (u := u) (u' := u_4) (r := 1) (ci := 9) (As := [.int (gI u (gR u 1 2) 0)]) (rest := []) (res := (some (.int r_3))) C hw hl (ok_X10_draw l Z (gI u (gR u 1 2) 0) u r_3 u_4 hc_5) cw_X10_309 im_X10_draw rfl se_X10_draw rfl rfl rfl ⟨Nat.le_trans (Nat.le_of_ble_eq_true rfl) hRf, Nat.le_trans (Nat.le_of_ble_eq_true rfl) hRl⟩ rfl rfl (Nat.le_of_ble_eq_true rfl) dX10_drawVisit_19 (fun H locs hw => ?_)
    refine lv_istore_n (i := 1) (lv' := [(1, .int r_3), (0, rv Z 1)]) hx hb dX10_drawVisit_22 rfl hl (by decide) rfl (fun ls hl => ?_)
    refine gm_aload_n (G := GC) (r := 1) C rfl dX10_drawVisit_23 rfl (lv_at hl 1 rfl) ?_
    refine gm_getS (G := GC) (u := u_4) (r := 1) (ci := 9) (k := 12) C hw rfl fl_X10_71 dX10_drawVisit_24 rfl (q := 40) rfl ?_
    refine gm_aload_n (G := GC) (r := 1) C rfl dX10_drawVisit_27 rfl (lv_at hl 1 rfl) ?_
    refine gm_getR (G := GC) (u := u_4) (r := 1) (ci := 9) (k := 2) C hw rfl fl_X10_19 dX10_drawVisit_28 rfl ?_
    obtain ⟨g_7, hf⟩ := gm_grd hf
    obtain ⟨k_8_0, k_8_1, k_8_2, k_8_3, k_8_4, k_8_5, k_8_6, k_8_7, k_8_8, k_8_9, k_8_10, k_8_11⟩ := fc_Realm g_7
    refine lv_iload_n hx hb dX10_drawVisit_31 rfl (lv_at hl 0 rfl) ?_
    obtain ⟨r_9, hc_10, hf⟩ := gm_bnd hf
    refine gm_callV (G := GC) (u := u_4) (u' := u_4) (r := 40) (ci := 0) (As := [rv Z (gR u_4 1 2), .int r_3]) (rest := []) (res := (some (.int r_9))) C hw hl (ok_X1_mayEnter l Z 40 (gR u_4 1 2) r_3 u_4 rfl g_7 r_9 hc_10) cw_X10_158 im_X1_mayEnter rfl se_X1_mayEnter rfl rfl rfl ⟨Nat.le_trans (Nat.le_of_ble_eq_true rfl) hRf, Nat.le_trans (Nat.le_of_ble_eq_true rfl) hRl⟩ rfl rfl (Nat.le_of_ble_eq_true rfl) dX10_drawVisit_32 (fun H locs hw => ?_)
    refine lv_if_eq (tgt := 49) hx hb dX10_drawVisit_35 (by decide) (fun hc => ?_) (fun hc => ?_)
    · replace hf := (if_pos hc).symm.trans hf
      refine gm_aload_n (G := GC) (r := 1) C rfl dX10_drawVisit_49 rfl (lv_at hl 1 rfl) ?_
      refine gm_getS (G := GC) (u := u_4) (r := 1) (ci := 9) (k := 12) C hw rfl fl_X10_71 dX10_drawVisit_50 rfl (q := 40) rfl ?_
      refine lv_iload_n hx hb dX10_drawVisit_53 rfl (lv_at hl 0 rfl) ?_
      obtain ⟨r_11, hc_12, hf⟩ := gm_bnd hf
      refine gm_callV (G := GC) (u := u_4) (u' := u_4) (r := 40) (ci := 0) (As := [.int r_3]) (rest := []) (res := (some (.int r_11))) C hw hl (ok_X1_isQueued l Z 40 r_3 u_4 rfl r_11 hc_12) cw_X10_149 im_X1_isQueued rfl se_X1_isQueued rfl rfl rfl ⟨Nat.le_trans (Nat.le_of_ble_eq_true rfl) hRf, Nat.le_trans (Nat.le_of_ble_eq_true rfl) hRl⟩ rfl rfl (Nat.le_of_ble_eq_true rfl) dX10_drawVisit_54 (fun H locs hw => ?_)
      refine lv_if_eq (tgt := 77) hx hb dX10_drawVisit_57 (by decide) (fun hc => ?_) (fun hc => ?_)
      · replace hf := (if_pos hc).symm.trans hf
        exact gm_vret C E hw rfl rfl (Option.some.inj hf).symm dX10_drawVisit_77
      · replace hf := (if_neg hc).symm.trans hf
        refine gm_aload_n (G := GC) (r := 1) C rfl dX10_drawVisit_60 rfl (lv_at hl 1 rfl) ?_
        refine lv_bipush (v := 8) hx hb dX10_drawVisit_61 (by decide) ?_
        obtain ⟨⟨r_13, u_14⟩, hc_15, hf⟩ := gm_bnd hf
        try dsimp only at hf
        refine gm_callV (G := GC) (u := u_4) (u' := u_14) (r := 1) (ci := 9) (As := [.int (8 : Int32)]) (rest := []) (res := (some (.int r_13))) C hw hl (ok_X10_draw l Z (8 : Int32) u_4 r_13 u_14 hc_15) cw_X10_309 im_X10_draw rfl se_X10_draw rfl rfl rfl ⟨Nat.le_trans (Nat.le_of_ble_eq_true rfl) hRf, Nat.le_trans (Nat.le_of_ble_eq_true rfl) hRl⟩ rfl rfl (Nat.le_of_ble_eq_true rfl) dX10_drawVisit_63 (fun H locs hw => ?_)
        refine lv_if_ne (tgt := 77) hx hb dX10_drawVisit_66 (by decide) (fun hc => ?_) (fun hc => ?_)
        · replace hf := (if_neg hc).symm.trans hf
          exact gm_vret C E hw rfl rfl (Option.some.inj hf).symm dX10_drawVisit_77
        · replace hf := (if_pos hc).symm.trans hf
          refine gm_aload_n (G := GC) (r := 1) C rfl dX10_drawVisit_69 rfl (lv_at hl 1 rfl) ?_
          refine gm_getS (G := GC) (u := u_14) (r := 1) (ci := 9) (k := 12) C hw rfl fl_X10_71 dX10_drawVisit_70 rfl (q := 40) rfl ?_
          refine lv_iload_n hx hb dX10_drawVisit_73 rfl (lv_at hl 0 rfl) ?_
          obtain ⟨u_17, hc_18, hf⟩ := gm_bnd hf
          refine gm_callV (G := GC) (u := u_14) (u' := u_17) (r := 40) (ci := 0) (As := [.int r_3]) (rest := []) (res := none) C hw hl (ok_X1_goOut l Z 40 r_3 u_14 rfl u_17 hc_18) cw_X10_169 im_X1_goOut rfl se_X1_goOut rfl rfl rfl ⟨Nat.le_trans (Nat.le_of_ble_eq_true rfl) hRf, Nat.le_trans (Nat.le_of_ble_eq_true rfl) hRl⟩ rfl rfl (Nat.le_of_ble_eq_true rfl) dX10_drawVisit_74 (fun H locs hw => ?_)
          exact gm_vret C E hw rfl rfl (Option.some.inj hf).symm dX10_drawVisit_77
    · replace hf := (if_neg hc).symm.trans hf
      refine gm_aload_n (G := GC) (r := 1) C rfl dX10_drawVisit_38 rfl (lv_at hl 1 rfl) ?_
      refine gm_getS (G := GC) (u := u_4) (r := 1) (ci := 9) (k := 12) C hw rfl fl_X10_71 dX10_drawVisit_39 rfl (q := 40) rfl ?_
      refine lv_iload_n hx hb dX10_drawVisit_42 rfl (lv_at hl 0 rfl) ?_
      obtain ⟨u_19, hc_20, hf⟩ := gm_bnd hf
      refine gm_callV (G := GC) (u := u_4) (u' := u_19) (r := 40) (ci := 0) (As := [.int r_3]) (rest := []) (res := none) C hw hl (ok_X1_enter l Z 40 r_3 u_4 rfl u_19 hc_20) cw_X10_165 im_X1_enter rfl se_X1_enter rfl rfl rfl ⟨Nat.le_trans (Nat.le_of_ble_eq_true rfl) hRf, Nat.le_trans (Nat.le_of_ble_eq_true rfl) hRl⟩ rfl rfl (Nat.le_of_ble_eq_true rfl) dX10_drawVisit_43 (fun H locs hw => ?_)
      refine lv_goto (tgt := 77) hx hb dX10_drawVisit_46 (by decide) ?_
      exact gm_vret C E hw rfl rfl (Option.some.inj hf).symm dX10_drawVisit_77
  · replace hf := (if_neg hc).symm.trans hf
    exact gm_vret C E hw rfl rfl (Option.some.inj hf).symm dX10_drawVisit_10
/-! LeapCapital.ages -/
def j_X10_ages_87 (a1 : Int32) (a2 : Int32) (a3 : Int32) (v4_7 : Int32) (u_6 : gm_M) : Option ((Int32 × gm_M) ⊕ gm_M) := if isRealm (gR u_6 1 2) = true then (f_X2_passYear (gR u_6 1 2) 40 (0 : Int32) u_6).bind fun o => match o with | (r_10, u_11) => some (.inl (v4_7 + (1 : Int32), u_11)) else none
def b_X10_ages_53 (a1 : Int32) (a2 : Int32) (a3 : Int32) : (Int32 × gm_M) → Option ((Int32 × gm_M) ⊕ gm_M) := fun x => match x with | (v4_5, u_4) => if a2 ≤ v4_5 then some (.inr u_4) else (f_X10_drawVisit u_4).bind fun u_14 => (f_X10_draw (6 : Int32) u_14).bind fun o => match o with | (r_16, u_17) => if r_16 = 0 then (f_X10_draw (20 : Int32) u_17).bind fun o => match o with | (r_20, u_21) => (f_X1_light 40 (r_20 + (1 : Int32)) u_21).bind fun u_24 => j_X10_ages_87 a1 a2 a3 v4_5 u_24 else j_X10_ages_87 a1 a2 a3 v4_5 u_17
def f_X10_ages (a1 : Int32) (a2 : Int32) (a3 : Int32) (u : gm_M) : Option (Int32 × gm_M) := if a1 < 0 then some ((-1 : Int32), u) else if (9999 : Int32) < a1 then some ((-1 : Int32), u) else if a2 < (1 : Int32) then some ((-1 : Int32), u) else if (99 : Int32) < a2 then some ((-1 : Int32), u) else if a3 < 0 then some ((-1 : Int32), u) else if a3 ≤ (2 : Int32) then gm_let (sJ u 1 0 a1.toInt64) fun u_1 => (f_X1_copyFrom 40 27 u_1).bind fun u_2 => ((gm_lp (b_X10_ages_53 a1 a2 a3) gm_FU ((0 : Int32), u_2)).bind fun o => match o with | u_26 => if a3 = 0 then gm_let (f_J6_bitCount_0f7a4 ((gI u_26 40 2) &&& ((gI u_26 27 2) ^^^ (-1 : Int32)))) fun r_29 => some (r_29, u_26) else if a3 = (1 : Int32) then (f_X1_queueBits 40 u_26).bind fun r_27 => some (r_27, u_26) else some (gI u_26 40 0, u_26)) else some ((-1 : Int32), u)
set_option maxRecDepth 100000 in
set_option maxHeartbeats 4000000 in
theorem ok_X10_ages (l : Launch) (Z : gm_Z) (a1 : Int32) (a2 : Int32) (a3 : Int32) (u : gm_M)  (r : Int32) (u' : gm_M) (hf : f_X10_ages a1 a2 a3 u = some (r, u')) : gm_Met l GC Z yX10_ages cX10_ages 5 (some .int) ({ frames := 6, cells := 0, slots := 0, locals := 154 }) [rv Z 1, .int a1, .int a2, .int a3] u (some (.int r)) u' := by
  unfold f_X10_ages at hf
  refine gm_ofW (by decide +kernel) (Nat.le_of_ble_eq_true rfl) ?_
  intro p e s m args below meth c A ls Q R hRf hRl C E hl hw
  obtain ⟨hx, hb, -⟩ := id C
  have hl : lv_has ls 5 [(0, rv Z 1), (1, .int a1), (2, .int a2), (3, .int a3)] := hl
  refine lv_iload_n hx hb dX10_ages_0 rfl (lv_at hl 1 rfl) ?_
  refine lv_if_lt (tgt := 31) hx hb dX10_ages_1 (by decide) (fun hc => ?_) (fun hc => ?_)
  · replace hf := (if_pos hc).symm.trans hf
    refine lv_iconst (v := -1) hx hb dX10_ages_31 (by decide) ?_
    exact gm_iret C E hw rfl ((congrArg (fun z => some (Value.int z)) (gm_sp hf).1).symm) (gm_sp hf).2.symm dX10_ages_32
  · replace hf := (if_neg hc).symm.trans hf
    refine lv_iload_n hx hb dX10_ages_4 rfl (lv_at hl 1 rfl) ?_
    refine lv_sipush (v := 9999) hx hb dX10_ages_5 (by decide) ?_
    refine lv_icmp_gt (tgt := 31) hx hb dX10_ages_8 (by decide) (fun hc => ?_) (fun hc => ?_)
    · replace hf := (if_pos hc).symm.trans hf
      refine lv_iconst (v := -1) hx hb dX10_ages_31 (by decide) ?_
      exact gm_iret C E hw rfl ((congrArg (fun z => some (Value.int z)) (gm_sp hf).1).symm) (gm_sp hf).2.symm dX10_ages_32
    · replace hf := (if_neg hc).symm.trans hf
      refine lv_iload_n hx hb dX10_ages_11 rfl (lv_at hl 2 rfl) ?_
      refine lv_iconst (v := 1) hx hb dX10_ages_12 (by decide) ?_
      refine lv_icmp_lt (tgt := 31) hx hb dX10_ages_13 (by decide) (fun hc => ?_) (fun hc => ?_)
      · replace hf := (if_pos hc).symm.trans hf
        refine lv_iconst (v := -1) hx hb dX10_ages_31 (by decide) ?_
        exact gm_iret C E hw rfl ((congrArg (fun z => some (Value.int z)) (gm_sp hf).1).symm) (gm_sp hf).2.symm dX10_ages_32
      · replace hf := (if_neg hc).symm.trans hf
        refine lv_iload_n hx hb dX10_ages_16 rfl (lv_at hl 2 rfl) ?_
        refine lv_bipush (v := 99) hx hb dX10_ages_17 (by decide) ?_
        refine lv_icmp_gt (tgt := 31) hx hb dX10_ages_19 (by decide) (fun hc => ?_) (fun hc => ?_)
        · replace hf := (if_pos hc).symm.trans hf
          refine lv_iconst (v := -1) hx hb dX10_ages_31 (by decide) ?_
          exact gm_iret C E hw rfl ((congrArg (fun z => some (Value.int z)) (gm_sp hf).1).symm) (gm_sp hf).2.symm dX10_ages_32
        · replace hf := (if_neg hc).symm.trans hf
          refine lv_iload_n hx hb dX10_ages_22 rfl (lv_at hl 3 rfl) ?_
          refine lv_if_lt (tgt := 31) hx hb dX10_ages_23 (by decide) (fun hc => ?_) (fun hc => ?_)
          · replace hf := (if_pos hc).symm.trans hf
            refine lv_iconst (v := -1) hx hb dX10_ages_31 (by decide) ?_
            exact gm_iret C E hw rfl ((congrArg (fun z => some (Value.int z)) (gm_sp hf).1).symm) (gm_sp hf).2.symm dX10_ages_32
          · replace hf := (if_neg hc).symm.trans hf
            refine lv_iload_n hx hb dX10_ages_26 rfl (lv_at hl 3 rfl) ?_
            refine lv_iconst (v := 2) hx hb dX10_ages_27 (by decide) ?_
            refine lv_icmp_le (tgt := 33) hx hb dX10_ages_28 (by decide) (fun hc => ?_) (fun hc => ?_)
            · replace hf := (if_pos hc).symm.trans hf
              refine gm_aload_n (G := GC) (r := 1) C rfl dX10_ages_33 rfl (lv_at hl 0 rfl) ?_
              refine lv_iload_n hx hb dX10_ages_34 rfl (lv_at hl 1 rfl) ?_
              refine lv_i2l hx hb dX10_ages_35 rfl ?_
              refine gm_putJ (G := GC) (u := u) (r := 1) (ci := 9) (k := 0) (v := a1.toInt64) C hw rfl fl_X10_81 fp_9_0 dX10_ages_36 rfl (fun H locs hw => ?_)
              obtain ⟨u_1, e_u_1, hf⟩ := gm_le hf
              rw [← e_u_1] at hw
              refine gm_aload_n (G := GC) (r := 1) C rfl dX10_ages_39 rfl (lv_at hl 0 rfl) ?_
              refine gm_getS (G := GC) (u := u_1) (r := 1) (ci := 9) (k := 12) C hw rfl fl_X10_71 dX10_ages_40 rfl (q := 40) rfl ?_
              refine gm_aload_n (G := GC) (r := 1) C rfl dX10_ages_43 rfl (lv_at hl 0 rfl) ?_
              refine gm_getS (G := GC) (u := u_1) (r := 1) (ci := 9) (k := 6) C hw rfl fl_X10_39 dX10_ages_44 rfl (q := 27) rfl ?_
              obtain ⟨u_2, hc_3, hf⟩ := gm_bnd hf
              refine gm_callV (G := GC) (u := u_1) (u' := u_2) (r := 40) (ci := 0) (As := [rv Z 27]) (rest := []) (res := none) C hw hl (ok_X1_copyFrom l Z 40 27 u_1 rfl rfl u_2 hc_3) cw_X10_189 im_X1_copyFrom rfl se_X1_copyFrom rfl rfl rfl ⟨Nat.le_trans (Nat.le_of_ble_eq_true rfl) hRf, Nat.le_trans (Nat.le_of_ble_eq_true rfl) hRl⟩ rfl rfl (Nat.le_of_ble_eq_true rfl) dX10_ages_47 (fun H locs hw => ?_)
              refine lv_iconst (v := 0) hx hb dX10_ages_50 (by decide) ?_
              refine lv_istore (i := 4) (lv' := [(4, .int (0 : Int32)), (0, rv Z 1), (1, .int a1), (2, .int a2), (3, .int a3)]) hx hb dX10_ages_51 hl (by decide) rfl (fun ls hl => ?_)
              obtain ⟨o1, hlp, hf⟩ := gm_bnd hf
              have L53_1 := gm_loop (b_X10_ages_53 a1 a2 a3) (fun x : (Int32 × gm_M) => ∀ (H : Heap) (locs : List Loc) (ls : Array Slot), lv_has ls 5 [(0, rv Z 1), (2, .int a2), (3, .int a3), (4, .int x.1)] → wd GC Z x.2 A s.heap H locs → W p l e R s m args below meth c H locs 0 0 Q (F0 m 53 ls [])) (fun z : gm_M => ∀ (H : Heap) (locs : List Loc) (ls : Array Slot), lv_has ls 5 [(0, rv Z 1), (3, .int a3)] → wd GC Z z A s.heap H locs → W p l e R s m args below meth c H locs 0 0 Q (F0 m 110 ls [])) (by
                intro x o1 hf Kc Kx
                obtain ⟨v4_5, u_4⟩ := x
                intro H locs ls hl hw
                unfold b_X10_ages_53 at hf
                try dsimp only at hf
                have J87 : ∀ (v4_7 : Int32) (u_6 : gm_M) (H : Heap) (locs : List Loc) (ls : Array Slot), j_X10_ages_87 a1 a2 a3 v4_7 u_6 = some o1 → lv_has ls 5 [(0, rv Z 1), (2, .int a2), (3, .int a3), (4, .int v4_7)] → wd GC Z u_6 A s.heap H locs → W p l e R s m args below meth c H locs 0 0 Q (F0 m 87 ls []) := by
                  intro v4_7 u_6 H locs ls hf  hl hw
                  unfold j_X10_ages_87 at hf
                  refine gm_aload_n (G := GC) (r := 1) C rfl dX10_ages_87 rfl (lv_at hl 0 rfl) ?_
                  refine gm_getS (G := GC) (u := u_6) (r := 1) (ci := 9) (k := 8) C hw rfl fl_X10_53 dX10_ages_88 rfl (q := 35) rfl ?_
                  refine gm_aload_n (G := GC) (r := 1) C rfl dX10_ages_91 rfl (lv_at hl 0 rfl) ?_
                  refine gm_getR (G := GC) (u := u_6) (r := 1) (ci := 9) (k := 2) C hw rfl fl_X10_19 dX10_ages_92 rfl ?_
                  obtain ⟨g_8, hf⟩ := gm_grd hf
                  obtain ⟨k_9_0, k_9_1, k_9_2, k_9_3, k_9_4, k_9_5, k_9_6, k_9_7, k_9_8, k_9_9, k_9_10, k_9_11⟩ := fc_Realm g_8
                  refine gm_aload_n (G := GC) (r := 1) C rfl dX10_ages_95 rfl (lv_at hl 0 rfl) ?_
                  refine gm_getS (G := GC) (u := u_6) (r := 1) (ci := 9) (k := 12) C hw rfl fl_X10_71 dX10_ages_96 rfl (q := 40) rfl ?_
                  refine lv_iconst (v := 0) hx hb dX10_ages_99 (by decide) ?_
                  obtain ⟨⟨r_10, u_11⟩, hc_12, hf⟩ := gm_bnd hf
                  try dsimp only at hf
                  refine gm_callV (G := GC) (u := u_6) (u' := u_11) (r := 35) (ci := 1) (As := [rv Z (gR u_6 1 2), rv Z 40, .int (0 : Int32)]) (rest := []) (res := (some (.int r_10))) C hw hl (ok_X2_passYear l Z (gR u_6 1 2) 40 (0 : Int32) u_6 g_8 rfl r_10 u_11 hc_12) cw_X10_178 im_X2_passYear rfl se_X2_passYear rfl rfl rfl ⟨Nat.le_trans (Nat.le_of_ble_eq_true rfl) hRf, Nat.le_trans (Nat.le_of_ble_eq_true rfl) hRl⟩ rfl rfl (Nat.le_of_ble_eq_true rfl) dX10_ages_100 (fun H locs hw => ?_)
                  refine lv_pop hx hb dX10_ages_103 rfl ?_
                  refine lv_iinc (v := v4_7 + (1 : Int32)) (lv' := [(4, .int (v4_7 + (1 : Int32))), (0, rv Z 1), (2, .int a2), (3, .int a3)]) hx hb dX10_ages_104 hl (k := 3) rfl rfl (by decide) rfl (fun ls hl => ?_)
                  refine lv_goto (tgt := 53) hx hb dX10_ages_107 (by decide) ?_
                  exact Kc _ (gm_si hf) _ _ _ (lv_sub hl [1, 2, 3, 0] rfl) hw
                refine lv_iload hx hb dX10_ages_53 (lv_at hl 3 rfl) ?_
                refine lv_iload_n hx hb dX10_ages_55 rfl (lv_at hl 1 rfl) ?_
                refine lv_icmp_ge (tgt := 110) hx hb dX10_ages_56 (by decide) (fun hc => ?_) (fun hc => ?_)
                · replace hf := (if_pos hc).symm.trans hf
                  exact Kx _ (gm_si hf) _ _ _ (lv_sub hl [0, 2] rfl) hw
                · replace hf := (if_neg hc).symm.trans hf
                  refine gm_aload_n (G := GC) (r := 1) C rfl dX10_ages_59 rfl (lv_at hl 0 rfl) ?_
                  obtain ⟨u_14, hc_15, hf⟩ := gm_bnd hf
                  refine gm_callV (G := GC) (u := u_4) (u' := u_14) (r := 1) (ci := 9) (As := []) (rest := []) (res := none) C hw hl (ok_X10_drawVisit l Z u_4 u_14 hc_15) cw_X10_306 im_X10_drawVisit rfl se_X10_drawVisit rfl rfl rfl ⟨Nat.le_trans (Nat.le_of_ble_eq_true rfl) hRf, Nat.le_trans (Nat.le_of_ble_eq_true rfl) hRl⟩ rfl rfl (Nat.le_of_ble_eq_true rfl) dX10_ages_60 (fun H locs hw => ?_)
                  refine gm_aload_n (G := GC) (r := 1) C rfl dX10_ages_63 rfl (lv_at hl 0 rfl) ?_
                  refine lv_bipush (v := 6) hx hb dX10_ages_64 (by decide) ?_
                  obtain ⟨⟨r_16, u_17⟩, hc_18, hf⟩ := gm_bnd hf
                  try dsimp only at hf
                  refine gm_callV (G := GC) (u := u_14) (u' := u_17) (r := 1) (ci := 9) (As := [.int (6 : Int32)]) (rest := []) (res := (some (.int r_16))) C hw hl (ok_X10_draw l Z (6 : Int32) u_14 r_16 u_17 hc_18) cw_X10_309 im_X10_draw rfl se_X10_draw rfl rfl rfl ⟨Nat.le_trans (Nat.le_of_ble_eq_true rfl) hRf, Nat.le_trans (Nat.le_of_ble_eq_true rfl) hRl⟩ rfl rfl (Nat.le_of_ble_eq_true rfl) dX10_ages_66 (fun H locs hw => ?_)
                  refine lv_if_ne (tgt := 87) hx hb dX10_ages_69 (by decide) (fun hc => ?_) (fun hc => ?_)
                  · replace hf := (if_neg hc).symm.trans hf
                    exact J87 v4_5 u_17 _ _ _ hf  (lv_sub hl [0, 1, 2, 3] rfl) hw
                  · replace hf := (if_pos hc).symm.trans hf
                    refine gm_aload_n (G := GC) (r := 1) C rfl dX10_ages_72 rfl (lv_at hl 0 rfl) ?_
                    refine gm_getS (G := GC) (u := u_17) (r := 1) (ci := 9) (k := 12) C hw rfl fl_X10_71 dX10_ages_73 rfl (q := 40) rfl ?_
                    refine gm_aload_n (G := GC) (r := 1) C rfl dX10_ages_76 rfl (lv_at hl 0 rfl) ?_
                    refine lv_bipush (v := 20) hx hb dX10_ages_77 (by decide) ?_
                    obtain ⟨⟨r_20, u_21⟩, hc_22, hf⟩ := gm_bnd hf
                    try dsimp only at hf
                    refine gm_callV (G := GC) (u := u_17) (u' := u_21) (r := 1) (ci := 9) (As := [.int (20 : Int32)]) (rest := [rv Z 40]) (res := (some (.int r_20))) C hw hl (ok_X10_draw l Z (20 : Int32) u_17 r_20 u_21 hc_22) cw_X10_309 im_X10_draw rfl se_X10_draw rfl rfl rfl ⟨Nat.le_trans (Nat.le_of_ble_eq_true rfl) hRf, Nat.le_trans (Nat.le_of_ble_eq_true rfl) hRl⟩ rfl rfl (Nat.le_of_ble_eq_true rfl) dX10_ages_79 (fun H locs hw => ?_)
                    refine lv_iconst (v := 1) hx hb dX10_ages_82 (by decide) ?_
                    refine lv_iadd hx hb dX10_ages_83 ?_
                    obtain ⟨u_24, hc_25, hf⟩ := gm_bnd hf
                    refine gm_callV (G := GC) (u := u_21) (u' := u_24) (r := 40) (ci := 0) (As := [.int (r_20 + (1 : Int32))]) (rest := []) (res := none) C hw hl (ok_X1_light l Z 40 (r_20 + (1 : Int32)) u_21 rfl u_24 hc_25) cw_X10_172 im_X1_light rfl se_X1_light rfl rfl rfl ⟨Nat.le_trans (Nat.le_of_ble_eq_true rfl) hRf, Nat.le_trans (Nat.le_of_ble_eq_true rfl) hRl⟩ rfl rfl (Nat.le_of_ble_eq_true rfl) dX10_ages_84 (fun H locs hw => ?_)
                    exact J87 v4_5 u_24 _ _ _ hf  (lv_sub hl [0, 1, 2, 3] rfl) hw)
              refine L53_1 _ _ _ hlp ?_ _ _ _ (lv_sub hl [1, 3, 4, 0] rfl) hw
              obtain ⟨u_26, rfl⟩ : ∃ y, y = o1 := ⟨_, rfl⟩
              intro H locs ls hl hw
              try dsimp only at hf
              refine lv_iload_n hx hb dX10_ages_110 rfl (lv_at hl 1 rfl) ?_
              refine lv_if_ne (tgt := 135) hx hb dX10_ages_111 (by decide) (fun hc => ?_) (fun hc => ?_)
              · replace hf := (if_neg hc).symm.trans hf
                refine lv_iload_n hx hb dX10_ages_135 rfl (lv_at hl 1 rfl) ?_
                refine lv_iconst (v := 1) hx hb dX10_ages_136 (by decide) ?_
                refine lv_icmp_ne (tgt := 150) hx hb dX10_ages_137 (by decide) (fun hc => ?_) (fun hc => ?_)
                · replace hf := (if_neg hc).symm.trans hf
                  refine gm_aload_n (G := GC) (r := 1) C rfl dX10_ages_150 rfl (lv_at hl 0 rfl) ?_
                  refine gm_getS (G := GC) (u := u_26) (r := 1) (ci := 9) (k := 12) C hw rfl fl_X10_71 dX10_ages_151 rfl (q := 40) rfl ?_
                  refine gm_getI (G := GC) (u := u_26) (r := 40) (ci := 0) (k := 0) C hw rfl fl_X10_142 dX10_ages_154 rfl ?_
                  exact gm_iret C E hw rfl ((congrArg (fun z => some (Value.int z)) (gm_sp hf).1).symm) (gm_sp hf).2.symm dX10_ages_157
                · replace hf := (if_pos hc).symm.trans hf
                  refine gm_aload_n (G := GC) (r := 1) C rfl dX10_ages_140 rfl (lv_at hl 0 rfl) ?_
                  refine gm_getS (G := GC) (u := u_26) (r := 1) (ci := 9) (k := 12) C hw rfl fl_X10_71 dX10_ages_141 rfl (q := 40) rfl ?_
                  obtain ⟨r_27, hc_28, hf⟩ := gm_bnd hf
                  refine gm_callV (G := GC) (u := u_26) (u' := u_26) (r := 40) (ci := 0) (As := []) (rest := []) (res := (some (.int r_27))) C hw hl (ok_X1_queueBits l Z 40 u_26 rfl r_27 hc_28) cw_X10_261 im_X1_queueBits rfl se_X1_queueBits rfl rfl rfl ⟨Nat.le_trans (Nat.le_of_ble_eq_true rfl) hRf, Nat.le_trans (Nat.le_of_ble_eq_true rfl) hRl⟩ rfl rfl (Nat.le_of_ble_eq_true rfl) dX10_ages_144 (fun H locs hw => ?_)
                  refine lv_goto (tgt := 157) hx hb dX10_ages_147 (by decide) ?_
                  exact gm_iret C E hw rfl ((congrArg (fun z => some (Value.int z)) (gm_sp hf).1).symm) (gm_sp hf).2.symm dX10_ages_157
              · replace hf := (if_pos hc).symm.trans hf
                refine gm_aload_n (G := GC) (r := 1) C rfl dX10_ages_114 rfl (lv_at hl 0 rfl) ?_
                refine gm_getS (G := GC) (u := u_26) (r := 1) (ci := 9) (k := 12) C hw rfl fl_X10_71 dX10_ages_115 rfl (q := 40) rfl ?_
                refine gm_getI (G := GC) (u := u_26) (r := 40) (ci := 0) (k := 2) C hw rfl fl_X10_139 dX10_ages_118 rfl ?_
                refine gm_aload_n (G := GC) (r := 1) C rfl dX10_ages_121 rfl (lv_at hl 0 rfl) ?_
                refine gm_getS (G := GC) (u := u_26) (r := 1) (ci := 9) (k := 6) C hw rfl fl_X10_39 dX10_ages_122 rfl (q := 27) rfl ?_
                refine gm_getI (G := GC) (u := u_26) (r := 27) (ci := 0) (k := 2) C hw rfl fl_X10_139 dX10_ages_125 rfl ?_
                refine lv_iconst (v := -1) hx hb dX10_ages_128 (by decide) ?_
                refine lv_ixor hx hb dX10_ages_129 ?_
                refine lv_iand hx hb dX10_ages_130 ?_
                obtain ⟨r_29, e_r_29, hf⟩ := gm_le hf
                refine gm_callS (G := GC) (u := u_26) (u' := u_26) (As := [.int ((gI u_26 40 2) &&& ((gI u_26 27 2) ^^^ (-1 : Int32)))]) (rest := []) (res := (some (.int (f_J6_bitCount_0f7a4 ((gI u_26 40 2) &&& ((gI u_26 27 2) ^^^ (-1 : Int32))))))) C hw hl (ok_J6_bitCount_0f7a4 l Z ((gI u_26 40 2) &&& ((gI u_26 27 2) ^^^ (-1 : Int32))) u_26) cw_X10_205 st_J6_bitCount_0f7a4 rfl rfl ⟨Nat.le_trans (Nat.le_of_ble_eq_true rfl) hRf, Nat.le_trans (Nat.le_of_ble_eq_true rfl) hRl⟩ rfl rfl (Nat.le_of_ble_eq_true rfl) dX10_ages_131 (fun H locs hw => ?_)
                refine gm_topI e_r_29 ?_
                exact gm_iret C E hw rfl ((congrArg (fun z => some (Value.int z)) (gm_sp hf).1).symm) (gm_sp hf).2.symm dX10_ages_134
            · replace hf := (if_neg hc).symm.trans hf
              refine lv_iconst (v := -1) hx hb dX10_ages_31 (by decide) ?_
              exact gm_iret C E hw rfl ((congrArg (fun z => some (Value.int z)) (gm_sp hf).1).symm) (gm_sp hf).2.symm dX10_ages_32
/-! LeapCapital.mark -/
def f_X10_mark (a1 : Int32) (a2 : Int32) (u : gm_M) : Option (Int32 × gm_M) := if a1 < 0 then some ((0 : Int32), u) else if a1 < (4 : Int32) then if ib a1 4 = true then if isMark (gR u 39 (ix a1)) = true then gm_let (gR u 39 (ix a1)) fun v3_4 => if a2 = 0 then if isReign (gR u 1 4) = true then (f_X4_lay v3_4 27 (gR u 1 4) 31 u).bind fun u_21 => some ((1 : Int32), u_21) else none else if (gI u v3_4 0) = 0 then some ((0 : Int32), u) else (f_X1_copyFrom 27 (v3_4 + 1) u).bind fun u_8 => if isReign (gR u_8 1 4) = true then (f_X6_copyFrom (gR u_8 1 4) (v3_4 + 5) u_8).bind fun u_13 => (f_X7_copyFrom 31 (v3_4 + 8) u_13).bind fun u_16 => gm_let (sI u_16 1 10 (0 : Int32)) fun u_18 => some ((1 : Int32), u_18) else none else none else none else some ((0 : Int32), u)
set_option maxRecDepth 100000 in
set_option maxHeartbeats 4000000 in
theorem ok_X10_mark (l : Launch) (Z : gm_Z) (a1 : Int32) (a2 : Int32) (u : gm_M)  (r : Int32) (u' : gm_M) (hf : f_X10_mark a1 a2 u = some (r, u')) : gm_Met l GC Z yX10_mark cX10_mark 4 (some .boolean) ({ frames := 3, cells := 0, slots := 0, locals := 67 }) [rv Z 1, .int a1, .int a2] u (some (.int r)) u' := by
  unfold f_X10_mark at hf
  refine gm_ofW (by decide +kernel) (Nat.le_of_ble_eq_true rfl) ?_
  intro p e s m args below meth c A ls Q R hRf hRl C E hl hw
  obtain ⟨hx, hb, -⟩ := id C
  have hl : lv_has ls 4 [(0, rv Z 1), (1, .int a1), (2, .int a2)] := hl
  refine lv_iload_n hx hb dX10_mark_0 rfl (lv_at hl 1 rfl) ?_
  refine lv_if_lt (tgt := 13) hx hb dX10_mark_1 (by decide) (fun hc => ?_) (fun hc => ?_)
  · replace hf := (if_pos hc).symm.trans hf
    refine lv_iconst (v := 0) hx hb dX10_mark_13 (by decide) ?_
    exact gm_zret C E hw rfl rfl ((congrArg (fun z => some (Value.int z)) (gm_sp hf).1).symm) (gm_sp hf).2.symm dX10_mark_14
  · replace hf := (if_neg hc).symm.trans hf
    refine lv_iload_n hx hb dX10_mark_4 rfl (lv_at hl 1 rfl) ?_
    refine gm_aload_n (G := GC) (r := 1) C rfl dX10_mark_5 rfl (lv_at hl 0 rfl) ?_
    refine gm_getS (G := GC) (u := u) (r := 1) (ci := 9) (k := 11) C hw rfl fl_X10_67 dX10_mark_6 rfl (q := 39) rfl ?_
    refine gm_alen (G := GC) (u := u) (r := 39) (t := 5) (n := 4) (v := 4) C hw rfl (by decide) (by decide) dX10_mark_9 ?_
    refine lv_icmp_lt (tgt := 15) hx hb dX10_mark_10 (by decide) (fun hc => ?_) (fun hc => ?_)
    · replace hf := (if_pos hc).symm.trans hf
      refine gm_aload_n (G := GC) (r := 1) C rfl dX10_mark_15 rfl (lv_at hl 0 rfl) ?_
      refine gm_getS (G := GC) (u := u) (r := 1) (ci := 9) (k := 11) C hw rfl fl_X10_67 dX10_mark_16 rfl (q := 39) rfl ?_
      refine lv_iload_n hx hb dX10_mark_19 rfl (lv_at hl 1 rfl) ?_
      obtain ⟨g_1, hf⟩ := gm_grd hf
      refine gm_aald5 (G := GC) (u := u) (r := 39) (n := 4) (i := a1) C hw rfl g_1 rfl dX10_mark_20 ?_
      obtain ⟨g_2, hf⟩ := gm_grd hf
      obtain ⟨k_3_0, k_3_1, k_3_2, k_3_3, k_3_4, k_3_5, k_3_6, k_3_7, k_3_8, k_3_9⟩ := fc_Mark g_2
      obtain ⟨v3_4, e_v3_4, hf⟩ := gm_le hf
      refine gm_topR e_v3_4 ?_
      have g_5 : isMark v3_4 = true := by rw [e_v3_4]; exact g_2
      obtain ⟨k_6_0, k_6_1, k_6_2, k_6_3, k_6_4, k_6_5, k_6_6, k_6_7, k_6_8, k_6_9⟩ := fc_Mark g_5
      refine gm_astore_n (G := GC) (i := 3) (r := v3_4) (lv' := [(3, rv Z v3_4), (0, rv Z 1), (1, .int a1), (2, .int a2)]) C k_6_0 dX10_mark_21 rfl hl (by decide) rfl (fun ls hl => ?_)
      refine gm_aload_n (G := GC) (r := v3_4) C k_6_0 dX10_mark_22 rfl (lv_at hl 0 rfl) ?_
      refine gm_ifnonnull (G := GC) (r := v3_4) (tgt := 28) C k_6_0 dX10_mark_23 (by decide) ?_
      refine lv_iload_n hx hb dX10_mark_28 rfl (lv_at hl 3 rfl) ?_
      refine lv_if_ne (tgt := 50) hx hb dX10_mark_29 (by decide) (fun hc => ?_) (fun hc => ?_)
      · replace hf := (if_neg hc).symm.trans hf
        refine gm_aload_n (G := GC) (r := v3_4) C k_6_0 dX10_mark_50 rfl (lv_at hl 0 rfl) ?_
        refine gm_getI (G := GC) (u := u) (r := v3_4) (ci := 3) (k := 0) C hw k_6_0 fl_X10_114 dX10_mark_51 rfl ?_
        refine lv_if_ne (tgt := 59) hx hb dX10_mark_54 (by decide) (fun hc => ?_) (fun hc => ?_)
        · replace hf := (if_neg hc).symm.trans hf
          refine gm_aload_n (G := GC) (r := 1) C rfl dX10_mark_59 rfl (lv_at hl 1 rfl) ?_
          refine gm_getS (G := GC) (u := u) (r := 1) (ci := 9) (k := 6) C hw rfl fl_X10_39 dX10_mark_60 rfl (q := 27) rfl ?_
          refine gm_aload_n (G := GC) (r := v3_4) C k_6_0 dX10_mark_63 rfl (lv_at hl 0 rfl) ?_
          refine gm_getS (G := GC) (u := u) (r := v3_4) (ci := 3) (k := 1) C hw k_6_0 fl_X10_327 dX10_mark_64 rfl (q := v3_4 + 1) k_6_1 ?_
          obtain ⟨k_7_0, k_7_1, k_7_2, k_7_3, k_7_4, k_7_5, k_7_6⟩ := fc_Court k_6_3
          obtain ⟨u_8, hc_9, hf⟩ := gm_bnd hf
          refine gm_callV (G := GC) (u := u) (u' := u_8) (r := 27) (ci := 0) (As := [rv Z (v3_4 + 1)]) (rest := []) (res := none) C hw hl (ok_X1_copyFrom l Z 27 (v3_4 + 1) u rfl k_6_3 u_8 hc_9) cw_X10_189 im_X1_copyFrom rfl se_X1_copyFrom rfl rfl rfl ⟨Nat.le_trans (Nat.le_of_ble_eq_true rfl) hRf, Nat.le_trans (Nat.le_of_ble_eq_true rfl) hRl⟩ rfl rfl (Nat.le_of_ble_eq_true rfl) dX10_mark_67 (fun H locs hw => ?_)
          refine gm_aload_n (G := GC) (r := 1) C rfl dX10_mark_70 rfl (lv_at hl 1 rfl) ?_
          refine gm_getR (G := GC) (u := u_8) (r := 1) (ci := 9) (k := 4) C hw rfl fl_X10_29 dX10_mark_71 rfl ?_
          obtain ⟨g_10, hf⟩ := gm_grd hf
          obtain ⟨k_11_0, k_11_1, k_11_2, k_11_3, k_11_4⟩ := fc_Reign g_10
          refine gm_aload_n (G := GC) (r := v3_4) C k_6_0 dX10_mark_74 rfl (lv_at hl 0 rfl) ?_
          refine gm_getS (G := GC) (u := u_8) (r := v3_4) (ci := 3) (k := 2) C hw k_6_0 fl_X10_328 dX10_mark_75 rfl (q := v3_4 + 5) k_6_4 ?_
          obtain ⟨k_12_0, k_12_1, k_12_2, k_12_3, k_12_4⟩ := fc_Reign k_6_6
          obtain ⟨u_13, hc_14, hf⟩ := gm_bnd hf
          refine gm_callV (G := GC) (u := u_8) (u' := u_13) (r := (gR u_8 1 4)) (ci := 5) (As := [rv Z (v3_4 + 5)]) (rest := []) (res := none) C hw hl (ok_X6_copyFrom l Z (gR u_8 1 4) (v3_4 + 5) u_8 g_10 k_6_6 u_13 hc_14) cw_X10_329 im_X6_copyFrom rfl se_X6_copyFrom k_11_0 rfl rfl ⟨Nat.le_trans (Nat.le_of_ble_eq_true rfl) hRf, Nat.le_trans (Nat.le_of_ble_eq_true rfl) hRl⟩ rfl rfl (Nat.le_of_ble_eq_true rfl) dX10_mark_78 (fun H locs hw => ?_)
          refine gm_aload_n (G := GC) (r := 1) C rfl dX10_mark_81 rfl (lv_at hl 1 rfl) ?_
          refine gm_getS (G := GC) (u := u_13) (r := 1) (ci := 9) (k := 7) C hw rfl fl_X10_46 dX10_mark_82 rfl (q := 31) rfl ?_
          refine gm_aload_n (G := GC) (r := v3_4) C k_6_0 dX10_mark_85 rfl (lv_at hl 0 rfl) ?_
          refine gm_getS (G := GC) (u := u_13) (r := v3_4) (ci := 3) (k := 3) C hw k_6_0 fl_X10_332 dX10_mark_86 rfl (q := v3_4 + 8) k_6_7 ?_
          obtain ⟨k_15_0, k_15_1, k_15_2, k_15_3, k_15_4, k_15_5, k_15_6⟩ := fc_Sayings k_6_9
          obtain ⟨u_16, hc_17, hf⟩ := gm_bnd hf
          refine gm_callV (G := GC) (u := u_13) (u' := u_16) (r := 31) (ci := 6) (As := [rv Z (v3_4 + 8)]) (rest := []) (res := none) C hw hl (ok_X7_copyFrom l Z 31 (v3_4 + 8) u_13 rfl k_6_9 u_16 hc_17) cw_X10_333 im_X7_copyFrom rfl se_X7_copyFrom rfl rfl rfl ⟨Nat.le_trans (Nat.le_of_ble_eq_true rfl) hRf, Nat.le_trans (Nat.le_of_ble_eq_true rfl) hRl⟩ rfl rfl (Nat.le_of_ble_eq_true rfl) dX10_mark_89 (fun H locs hw => ?_)
          refine gm_aload_n (G := GC) (r := 1) C rfl dX10_mark_92 rfl (lv_at hl 1 rfl) ?_
          refine lv_iconst (v := 0) hx hb dX10_mark_93 (by decide) ?_
          refine gm_putI (G := GC) (u := u_16) (r := 1) (ci := 9) (k := 10) (v := (0 : Int32)) C hw rfl fl_X10_61 fp_9_10 dX10_mark_94 rfl (fun H locs hw => ?_)
          obtain ⟨u_18, e_u_18, hf⟩ := gm_le hf
          rw [← e_u_18] at hw
          refine lv_iconst (v := 1) hx hb dX10_mark_97 (by decide) ?_
          exact gm_zret C E hw rfl rfl ((congrArg (fun z => some (Value.int z)) (gm_sp hf).1).symm) (gm_sp hf).2.symm dX10_mark_98
        · replace hf := (if_pos hc).symm.trans hf
          refine lv_iconst (v := 0) hx hb dX10_mark_57 (by decide) ?_
          exact gm_zret C E hw rfl rfl ((congrArg (fun z => some (Value.int z)) (gm_sp hf).1).symm) (gm_sp hf).2.symm dX10_mark_58
      · replace hf := (if_pos hc).symm.trans hf
        refine gm_aload_n (G := GC) (r := v3_4) C k_6_0 dX10_mark_32 rfl (lv_at hl 0 rfl) ?_
        refine gm_aload_n (G := GC) (r := 1) C rfl dX10_mark_33 rfl (lv_at hl 1 rfl) ?_
        refine gm_getS (G := GC) (u := u) (r := 1) (ci := 9) (k := 6) C hw rfl fl_X10_39 dX10_mark_34 rfl (q := 27) rfl ?_
        refine gm_aload_n (G := GC) (r := 1) C rfl dX10_mark_37 rfl (lv_at hl 1 rfl) ?_
        refine gm_getR (G := GC) (u := u) (r := 1) (ci := 9) (k := 4) C hw rfl fl_X10_29 dX10_mark_38 rfl ?_
        obtain ⟨g_19, hf⟩ := gm_grd hf
        obtain ⟨k_20_0, k_20_1, k_20_2, k_20_3, k_20_4⟩ := fc_Reign g_19
        refine gm_aload_n (G := GC) (r := 1) C rfl dX10_mark_41 rfl (lv_at hl 1 rfl) ?_
        refine gm_getS (G := GC) (u := u) (r := 1) (ci := 9) (k := 7) C hw rfl fl_X10_46 dX10_mark_42 rfl (q := 31) rfl ?_
        obtain ⟨u_21, hc_22, hf⟩ := gm_bnd hf
        refine gm_callV (G := GC) (u := u) (u' := u_21) (r := v3_4) (ci := 3) (As := [rv Z 27, rv Z (gR u 1 4), rv Z 31]) (rest := []) (res := none) C hw hl (ok_X4_lay l Z v3_4 27 (gR u 1 4) 31 u g_5 rfl g_19 rfl u_21 hc_22) cw_X10_323 im_X4_lay rfl se_X4_lay k_6_0 rfl rfl ⟨Nat.le_trans (Nat.le_of_ble_eq_true rfl) hRf, Nat.le_trans (Nat.le_of_ble_eq_true rfl) hRl⟩ rfl rfl (Nat.le_of_ble_eq_true rfl) dX10_mark_45 (fun H locs hw => ?_)
        refine lv_iconst (v := 1) hx hb dX10_mark_48 (by decide) ?_
        exact gm_zret C E hw rfl rfl ((congrArg (fun z => some (Value.int z)) (gm_sp hf).1).symm) (gm_sp hf).2.symm dX10_mark_49
    · replace hf := (if_neg hc).symm.trans hf
      refine lv_iconst (v := 0) hx hb dX10_mark_13 (by decide) ?_
      exact gm_zret C E hw rfl rfl ((congrArg (fun z => some (Value.int z)) (gm_sp hf).1).symm) (gm_sp hf).2.symm dX10_mark_14
