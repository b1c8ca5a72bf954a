def f_J9_floorMod_7cf53 (a0 : Int32) (a1 : Int32) : Option Int32 := if ¬ a1 = 0 then gm_let (iRem a0 a1) fun v2_2 => if 0 ≤ (a0 ^^^ a1) then some v2_2 else if v2_2 = 0 then some v2_2 else some (v2_2 + a1) else none
set_option maxRecDepth 100000 in
set_option maxHeartbeats 4000000 in
theorem okg_J9_floorMod_7cf53 (l : Launch) (Z : gm_Z) (a0 : Int32) (a1 : Int32) (u : gm_M)  (r : Int32) (hf : f_J9_floorMod_7cf53 a0 a1 = some r) : gm_Met l GC Z yJ9_floorMod_7cf53 cJ9_floorMod_7cf53 3 (some .int) ({ frames := 0, cells := 0, slots := 0, locals := 0 }) [.int a0, .int a1] u (some (.int r)) u := by
  unfold f_J9_floorMod_7cf53 at hf
  refine gm_ofWF (by decide +kernel) (Nat.le_of_ble_eq_true rfl) ?_
  intro p e s m args below meth c A ls Q R hRf hRl C E hl hw
  obtain ⟨hx, hb, -⟩ := id C
  have hl : lv_has ls 3 [(0, .int a0), (1, .int a1)] := hl
  refine lv_iload_n hx hb dJ9_floorMod_7cf53_0 rfl (lv_at hl 0 rfl) ?_
  refine lv_iload_n hx hb dJ9_floorMod_7cf53_1 rfl (lv_at hl 1 rfl) ?_
  obtain ⟨g_1, hf⟩ := gm_grd hf
  refine lv_irem hx hb dJ9_floorMod_7cf53_2 g_1 ?_
  obtain ⟨v2_2, e_v2_2, hf⟩ := gm_le hf
  refine gm_topI e_v2_2 ?_
  refine lv_istore_n (i := 2) (lv' := [(2, .int v2_2), (0, .int a0), (1, .int a1)]) hx hb dJ9_floorMod_7cf53_3 rfl hl (by decide) rfl (fun ls hl => ?_)
  refine lv_iload_n hx hb dJ9_floorMod_7cf53_4 rfl (lv_at hl 1 rfl) ?_
  refine lv_iload_n hx hb dJ9_floorMod_7cf53_5 rfl (lv_at hl 2 rfl) ?_
  refine lv_ixor hx hb dJ9_floorMod_7cf53_6 ?_
  refine lv_if_ge (tgt := 18) hx hb dJ9_floorMod_7cf53_7 (by decide) (fun hc => ?_) (fun hc => ?_)
  · replace hf := (if_pos hc).symm.trans hf
    refine lv_iload_n hx hb dJ9_floorMod_7cf53_18 rfl (lv_at hl 0 rfl) ?_
    exact gm_iret C E hw rfl ((congrArg (fun z => some (Value.int z)) (Option.some.inj hf)).symm) rfl dJ9_floorMod_7cf53_19
  · replace hf := (if_neg hc).symm.trans hf
    refine lv_iload_n hx hb dJ9_floorMod_7cf53_10 rfl (lv_at hl 0 rfl) ?_
    refine lv_if_eq (tgt := 18) hx hb dJ9_floorMod_7cf53_11 (by decide) (fun hc => ?_) (fun hc => ?_)
    · replace hf := (if_pos hc).symm.trans hf
      refine lv_iload_n hx hb dJ9_floorMod_7cf53_18 rfl (lv_at hl 0 rfl) ?_
      exact gm_iret C E hw rfl ((congrArg (fun z => some (Value.int z)) (Option.some.inj hf)).symm) rfl dJ9_floorMod_7cf53_19
    · replace hf := (if_neg hc).symm.trans hf
      refine lv_iload_n hx hb dJ9_floorMod_7cf53_14 rfl (lv_at hl 0 rfl) ?_
      refine lv_iload_n hx hb dJ9_floorMod_7cf53_15 rfl (lv_at hl 2 rfl) ?_
      refine lv_iadd hx hb dJ9_floorMod_7cf53_16 ?_
      exact gm_iret C E hw rfl ((congrArg (fun z => some (Value.int z)) (Option.some.inj hf)).symm) rfl dJ9_floorMod_7cf53_17
theorem ok_J9_floorMod_7cf53 (l : Launch) (Z : gm_Z) (a0 a1 : Int32) (u : gm_M) (h : ¬ a1 = 0) : gm_Met l GC Z yJ9_floorMod_7cf53 cJ9_floorMod_7cf53 3 (some .int) ({ frames := 0, cells := 0, slots := 0, locals := 0 }) [.int a0, .int a1] u (some (.int (pFM a0 a1))) u := by
  refine okg_J9_floorMod_7cf53 l Z a0 a1 u _ ?_
  unfold f_J9_floorMod_7cf53 pFM
  rw [if_pos h]
  simp only [gm_let]
  split
  · rfl
  · split <;> rfl
