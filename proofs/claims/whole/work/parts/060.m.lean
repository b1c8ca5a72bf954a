/-! LeapCapital$Almanac.isTold -/
def f_X0_isTold (a0 : Int32) : Int32 := if a0 < (1 : Int32) then (0 : Int32) else if (4000 : Int32) < a0 then (0 : Int32) else (1 : Int32)
set_option maxRecDepth 100000 in
set_option maxHeartbeats 4000000 in
theorem ok_X0_isTold (l : Launch) (Z : gm_Z) (a0 : Int32) (u : gm_M)  : gm_Met l GC Z yX0_isTold cX0_isTold 1 (some .boolean) ({ frames := 0, cells := 0, slots := 0, locals := 0 }) [.int a0] u (some (.int (f_X0_isTold a0))) u := by
  obtain ⟨r, hf⟩ : ∃ r, f_X0_isTold a0 = r := ⟨_, rfl⟩
  rw [hf]
  unfold f_X0_isTold at hf
  refine gm_ofW (by decide +kernel) (Nat.le_of_ble_eq_true rfl) ?_
  intro p e s m args below meth c A ls Q R hRf hRl C E hl hw
  obtain ⟨hx, hb, -⟩ := id C
  have hl : lv_has ls 1 [(0, .int a0)] := hl
  refine lv_iload_n hx hb dX0_isTold_0 rfl (lv_at hl 0 rfl) ?_
  refine lv_iconst (v := 1) hx hb dX0_isTold_1 (by decide) ?_
  refine lv_icmp_lt (tgt := 16) hx hb dX0_isTold_2 (by decide) (fun hc => ?_) (fun hc => ?_)
  · replace hf := (if_pos hc).symm.trans hf
    refine lv_iconst (v := 0) hx hb dX0_isTold_16 (by decide) ?_
    exact gm_zret C E hw rfl rfl ((congrArg (fun z => some (Value.int z)) hf).symm) rfl dX0_isTold_17
  · replace hf := (if_neg hc).symm.trans hf
    refine lv_iload_n hx hb dX0_isTold_5 rfl (lv_at hl 0 rfl) ?_
    refine lv_sipush (v := 4000) hx hb dX0_isTold_6 (by decide) ?_
    refine lv_icmp_gt (tgt := 16) hx hb dX0_isTold_9 (by decide) (fun hc => ?_) (fun hc => ?_)
    · replace hf := (if_pos hc).symm.trans hf
      refine lv_iconst (v := 0) hx hb dX0_isTold_16 (by decide) ?_
      exact gm_zret C E hw rfl rfl ((congrArg (fun z => some (Value.int z)) hf).symm) rfl dX0_isTold_17
    · replace hf := (if_neg hc).symm.trans hf
      refine lv_iconst (v := 1) hx hb dX0_isTold_12 (by decide) ?_
      refine lv_goto (tgt := 17) hx hb dX0_isTold_13 (by decide) ?_
      exact gm_zret C E hw rfl rfl ((congrArg (fun z => some (Value.int z)) hf).symm) rfl dX0_isTold_17
/-! LeapCapital$Almanac.isLeap -/
def f_X0_isLeap (a0 : Int32) : Int32 := if (iRem a0 (4 : Int32)) = 0 then if (iRem a0 (100 : Int32)) = 0 then if (iRem a0 (400 : Int32)) = 0 then (1 : Int32) else (0 : Int32) else (1 : Int32) else (0 : Int32)
set_option maxRecDepth 100000 in
set_option maxHeartbeats 4000000 in
theorem ok_X0_isLeap (l : Launch) (Z : gm_Z) (a0 : Int32) (u : gm_M)  : gm_Met l GC Z yX0_isLeap cX0_isLeap 1 (some .boolean) ({ frames := 0, cells := 0, slots := 0, locals := 0 }) [.int a0] u (some (.int (f_X0_isLeap a0))) u := by
  obtain ⟨r, hf⟩ : ∃ r, f_X0_isLeap a0 = r := ⟨_, rfl⟩
  rw [hf]
  unfold f_X0_isLeap at hf
  refine gm_ofW (by decide +kernel) (Nat.le_of_ble_eq_true rfl) ?_
  intro p e s m args below meth c A ls Q R hRf hRl C E hl hw
  obtain ⟨hx, hb, -⟩ := id C
  have hl : lv_has ls 1 [(0, .int a0)] := hl
  refine lv_iload_n hx hb dX0_isLeap_0 rfl (lv_at hl 0 rfl) ?_
  refine lv_iconst (v := 4) hx hb dX0_isLeap_1 (by decide) ?_
  refine lv_irem hx hb dX0_isLeap_2 (by decide) ?_
  refine lv_if_ne (tgt := 25) hx hb dX0_isLeap_3 (by decide) (fun hc => ?_) (fun hc => ?_)
  · replace hf := (if_neg hc).symm.trans hf
    refine lv_iconst (v := 0) hx hb dX0_isLeap_25 (by decide) ?_
    exact gm_zret C E hw rfl rfl ((congrArg (fun z => some (Value.int z)) hf).symm) rfl dX0_isLeap_26
  · replace hf := (if_pos hc).symm.trans hf
    refine lv_iload_n hx hb dX0_isLeap_6 rfl (lv_at hl 0 rfl) ?_
    refine lv_bipush (v := 100) hx hb dX0_isLeap_7 (by decide) ?_
    refine lv_irem hx hb dX0_isLeap_9 (by decide) ?_
    refine lv_if_ne (tgt := 21) hx hb dX0_isLeap_10 (by decide) (fun hc => ?_) (fun hc => ?_)
    · replace hf := (if_neg hc).symm.trans hf
      refine lv_iconst (v := 1) hx hb dX0_isLeap_21 (by decide) ?_
      refine lv_goto (tgt := 26) hx hb dX0_isLeap_22 (by decide) ?_
      exact gm_zret C E hw rfl rfl ((congrArg (fun z => some (Value.int z)) hf).symm) rfl dX0_isLeap_26
    · replace hf := (if_pos hc).symm.trans hf
      refine lv_iload_n hx hb dX0_isLeap_13 rfl (lv_at hl 0 rfl) ?_
      refine lv_sipush (v := 400) hx hb dX0_isLeap_14 (by decide) ?_
      refine lv_irem hx hb dX0_isLeap_17 (by decide) ?_
      refine lv_if_ne (tgt := 25) hx hb dX0_isLeap_18 (by decide) (fun hc => ?_) (fun hc => ?_)
      · replace hf := (if_neg hc).symm.trans hf
        refine lv_iconst (v := 0) hx hb dX0_isLeap_25 (by decide) ?_
        exact gm_zret C E hw rfl rfl ((congrArg (fun z => some (Value.int z)) hf).symm) rfl dX0_isLeap_26
      · replace hf := (if_pos hc).symm.trans hf
        refine lv_iconst (v := 1) hx hb dX0_isLeap_21 (by decide) ?_
        refine lv_goto (tgt := 26) hx hb dX0_isLeap_22 (by decide) ?_
        exact gm_zret C E hw rfl rfl ((congrArg (fun z => some (Value.int z)) hf).symm) rfl dX0_isLeap_26
/-! LeapCapital$Almanac.isJulianLeap -/
def f_X0_isJulianLeap (a0 : Int32) : Int32 := if (iRem a0 (4 : Int32)) = 0 then (1 : Int32) else (0 : Int32)
set_option maxRecDepth 100000 in
set_option maxHeartbeats 4000000 in
theorem ok_X0_isJulianLeap (l : Launch) (Z : gm_Z) (a0 : Int32) (u : gm_M)  : gm_Met l GC Z yX0_isJulianLeap cX0_isJulianLeap 1 (some .boolean) ({ frames := 0, cells := 0, slots := 0, locals := 0 }) [.int a0] u (some (.int (f_X0_isJulianLeap a0))) u := by
  obtain ⟨r, hf⟩ : ∃ r, f_X0_isJulianLeap a0 = r := ⟨_, rfl⟩
  rw [hf]
  unfold f_X0_isJulianLeap at hf
  refine gm_ofW (by decide +kernel) (Nat.le_of_ble_eq_true rfl) ?_
  intro p e s m args below meth c A ls Q R hRf hRl C E hl hw
  obtain ⟨hx, hb, -⟩ := id C
  have hl : lv_has ls 1 [(0, .int a0)] := hl
  refine lv_iload_n hx hb dX0_isJulianLeap_0 rfl (lv_at hl 0 rfl) ?_
  refine lv_iconst (v := 4) hx hb dX0_isJulianLeap_1 (by decide) ?_
  refine lv_irem hx hb dX0_isJulianLeap_2 (by decide) ?_
  refine lv_if_ne (tgt := 10) hx hb dX0_isJulianLeap_3 (by decide) (fun hc => ?_) (fun hc => ?_)
  · replace hf := (if_neg hc).symm.trans hf
    refine lv_iconst (v := 0) hx hb dX0_isJulianLeap_10 (by decide) ?_
    exact gm_zret C E hw rfl rfl ((congrArg (fun z => some (Value.int z)) hf).symm) rfl dX0_isJulianLeap_11
  · replace hf := (if_pos hc).symm.trans hf
    refine lv_iconst (v := 1) hx hb dX0_isJulianLeap_6 (by decide) ?_
    refine lv_goto (tgt := 11) hx hb dX0_isJulianLeap_7 (by decide) ?_
    exact gm_zret C E hw rfl rfl ((congrArg (fun z => some (Value.int z)) hf).symm) rfl dX0_isJulianLeap_11
/-! LeapCapital$Almanac.leapsUpTo -/
def f_X0_leapsUpTo (a0 : Int32) : Int32 := ((a0 / (4 : Int32)) - (a0 / (100 : Int32))) + (a0 / (400 : Int32))
set_option maxRecDepth 100000 in
set_option maxHeartbeats 4000000 in
theorem ok_X0_leapsUpTo (l : Launch) (Z : gm_Z) (a0 : Int32) (u : gm_M)  : gm_Met l GC Z yX0_leapsUpTo cX0_leapsUpTo 1 (some .int) ({ frames := 0, cells := 0, slots := 0, locals := 0 }) [.int a0] u (some (.int (f_X0_leapsUpTo a0))) u := by
  obtain ⟨r, hf⟩ : ∃ r, f_X0_leapsUpTo a0 = r := ⟨_, rfl⟩
  rw [hf]
  unfold f_X0_leapsUpTo at hf
  refine gm_ofW (by decide +kernel) (Nat.le_of_ble_eq_true rfl) ?_
  intro p e s m args below meth c A ls Q R hRf hRl C E hl hw
  obtain ⟨hx, hb, -⟩ := id C
  have hl : lv_has ls 1 [(0, .int a0)] := hl
  refine lv_iload_n hx hb dX0_leapsUpTo_0 rfl (lv_at hl 0 rfl) ?_
  refine lv_iconst (v := 4) hx hb dX0_leapsUpTo_1 (by decide) ?_
  refine lv_idiv hx hb dX0_leapsUpTo_2 (by decide) ?_
  refine lv_iload_n hx hb dX0_leapsUpTo_3 rfl (lv_at hl 0 rfl) ?_
  refine lv_bipush (v := 100) hx hb dX0_leapsUpTo_4 (by decide) ?_
  refine lv_idiv hx hb dX0_leapsUpTo_6 (by decide) ?_
  refine lv_isub hx hb dX0_leapsUpTo_7 ?_
  refine lv_iload_n hx hb dX0_leapsUpTo_8 rfl (lv_at hl 0 rfl) ?_
  refine lv_sipush (v := 400) hx hb dX0_leapsUpTo_9 (by decide) ?_
  refine lv_idiv hx hb dX0_leapsUpTo_12 (by decide) ?_
  refine lv_iadd hx hb dX0_leapsUpTo_13 ?_
  exact gm_iret C E hw rfl ((congrArg (fun z => some (Value.int z)) hf).symm) rfl dX0_leapsUpTo_14
/-! LeapCapital$Almanac.leapBehind -/
def b_X0_leapBehind_2 (a0 : Int32) : Int32 → Option (Int32 ⊕ (Int32 ⊕ Unit)) := fun x => match x with | v1_1 => if (8 : Int32) ≤ v1_1 then some (.inr (.inr ())) else gm_let (f_X0_isLeap (a0 + v1_1)) fun r_2 => if r_2 = 0 then some (.inl (v1_1 + (1 : Int32))) else some (.inr (.inl v1_1))
def f_X0_leapBehind (a0 : Int32) : Option Int32 := ((gm_lp (b_X0_leapBehind_2 a0) gm_FU (1 : Int32)).bind fun o => match o with | .inl w1_3 => (some (a0 + w1_3)) | .inr (_) => (some (a0 + (8 : Int32))))
set_option maxRecDepth 100000 in
set_option maxHeartbeats 4000000 in
theorem ok_X0_leapBehind (l : Launch) (Z : gm_Z) (a0 : Int32) (u : gm_M)  (r : Int32) (hf : f_X0_leapBehind a0 = some r) : gm_Met l GC Z yX0_leapBehind cX0_leapBehind 2 (some .int) ({ frames := 1, cells := 0, slots := 0, locals := 20 }) [.int a0] u (some (.int r)) u := by
  unfold f_X0_leapBehind at hf
  refine gm_ofW (by decide +kernel) (Nat.le_of_ble_eq_true rfl) ?_
  intro p e s m args below meth c A ls Q R hRf hRl C E hl hw
  obtain ⟨hx, hb, -⟩ := id C
  have hl : lv_has ls 2 [(0, .int a0)] := hl
  refine lv_iconst (v := 1) hx hb dX0_leapBehind_0 (by decide) ?_
  refine lv_istore_n (i := 1) (lv' := [(1, .int (1 : Int32)), (0, .int a0)]) hx hb dX0_leapBehind_1 rfl hl (by decide) rfl (fun ls hl => ?_)
  obtain ⟨o1, hlp, hf⟩ := gm_bnd hf
  have L2_1 := gm_loop (b_X0_leapBehind_2 a0) (fun x : Int32 => ∀ (H : Heap) (locs : List Loc) (ls : Array Slot), lv_has ls 2 [(0, .int a0), (1, .int x)] → wd GC Z u A s.heap H locs → W p l e R s m args below meth c H locs 0 0 Q (F0 m 2 ls [])) (fun z : (Int32 ⊕ Unit) => match z with | .inl q0 => ∀ (H : Heap) (locs : List Loc) (ls : Array Slot), lv_has ls 2 [(0, .int a0), (1, .int q0)] → wd GC Z u A s.heap H locs → W p l e R s m args below meth c H locs 0 0 Q (F0 m 17 ls []) | .inr p0 => ∀ (H : Heap) (locs : List Loc) (ls : Array Slot), lv_has ls 2 [(0, .int a0)] → wd GC Z u A s.heap H locs → W p l e R s m args below meth c H locs 0 0 Q (F0 m 27 ls [])) (by
    intro x o1 hf Kc Kx
    obtain ⟨v1_1, rfl⟩ : ∃ y, y = x := ⟨_, rfl⟩
    intro H locs ls hl hw
    unfold b_X0_leapBehind_2 at hf
    try dsimp only at hf
    refine lv_iload_n hx hb dX0_leapBehind_2 rfl (lv_at hl 1 rfl) ?_
    refine lv_bipush (v := 8) hx hb dX0_leapBehind_3 (by decide) ?_
    refine lv_icmp_ge (tgt := 27) hx hb dX0_leapBehind_5 (by decide) (fun hc => ?_) (fun hc => ?_)
    · replace hf := (if_pos hc).symm.trans hf
      exact Kx _ (gm_si hf) _ _ _ (lv_sub hl [0] rfl) hw
    · replace hf := (if_neg hc).symm.trans hf
      refine lv_iload_n hx hb dX0_leapBehind_8 rfl (lv_at hl 0 rfl) ?_
      refine lv_iload_n hx hb dX0_leapBehind_9 rfl (lv_at hl 1 rfl) ?_
      refine lv_iadd hx hb dX0_leapBehind_10 ?_
      obtain ⟨r_2, e_r_2, hf⟩ := gm_le hf
      refine gm_callS (G := GC) (u := u) (u' := u) (As := [.int (a0 + v1_1)]) (rest := []) (res := (some (.int (f_X0_isLeap (a0 + v1_1))))) C hw hl (ok_X0_isLeap l Z (a0 + v1_1) u) cw_X0_11 st_X0_isLeap rfl rfl ⟨Nat.le_trans (Nat.le_of_ble_eq_true rfl) hRf, Nat.le_trans (Nat.le_of_ble_eq_true rfl) hRl⟩ rfl rfl (Nat.le_of_ble_eq_true rfl) dX0_leapBehind_11 (fun H locs hw => ?_)
      refine gm_topI e_r_2 ?_
      refine lv_if_eq (tgt := 21) hx hb dX0_leapBehind_14 (by decide) (fun hc => ?_) (fun hc => ?_)
      · replace hf := (if_pos hc).symm.trans hf
        refine lv_iinc (v := v1_1 + (1 : Int32)) (lv' := [(1, .int (v1_1 + (1 : Int32))), (0, .int a0)]) hx hb dX0_leapBehind_21 hl (k := 1) rfl rfl (by decide) rfl (fun ls hl => ?_)
        refine lv_goto (tgt := 2) hx hb dX0_leapBehind_24 (by decide) ?_
        exact Kc _ (gm_si hf) _ _ _ (lv_sub hl [1, 0] rfl) hw
      · replace hf := (if_neg hc).symm.trans hf
        exact Kx _ (gm_si hf) _ _ _ (lv_sub hl [0, 1] rfl) hw)
  refine L2_1 _ _ _ hlp ?_ _ _ _ (lv_sub hl [1, 0] rfl) hw
  cases o1 with
  | inl q0_z_4 =>
    obtain ⟨w1_3, rfl⟩ : ∃ y, y = q0_z_4 := ⟨_, rfl⟩
    intro H locs ls hl hw
    try dsimp only at hf
    refine lv_iload_n hx hb dX0_leapBehind_17 rfl (lv_at hl 0 rfl) ?_
    refine lv_iload_n hx hb dX0_leapBehind_18 rfl (lv_at hl 1 rfl) ?_
    refine lv_iadd hx hb dX0_leapBehind_19 ?_
    exact gm_iret C E hw rfl ((congrArg (fun z => some (Value.int z)) (Option.some.inj hf)).symm) rfl dX0_leapBehind_20
  | inr p0_z_4 =>
    intro H locs ls hl hw
    try dsimp only at hf
    refine lv_iload_n hx hb dX0_leapBehind_27 rfl (lv_at hl 0 rfl) ?_
    refine lv_bipush (v := 8) hx hb dX0_leapBehind_28 (by decide) ?_
    refine lv_iadd hx hb dX0_leapBehind_30 ?_
    exact gm_iret C E hw rfl ((congrArg (fun z => some (Value.int z)) (Option.some.inj hf)).symm) rfl dX0_leapBehind_31
/-! LeapCapital$Almanac.weekdayOf -/
def f_X0_weekdayOf (a0 : Int32) : Int32 := gm_let (f_X0_leapsUpTo (a0 - (1 : Int32))) fun r_1 => gm_let ((((365 : Int32) * (a0 - (1 : Int32))) + r_1) + (59 : Int32)) fun v1_2 => gm_let (pFM (v1_2 + (1 : Int32)) (7 : Int32)) fun r_3 => r_3
set_option maxRecDepth 100000 in
set_option maxHeartbeats 4000000 in
theorem ok_X0_weekdayOf (l : Launch) (Z : gm_Z) (a0 : Int32) (u : gm_M)  : gm_Met l GC Z yX0_weekdayOf cX0_weekdayOf 2 (some .int) ({ frames := 1, cells := 0, slots := 0, locals := 22 }) [.int a0] u (some (.int (f_X0_weekdayOf a0))) u := by
  obtain ⟨r, hf⟩ : ∃ r, f_X0_weekdayOf a0 = r := ⟨_, rfl⟩
  rw [hf]
  unfold f_X0_weekdayOf at hf
  refine gm_ofW (by decide +kernel) (Nat.le_of_ble_eq_true rfl) ?_
  intro p e s m args below meth c A ls Q R hRf hRl C E hl hw
  obtain ⟨hx, hb, -⟩ := id C
  have hl : lv_has ls 2 [(0, .int a0)] := hl
  refine lv_sipush (v := 365) hx hb dX0_weekdayOf_0 (by decide) ?_
  refine lv_iload_n hx hb dX0_weekdayOf_3 rfl (lv_at hl 0 rfl) ?_
  refine lv_iconst (v := 1) hx hb dX0_weekdayOf_4 (by decide) ?_
  refine lv_isub hx hb dX0_weekdayOf_5 ?_
  refine lv_imul hx hb dX0_weekdayOf_6 ?_
  refine lv_iload_n hx hb dX0_weekdayOf_7 rfl (lv_at hl 0 rfl) ?_
  refine lv_iconst (v := 1) hx hb dX0_weekdayOf_8 (by decide) ?_
  refine lv_isub hx hb dX0_weekdayOf_9 ?_
  obtain ⟨r_1, e_r_1, hf⟩ := gm_le hf
  refine gm_callS (G := GC) (u := u) (u' := u) (As := [.int (a0 - (1 : Int32))]) (rest := [.int ((365 : Int32) * (a0 - (1 : Int32)))]) (res := (some (.int (f_X0_leapsUpTo (a0 - (1 : Int32)))))) C hw hl (ok_X0_leapsUpTo l Z (a0 - (1 : Int32)) u) cw_X0_15 st_X0_leapsUpTo rfl rfl ⟨Nat.le_trans (Nat.le_of_ble_eq_true rfl) hRf, Nat.le_trans (Nat.le_of_ble_eq_true rfl) hRl⟩ rfl rfl (Nat.le_of_ble_eq_true rfl) dX0_weekdayOf_10 (fun H locs hw => ?_)
  refine gm_topI e_r_1 ?_
  refine lv_iadd hx hb dX0_weekdayOf_13 ?_
  refine lv_bipush (v := 59) hx hb dX0_weekdayOf_14 (by decide) ?_
  refine lv_iadd hx hb dX0_weekdayOf_16 ?_
  obtain ⟨v1_2, e_v1_2, hf⟩ := gm_le hf
  refine gm_topI e_v1_2 ?_
  refine lv_istore_n (i := 1) (lv' := [(1, .int v1_2), (0, .int a0)]) hx hb dX0_weekdayOf_17 rfl hl (by decide) rfl (fun ls hl => ?_)
  refine lv_iload_n hx hb dX0_weekdayOf_18 rfl (lv_at hl 0 rfl) ?_
  refine lv_iconst (v := 1) hx hb dX0_weekdayOf_19 (by decide) ?_
  refine lv_iadd hx hb dX0_weekdayOf_20 ?_
  refine lv_bipush (v := 7) hx hb dX0_weekdayOf_21 (by decide) ?_
  obtain ⟨r_3, e_r_3, hf⟩ := gm_le hf
  refine gm_callS (G := GC) (u := u) (u' := u) (As := [.int (v1_2 + (1 : Int32)), .int (7 : Int32)]) (rest := []) (res := (some (.int (pFM (v1_2 + (1 : Int32)) (7 : Int32))))) C hw hl (ok_J9_floorMod_7cf53 l Z (v1_2 + (1 : Int32)) (7 : Int32) u (by decide)) cw_X0_19 st_J9_floorMod_7cf53 rfl rfl ⟨Nat.le_trans (Nat.le_of_ble_eq_true rfl) hRf, Nat.le_trans (Nat.le_of_ble_eq_true rfl) hRl⟩ rfl rfl (Nat.le_of_ble_eq_true rfl) dX0_weekdayOf_23 (fun H locs hw => ?_)
  refine gm_topI e_r_3 ?_
  exact gm_iret C E hw rfl ((congrArg (fun z => some (Value.int z)) hf).symm) rfl dX0_weekdayOf_26
/-! LeapCapital$Court.begin -/
def f_X1_begin (a0 : Nat) (a1 : Nat) (u : gm_M) : Option gm_M := gm_let (sI u a0 0 (gI u a1 5)) fun u_3 => gm_let (sI u_3 a0 1 (0 : Int32)) fun u_4 => gm_let (sI u_4 a0 2 (0 : Int32)) fun u_5 => gm_let (sI u_5 a0 3 (0 : Int32)) fun u_6 => some u_6
set_option maxRecDepth 100000 in
set_option maxHeartbeats 4000000 in
theorem ok_X1_begin (l : Launch) (Z : gm_Z) (a0 : Nat) (a1 : Nat) (u : gm_M) (h0 : isCourt a0 = true) (h1 : isRealm a1 = true) (u' : gm_M) (hf : f_X1_begin a0 a1 u = some (u')) : gm_Met l GC Z yX1_begin cX1_begin 2 none ({ frames := 0, cells := 0, slots := 0, locals := 0 }) [rv Z a0, rv Z a1] u none u' := by
  unfold f_X1_begin at hf
  refine gm_ofW (by decide +kernel) (by simp [lg_sl, gm_cat, gm_catI, gm_catJ]) ?_
  intro p e s m args below meth c A ls Q R hRf hRl C E hl hw
  obtain ⟨hx, hb, -⟩ := id C
  have hl : lv_has ls 2 [(0, rv Z a0), (1, rv Z a1)] := by simpa [lv_args, gm_cat, gm_catI, gm_catJ] using hl
  obtain ⟨k_1_0, k_1_1, k_1_2, k_1_3, k_1_4, k_1_5, k_1_6⟩ := fc_Court h0
  obtain ⟨k_2_0, k_2_1, k_2_2, k_2_3, k_2_4, k_2_5, k_2_6, k_2_7, k_2_8, k_2_9, k_2_10, k_2_11⟩ := fc_Realm h1
  refine gm_aload_n (G := GC) (r := a0) C k_1_0 dX1_begin_0 rfl (lv_at hl 0 rfl) ?_
  refine gm_aload_n (G := GC) (r := a1) C k_2_0 dX1_begin_1 rfl (lv_at hl 1 rfl) ?_
  refine gm_getI (G := GC) (u := u) (r := a1) (ci := 4) (k := 5) C hw k_2_0 fl_X1_34 dX1_begin_2 rfl ?_
  refine gm_putI (G := GC) (u := u) (r := a0) (ci := 0) (k := 0) (v := gI u a1 5) C hw k_1_0 fl_X1_9 fp_0_0 dX1_begin_5 rfl (fun H locs hw => ?_)
  obtain ⟨u_3, e_u_3, hf⟩ := gm_le hf
  rw [← e_u_3] at hw
  refine gm_aload_n (G := GC) (r := a0) C k_1_0 dX1_begin_8 rfl (lv_at hl 0 rfl) ?_
  refine lv_iconst (v := 0) hx hb dX1_begin_9 (by decide) ?_
  refine gm_putI (G := GC) (u := u_3) (r := a0) (ci := 0) (k := 1) (v := (0 : Int32)) C hw k_1_0 fl_X1_15 fp_0_1 dX1_begin_10 rfl (fun H locs hw => ?_)
  obtain ⟨u_4, e_u_4, hf⟩ := gm_le hf
  rw [← e_u_4] at hw
  refine gm_aload_n (G := GC) (r := a0) C k_1_0 dX1_begin_13 rfl (lv_at hl 0 rfl) ?_
  refine lv_iconst (v := 0) hx hb dX1_begin_14 (by decide) ?_
  refine gm_putI (G := GC) (u := u_4) (r := a0) (ci := 0) (k := 2) (v := (0 : Int32)) C hw k_1_0 fl_X1_18 fp_0_2 dX1_begin_15 rfl (fun H locs hw => ?_)
  obtain ⟨u_5, e_u_5, hf⟩ := gm_le hf
  rw [← e_u_5] at hw
  refine gm_aload_n (G := GC) (r := a0) C k_1_0 dX1_begin_18 rfl (lv_at hl 0 rfl) ?_
  refine lv_iconst (v := 0) hx hb dX1_begin_19 (by decide) ?_
  refine gm_putI (G := GC) (u := u_5) (r := a0) (ci := 0) (k := 3) (v := (0 : Int32)) C hw k_1_0 fl_X1_21 fp_0_3 dX1_begin_20 rfl (fun H locs hw => ?_)
  obtain ⟨u_6, e_u_6, hf⟩ := gm_le hf
  rw [← e_u_6] at hw
  exact gm_vret C E hw rfl rfl (Option.some.inj hf).symm dX1_begin_23
/-! LeapCapital$Court.copyFrom -/
def b_X1_copyFrom_34 (a0 : Nat) (a1 : Nat) : (Int32 × gm_M) → Option ((Int32 × gm_M) ⊕ gm_M) := fun x => match x with | (v2_8, u_7) => if (6 : Int32) ≤ v2_8 then some (.inr u_7) else if ib v2_8 6 = true then gm_let (sI u_7 (a0 + 1) (ix v2_8) (gI u_7 (a1 + 1) (ix v2_8))) fun u_10 => gm_let (sI u_10 (a0 + 2) (ix v2_8) (gI u_10 (a1 + 2) (ix v2_8))) fun u_11 => gm_let (sI u_11 (a0 + 3) (ix v2_8) (gI u_11 (a1 + 3) (ix v2_8))) fun u_12 => some (.inl (v2_8 + (1 : Int32), u_12)) else none
def f_X1_copyFrom (a0 : Nat) (a1 : Nat) (u : gm_M) : Option gm_M := gm_let (sI u a0 0 (gI u a1 0)) fun u_3 => gm_let (sI u_3 a0 1 (gI u_3 a1 1)) fun u_4 => gm_let (sI u_4 a0 2 (gI u_4 a1 2)) fun u_5 => gm_let (sI u_5 a0 3 (gI u_5 a1 3)) fun u_6 => ((gm_lp (b_X1_copyFrom_34 a0 a1) gm_FU ((0 : Int32), u_6)).bind fun o => match o with | u_13 => some u_13)
set_option maxRecDepth 100000 in
set_option maxHeartbeats 4000000 in
theorem ok_X1_copyFrom (l : Launch) (Z : gm_Z) (a0 : Nat) (a1 : Nat) (u : gm_M) (h0 : isCourt a0 = true) (h1 : isCourt a1 = true) (u' : gm_M) (hf : f_X1_copyFrom a0 a1 u = some (u')) : gm_Met l GC Z yX1_copyFrom cX1_copyFrom 3 none ({ frames := 0, cells := 0, slots := 0, locals := 0 }) [rv Z a0, rv Z a1] u none u' := by
  unfold f_X1_copyFrom at hf
  refine gm_ofW (by decide +kernel) (by simp [lg_sl, gm_cat, gm_catI, gm_catJ]) ?_
  intro p e s m args below meth c A ls Q R hRf hRl C E hl hw
  obtain ⟨hx, hb, -⟩ := id C
  have hl : lv_has ls 3 [(0, rv Z a0), (1, rv Z a1)] := by simpa [lv_args, gm_cat, gm_catI, gm_catJ] using hl
  obtain ⟨k_1_0, k_1_1, k_1_2, k_1_3, k_1_4, k_1_5, k_1_6⟩ := fc_Court h0
  obtain ⟨k_2_0, k_2_1, k_2_2, k_2_3, k_2_4, k_2_5, k_2_6⟩ := fc_Court h1
  refine gm_aload_n (G := GC) (r := a0) C k_1_0 dX1_copyFrom_0 rfl (lv_at hl 0 rfl) ?_
  refine gm_aload_n (G := GC) (r := a1) C k_2_0 dX1_copyFrom_1 rfl (lv_at hl 1 rfl) ?_
  refine gm_getI (G := GC) (u := u) (r := a1) (ci := 0) (k := 0) C hw k_2_0 fl_X1_9 dX1_copyFrom_2 rfl ?_
  refine gm_putI (G := GC) (u := u) (r := a0) (ci := 0) (k := 0) (v := gI u a1 0) C hw k_1_0 fl_X1_9 fp_0_0 dX1_copyFrom_5 rfl (fun H locs hw => ?_)
  obtain ⟨u_3, e_u_3, hf⟩ := gm_le hf
  rw [← e_u_3] at hw
  refine gm_aload_n (G := GC) (r := a0) C k_1_0 dX1_copyFrom_8 rfl (lv_at hl 0 rfl) ?_
  refine gm_aload_n (G := GC) (r := a1) C k_2_0 dX1_copyFrom_9 rfl (lv_at hl 1 rfl) ?_
  refine gm_getI (G := GC) (u := u_3) (r := a1) (ci := 0) (k := 1) C hw k_2_0 fl_X1_15 dX1_copyFrom_10 rfl ?_
  refine gm_putI (G := GC) (u := u_3) (r := a0) (ci := 0) (k := 1) (v := gI u_3 a1 1) C hw k_1_0 fl_X1_15 fp_0_1 dX1_copyFrom_13 rfl (fun H locs hw => ?_)
  obtain ⟨u_4, e_u_4, hf⟩ := gm_le hf
  rw [← e_u_4] at hw
  refine gm_aload_n (G := GC) (r := a0) C k_1_0 dX1_copyFrom_16 rfl (lv_at hl 0 rfl) ?_
  refine gm_aload_n (G := GC) (r := a1) C k_2_0 dX1_copyFrom_17 rfl (lv_at hl 1 rfl) ?_
  refine gm_getI (G := GC) (u := u_4) (r := a1) (ci := 0) (k := 2) C hw k_2_0 fl_X1_18 dX1_copyFrom_18 rfl ?_
  refine gm_putI (G := GC) (u := u_4) (r := a0) (ci := 0) (k := 2) (v := gI u_4 a1 2) C hw k_1_0 fl_X1_18 fp_0_2 dX1_copyFrom_21 rfl (fun H locs hw => ?_)
  obtain ⟨u_5, e_u_5, hf⟩ := gm_le hf
  rw [← e_u_5] at hw
  refine gm_aload_n (G := GC) (r := a0) C k_1_0 dX1_copyFrom_24 rfl (lv_at hl 0 rfl) ?_
  refine gm_aload_n (G := GC) (r := a1) C k_2_0 dX1_copyFrom_25 rfl (lv_at hl 1 rfl) ?_
  refine gm_getI (G := GC) (u := u_5) (r := a1) (ci := 0) (k := 3) C hw k_2_0 fl_X1_21 dX1_copyFrom_26 rfl ?_
  refine gm_putI (G := GC) (u := u_5) (r := a0) (ci := 0) (k := 3) (v := gI u_5 a1 3) C hw k_1_0 fl_X1_21 fp_0_3 dX1_copyFrom_29 rfl (fun H locs hw => ?_)
  obtain ⟨u_6, e_u_6, hf⟩ := gm_le hf
  rw [← e_u_6] at hw
  refine lv_iconst (v := 0) hx hb dX1_copyFrom_32 (by decide) ?_
  refine lv_istore_n (i := 2) (lv' := [(2, .int (0 : Int32)), (0, rv Z a0), (1, rv Z a1)]) hx hb dX1_copyFrom_33 rfl hl (by decide) (by simp [gm_cat, gm_catI, gm_catJ]) (fun ls hl => ?_)
  obtain ⟨o1, hlp, hf⟩ := gm_bnd hf
  have L34_1 := gm_loop (b_X1_copyFrom_34 a0 a1) (fun x : (Int32 × gm_M) => ∀ (H : Heap) (locs : List Loc) (ls : Array Slot), lv_has ls 3 [(0, rv Z a0), (1, rv Z a1), (2, .int x.1)] → wd GC Z x.2 A s.heap H locs → W p l e R s m args below meth c H locs 0 0 Q (F0 m 34 ls [])) (fun z : gm_M => ∀ (H : Heap) (locs : List Loc) (ls : Array Slot), lv_has ls 3 [] → wd GC Z z A s.heap H locs → W p l e R s m args below meth c H locs 0 0 Q (F0 m 82 ls [])) (by
    intro x o1 hf Kc Kx
    obtain ⟨v2_8, u_7⟩ := x
    intro H locs ls hl hw
    unfold b_X1_copyFrom_34 at hf
    try dsimp only at hf
    refine lv_iload_n hx hb dX1_copyFrom_34 rfl (lv_at hl 2 rfl) ?_
    refine lv_bipush (v := 6) hx hb dX1_copyFrom_35 (by decide) ?_
    refine lv_icmp_ge (tgt := 82) hx hb dX1_copyFrom_37 (by decide) (fun hc => ?_) (fun hc => ?_)
    · replace hf := (if_pos hc).symm.trans hf
      exact Kx _ (gm_si hf) _ _ _ (lv_sub hl [] rfl) hw
    · replace hf := (if_neg hc).symm.trans hf
      refine gm_aload_n (G := GC) (r := a0) C k_1_0 dX1_copyFrom_40 rfl (lv_at hl 0 rfl) ?_
      refine gm_getS (G := GC) (u := u_7) (r := a0) (ci := 0) (k := 4) C hw k_1_0 fl_X1_24 dX1_copyFrom_41 rfl (q := a0 + 1) k_1_1 ?_
      refine lv_iload_n hx hb dX1_copyFrom_44 rfl (lv_at hl 2 rfl) ?_
      refine gm_aload_n (G := GC) (r := a1) C k_2_0 dX1_copyFrom_45 rfl (lv_at hl 1 rfl) ?_
      refine gm_getS (G := GC) (u := u_7) (r := a1) (ci := 0) (k := 4) C hw k_2_0 fl_X1_24 dX1_copyFrom_46 rfl (q := a1 + 1) k_2_1 ?_
      refine lv_iload_n hx hb dX1_copyFrom_49 rfl (lv_at hl 2 rfl) ?_
      obtain ⟨g_9, hf⟩ := gm_grd hf
      refine gm_iald (G := GC) (u := u_7) (r := (a1 + 1)) (n := 6) (i := v2_8) C hw k_2_2 g_9 rfl dX1_copyFrom_50 ?_
      refine gm_iast (G := GC) (u := u_7) (r := (a0 + 1)) (n := 6) (i := v2_8) (x := gI u_7 (a1 + 1) (ix v2_8)) C hw k_1_2 g_9 rfl dX1_copyFrom_51 (fun H locs hw => ?_)
      obtain ⟨u_10, e_u_10, hf⟩ := gm_le hf
      rw [← e_u_10] at hw
      refine gm_aload_n (G := GC) (r := a0) C k_1_0 dX1_copyFrom_52 rfl (lv_at hl 0 rfl) ?_
      refine gm_getS (G := GC) (u := u_10) (r := a0) (ci := 0) (k := 5) C hw k_1_0 fl_X1_28 dX1_copyFrom_53 rfl (q := a0 + 2) k_1_3 ?_
      refine lv_iload_n hx hb dX1_copyFrom_56 rfl (lv_at hl 2 rfl) ?_
      refine gm_aload_n (G := GC) (r := a1) C k_2_0 dX1_copyFrom_57 rfl (lv_at hl 1 rfl) ?_
      refine gm_getS (G := GC) (u := u_10) (r := a1) (ci := 0) (k := 5) C hw k_2_0 fl_X1_28 dX1_copyFrom_58 rfl (q := a1 + 2) k_2_3 ?_
      refine lv_iload_n hx hb dX1_copyFrom_61 rfl (lv_at hl 2 rfl) ?_
      refine gm_iald (G := GC) (u := u_10) (r := (a1 + 2)) (n := 6) (i := v2_8) C hw k_2_4 g_9 rfl dX1_copyFrom_62 ?_
      refine gm_iast (G := GC) (u := u_10) (r := (a0 + 2)) (n := 6) (i := v2_8) (x := gI u_10 (a1 + 2) (ix v2_8)) C hw k_1_4 g_9 rfl dX1_copyFrom_63 (fun H locs hw => ?_)
      obtain ⟨u_11, e_u_11, hf⟩ := gm_le hf
      rw [← e_u_11] at hw
      refine gm_aload_n (G := GC) (r := a0) C k_1_0 dX1_copyFrom_64 rfl (lv_at hl 0 rfl) ?_
      refine gm_getS (G := GC) (u := u_11) (r := a0) (ci := 0) (k := 6) C hw k_1_0 fl_X1_31 dX1_copyFrom_65 rfl (q := a0 + 3) k_1_5 ?_
      refine lv_iload_n hx hb dX1_copyFrom_68 rfl (lv_at hl 2 rfl) ?_
      refine gm_aload_n (G := GC) (r := a1) C k_2_0 dX1_copyFrom_69 rfl (lv_at hl 1 rfl) ?_
      refine gm_getS (G := GC) (u := u_11) (r := a1) (ci := 0) (k := 6) C hw k_2_0 fl_X1_31 dX1_copyFrom_70 rfl (q := a1 + 3) k_2_5 ?_
      refine lv_iload_n hx hb dX1_copyFrom_73 rfl (lv_at hl 2 rfl) ?_
      refine gm_iald (G := GC) (u := u_11) (r := (a1 + 3)) (n := 6) (i := v2_8) C hw k_2_6 g_9 rfl dX1_copyFrom_74 ?_
      refine gm_iast (G := GC) (u := u_11) (r := (a0 + 3)) (n := 6) (i := v2_8) (x := gI u_11 (a1 + 3) (ix v2_8)) C hw k_1_6 g_9 rfl dX1_copyFrom_75 (fun H locs hw => ?_)
      obtain ⟨u_12, e_u_12, hf⟩ := gm_le hf
      rw [← e_u_12] at hw
      refine lv_iinc (v := v2_8 + (1 : Int32)) (lv' := [(2, .int (v2_8 + (1 : Int32))), (0, rv Z a0), (1, rv Z a1)]) hx hb dX1_copyFrom_76 hl (k := 2) rfl rfl (by decide) (by simp [gm_cat, gm_catI, gm_catJ]) (fun ls hl => ?_)
      refine lv_goto (tgt := 34) hx hb dX1_copyFrom_79 (by decide) ?_
      exact Kc _ (gm_si hf) _ _ _ (lv_sub hl [1, 2, 0] rfl) hw)
  refine L34_1 _ _ _ hlp ?_ _ _ _ (lv_sub hl [1, 2, 0] rfl) hw
  obtain ⟨u_13, rfl⟩ : ∃ y, y = o1 := ⟨_, rfl⟩
  intro H locs ls hl hw
  try dsimp only at hf
  exact gm_vret C E hw rfl rfl (Option.some.inj hf).symm dX1_copyFrom_82
/-! LeapCapital$Court.personAt -/
def f_X1_personAt (a0 : Nat) (a1 : Int32) (u : gm_M) : Option Int32 := if a1 < 0 then some (-1 : Int32) else if (gI u a0 3) ≤ a1 then some (-1 : Int32) else if (6 : Int32) ≤ a1 then some (-1 : Int32) else if ib a1 6 = true then some (gI u (a0 + 1) (ix a1)) else none
set_option maxRecDepth 100000 in
set_option maxHeartbeats 4000000 in
theorem ok_X1_personAt (l : Launch) (Z : gm_Z) (a0 : Nat) (a1 : Int32) (u : gm_M) (h0 : isCourt a0 = true) (r : Int32) (hf : f_X1_personAt a0 a1 u = some r) : gm_Met l GC Z yX1_personAt cX1_personAt 2 (some .int) ({ frames := 0, cells := 0, slots := 0, locals := 0 }) [rv Z a0, .int a1] u (some (.int r)) u := by
  unfold f_X1_personAt at hf
  refine gm_ofW (by decide +kernel) (by simp [lg_sl, gm_cat, gm_catI, gm_catJ]) ?_
  intro p e s m args below meth c A ls Q R hRf hRl C E hl hw
  obtain ⟨hx, hb, -⟩ := id C
  have hl : lv_has ls 2 [(0, rv Z a0), (1, .int a1)] := by simpa [lv_args, gm_cat, gm_catI, gm_catJ] using hl
  obtain ⟨k_1_0, k_1_1, k_1_2, k_1_3, k_1_4, k_1_5, k_1_6⟩ := fc_Court h0
  refine lv_iload_n hx hb dX1_personAt_0 rfl (lv_at hl 1 rfl) ?_
  refine lv_if_lt (tgt := 30) hx hb dX1_personAt_1 (by decide) (fun hc => ?_) (fun hc => ?_)
  · replace hf := (if_pos hc).symm.trans hf
    refine lv_iconst (v := -1) hx hb dX1_personAt_30 (by decide) ?_
    exact gm_iret C E hw rfl ((congrArg (fun z => some (Value.int z)) (Option.some.inj hf)).symm) rfl dX1_personAt_31
  · replace hf := (if_neg hc).symm.trans hf
    refine lv_iload_n hx hb dX1_personAt_4 rfl (lv_at hl 1 rfl) ?_
    refine gm_aload_n (G := GC) (r := a0) C k_1_0 dX1_personAt_5 rfl (lv_at hl 0 rfl) ?_
    refine gm_getI (G := GC) (u := u) (r := a0) (ci := 0) (k := 3) C hw k_1_0 fl_X1_21 dX1_personAt_6 rfl ?_
    refine lv_icmp_ge (tgt := 30) hx hb dX1_personAt_9 (by decide) (fun hc => ?_) (fun hc => ?_)
    · replace hf := (if_pos hc).symm.trans hf
      refine lv_iconst (v := -1) hx hb dX1_personAt_30 (by decide) ?_
      exact gm_iret C E hw rfl ((congrArg (fun z => some (Value.int z)) (Option.some.inj hf)).symm) rfl dX1_personAt_31
    · replace hf := (if_neg hc).symm.trans hf
      refine lv_iload_n hx hb dX1_personAt_12 rfl (lv_at hl 1 rfl) ?_
      refine gm_aload_n (G := GC) (r := a0) C k_1_0 dX1_personAt_13 rfl (lv_at hl 0 rfl) ?_
      refine gm_getS (G := GC) (u := u) (r := a0) (ci := 0) (k := 4) C hw k_1_0 fl_X1_24 dX1_personAt_14 rfl (q := a0 + 1) k_1_1 ?_
      refine gm_alen (G := GC) (u := u) (r := (a0 + 1)) (t := 0) (n := 6) (v := 6) C hw k_1_2 (by decide) (by decide) dX1_personAt_17 ?_
      refine lv_icmp_ge (tgt := 30) hx hb dX1_personAt_18 (by decide) (fun hc => ?_) (fun hc => ?_)
      · replace hf := (if_pos hc).symm.trans hf
        refine lv_iconst (v := -1) hx hb dX1_personAt_30 (by decide) ?_
        exact gm_iret C E hw rfl ((congrArg (fun z => some (Value.int z)) (Option.some.inj hf)).symm) rfl dX1_personAt_31
      · replace hf := (if_neg hc).symm.trans hf
        refine gm_aload_n (G := GC) (r := a0) C k_1_0 dX1_personAt_21 rfl (lv_at hl 0 rfl) ?_
        refine gm_getS (G := GC) (u := u) (r := a0) (ci := 0) (k := 4) C hw k_1_0 fl_X1_24 dX1_personAt_22 rfl (q := a0 + 1) k_1_1 ?_
        refine lv_iload_n hx hb dX1_personAt_25 rfl (lv_at hl 1 rfl) ?_
        obtain ⟨g_2, hf⟩ := gm_grd hf
        refine gm_iald (G := GC) (u := u) (r := (a0 + 1)) (n := 6) (i := a1) C hw k_1_2 g_2 rfl dX1_personAt_26 ?_
        refine lv_goto (tgt := 31) hx hb dX1_personAt_27 (by decide) ?_
        exact gm_iret C E hw rfl ((congrArg (fun z => some (Value.int z)) (Option.some.inj hf)).symm) rfl dX1_personAt_31
/-! LeapCapital$Court.placeOf -/
def b_X1_placeOf_2 (a0 : Nat) (a1 : Int32) (u : gm_M) : Int32 → Option (Int32 ⊕ (Int32 ⊕ Unit)) := fun x => match x with | v2_2 => if (gI u a0 3) ≤ v2_2 then some (.inr (.inr ())) else if (6 : Int32) ≤ v2_2 then some (.inr (.inr ())) else if ib v2_2 6 = true then if (gI u (a0 + 1) (ix v2_2)) = a1 then some (.inr (.inl v2_2)) else some (.inl (v2_2 + (1 : Int32))) else none
def f_X1_placeOf (a0 : Nat) (a1 : Int32) (u : gm_M) : Option Int32 := ((gm_lp (b_X1_placeOf_2 a0 a1 u) gm_FU (0 : Int32)).bind fun o => match o with | .inl w2_4 => (some w2_4) | .inr (_) => (some (-1 : Int32)))
set_option maxRecDepth 100000 in
set_option maxHeartbeats 4000000 in
theorem ok_X1_placeOf (l : Launch) (Z : gm_Z) (a0 : Nat) (a1 : Int32) (u : gm_M) (h0 : isCourt a0 = true) (r : Int32) (hf : f_X1_placeOf a0 a1 u = some r) : gm_Met l GC Z yX1_placeOf cX1_placeOf 3 (some .int) ({ frames := 0, cells := 0, slots := 0, locals := 0 }) [rv Z a0, .int a1] u (some (.int r)) u := by
  unfold f_X1_placeOf at hf
  refine gm_ofW (by decide +kernel) (by simp [lg_sl, gm_cat, gm_catI, gm_catJ]) ?_
  intro p e s m args below meth c A ls Q R hRf hRl C E hl hw
  obtain ⟨hx, hb, -⟩ := id C
  have hl : lv_has ls 3 [(0, rv Z a0), (1, .int a1)] := by simpa [lv_args, gm_cat, gm_catI, gm_catJ] using hl
  obtain ⟨k_1_0, k_1_1, k_1_2, k_1_3, k_1_4, k_1_5, k_1_6⟩ := fc_Court h0
  refine lv_iconst (v := 0) hx hb dX1_placeOf_0 (by decide) ?_
  refine lv_istore_n (i := 2) (lv' := [(2, .int (0 : Int32)), (0, rv Z a0), (1, .int a1)]) hx hb dX1_placeOf_1 rfl hl (by decide) rfl (fun ls hl => ?_)
  obtain ⟨o1, hlp, hf⟩ := gm_bnd hf
  have L2_1 := gm_loop (b_X1_placeOf_2 a0 a1 u) (fun x : Int32 => ∀ (H : Heap) (locs : List Loc) (ls : Array Slot), lv_has ls 3 [(0, rv Z a0), (1, .int a1), (2, .int x)] → wd GC Z u A s.heap H locs → W p l e R s m args below meth c H locs 0 0 Q (F0 m 2 ls [])) (fun z : (Int32 ⊕ Unit) => match z with | .inl q0 => ∀ (H : Heap) (locs : List Loc) (ls : Array Slot), lv_has ls 3 [(2, .int q0)] → wd GC Z u A s.heap H locs → W p l e R s m args below meth c H locs 0 0 Q (F0 m 29 ls []) | .inr p0 => ∀ (H : Heap) (locs : List Loc) (ls : Array Slot), lv_has ls 3 [] → wd GC Z u A s.heap H locs → W p l e R s m args below meth c H locs 0 0 Q (F0 m 37 ls [])) (by
    intro x o1 hf Kc Kx
    obtain ⟨v2_2, rfl⟩ : ∃ y, y = x := ⟨_, rfl⟩
    intro H locs ls hl hw
    unfold b_X1_placeOf_2 at hf
    try dsimp only at hf
    refine lv_iload_n hx hb dX1_placeOf_2 rfl (lv_at hl 2 rfl) ?_
    refine gm_aload_n (G := GC) (r := a0) C k_1_0 dX1_placeOf_3 rfl (lv_at hl 0 rfl) ?_
    refine gm_getI (G := GC) (u := u) (r := a0) (ci := 0) (k := 3) C hw k_1_0 fl_X1_21 dX1_placeOf_4 rfl ?_
    refine lv_icmp_ge (tgt := 37) hx hb dX1_placeOf_7 (by decide) (fun hc => ?_) (fun hc => ?_)
    · replace hf := (if_pos hc).symm.trans hf
      exact Kx _ (gm_si hf) _ _ _ (lv_sub hl [] rfl) hw
    · replace hf := (if_neg hc).symm.trans hf
      refine lv_iload_n hx hb dX1_placeOf_10 rfl (lv_at hl 2 rfl) ?_
      refine gm_aload_n (G := GC) (r := a0) C k_1_0 dX1_placeOf_11 rfl (lv_at hl 0 rfl) ?_
      refine gm_getS (G := GC) (u := u) (r := a0) (ci := 0) (k := 4) C hw k_1_0 fl_X1_24 dX1_placeOf_12 rfl (q := a0 + 1) k_1_1 ?_
      refine gm_alen (G := GC) (u := u) (r := (a0 + 1)) (t := 0) (n := 6) (v := 6) C hw k_1_2 (by decide) (by decide) dX1_placeOf_15 ?_
      refine lv_icmp_ge (tgt := 37) hx hb dX1_placeOf_16 (by decide) (fun hc => ?_) (fun hc => ?_)
      · replace hf := (if_pos hc).symm.trans hf
        exact Kx _ (gm_si hf) _ _ _ (lv_sub hl [] rfl) hw
      · replace hf := (if_neg hc).symm.trans hf
        refine gm_aload_n (G := GC) (r := a0) C k_1_0 dX1_placeOf_19 rfl (lv_at hl 0 rfl) ?_
        refine gm_getS (G := GC) (u := u) (r := a0) (ci := 0) (k := 4) C hw k_1_0 fl_X1_24 dX1_placeOf_20 rfl (q := a0 + 1) k_1_1 ?_
        refine lv_iload_n hx hb dX1_placeOf_23 rfl (lv_at hl 2 rfl) ?_
        obtain ⟨g_3, hf⟩ := gm_grd hf
        refine gm_iald (G := GC) (u := u) (r := (a0 + 1)) (n := 6) (i := v2_2) C hw k_1_2 g_3 rfl dX1_placeOf_24 ?_
        refine lv_iload_n hx hb dX1_placeOf_25 rfl (lv_at hl 1 rfl) ?_
        refine lv_icmp_ne (tgt := 31) hx hb dX1_placeOf_26 (by decide) (fun hc => ?_) (fun hc => ?_)
        · replace hf := (if_neg hc).symm.trans hf
          refine lv_iinc (v := v2_2 + (1 : Int32)) (lv' := [(2, .int (v2_2 + (1 : Int32))), (0, rv Z a0), (1, .int a1)]) hx hb dX1_placeOf_31 hl (k := 2) rfl rfl (by decide) rfl (fun ls hl => ?_)
          refine lv_goto (tgt := 2) hx hb dX1_placeOf_34 (by decide) ?_
          exact Kc _ (gm_si hf) _ _ _ (lv_sub hl [1, 2, 0] rfl) hw
        · replace hf := (if_pos hc).symm.trans hf
          exact Kx _ (gm_si hf) _ _ _ (lv_sub hl [2] rfl) hw)
  refine L2_1 _ _ _ hlp ?_ _ _ _ (lv_sub hl [1, 2, 0] rfl) hw
  cases o1 with
  | inl q0_z_5 =>
    obtain ⟨w2_4, rfl⟩ : ∃ y, y = q0_z_5 := ⟨_, rfl⟩
    intro H locs ls hl hw
    try dsimp only at hf
    refine lv_iload_n hx hb dX1_placeOf_29 rfl (lv_at hl 0 rfl) ?_
    exact gm_iret C E hw rfl ((congrArg (fun z => some (Value.int z)) (Option.some.inj hf)).symm) rfl dX1_placeOf_30
  | inr p0_z_5 =>
    intro H locs ls hl hw
    try dsimp only at hf
    refine lv_iconst (v := -1) hx hb dX1_placeOf_37 (by decide) ?_
    exact gm_iret C E hw rfl ((congrArg (fun z => some (Value.int z)) (Option.some.inj hf)).symm) rfl dX1_placeOf_38
/-! LeapCapital$Court.isQueued -/
def f_X1_isQueued (a0 : Nat) (a1 : Int32) (u : gm_M) : Option Int32 := (f_X1_placeOf a0 a1 u).bind fun r_2 => if r_2 = (-1 : Int32) then some (0 : Int32) else some (1 : Int32)
set_option maxRecDepth 100000 in
set_option maxHeartbeats 4000000 in
theorem ok_X1_isQueued (l : Launch) (Z : gm_Z) (a0 : Nat) (a1 : Int32) (u : gm_M) (h0 : isCourt a0 = true) (r : Int32) (hf : f_X1_isQueued a0 a1 u = some r) : gm_Met l GC Z yX1_isQueued cX1_isQueued 2 (some .boolean) ({ frames := 1, cells := 0, slots := 0, locals := 22 }) [rv Z a0, .int a1] u (some (.int r)) u := by
  unfold f_X1_isQueued at hf
  refine gm_ofW (by decide +kernel) (by simp [lg_sl, gm_cat, gm_catI, gm_catJ]) ?_
  intro p e s m args below meth c A ls Q R hRf hRl C E hl hw
  obtain ⟨hx, hb, -⟩ := id C
  have hl : lv_has ls 2 [(0, rv Z a0), (1, .int a1)] := by simpa [lv_args, gm_cat, gm_catI, gm_catJ] using hl
  obtain ⟨k_1_0, k_1_1, k_1_2, k_1_3, k_1_4, k_1_5, k_1_6⟩ := fc_Court h0
  refine gm_aload_n (G := GC) (r := a0) C k_1_0 dX1_isQueued_0 rfl (lv_at hl 0 rfl) ?_
  refine lv_iload_n hx hb dX1_isQueued_1 rfl (lv_at hl 1 rfl) ?_
  obtain ⟨r_2, hc_3, hf⟩ := gm_bnd hf
  refine gm_callV (G := GC) (u := u) (u' := u) (r := a0) (ci := 0) (As := [.int a1]) (rest := []) (res := (some (.int r_2))) C hw hl (ok_X1_placeOf l Z a0 a1 u h0 r_2 hc_3) cw_X1_37 im_X1_placeOf rfl se_X1_placeOf k_1_0 rfl rfl ⟨Nat.le_trans (Nat.le_of_ble_eq_true rfl) hRf, Nat.le_trans (Nat.le_of_ble_eq_true rfl) hRl⟩ rfl rfl (Nat.le_of_ble_eq_true rfl) dX1_isQueued_2 (fun H locs hw => ?_)
  refine lv_iconst (v := -1) hx hb dX1_isQueued_5 (by decide) ?_
  refine lv_icmp_eq (tgt := 13) hx hb dX1_isQueued_6 (by decide) (fun hc => ?_) (fun hc => ?_)
  · replace hf := (if_pos hc).symm.trans hf
    refine lv_iconst (v := 0) hx hb dX1_isQueued_13 (by decide) ?_
    exact gm_zret C E hw rfl rfl ((congrArg (fun z => some (Value.int z)) (Option.some.inj hf)).symm) rfl dX1_isQueued_14
  · replace hf := (if_neg hc).symm.trans hf
    refine lv_iconst (v := 1) hx hb dX1_isQueued_9 (by decide) ?_
    refine lv_goto (tgt := 14) hx hb dX1_isQueued_10 (by decide) ?_
    exact gm_zret C E hw rfl rfl ((congrArg (fun z => some (Value.int z)) (Option.some.inj hf)).symm) rfl dX1_isQueued_14
/-! LeapCapital$Court.queueBits -/
def b_X1_queueBits_4 (a0 : Nat) (u : gm_M) : (Int32 × Int32) → Option ((Int32 × Int32) ⊕ Int32) := fun x => match x with | (v1_2, v2_3) => if (gI u a0 3) ≤ v2_3 then some (.inr v1_2) else if (6 : Int32) ≤ v2_3 then some (.inr v1_2) else if ib v2_3 6 = true then gm_let (v1_2 ||| ((1 : Int32) <<< ((gI u (a0 + 1) (ix v2_3)) &&& 31))) fun v1_5 => some (.inl (v1_5, v2_3 + (1 : Int32))) else none
def f_X1_queueBits (a0 : Nat) (u : gm_M) : Option Int32 := ((gm_lp (b_X1_queueBits_4 a0 u) gm_FU ((0 : Int32), (0 : Int32))).bind fun o => match o with | w1_6 => some w1_6)
set_option maxRecDepth 100000 in
set_option maxHeartbeats 4000000 in
theorem ok_X1_queueBits (l : Launch) (Z : gm_Z) (a0 : Nat) (u : gm_M) (h0 : isCourt a0 = true) (r : Int32) (hf : f_X1_queueBits a0 u = some r) : gm_Met l GC Z yX1_queueBits cX1_queueBits 3 (some .int) ({ frames := 0, cells := 0, slots := 0, locals := 0 }) [rv Z a0] u (some (.int r)) u := by
  unfold f_X1_queueBits at hf
  refine gm_ofW (by decide +kernel) (by simp [lg_sl, gm_cat, gm_catI, gm_catJ]) ?_
  intro p e s m args below meth c A ls Q R hRf hRl C E hl hw
  obtain ⟨hx, hb, -⟩ := id C
  have hl : lv_has ls 3 [(0, rv Z a0)] := by simpa [lv_args, gm_cat, gm_catI, gm_catJ] using hl
  obtain ⟨k_1_0, k_1_1, k_1_2, k_1_3, k_1_4, k_1_5, k_1_6⟩ := fc_Court h0
  refine lv_iconst (v := 0) hx hb dX1_queueBits_0 (by decide) ?_
  refine lv_istore_n (i := 1) (lv' := [(1, .int (0 : Int32)), (0, rv Z a0)]) hx hb dX1_queueBits_1 rfl hl (by decide) (by simp [gm_cat, gm_catI, gm_catJ]) (fun ls hl => ?_)
  refine lv_iconst (v := 0) hx hb dX1_queueBits_2 (by decide) ?_
  refine lv_istore_n (i := 2) (lv' := [(2, .int (0 : Int32)), (1, .int (0 : Int32)), (0, rv Z a0)]) hx hb dX1_queueBits_3 rfl hl (by decide) rfl (fun ls hl => ?_)
  obtain ⟨o1, hlp, hf⟩ := gm_bnd hf
  have L4_1 := gm_loop (b_X1_queueBits_4 a0 u) (fun x : (Int32 × Int32) => ∀ (H : Heap) (locs : List Loc) (ls : Array Slot), lv_has ls 3 [(0, rv Z a0), (1, .int x.1), (2, .int x.2)] → wd GC Z u A s.heap H locs → W p l e R s m args below meth c H locs 0 0 Q (F0 m 4 ls [])) (fun z : Int32 => ∀ (H : Heap) (locs : List Loc) (ls : Array Slot), lv_has ls 3 [(1, .int z)] → wd GC Z u A s.heap H locs → W p l e R s m args below meth c H locs 0 0 Q (F0 m 38 ls [])) (by
    intro x o1 hf Kc Kx
    obtain ⟨v1_2, v2_3⟩ := x
    intro H locs ls hl hw
    unfold b_X1_queueBits_4 at hf
    try dsimp only at hf
    refine lv_iload_n hx hb dX1_queueBits_4 rfl (lv_at hl 2 rfl) ?_
    refine gm_aload_n (G := GC) (r := a0) C k_1_0 dX1_queueBits_5 rfl (lv_at hl 0 rfl) ?_
    refine gm_getI (G := GC) (u := u) (r := a0) (ci := 0) (k := 3) C hw k_1_0 fl_X1_21 dX1_queueBits_6 rfl ?_
    refine lv_icmp_ge (tgt := 38) hx hb dX1_queueBits_9 (by decide) (fun hc => ?_) (fun hc => ?_)
    · replace hf := (if_pos hc).symm.trans hf
      exact Kx _ (gm_si hf) _ _ _ (lv_sub hl [1] rfl) hw
    · replace hf := (if_neg hc).symm.trans hf
      refine lv_iload_n hx hb dX1_queueBits_12 rfl (lv_at hl 2 rfl) ?_
      refine gm_aload_n (G := GC) (r := a0) C k_1_0 dX1_queueBits_13 rfl (lv_at hl 0 rfl) ?_
      refine gm_getS (G := GC) (u := u) (r := a0) (ci := 0) (k := 4) C hw k_1_0 fl_X1_24 dX1_queueBits_14 rfl (q := a0 + 1) k_1_1 ?_
      refine gm_alen (G := GC) (u := u) (r := (a0 + 1)) (t := 0) (n := 6) (v := 6) C hw k_1_2 (by decide) (by decide) dX1_queueBits_17 ?_
      refine lv_icmp_ge (tgt := 38) hx hb dX1_queueBits_18 (by decide) (fun hc => ?_) (fun hc => ?_)
      · replace hf := (if_pos hc).symm.trans hf
        exact Kx _ (gm_si hf) _ _ _ (lv_sub hl [1] rfl) hw
      · replace hf := (if_neg hc).symm.trans hf
        refine lv_iload_n hx hb dX1_queueBits_21 rfl (lv_at hl 1 rfl) ?_
        refine lv_iconst (v := 1) hx hb dX1_queueBits_22 (by decide) ?_
        refine gm_aload_n (G := GC) (r := a0) C k_1_0 dX1_queueBits_23 rfl (lv_at hl 0 rfl) ?_
        refine gm_getS (G := GC) (u := u) (r := a0) (ci := 0) (k := 4) C hw k_1_0 fl_X1_24 dX1_queueBits_24 rfl (q := a0 + 1) k_1_1 ?_
        refine lv_iload_n hx hb dX1_queueBits_27 rfl (lv_at hl 2 rfl) ?_
        obtain ⟨g_4, hf⟩ := gm_grd hf
        refine gm_iald (G := GC) (u := u) (r := (a0 + 1)) (n := 6) (i := v2_3) C hw k_1_2 g_4 rfl dX1_queueBits_28 ?_
        refine lv_ishl hx hb dX1_queueBits_29 ?_
        refine lv_ior hx hb dX1_queueBits_30 ?_
        obtain ⟨v1_5, e_v1_5, hf⟩ := gm_le hf
        refine gm_topI e_v1_5 ?_
        refine lv_istore_n (i := 1) (lv' := [(1, .int v1_5), (0, rv Z a0), (2, .int v2_3)]) hx hb dX1_queueBits_31 rfl hl (by decide) (by simp [gm_cat, gm_catI, gm_catJ]) (fun ls hl => ?_)
        refine lv_iinc (v := v2_3 + (1 : Int32)) (lv' := [(2, .int (v2_3 + (1 : Int32))), (1, .int v1_5), (0, rv Z a0)]) hx hb dX1_queueBits_32 hl (k := 2) rfl rfl (by decide) rfl (fun ls hl => ?_)
        refine lv_goto (tgt := 4) hx hb dX1_queueBits_35 (by decide) ?_
        exact Kc _ (gm_si hf) _ _ _ (lv_sub hl [2, 1, 0] rfl) hw)
  refine L4_1 _ _ _ hlp ?_ _ _ _ (lv_sub hl [2, 1, 0] rfl) hw
  obtain ⟨w1_6, rfl⟩ : ∃ y, y = o1 := ⟨_, rfl⟩
  intro H locs ls hl hw
  try dsimp only at hf
  refine lv_iload_n hx hb dX1_queueBits_38 rfl (lv_at hl 0 rfl) ?_
  exact gm_iret C E hw rfl ((congrArg (fun z => some (Value.int z)) (Option.some.inj hf)).symm) rfl dX1_queueBits_39
/-! LeapCapital$Court.stoodOf -/
def f_X1_stoodOf (a0 : Nat) (a1 : Int32) (u : gm_M) : Option Int32 := if a1 < 0 then some (0 : Int32) else if (6 : Int32) ≤ a1 then some (0 : Int32) else if ib a1 6 = true then some ((gI u a0 0) - (gI u (a0 + 2) (ix a1))) else none
set_option maxRecDepth 100000 in
set_option maxHeartbeats 4000000 in
theorem ok_X1_stoodOf (l : Launch) (Z : gm_Z) (a0 : Nat) (a1 : Int32) (u : gm_M) (h0 : isCourt a0 = true) (r : Int32) (hf : f_X1_stoodOf a0 a1 u = some r) : gm_Met l GC Z yX1_stoodOf cX1_stoodOf 2 (some .int) ({ frames := 0, cells := 0, slots := 0, locals := 0 }) [rv Z a0, .int a1] u (some (.int r)) u := by
  unfold f_X1_stoodOf at hf
  refine gm_ofW (by decide +kernel) (by simp [lg_sl, gm_cat, gm_catI, gm_catJ]) ?_
  intro p e s m args below meth c A ls Q R hRf hRl C E hl hw
  obtain ⟨hx, hb, -⟩ := id C
  have hl : lv_has ls 2 [(0, rv Z a0), (1, .int a1)] := by simpa [lv_args, gm_cat, gm_catI, gm_catJ] using hl
  obtain ⟨k_1_0, k_1_1, k_1_2, k_1_3, k_1_4, k_1_5, k_1_6⟩ := fc_Court h0
  refine lv_iload_n hx hb dX1_stoodOf_0 rfl (lv_at hl 1 rfl) ?_
  refine lv_if_lt (tgt := 27) hx hb dX1_stoodOf_1 (by decide) (fun hc => ?_) (fun hc => ?_)
  · replace hf := (if_pos hc).symm.trans hf
    refine lv_iconst (v := 0) hx hb dX1_stoodOf_27 (by decide) ?_
    exact gm_iret C E hw rfl ((congrArg (fun z => some (Value.int z)) (Option.some.inj hf)).symm) rfl dX1_stoodOf_28
  · replace hf := (if_neg hc).symm.trans hf
    refine lv_iload_n hx hb dX1_stoodOf_4 rfl (lv_at hl 1 rfl) ?_
    refine gm_aload_n (G := GC) (r := a0) C k_1_0 dX1_stoodOf_5 rfl (lv_at hl 0 rfl) ?_
    refine gm_getS (G := GC) (u := u) (r := a0) (ci := 0) (k := 5) C hw k_1_0 fl_X1_28 dX1_stoodOf_6 rfl (q := a0 + 2) k_1_3 ?_
    refine gm_alen (G := GC) (u := u) (r := (a0 + 2)) (t := 0) (n := 6) (v := 6) C hw k_1_4 (by decide) (by decide) dX1_stoodOf_9 ?_
    refine lv_icmp_ge (tgt := 27) hx hb dX1_stoodOf_10 (by decide) (fun hc => ?_) (fun hc => ?_)
    · replace hf := (if_pos hc).symm.trans hf
      refine lv_iconst (v := 0) hx hb dX1_stoodOf_27 (by decide) ?_
      exact gm_iret C E hw rfl ((congrArg (fun z => some (Value.int z)) (Option.some.inj hf)).symm) rfl dX1_stoodOf_28
    · replace hf := (if_neg hc).symm.trans hf
      refine gm_aload_n (G := GC) (r := a0) C k_1_0 dX1_stoodOf_13 rfl (lv_at hl 0 rfl) ?_
      refine gm_getI (G := GC) (u := u) (r := a0) (ci := 0) (k := 0) C hw k_1_0 fl_X1_9 dX1_stoodOf_14 rfl ?_
      refine gm_aload_n (G := GC) (r := a0) C k_1_0 dX1_stoodOf_17 rfl (lv_at hl 0 rfl) ?_
      refine gm_getS (G := GC) (u := u) (r := a0) (ci := 0) (k := 5) C hw k_1_0 fl_X1_28 dX1_stoodOf_18 rfl (q := a0 + 2) k_1_3 ?_
      refine lv_iload_n hx hb dX1_stoodOf_21 rfl (lv_at hl 1 rfl) ?_
      obtain ⟨g_2, hf⟩ := gm_grd hf
      refine gm_iald (G := GC) (u := u) (r := (a0 + 2)) (n := 6) (i := a1) C hw k_1_4 g_2 rfl dX1_stoodOf_22 ?_
      refine lv_isub hx hb dX1_stoodOf_23 ?_
      refine lv_goto (tgt := 28) hx hb dX1_stoodOf_24 (by decide) ?_
      exact gm_iret C E hw rfl ((congrArg (fun z => some (Value.int z)) (Option.some.inj hf)).symm) rfl dX1_stoodOf_28
/-! LeapCapital$Court.daysOf -/
def f_X1_daysOf (a0 : Nat) (a1 : Int32) (u : gm_M) : Option Int32 := if a1 < 0 then some (0 : Int32) else if (6 : Int32) ≤ a1 then some (0 : Int32) else if ib a1 6 = true then some (gI u (a0 + 3) (ix a1)) else none
set_option maxRecDepth 100000 in
set_option maxHeartbeats 4000000 in
theorem ok_X1_daysOf (l : Launch) (Z : gm_Z) (a0 : Nat) (a1 : Int32) (u : gm_M) (h0 : isCourt a0 = true) (r : Int32) (hf : f_X1_daysOf a0 a1 u = some r) : gm_Met l GC Z yX1_daysOf cX1_daysOf 2 (some .int) ({ frames := 0, cells := 0, slots := 0, locals := 0 }) [rv Z a0, .int a1] u (some (.int r)) u := by
  unfold f_X1_daysOf at hf
  refine gm_ofW (by decide +kernel) (by simp [lg_sl, gm_cat, gm_catI, gm_catJ]) ?_
  intro p e s m args below meth c A ls Q R hRf hRl C E hl hw
  obtain ⟨hx, hb, -⟩ := id C
  have hl : lv_has ls 2 [(0, rv Z a0), (1, .int a1)] := by simpa [lv_args, gm_cat, gm_catI, gm_catJ] using hl
  obtain ⟨k_1_0, k_1_1, k_1_2, k_1_3, k_1_4, k_1_5, k_1_6⟩ := fc_Court h0
  refine lv_iload_n hx hb dX1_daysOf_0 rfl (lv_at hl 1 rfl) ?_
  refine lv_if_lt (tgt := 22) hx hb dX1_daysOf_1 (by decide) (fun hc => ?_) (fun hc => ?_)
  · replace hf := (if_pos hc).symm.trans hf
    refine lv_iconst (v := 0) hx hb dX1_daysOf_22 (by decide) ?_
    exact gm_iret C E hw rfl ((congrArg (fun z => some (Value.int z)) (Option.some.inj hf)).symm) rfl dX1_daysOf_23
  · replace hf := (if_neg hc).symm.trans hf
    refine lv_iload_n hx hb dX1_daysOf_4 rfl (lv_at hl 1 rfl) ?_
    refine gm_aload_n (G := GC) (r := a0) C k_1_0 dX1_daysOf_5 rfl (lv_at hl 0 rfl) ?_
    refine gm_getS (G := GC) (u := u) (r := a0) (ci := 0) (k := 6) C hw k_1_0 fl_X1_31 dX1_daysOf_6 rfl (q := a0 + 3) k_1_5 ?_
    refine gm_alen (G := GC) (u := u) (r := (a0 + 3)) (t := 0) (n := 6) (v := 6) C hw k_1_6 (by decide) (by decide) dX1_daysOf_9 ?_
    refine lv_icmp_ge (tgt := 22) hx hb dX1_daysOf_10 (by decide) (fun hc => ?_) (fun hc => ?_)
    · replace hf := (if_pos hc).symm.trans hf
      refine lv_iconst (v := 0) hx hb dX1_daysOf_22 (by decide) ?_
      exact gm_iret C E hw rfl ((congrArg (fun z => some (Value.int z)) (Option.some.inj hf)).symm) rfl dX1_daysOf_23
    · replace hf := (if_neg hc).symm.trans hf
      refine gm_aload_n (G := GC) (r := a0) C k_1_0 dX1_daysOf_13 rfl (lv_at hl 0 rfl) ?_
      refine gm_getS (G := GC) (u := u) (r := a0) (ci := 0) (k := 6) C hw k_1_0 fl_X1_31 dX1_daysOf_14 rfl (q := a0 + 3) k_1_5 ?_
      refine lv_iload_n hx hb dX1_daysOf_17 rfl (lv_at hl 1 rfl) ?_
      obtain ⟨g_2, hf⟩ := gm_grd hf
      refine gm_iald (G := GC) (u := u) (r := (a0 + 3)) (n := 6) (i := a1) C hw k_1_6 g_2 rfl dX1_daysOf_18 ?_
      refine lv_goto (tgt := 23) hx hb dX1_daysOf_19 (by decide) ?_
      exact gm_iret C E hw rfl ((congrArg (fun z => some (Value.int z)) (Option.some.inj hf)).symm) rfl dX1_daysOf_23
/-! LeapCapital$Realm.isPerson -/
def f_X5_isPerson (a0 : Nat) (a1 : Int32) (u : gm_M) : Int32 := if a1 < 0 then (0 : Int32) else if (gI u a0 0) ≤ a1 then (0 : Int32) else if (6 : Int32) ≤ a1 then (0 : Int32) else (1 : Int32)
set_option maxRecDepth 100000 in
set_option maxHeartbeats 4000000 in
theorem ok_X5_isPerson (l : Launch) (Z : gm_Z) (a0 : Nat) (a1 : Int32) (u : gm_M) (h0 : isRealm a0 = true) : gm_Met l GC Z yX5_isPerson cX5_isPerson 2 (some .boolean) ({ frames := 0, cells := 0, slots := 0, locals := 0 }) [rv Z a0, .int a1] u (some (.int (f_X5_isPerson a0 a1 u))) u := by
  obtain ⟨r, hf⟩ : ∃ r, f_X5_isPerson a0 a1 u = r := ⟨_, rfl⟩
  rw [hf]
  unfold f_X5_isPerson at hf
  refine gm_ofW (by decide +kernel) (by simp [lg_sl, gm_cat, gm_catI, gm_catJ]) ?_
  intro p e s m args below meth c A ls Q R hRf hRl C E hl hw
  obtain ⟨hx, hb, -⟩ := id C
  have hl : lv_has ls 2 [(0, rv Z a0), (1, .int a1)] := by simpa [lv_args, gm_cat, gm_catI, gm_catJ] using hl
  obtain ⟨k_1_0, k_1_1, k_1_2, k_1_3, k_1_4, k_1_5, k_1_6, k_1_7, k_1_8, k_1_9, k_1_10, k_1_11⟩ := fc_Realm h0
  refine lv_iload_n hx hb dX5_isPerson_0 rfl (lv_at hl 1 rfl) ?_
  refine lv_if_lt (tgt := 22) hx hb dX5_isPerson_1 (by decide) (fun hc => ?_) (fun hc => ?_)
  · replace hf := (if_pos hc).symm.trans hf
    refine lv_iconst (v := 0) hx hb dX5_isPerson_22 (by decide) ?_
    exact gm_zret C E hw rfl rfl ((congrArg (fun z => some (Value.int z)) hf).symm) rfl dX5_isPerson_23
  · replace hf := (if_neg hc).symm.trans hf
    refine lv_iload_n hx hb dX5_isPerson_4 rfl (lv_at hl 1 rfl) ?_
    refine gm_aload_n (G := GC) (r := a0) C k_1_0 dX5_isPerson_5 rfl (lv_at hl 0 rfl) ?_
    refine gm_getI (G := GC) (u := u) (r := a0) (ci := 4) (k := 0) C hw k_1_0 fl_X5_9 dX5_isPerson_6 rfl ?_
    refine lv_icmp_ge (tgt := 22) hx hb dX5_isPerson_9 (by decide) (fun hc => ?_) (fun hc => ?_)
    · replace hf := (if_pos hc).symm.trans hf
      refine lv_iconst (v := 0) hx hb dX5_isPerson_22 (by decide) ?_
      exact gm_zret C E hw rfl rfl ((congrArg (fun z => some (Value.int z)) hf).symm) rfl dX5_isPerson_23
    · replace hf := (if_neg hc).symm.trans hf
      refine lv_iload_n hx hb dX5_isPerson_12 rfl (lv_at hl 1 rfl) ?_
      refine lv_bipush (v := 6) hx hb dX5_isPerson_13 (by decide) ?_
      refine lv_icmp_ge (tgt := 22) hx hb dX5_isPerson_15 (by decide) (fun hc => ?_) (fun hc => ?_)
      · replace hf := (if_pos hc).symm.trans hf
        refine lv_iconst (v := 0) hx hb dX5_isPerson_22 (by decide) ?_
        exact gm_zret C E hw rfl rfl ((congrArg (fun z => some (Value.int z)) hf).symm) rfl dX5_isPerson_23
      · replace hf := (if_neg hc).symm.trans hf
        refine lv_iconst (v := 1) hx hb dX5_isPerson_18 (by decide) ?_
        refine lv_goto (tgt := 23) hx hb dX5_isPerson_19 (by decide) ?_
        exact gm_zret C E hw rfl rfl ((congrArg (fun z => some (Value.int z)) hf).symm) rfl dX5_isPerson_23
/-! LeapCapital$Realm.kindOf -/
def f_X5_kindOf (a0 : Nat) (a1 : Int32) (u : gm_M) : Option Int32 := if a1 < 0 then some (0 : Int32) else if (6 : Int32) ≤ a1 then some (0 : Int32) else if ib a1 6 = true then some (gI u (a0 + 2) (ix a1)) else none
set_option maxRecDepth 100000 in
set_option maxHeartbeats 4000000 in
theorem ok_X5_kindOf (l : Launch) (Z : gm_Z) (a0 : Nat) (a1 : Int32) (u : gm_M) (h0 : isRealm a0 = true) (r : Int32) (hf : f_X5_kindOf a0 a1 u = some r) : gm_Met l GC Z yX5_kindOf cX5_kindOf 2 (some .int) ({ frames := 0, cells := 0, slots := 0, locals := 0 }) [rv Z a0, .int a1] u (some (.int r)) u := by
  unfold f_X5_kindOf at hf
  refine gm_ofW (by decide +kernel) (by simp [lg_sl, gm_cat, gm_catI, gm_catJ]) ?_
  intro p e s m args below meth c A ls Q R hRf hRl C E hl hw
  obtain ⟨hx, hb, -⟩ := id C
  have hl : lv_has ls 2 [(0, rv Z a0), (1, .int a1)] := by simpa [lv_args, gm_cat, gm_catI, gm_catJ] using hl
  obtain ⟨k_1_0, k_1_1, k_1_2, k_1_3, k_1_4, k_1_5, k_1_6, k_1_7, k_1_8, k_1_9, k_1_10, k_1_11⟩ := fc_Realm h0
  refine lv_iload_n hx hb dX5_kindOf_0 rfl (lv_at hl 1 rfl) ?_
  refine lv_if_lt (tgt := 22) hx hb dX5_kindOf_1 (by decide) (fun hc => ?_) (fun hc => ?_)
  · replace hf := (if_pos hc).symm.trans hf
    refine lv_iconst (v := 0) hx hb dX5_kindOf_22 (by decide) ?_
    exact gm_iret C E hw rfl ((congrArg (fun z => some (Value.int z)) (Option.some.inj hf)).symm) rfl dX5_kindOf_23
  · replace hf := (if_neg hc).symm.trans hf
    refine lv_iload_n hx hb dX5_kindOf_4 rfl (lv_at hl 1 rfl) ?_
    refine gm_aload_n (G := GC) (r := a0) C k_1_0 dX5_kindOf_5 rfl (lv_at hl 0 rfl) ?_
    refine gm_getS (G := GC) (u := u) (r := a0) (ci := 4) (k := 2) C hw k_1_0 fl_X5_19 dX5_kindOf_6 rfl (q := a0 + 2) k_1_3 ?_
    refine gm_alen (G := GC) (u := u) (r := (a0 + 2)) (t := 0) (n := 6) (v := 6) C hw k_1_4 (by decide) (by decide) dX5_kindOf_9 ?_
    refine lv_icmp_ge (tgt := 22) hx hb dX5_kindOf_10 (by decide) (fun hc => ?_) (fun hc => ?_)
    · replace hf := (if_pos hc).symm.trans hf
      refine lv_iconst (v := 0) hx hb dX5_kindOf_22 (by decide) ?_
      exact gm_iret C E hw rfl ((congrArg (fun z => some (Value.int z)) (Option.some.inj hf)).symm) rfl dX5_kindOf_23
    · replace hf := (if_neg hc).symm.trans hf
      refine gm_aload_n (G := GC) (r := a0) C k_1_0 dX5_kindOf_13 rfl (lv_at hl 0 rfl) ?_
      refine gm_getS (G := GC) (u := u) (r := a0) (ci := 4) (k := 2) C hw k_1_0 fl_X5_19 dX5_kindOf_14 rfl (q := a0 + 2) k_1_3 ?_
      refine lv_iload_n hx hb dX5_kindOf_17 rfl (lv_at hl 1 rfl) ?_
      obtain ⟨g_2, hf⟩ := gm_grd hf
      refine gm_iald (G := GC) (u := u) (r := (a0 + 2)) (n := 6) (i := a1) C hw k_1_4 g_2 rfl dX5_kindOf_18 ?_
      refine lv_goto (tgt := 23) hx hb dX5_kindOf_19 (by decide) ?_
      exact gm_iret C E hw rfl ((congrArg (fun z => some (Value.int z)) (Option.some.inj hf)).symm) rfl dX5_kindOf_23
/-! LeapCapital$Realm.bornOf -/
def f_X5_bornOf (a0 : Nat) (a1 : Int32) (u : gm_M) : Option Int32 := if a1 < 0 then some (0 : Int32) else if (6 : Int32) ≤ a1 then some (0 : Int32) else if ib a1 6 = true then some (gI u (a0 + 3) (ix a1)) else none
set_option maxRecDepth 100000 in
set_option maxHeartbeats 4000000 in
theorem ok_X5_bornOf (l : Launch) (Z : gm_Z) (a0 : Nat) (a1 : Int32) (u : gm_M) (h0 : isRealm a0 = true) (r : Int32) (hf : f_X5_bornOf a0 a1 u = some r) : gm_Met l GC Z yX5_bornOf cX5_bornOf 2 (some .int) ({ frames := 0, cells := 0, slots := 0, locals := 0 }) [rv Z a0, .int a1] u (some (.int r)) u := by
  unfold f_X5_bornOf at hf
  refine gm_ofW (by decide +kernel) (by simp [lg_sl, gm_cat, gm_catI, gm_catJ]) ?_
  intro p e s m args below meth c A ls Q R hRf hRl C E hl hw
  obtain ⟨hx, hb, -⟩ := id C
  have hl : lv_has ls 2 [(0, rv Z a0), (1, .int a1)] := by simpa [lv_args, gm_cat, gm_catI, gm_catJ] using hl
  obtain ⟨k_1_0, k_1_1, k_1_2, k_1_3, k_1_4, k_1_5, k_1_6, k_1_7, k_1_8, k_1_9, k_1_10, k_1_11⟩ := fc_Realm h0
  refine lv_iload_n hx hb dX5_bornOf_0 rfl (lv_at hl 1 rfl) ?_
  refine lv_if_lt (tgt := 22) hx hb dX5_bornOf_1 (by decide) (fun hc => ?_) (fun hc => ?_)
  · replace hf := (if_pos hc).symm.trans hf
    refine lv_iconst (v := 0) hx hb dX5_bornOf_22 (by decide) ?_
    exact gm_iret C E hw rfl ((congrArg (fun z => some (Value.int z)) (Option.some.inj hf)).symm) rfl dX5_bornOf_23
  · replace hf := (if_neg hc).symm.trans hf
    refine lv_iload_n hx hb dX5_bornOf_4 rfl (lv_at hl 1 rfl) ?_
    refine gm_aload_n (G := GC) (r := a0) C k_1_0 dX5_bornOf_5 rfl (lv_at hl 0 rfl) ?_
    refine gm_getS (G := GC) (u := u) (r := a0) (ci := 4) (k := 3) C hw k_1_0 fl_X5_23 dX5_bornOf_6 rfl (q := a0 + 3) k_1_5 ?_
    refine gm_alen (G := GC) (u := u) (r := (a0 + 3)) (t := 0) (n := 6) (v := 6) C hw k_1_6 (by decide) (by decide) dX5_bornOf_9 ?_
    refine lv_icmp_ge (tgt := 22) hx hb dX5_bornOf_10 (by decide) (fun hc => ?_) (fun hc => ?_)
    · replace hf := (if_pos hc).symm.trans hf
      refine lv_iconst (v := 0) hx hb dX5_bornOf_22 (by decide) ?_
      exact gm_iret C E hw rfl ((congrArg (fun z => some (Value.int z)) (Option.some.inj hf)).symm) rfl dX5_bornOf_23
    · replace hf := (if_neg hc).symm.trans hf
      refine gm_aload_n (G := GC) (r := a0) C k_1_0 dX5_bornOf_13 rfl (lv_at hl 0 rfl) ?_
      refine gm_getS (G := GC) (u := u) (r := a0) (ci := 4) (k := 3) C hw k_1_0 fl_X5_23 dX5_bornOf_14 rfl (q := a0 + 3) k_1_5 ?_
      refine lv_iload_n hx hb dX5_bornOf_17 rfl (lv_at hl 1 rfl) ?_
      obtain ⟨g_2, hf⟩ := gm_grd hf
      refine gm_iald (G := GC) (u := u) (r := (a0 + 3)) (n := 6) (i := a1) C hw k_1_6 g_2 rfl dX5_bornOf_18 ?_
      refine lv_goto (tgt := 23) hx hb dX5_bornOf_19 (by decide) ?_
      exact gm_iret C E hw rfl ((congrArg (fun z => some (Value.int z)) (Option.some.inj hf)).symm) rfl dX5_bornOf_23
/-! LeapCapital$Realm.isDead -/
def f_X5_isDead (a0 : Nat) (a1 : Int32) (a2 : Int32) (u : gm_M) : Option Int32 := (f_X5_kindOf a0 a1 u).bind fun r_2 => if r_2 = (2 : Int32) then some (0 : Int32) else (f_X5_bornOf a0 a1 u).bind fun r_4 => if (a2 - r_4) < (gI u a0 7) then some (0 : Int32) else some (1 : Int32)
set_option maxRecDepth 100000 in
set_option maxHeartbeats 4000000 in
theorem ok_X5_isDead (l : Launch) (Z : gm_Z) (a0 : Nat) (a1 : Int32) (a2 : Int32) (u : gm_M) (h0 : isRealm a0 = true) (r : Int32) (hf : f_X5_isDead a0 a1 a2 u = some r) : gm_Met l GC Z yX5_isDead cX5_isDead 3 (some .boolean) ({ frames := 1, cells := 0, slots := 0, locals := 21 }) [rv Z a0, .int a1, .int a2] u (some (.int r)) u := by
  unfold f_X5_isDead at hf
  refine gm_ofW (by decide +kernel) (by simp [lg_sl, gm_cat, gm_catI, gm_catJ]) ?_
  intro p e s m args below meth c A ls Q R hRf hRl C E hl hw
  obtain ⟨hx, hb, -⟩ := id C
  have hl : lv_has ls 3 [(0, rv Z a0), (1, .int a1), (2, .int a2)] := by simpa [lv_args, gm_cat, gm_catI, gm_catJ] using hl
  obtain ⟨k_1_0, k_1_1, k_1_2, k_1_3, k_1_4, k_1_5, k_1_6, k_1_7, k_1_8, k_1_9, k_1_10, k_1_11⟩ := fc_Realm h0
  refine gm_aload_n (G := GC) (r := a0) C k_1_0 dX5_isDead_0 rfl (lv_at hl 0 rfl) ?_
  refine lv_iload_n hx hb dX5_isDead_1 rfl (lv_at hl 1 rfl) ?_
  obtain ⟨r_2, hc_3, hf⟩ := gm_bnd hf
  refine gm_callV (G := GC) (u := u) (u' := u) (r := a0) (ci := 4) (As := [.int a1]) (rest := []) (res := (some (.int r_2))) C hw hl (ok_X5_kindOf l Z a0 a1 u h0 r_2 hc_3) cw_X5_52 im_X5_kindOf rfl se_X5_kindOf k_1_0 rfl rfl ⟨Nat.le_trans (Nat.le_of_ble_eq_true rfl) hRf, Nat.le_trans (Nat.le_of_ble_eq_true rfl) hRl⟩ rfl rfl (Nat.le_of_ble_eq_true rfl) dX5_isDead_2 (fun H locs hw => ?_)
  refine lv_iconst (v := 2) hx hb dX5_isDead_5 (by decide) ?_
  refine lv_icmp_eq (tgt := 27) hx hb dX5_isDead_6 (by decide) (fun hc => ?_) (fun hc => ?_)
  · replace hf := (if_pos hc).symm.trans hf
    refine lv_iconst (v := 0) hx hb dX5_isDead_27 (by decide) ?_
    exact gm_zret C E hw rfl rfl ((congrArg (fun z => some (Value.int z)) (Option.some.inj hf)).symm) rfl dX5_isDead_28
  · replace hf := (if_neg hc).symm.trans hf
    refine lv_iload_n hx hb dX5_isDead_9 rfl (lv_at hl 2 rfl) ?_
    refine gm_aload_n (G := GC) (r := a0) C k_1_0 dX5_isDead_10 rfl (lv_at hl 0 rfl) ?_
    refine lv_iload_n hx hb dX5_isDead_11 rfl (lv_at hl 1 rfl) ?_
    obtain ⟨r_4, hc_5, hf⟩ := gm_bnd hf
    refine gm_callV (G := GC) (u := u) (u' := u) (r := a0) (ci := 4) (As := [.int a1]) (rest := [.int a2]) (res := (some (.int r_4))) C hw hl (ok_X5_bornOf l Z a0 a1 u h0 r_4 hc_5) cw_X5_56 im_X5_bornOf rfl se_X5_bornOf k_1_0 rfl rfl ⟨Nat.le_trans (Nat.le_of_ble_eq_true rfl) hRf, Nat.le_trans (Nat.le_of_ble_eq_true rfl) hRl⟩ rfl rfl (Nat.le_of_ble_eq_true rfl) dX5_isDead_12 (fun H locs hw => ?_)
    refine lv_isub hx hb dX5_isDead_15 ?_
    refine gm_aload_n (G := GC) (r := a0) C k_1_0 dX5_isDead_16 rfl (lv_at hl 0 rfl) ?_
    refine gm_getI (G := GC) (u := u) (r := a0) (ci := 4) (k := 7) C hw k_1_0 fl_X5_35 dX5_isDead_17 rfl ?_
    refine lv_icmp_lt (tgt := 27) hx hb dX5_isDead_20 (by decide) (fun hc => ?_) (fun hc => ?_)
    · replace hf := (if_pos hc).symm.trans hf
      refine lv_iconst (v := 0) hx hb dX5_isDead_27 (by decide) ?_
      exact gm_zret C E hw rfl rfl ((congrArg (fun z => some (Value.int z)) (Option.some.inj hf)).symm) rfl dX5_isDead_28
    · replace hf := (if_neg hc).symm.trans hf
      refine lv_iconst (v := 1) hx hb dX5_isDead_23 (by decide) ?_
      refine lv_goto (tgt := 28) hx hb dX5_isDead_24 (by decide) ?_
      exact gm_zret C E hw rfl rfl ((congrArg (fun z => some (Value.int z)) (Option.some.inj hf)).symm) rfl dX5_isDead_28
/-! LeapCapital$Court.mayEnter -/
def f_X1_mayEnter (a0 : Nat) (a1 : Nat) (a2 : Int32) (u : gm_M) : Option Int32 := gm_let (f_X5_isPerson a1 a2 u) fun r_3 => if r_3 = 0 then some (0 : Int32) else (f_X1_isQueued a0 a2 u).bind fun r_4 => if r_4 = 0 then if (((gI u a0 2) >>> (a2 &&& 31)) &&& (1 : Int32)) = 0 then (f_X5_isDead a1 a2 (gI u a0 0) u).bind fun r_6 => if r_6 = 0 then (f_X5_bornOf a1 a2 u).bind fun r_8 => if (gI u a0 0) < r_8 then some (0 : Int32) else some (1 : Int32) else some (0 : Int32) else some (0 : Int32) else some (0 : Int32)
set_option maxRecDepth 100000 in
set_option maxHeartbeats 4000000 in
theorem ok_X1_mayEnter (l : Launch) (Z : gm_Z) (a0 : Nat) (a1 : Nat) (a2 : Int32) (u : gm_M) (h0 : isCourt a0 = true) (h1 : isRealm a1 = true) (r : Int32) (hf : f_X1_mayEnter a0 a1 a2 u = some r) : gm_Met l GC Z yX1_mayEnter cX1_mayEnter 3 (some .boolean) ({ frames := 2, cells := 0, slots := 0, locals := 43 }) [rv Z a0, rv Z a1, .int a2] u (some (.int r)) u := by
  unfold f_X1_mayEnter at hf
  refine gm_ofW (by decide +kernel) (by simp [lg_sl, gm_cat, gm_catI, gm_catJ]) ?_
  intro p e s m args below meth c A ls Q R hRf hRl C E hl hw
  obtain ⟨hx, hb, -⟩ := id C
  have hl : lv_has ls 3 [(0, rv Z a0), (1, rv Z a1), (2, .int a2)] := by simpa [lv_args, gm_cat, gm_catI, gm_catJ] using hl
  obtain ⟨k_1_0, k_1_1, k_1_2, k_1_3, k_1_4, k_1_5, k_1_6⟩ := fc_Court h0
  obtain ⟨k_2_0, k_2_1, k_2_2, k_2_3, k_2_4, k_2_5, k_2_6, k_2_7, k_2_8, k_2_9, k_2_10, k_2_11⟩ := fc_Realm h1
  refine gm_aload_n (G := GC) (r := a1) C k_2_0 dX1_mayEnter_0 rfl (lv_at hl 1 rfl) ?_
  refine lv_iload_n hx hb dX1_mayEnter_1 rfl (lv_at hl 2 rfl) ?_
  obtain ⟨r_3, e_r_3, hf⟩ := gm_le hf
  refine gm_callV (G := GC) (u := u) (u' := u) (r := a1) (ci := 4) (As := [.int a2]) (rest := []) (res := (some (.int (f_X5_isPerson a1 a2 u)))) C hw hl (ok_X5_isPerson l Z a1 a2 u h1) cw_X1_41 im_X5_isPerson rfl se_X5_isPerson k_2_0 rfl rfl ⟨Nat.le_trans (Nat.le_of_ble_eq_true rfl) hRf, Nat.le_trans (Nat.le_of_ble_eq_true rfl) hRl⟩ rfl rfl (Nat.le_of_ble_eq_true rfl) dX1_mayEnter_2 (fun H locs hw => ?_)
  refine gm_topI e_r_3 ?_
  refine lv_if_eq (tgt := 55) hx hb dX1_mayEnter_5 (by decide) (fun hc => ?_) (fun hc => ?_)
  · replace hf := (if_pos hc).symm.trans hf
    refine lv_iconst (v := 0) hx hb dX1_mayEnter_55 (by decide) ?_
    exact gm_zret C E hw rfl rfl ((congrArg (fun z => some (Value.int z)) (Option.some.inj hf)).symm) rfl dX1_mayEnter_56
  · replace hf := (if_neg hc).symm.trans hf
    refine gm_aload_n (G := GC) (r := a0) C k_1_0 dX1_mayEnter_8 rfl (lv_at hl 0 rfl) ?_
    refine lv_iload_n hx hb dX1_mayEnter_9 rfl (lv_at hl 2 rfl) ?_
    obtain ⟨r_4, hc_5, hf⟩ := gm_bnd hf
    refine gm_callV (G := GC) (u := u) (u' := u) (r := a0) (ci := 0) (As := [.int a2]) (rest := []) (res := (some (.int r_4))) C hw hl (ok_X1_isQueued l Z a0 a2 u h0 r_4 hc_5) cw_X1_45 im_X1_isQueued rfl se_X1_isQueued k_1_0 rfl rfl ⟨Nat.le_trans (Nat.le_of_ble_eq_true rfl) hRf, Nat.le_trans (Nat.le_of_ble_eq_true rfl) hRl⟩ rfl rfl (Nat.le_of_ble_eq_true rfl) dX1_mayEnter_10 (fun H locs hw => ?_)
    refine lv_if_ne (tgt := 55) hx hb dX1_mayEnter_13 (by decide) (fun hc => ?_) (fun hc => ?_)
    · replace hf := (if_neg hc).symm.trans hf
      refine lv_iconst (v := 0) hx hb dX1_mayEnter_55 (by decide) ?_
      exact gm_zret C E hw rfl rfl ((congrArg (fun z => some (Value.int z)) (Option.some.inj hf)).symm) rfl dX1_mayEnter_56
    · replace hf := (if_pos hc).symm.trans hf
      refine gm_aload_n (G := GC) (r := a0) C k_1_0 dX1_mayEnter_16 rfl (lv_at hl 0 rfl) ?_
      refine gm_getI (G := GC) (u := u) (r := a0) (ci := 0) (k := 2) C hw k_1_0 fl_X1_18 dX1_mayEnter_17 rfl ?_
      refine lv_iload_n hx hb dX1_mayEnter_20 rfl (lv_at hl 2 rfl) ?_
      refine lv_ishr hx hb dX1_mayEnter_21 ?_
      refine lv_iconst (v := 1) hx hb dX1_mayEnter_22 (by decide) ?_
      refine lv_iand hx hb dX1_mayEnter_23 ?_
      refine lv_if_ne (tgt := 55) hx hb dX1_mayEnter_24 (by decide) (fun hc => ?_) (fun hc => ?_)
      · replace hf := (if_neg hc).symm.trans hf
        refine lv_iconst (v := 0) hx hb dX1_mayEnter_55 (by decide) ?_
        exact gm_zret C E hw rfl rfl ((congrArg (fun z => some (Value.int z)) (Option.some.inj hf)).symm) rfl dX1_mayEnter_56
      · replace hf := (if_pos hc).symm.trans hf
        refine gm_aload_n (G := GC) (r := a1) C k_2_0 dX1_mayEnter_27 rfl (lv_at hl 1 rfl) ?_
        refine lv_iload_n hx hb dX1_mayEnter_28 rfl (lv_at hl 2 rfl) ?_
        refine gm_aload_n (G := GC) (r := a0) C k_1_0 dX1_mayEnter_29 rfl (lv_at hl 0 rfl) ?_
        refine gm_getI (G := GC) (u := u) (r := a0) (ci := 0) (k := 0) C hw k_1_0 fl_X1_9 dX1_mayEnter_30 rfl ?_
        obtain ⟨r_6, hc_7, hf⟩ := gm_bnd hf
        refine gm_callV (G := GC) (u := u) (u' := u) (r := a1) (ci := 4) (As := [.int a2, .int (gI u a0 0)]) (rest := []) (res := (some (.int r_6))) C hw hl (ok_X5_isDead l Z a1 a2 (gI u a0 0) u h1 r_6 hc_7) cw_X1_48 im_X5_isDead rfl se_X5_isDead k_2_0 rfl rfl ⟨Nat.le_trans (Nat.le_of_ble_eq_true rfl) hRf, Nat.le_trans (Nat.le_of_ble_eq_true rfl) hRl⟩ rfl rfl (Nat.le_of_ble_eq_true rfl) dX1_mayEnter_33 (fun H locs hw => ?_)
        refine lv_if_ne (tgt := 55) hx hb dX1_mayEnter_36 (by decide) (fun hc => ?_) (fun hc => ?_)
        · replace hf := (if_neg hc).symm.trans hf
          refine lv_iconst (v := 0) hx hb dX1_mayEnter_55 (by decide) ?_
          exact gm_zret C E hw rfl rfl ((congrArg (fun z => some (Value.int z)) (Option.some.inj hf)).symm) rfl dX1_mayEnter_56
        · replace hf := (if_pos hc).symm.trans hf
          refine gm_aload_n (G := GC) (r := a1) C k_2_0 dX1_mayEnter_39 rfl (lv_at hl 1 rfl) ?_
          refine lv_iload_n hx hb dX1_mayEnter_40 rfl (lv_at hl 2 rfl) ?_
          obtain ⟨r_8, hc_9, hf⟩ := gm_bnd hf
          refine gm_callV (G := GC) (u := u) (u' := u) (r := a1) (ci := 4) (As := [.int a2]) (rest := []) (res := (some (.int r_8))) C hw hl (ok_X5_bornOf l Z a1 a2 u h1 r_8 hc_9) cw_X1_52 im_X5_bornOf rfl se_X5_bornOf k_2_0 rfl rfl ⟨Nat.le_trans (Nat.le_of_ble_eq_true rfl) hRf, Nat.le_trans (Nat.le_of_ble_eq_true rfl) hRl⟩ rfl rfl (Nat.le_of_ble_eq_true rfl) dX1_mayEnter_41 (fun H locs hw => ?_)
          refine gm_aload_n (G := GC) (r := a0) C k_1_0 dX1_mayEnter_44 rfl (lv_at hl 0 rfl) ?_
          refine gm_getI (G := GC) (u := u) (r := a0) (ci := 0) (k := 0) C hw k_1_0 fl_X1_9 dX1_mayEnter_45 rfl ?_
          refine lv_icmp_gt (tgt := 55) hx hb dX1_mayEnter_48 (by decide) (fun hc => ?_) (fun hc => ?_)
          · replace hf := (if_pos hc).symm.trans hf
            refine lv_iconst (v := 0) hx hb dX1_mayEnter_55 (by decide) ?_
            exact gm_zret C E hw rfl rfl ((congrArg (fun z => some (Value.int z)) (Option.some.inj hf)).symm) rfl dX1_mayEnter_56
          · replace hf := (if_neg hc).symm.trans hf
            refine lv_iconst (v := 1) hx hb dX1_mayEnter_51 (by decide) ?_
            refine lv_goto (tgt := 56) hx hb dX1_mayEnter_52 (by decide) ?_
            exact gm_zret C E hw rfl rfl ((congrArg (fun z => some (Value.int z)) (Option.some.inj hf)).symm) rfl dX1_mayEnter_56
/-! LeapCapital$Court.enter -/
def f_X1_enter (a0 : Nat) (a1 : Int32) (u : gm_M) : Option gm_M := if a1 < 0 then some u else if (6 : Int32) ≤ a1 then some u else if (gI u a0 3) < 0 then some u else if (6 : Int32) ≤ (gI u a0 3) then some u else if ib a1 6 = true then gm_let (sI u (a0 + 2) (ix a1) (gI u a0 0)) fun u_3 => gm_let (sI u_3 (a0 + 3) (ix a1) (0 : Int32)) fun u_4 => if ib (gI u_4 a0 3) 6 = true then gm_let (sI u_4 (a0 + 1) (ix (gI u_4 a0 3)) a1) fun u_6 => gm_let (sI u_6 a0 3 ((gI u_6 a0 3) + (1 : Int32))) fun u_7 => some u_7 else none else none
set_option maxRecDepth 100000 in
set_option maxHeartbeats 4000000 in
theorem ok_X1_enter (l : Launch) (Z : gm_Z) (a0 : Nat) (a1 : Int32) (u : gm_M) (h0 : isCourt a0 = true) (u' : gm_M) (hf : f_X1_enter a0 a1 u = some (u')) : gm_Met l GC Z yX1_enter cX1_enter 2 none ({ frames := 0, cells := 0, slots := 0, locals := 0 }) [rv Z a0, .int a1] u none u' := by
  unfold f_X1_enter at hf
  refine gm_ofW (by decide +kernel) (by simp [lg_sl, gm_cat, gm_catI, gm_catJ]) ?_
  intro p e s m args below meth c A ls Q R hRf hRl C E hl hw
  obtain ⟨hx, hb, -⟩ := id C
  have hl : lv_has ls 2 [(0, rv Z a0), (1, .int a1)] := by simpa [lv_args, gm_cat, gm_catI, gm_catJ] using hl
  obtain ⟨k_1_0, k_1_1, k_1_2, k_1_3, k_1_4, k_1_5, k_1_6⟩ := fc_Court h0
  refine lv_iload_n hx hb dX1_enter_0 rfl (lv_at hl 1 rfl) ?_
  refine lv_if_lt (tgt := 63) hx hb dX1_enter_1 (by decide) (fun hc => ?_) (fun hc => ?_)
  · replace hf := (if_pos hc).symm.trans hf
    exact gm_vret C E hw rfl rfl (Option.some.inj hf).symm dX1_enter_63
  · replace hf := (if_neg hc).symm.trans hf
    refine lv_iload_n hx hb dX1_enter_4 rfl (lv_at hl 1 rfl) ?_
    refine lv_bipush (v := 6) hx hb dX1_enter_5 (by decide) ?_
    refine lv_icmp_ge (tgt := 63) hx hb dX1_enter_7 (by decide) (fun hc => ?_) (fun hc => ?_)
    · replace hf := (if_pos hc).symm.trans hf
      exact gm_vret C E hw rfl rfl (Option.some.inj hf).symm dX1_enter_63
    · replace hf := (if_neg hc).symm.trans hf
      refine gm_aload_n (G := GC) (r := a0) C k_1_0 dX1_enter_10 rfl (lv_at hl 0 rfl) ?_
      refine gm_getI (G := GC) (u := u) (r := a0) (ci := 0) (k := 3) C hw k_1_0 fl_X1_21 dX1_enter_11 rfl ?_
      refine lv_if_lt (tgt := 63) hx hb dX1_enter_14 (by decide) (fun hc => ?_) (fun hc => ?_)
      · replace hf := (if_pos hc).symm.trans hf
        exact gm_vret C E hw rfl rfl (Option.some.inj hf).symm dX1_enter_63
      · replace hf := (if_neg hc).symm.trans hf
        refine gm_aload_n (G := GC) (r := a0) C k_1_0 dX1_enter_17 rfl (lv_at hl 0 rfl) ?_
        refine gm_getI (G := GC) (u := u) (r := a0) (ci := 0) (k := 3) C hw k_1_0 fl_X1_21 dX1_enter_18 rfl ?_
        refine lv_bipush (v := 6) hx hb dX1_enter_21 (by decide) ?_
        refine lv_icmp_ge (tgt := 63) hx hb dX1_enter_23 (by decide) (fun hc => ?_) (fun hc => ?_)
        · replace hf := (if_pos hc).symm.trans hf
          exact gm_vret C E hw rfl rfl (Option.some.inj hf).symm dX1_enter_63
        · replace hf := (if_neg hc).symm.trans hf
          refine gm_aload_n (G := GC) (r := a0) C k_1_0 dX1_enter_26 rfl (lv_at hl 0 rfl) ?_
          refine gm_getS (G := GC) (u := u) (r := a0) (ci := 0) (k := 5) C hw k_1_0 fl_X1_28 dX1_enter_27 rfl (q := a0 + 2) k_1_3 ?_
          refine lv_iload_n hx hb dX1_enter_30 rfl (lv_at hl 1 rfl) ?_
          refine gm_aload_n (G := GC) (r := a0) C k_1_0 dX1_enter_31 rfl (lv_at hl 0 rfl) ?_
          refine gm_getI (G := GC) (u := u) (r := a0) (ci := 0) (k := 0) C hw k_1_0 fl_X1_9 dX1_enter_32 rfl ?_
          obtain ⟨g_2, hf⟩ := gm_grd hf
          refine gm_iast (G := GC) (u := u) (r := (a0 + 2)) (n := 6) (i := a1) (x := gI u a0 0) C hw k_1_4 g_2 rfl dX1_enter_35 (fun H locs hw => ?_)
          obtain ⟨u_3, e_u_3, hf⟩ := gm_le hf
          rw [← e_u_3] at hw
          refine gm_aload_n (G := GC) (r := a0) C k_1_0 dX1_enter_36 rfl (lv_at hl 0 rfl) ?_
          refine gm_getS (G := GC) (u := u_3) (r := a0) (ci := 0) (k := 6) C hw k_1_0 fl_X1_31 dX1_enter_37 rfl (q := a0 + 3) k_1_5 ?_
          refine lv_iload_n hx hb dX1_enter_40 rfl (lv_at hl 1 rfl) ?_
          refine lv_iconst (v := 0) hx hb dX1_enter_41 (by decide) ?_
          refine gm_iast (G := GC) (u := u_3) (r := (a0 + 3)) (n := 6) (i := a1) (x := (0 : Int32)) C hw k_1_6 g_2 rfl dX1_enter_42 (fun H locs hw => ?_)
          obtain ⟨u_4, e_u_4, hf⟩ := gm_le hf
          rw [← e_u_4] at hw
          refine gm_aload_n (G := GC) (r := a0) C k_1_0 dX1_enter_43 rfl (lv_at hl 0 rfl) ?_
          refine gm_getS (G := GC) (u := u_4) (r := a0) (ci := 0) (k := 4) C hw k_1_0 fl_X1_24 dX1_enter_44 rfl (q := a0 + 1) k_1_1 ?_
          refine gm_aload_n (G := GC) (r := a0) C k_1_0 dX1_enter_47 rfl (lv_at hl 0 rfl) ?_
          refine gm_getI (G := GC) (u := u_4) (r := a0) (ci := 0) (k := 3) C hw k_1_0 fl_X1_21 dX1_enter_48 rfl ?_
          refine lv_iload_n hx hb dX1_enter_51 rfl (lv_at hl 1 rfl) ?_
          obtain ⟨g_5, hf⟩ := gm_grd hf
          refine gm_iast (G := GC) (u := u_4) (r := (a0 + 1)) (n := 6) (i := gI u_4 a0 3) (x := a1) C hw k_1_2 g_5 rfl dX1_enter_52 (fun H locs hw => ?_)
          obtain ⟨u_6, e_u_6, hf⟩ := gm_le hf
          rw [← e_u_6] at hw
          refine gm_aload_n (G := GC) (r := a0) C k_1_0 dX1_enter_53 rfl (lv_at hl 0 rfl) ?_
          refine lv_dup hx hb dX1_enter_54 (gm_cat _ _) ?_
          refine gm_getI (G := GC) (u := u_6) (r := a0) (ci := 0) (k := 3) C hw k_1_0 fl_X1_21 dX1_enter_55 rfl ?_
          refine lv_iconst (v := 1) hx hb dX1_enter_58 (by decide) ?_
          refine lv_iadd hx hb dX1_enter_59 ?_
          refine gm_putI (G := GC) (u := u_6) (r := a0) (ci := 0) (k := 3) (v := (gI u_6 a0 3) + (1 : Int32)) C hw k_1_0 fl_X1_21 fp_0_3 dX1_enter_60 rfl (fun H locs hw => ?_)
          obtain ⟨u_7, e_u_7, hf⟩ := gm_le hf
          rw [← e_u_7] at hw
          exact gm_vret C E hw rfl rfl (Option.some.inj hf).symm dX1_enter_63
/-! LeapCapital$Court.takeOut -/
def j_X1_takeOut_55 (a0 : Nat) (a1 : Int32) (v2_3 : Int32) (u_2 : gm_M) : Option gm_M := gm_let (sI u_2 a0 3 v2_3) fun u_4 => some u_4
def b_X1_takeOut_4 (a0 : Nat) (a1 : Int32) : (Int32 × Int32 × gm_M) → Option ((Int32 × Int32 × gm_M) ⊕ ((Int32 × gm_M))) := fun x => match x with | (v2_6, v3_7, u_5) => if (gI u_5 a0 3) ≤ v3_7 then some (.inr (v2_6, u_5)) else if (6 : Int32) ≤ v3_7 then some (.inr (v2_6, u_5)) else if ib v3_7 6 = true then gm_let (gI u_5 (a0 + 1) (ix v3_7)) fun v4_9 => if ((a1 >>> (v4_9 &&& 31)) &&& (1 : Int32)) = 0 then if ib v2_6 6 = true then gm_let (sI u_5 (a0 + 1) (ix v2_6) v4_9) fun u_11 => some (.inl (v2_6 + (1 : Int32), v3_7 + (1 : Int32), u_11)) else none else some (.inl (v2_6, v3_7 + (1 : Int32), u_5)) else none
def f_X1_takeOut (a0 : Nat) (a1 : Int32) (u : gm_M) : Option gm_M := ((gm_lp (b_X1_takeOut_4 a0 a1) gm_FU ((0 : Int32), (0 : Int32), u)).bind fun o => match o with | (w2_12, u_13) => j_X1_takeOut_55 a0 a1 w2_12 u_13)
set_option maxRecDepth 100000 in
set_option maxHeartbeats 4000000 in
theorem ok_X1_takeOut (l : Launch) (Z : gm_Z) (a0 : Nat) (a1 : Int32) (u : gm_M) (h0 : isCourt a0 = true) (u' : gm_M) (hf : f_X1_takeOut a0 a1 u = some (u')) : gm_Met l GC Z yX1_takeOut cX1_takeOut 5 none ({ frames := 0, cells := 0, slots := 0, locals := 0 }) [rv Z a0, .int a1] u none u' := by
  unfold f_X1_takeOut at hf
  refine gm_ofW (by decide +kernel) (by simp [lg_sl, gm_cat, gm_catI, gm_catJ]) ?_
  intro p e s m args below meth c A ls Q R hRf hRl C E hl hw
  obtain ⟨hx, hb, -⟩ := id C
  have hl : lv_has ls 5 [(0, rv Z a0), (1, .int a1)] := by simpa [lv_args, gm_cat, gm_catI, gm_catJ] using hl
  obtain ⟨k_1_0, k_1_1, k_1_2, k_1_3, k_1_4, k_1_5, k_1_6⟩ := fc_Court h0
  have J55 : ∀ (v2_3 : Int32) (u_2 : gm_M) (H : Heap) (locs : List Loc) (ls : Array Slot), j_X1_takeOut_55 a0 a1 v2_3 u_2 = some (u') → lv_has ls 5 [(0, rv Z a0), (2, .int v2_3)] → wd GC Z u_2 A s.heap H locs → W p l e R s m args below meth c H locs 0 0 Q (F0 m 55 ls []) := by
    intro v2_3 u_2 H locs ls hf  hl hw
    unfold j_X1_takeOut_55 at hf
    refine gm_aload_n (G := GC) (r := a0) C k_1_0 dX1_takeOut_55 rfl (lv_at hl 0 rfl) ?_
    refine lv_iload_n hx hb dX1_takeOut_56 rfl (lv_at hl 1 rfl) ?_
    refine gm_putI (G := GC) (u := u_2) (r := a0) (ci := 0) (k := 3) (v := v2_3) C hw k_1_0 fl_X1_21 fp_0_3 dX1_takeOut_57 rfl (fun H locs hw => ?_)
    obtain ⟨u_4, e_u_4, hf⟩ := gm_le hf
    rw [← e_u_4] at hw
    exact gm_vret C E hw rfl rfl (Option.some.inj hf).symm dX1_takeOut_60
  refine lv_iconst (v := 0) hx hb dX1_takeOut_0 (by decide) ?_
  refine lv_istore_n (i := 2) (lv' := [(2, .int (0 : Int32)), (0, rv Z a0), (1, .int a1)]) hx hb dX1_takeOut_1 rfl hl (by decide) rfl (fun ls hl => ?_)
  refine lv_iconst (v := 0) hx hb dX1_takeOut_2 (by decide) ?_
  refine lv_istore_n (i := 3) (lv' := [(3, .int (0 : Int32)), (2, .int (0 : Int32)), (0, rv Z a0), (1, .int a1)]) hx hb dX1_takeOut_3 rfl hl (by decide) rfl (fun ls hl => ?_)
  obtain ⟨o1, hlp, hf⟩ := gm_bnd hf
  have L4_1 := gm_loop (b_X1_takeOut_4 a0 a1) (fun x : (Int32 × Int32 × gm_M) => ∀ (H : Heap) (locs : List Loc) (ls : Array Slot), lv_has ls 5 [(0, rv Z a0), (1, .int a1), (2, .int x.1), (3, .int x.2.1)] → wd GC Z x.2.2 A s.heap H locs → W p l e R s m args below meth c H locs 0 0 Q (F0 m 4 ls [])) (fun z : ((Int32 × gm_M)) => ∀ (H : Heap) (locs : List Loc) (ls : Array Slot), lv_has ls 5 [(0, rv Z a0), (2, .int z.1)] → wd GC Z z.2 A s.heap H locs → W p l e R s m args below meth c H locs 0 0 Q (F0 m 55 ls [])) (by
    intro x o1 hf Kc Kx
    obtain ⟨v2_6, v3_7, u_5⟩ := x
    intro H locs ls hl hw
    unfold b_X1_takeOut_4 at hf
    try dsimp only at hf
    refine lv_iload_n hx hb dX1_takeOut_4 rfl (lv_at hl 3 rfl) ?_
    refine gm_aload_n (G := GC) (r := a0) C k_1_0 dX1_takeOut_5 rfl (lv_at hl 0 rfl) ?_
    refine gm_getI (G := GC) (u := u_5) (r := a0) (ci := 0) (k := 3) C hw k_1_0 fl_X1_21 dX1_takeOut_6 rfl ?_
    refine lv_icmp_ge (tgt := 55) hx hb dX1_takeOut_9 (by decide) (fun hc => ?_) (fun hc => ?_)
    · replace hf := (if_pos hc).symm.trans hf
      exact Kx _ (gm_si hf) _ _ _ (lv_sub hl [0, 2] rfl) hw
    · replace hf := (if_neg hc).symm.trans hf
      refine lv_iload_n hx hb dX1_takeOut_12 rfl (lv_at hl 3 rfl) ?_
      refine gm_aload_n (G := GC) (r := a0) C k_1_0 dX1_takeOut_13 rfl (lv_at hl 0 rfl) ?_
      refine gm_getS (G := GC) (u := u_5) (r := a0) (ci := 0) (k := 4) C hw k_1_0 fl_X1_24 dX1_takeOut_14 rfl (q := a0 + 1) k_1_1 ?_
      refine gm_alen (G := GC) (u := u_5) (r := (a0 + 1)) (t := 0) (n := 6) (v := 6) C hw k_1_2 (by decide) (by decide) dX1_takeOut_17 ?_
      refine lv_icmp_ge (tgt := 55) hx hb dX1_takeOut_18 (by decide) (fun hc => ?_) (fun hc => ?_)
      · replace hf := (if_pos hc).symm.trans hf
        exact Kx _ (gm_si hf) _ _ _ (lv_sub hl [0, 2] rfl) hw
      · replace hf := (if_neg hc).symm.trans hf
        refine gm_aload_n (G := GC) (r := a0) C k_1_0 dX1_takeOut_21 rfl (lv_at hl 0 rfl) ?_
        refine gm_getS (G := GC) (u := u_5) (r := a0) (ci := 0) (k := 4) C hw k_1_0 fl_X1_24 dX1_takeOut_22 rfl (q := a0 + 1) k_1_1 ?_
        refine lv_iload_n hx hb dX1_takeOut_25 rfl (lv_at hl 3 rfl) ?_
        obtain ⟨g_8, hf⟩ := gm_grd hf
        refine gm_iald (G := GC) (u := u_5) (r := (a0 + 1)) (n := 6) (i := v3_7) C hw k_1_2 g_8 rfl dX1_takeOut_26 ?_
        obtain ⟨v4_9, e_v4_9, hf⟩ := gm_le hf
        refine gm_topI e_v4_9 ?_
        refine lv_istore (i := 4) (lv' := [(4, .int v4_9), (0, rv Z a0), (1, .int a1), (2, .int v2_6), (3, .int v3_7)]) hx hb dX1_takeOut_27 hl (by decide) rfl (fun ls hl => ?_)
        refine lv_iload_n hx hb dX1_takeOut_29 rfl (lv_at hl 2 rfl) ?_
        refine lv_iload hx hb dX1_takeOut_30 (lv_at hl 0 rfl) ?_
        refine lv_ishr hx hb dX1_takeOut_32 ?_
        refine lv_iconst (v := 1) hx hb dX1_takeOut_33 (by decide) ?_
        refine lv_iand hx hb dX1_takeOut_34 ?_
        refine lv_if_ne (tgt := 49) hx hb dX1_takeOut_35 (by decide) (fun hc => ?_) (fun hc => ?_)
        · replace hf := (if_neg hc).symm.trans hf
          refine lv_iinc (v := v3_7 + (1 : Int32)) (lv' := [(3, .int (v3_7 + (1 : Int32))), (4, .int v4_9), (0, rv Z a0), (1, .int a1), (2, .int v2_6)]) hx hb dX1_takeOut_49 hl (k := 4) rfl rfl (by decide) rfl (fun ls hl => ?_)
          refine lv_goto (tgt := 4) hx hb dX1_takeOut_52 (by decide) ?_
          exact Kc _ (gm_si hf) _ _ _ (lv_sub hl [2, 3, 4, 0] rfl) hw
        · replace hf := (if_pos hc).symm.trans hf
          refine gm_aload_n (G := GC) (r := a0) C k_1_0 dX1_takeOut_38 rfl (lv_at hl 1 rfl) ?_
          refine gm_getS (G := GC) (u := u_5) (r := a0) (ci := 0) (k := 4) C hw k_1_0 fl_X1_24 dX1_takeOut_39 rfl (q := a0 + 1) k_1_1 ?_
          refine lv_iload_n hx hb dX1_takeOut_42 rfl (lv_at hl 3 rfl) ?_
          refine lv_iload hx hb dX1_takeOut_43 (lv_at hl 0 rfl) ?_
          obtain ⟨g_10, hf⟩ := gm_grd hf
          refine gm_iast (G := GC) (u := u_5) (r := (a0 + 1)) (n := 6) (i := v2_6) (x := v4_9) C hw k_1_2 g_10 rfl dX1_takeOut_45 (fun H locs hw => ?_)
          obtain ⟨u_11, e_u_11, hf⟩ := gm_le hf
          rw [← e_u_11] at hw
          refine lv_iinc (v := v2_6 + (1 : Int32)) (lv' := [(2, .int (v2_6 + (1 : Int32))), (4, .int v4_9), (0, rv Z a0), (1, .int a1), (3, .int v3_7)]) hx hb dX1_takeOut_46 hl (k := 3) rfl rfl (by decide) rfl (fun ls hl => ?_)
          refine lv_iinc (v := v3_7 + (1 : Int32)) (lv' := [(3, .int (v3_7 + (1 : Int32))), (2, .int (v2_6 + (1 : Int32))), (4, .int v4_9), (0, rv Z a0), (1, .int a1)]) hx hb dX1_takeOut_49 hl (k := 4) rfl rfl (by decide) rfl (fun ls hl => ?_)
          refine lv_goto (tgt := 4) hx hb dX1_takeOut_52 (by decide) ?_
          exact Kc _ (gm_si hf) _ _ _ (lv_sub hl [3, 4, 1, 0] rfl) hw)
  refine L4_1 _ _ _ hlp ?_ _ _ _ (lv_sub hl [2, 3, 1, 0] rfl) hw
  obtain ⟨w2_12, u_13⟩ := o1
  intro H locs ls hl hw
  try dsimp only at hf
  exact J55 w2_12 u_13 _ _ _ hf  (lv_sub hl [0, 1] rfl) hw
