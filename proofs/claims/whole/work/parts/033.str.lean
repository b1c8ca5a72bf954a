theorem wq_1740 : Cond.fieldLink RJ0 9 RJ0 "value" "[B" ∈ gm_tb := gm_ix 1740 (by decide +kernel) rfl
theorem wq_1741 : Cond.fieldLink RJ0 15 RJ0 "coder" "B" ∈ gm_tb := gm_ix 1741 (by decide +kernel) rfl
theorem wq_479 : Cond.fieldLink RJ0 38 RJ0 "COMPACT_STRINGS" "Z" ∈ gm_tb := gm_ix 479 (by decide +kernel) rfl
theorem wq_495 : Cond.fieldLink RJ0 1053 RJ3 "SIOOBE_FORMATTER" "Ljava/util/function/BiFunction;" ∈ gm_tb := gm_ix 495 (by decide +kernel) rfl
theorem cw_J0_335 : gm_cw RJ0 335 yJ0_coder_7d493 cJ0_coder_7d493 1 (some .byte) 0 := ⟨gm_ix 475 (by decide +kernel) rfl, gm_ix 100 (by decide +kernel) rfl, gm_ix 478 (by decide +kernel) rfl, by decide +kernel⟩
theorem im_J0_coder_7d493 : Cond.instanceMethod yJ0_coder_7d493 ∈ gm_tb := gm_ix 476 (by decide +kernel) rfl
theorem se_J0_coder_7d493 : Cond.selects RJ0 yJ0_coder_7d493 yJ0_coder_7d493 ∈ gm_tb := gm_ix 477 (by decide +kernel) rfl
theorem cw_J0_1059 : gm_cw RJ0 1059 yJ3_checkIndex_8e157 cJ3_checkIndex_8e157 3 (some .int) 3 := ⟨gm_ix 497 (by decide +kernel) rfl, gm_ix 102 (by decide +kernel) rfl, gm_ix 499 (by decide +kernel) rfl, by decide +kernel⟩
theorem st_J3_checkIndex_8e157 : Cond.static yJ3_checkIndex_8e157 ∈ gm_tb := gm_ix 498 (by decide +kernel) rfl
theorem cw_J1_9 : gm_cw RJ1 9 yJ0_checkIndex_df160 cJ0_checkIndex_df160 2 none 2 := ⟨gm_ix 492 (by decide +kernel) rfl, gm_ix 100 (by decide +kernel) rfl, gm_ix 494 (by decide +kernel) rfl, by decide +kernel⟩
theorem st_J0_checkIndex_df160 : Cond.static yJ0_checkIndex_df160 ∈ gm_tb := gm_ix 493 (by decide +kernel) rfl
theorem cw_J0_492 : gm_cw RJ0 492 yJ0_isLatin1_aae02 cJ0_isLatin1_aae02 1 (some .boolean) 0 := ⟨gm_ix 485 (by decide +kernel) rfl, gm_ix 100 (by decide +kernel) rfl, gm_ix 488 (by decide +kernel) rfl, by decide +kernel⟩
theorem im_J0_isLatin1_aae02 : Cond.instanceMethod yJ0_isLatin1_aae02 ∈ gm_tb := gm_ix 486 (by decide +kernel) rfl
theorem se_J0_isLatin1_aae02 : Cond.selects RJ0 yJ0_isLatin1_aae02 yJ0_isLatin1_aae02 ∈ gm_tb := gm_ix 487 (by decide +kernel) rfl
theorem cw_J0_495 : gm_cw RJ0 495 yJ1_charAt_3b067 cJ1_charAt_3b067 2 (some .char) 2 := ⟨gm_ix 489 (by decide +kernel) rfl, gm_ix 101 (by decide +kernel) rfl, gm_ix 491 (by decide +kernel) rfl, by decide +kernel⟩
theorem st_J1_charAt_3b067 : Cond.static yJ1_charAt_3b067 ∈ gm_tb := gm_ix 490 (by decide +kernel) rfl
theorem cw_X9_73 : gm_cw RX9 73 yJ0_length_8abf5 cJ0_length_8abf5 1 (some .int) 0 := ⟨gm_ix 471 (by decide +kernel) rfl, gm_ix 100 (by decide +kernel) rfl, gm_ix 474 (by decide +kernel) rfl, by decide +kernel⟩
theorem im_J0_length_8abf5 : Cond.instanceMethod yJ0_length_8abf5 ∈ gm_tb := gm_ix 472 (by decide +kernel) rfl
theorem se_J0_length_8abf5 : Cond.selects RJ0 yJ0_length_8abf5 yJ0_length_8abf5 ∈ gm_tb := gm_ix 473 (by decide +kernel) rfl
theorem cw_X9_78 : gm_cw RX9 78 yJ0_charAt_5068e cJ0_charAt_5068e 2 (some .char) 1 := ⟨gm_ix 481 (by decide +kernel) rfl, gm_ix 100 (by decide +kernel) rfl, gm_ix 484 (by decide +kernel) rfl, by decide +kernel⟩
theorem im_J0_charAt_5068e : Cond.instanceMethod yJ0_charAt_5068e ∈ gm_tb := gm_ix 482 (by decide +kernel) rfl
theorem se_J0_charAt_5068e : Cond.selects RJ0 yJ0_charAt_5068e yJ0_charAt_5068e ∈ gm_tb := gm_ix 483 (by decide +kernel) rfl
set_option maxRecDepth 100000 in
set_option maxHeartbeats 4000000 in
theorem ok_J0_coder_7d493 (l : Launch) (Z : gm_Z) (u : gm_M) (q t : Nat)  : gm_MetX l GC Z yJ0_coder_7d493 cJ0_coder_7d493 1 (some .byte) ({ frames := 0, cells := 0, slots := 0, locals := 0 }) [.ref q] u (some (.int 0)) (gm_sx q t) := by
  refine gm_ofWX (by decide +kernel) (Nat.le_of_ble_eq_true rfl) ?_
  intro p e s m args below meth c A ls Q R hRf hRl hX C E hl hw
  obtain ⟨hx, hb, -, hown, -⟩ := id C
  have hl : lv_has ls 1 [(0, .ref q)] := hl
  obtain ⟨hO, hCo, hVa, hT⟩ := id hX
  obtain ⟨-, -, -, -, -, hZ, -⟩ := C.2.2.2.2.2.2.2.2
  refine va_gets hx hb hZ hw.2.2.1 hown (C.2.2.2.2.1 _ wq_479) (fun _ h9 => h9) dJ0_coder_7d493_0 ?_
  refine lv_if_eq (tgt := 13) hx hb dJ0_coder_7d493_3 (by decide) (fun hc => absurd hc (by decide)) (fun hc => ?_)
  refine lv_aload_n hx hb dJ0_coder_7d493_6 rfl (lv_at hl 0 rfl) ?_
  refine vk_getf hx hb hCo hw.2.2.1 hown (C.2.2.2.2.1 _ wq_1741) (fun _ h9 => h9) dJ0_coder_7d493_7 ?_
  refine lv_goto (tgt := 14) hx hb dJ0_coder_7d493_10 (by decide) ?_
  exact gm_zret C E hw rfl rfl rfl rfl dJ0_coder_7d493_14
set_option maxRecDepth 100000 in
set_option maxHeartbeats 4000000 in
theorem ok_J0_isLatin1_aae02 (l : Launch) (Z : gm_Z) (u : gm_M) (q t : Nat)  : gm_MetX l GC Z yJ0_isLatin1_aae02 cJ0_isLatin1_aae02 1 (some .boolean) ({ frames := 0, cells := 0, slots := 0, locals := 0 }) [.ref q] u (some (.int 1)) (gm_sx q t) := by
  refine gm_ofWX (by decide +kernel) (Nat.le_of_ble_eq_true rfl) ?_
  intro p e s m args below meth c A ls Q R hRf hRl hX C E hl hw
  obtain ⟨hx, hb, -, hown, -⟩ := id C
  have hl : lv_has ls 1 [(0, .ref q)] := hl
  obtain ⟨hO, hCo, hVa, hT⟩ := id hX
  obtain ⟨-, -, -, -, -, hZ, -⟩ := C.2.2.2.2.2.2.2.2
  refine va_gets hx hb hZ hw.2.2.1 hown (C.2.2.2.2.1 _ wq_479) (fun _ h9 => h9) dJ0_isLatin1_aae02_0 ?_
  refine lv_if_eq (tgt := 17) hx hb dJ0_isLatin1_aae02_3 (by decide) (fun hc => absurd hc (by decide)) (fun hc => ?_)
  refine lv_aload_n hx hb dJ0_isLatin1_aae02_6 rfl (lv_at hl 0 rfl) ?_
  refine vk_getf hx hb hCo hw.2.2.1 hown (C.2.2.2.2.1 _ wq_1741) (fun _ h9 => h9) dJ0_isLatin1_aae02_7 ?_
  refine lv_if_ne (tgt := 17) hx hb dJ0_isLatin1_aae02_10 (by decide) (fun hc => absurd rfl hc) (fun hc => ?_)
  refine lv_iconst (v := 1) hx hb dJ0_isLatin1_aae02_13 (by decide) ?_
  refine lv_goto (tgt := 18) hx hb dJ0_isLatin1_aae02_14 (by decide) ?_
  exact gm_zret C E hw rfl rfl rfl rfl dJ0_isLatin1_aae02_18
set_option maxRecDepth 100000 in
set_option maxHeartbeats 4000000 in
theorem ok_J0_length_8abf5 (l : Launch) (Z : gm_Z) (u : gm_M) (q t : Nat)  : gm_MetX l GC Z yJ0_length_8abf5 cJ0_length_8abf5 1 (some .int) ({ frames := 1, cells := 0, slots := 0, locals := 20 }) [.ref q] u (some (.int 120)) (gm_sx q t) := by
  refine gm_ofWX (by decide +kernel) (Nat.le_of_ble_eq_true rfl) ?_
  intro p e s m args below meth c A ls Q R hRf hRl hX C E hl hw
  obtain ⟨hx, hb, -, hown, -⟩ := id C
  have hl : lv_has ls 1 [(0, .ref q)] := hl
  obtain ⟨hO, hCo, hVa, hT⟩ := id hX
  refine lv_aload_n hx hb dJ0_length_8abf5_0 rfl (lv_at hl 0 rfl) ?_
  refine vk_getf hx hb hVa hw.2.2.1 hown (C.2.2.2.2.1 _ wq_1740) (fun _ h9 => h9) dJ0_length_8abf5_1 ?_
  refine va_tlen (v := 120) hx hb hT hw.2.2.1 (by decide) dJ0_length_8abf5_4 ?_
  refine lv_aload_n hx hb dJ0_length_8abf5_5 rfl (lv_at hl 0 rfl) ?_
  refine gm_callXV (G := GC) (u := u) (As := []) (rest := [.int 120]) (res := some (.int 0)) (Cn := RJ0) C hw hl (gm_sx_cl q t) hX (ok_J0_coder_7d493 l Z u q t) cw_J0_335 im_J0_coder_7d493 se_J0_coder_7d493 hO rfl rfl ⟨Nat.le_trans (Nat.le_of_ble_eq_true rfl) hRf, Nat.le_trans (Nat.le_of_ble_eq_true rfl) hRl⟩ rfl rfl (Nat.le_of_ble_eq_true rfl) dJ0_length_8abf5_6 (fun H locs hw => ?_)
  refine lv_ishr hx hb dJ0_length_8abf5_9 ?_
  exact gm_iret C E hw rfl (by decide) rfl dJ0_length_8abf5_10
set_option maxRecDepth 100000 in
set_option maxHeartbeats 4000000 in
theorem ok_J3_checkIndex_8e157 (l : Launch) (Z : gm_Z) (u : gm_M) (i n : Int32) (v : Value) (hv : v.category = 1) (hi : ¬ i < 0) (hn : i < n) : gm_Met l GC Z yJ3_checkIndex_8e157 cJ3_checkIndex_8e157 3 (some .int) ({ frames := 0, cells := 0, slots := 0, locals := 0 }) [.int i, .int n, v] u (some (.int i)) u := by
  refine gm_ofWF (by decide +kernel) (by simp [lg_sl, gm_catI, hv]) ?_
  intro p e s m args below meth c A ls Q R hRf hRl C E hl hw
  obtain ⟨hx, hb, -, hown, -⟩ := id C
  have hl : lv_has ls 3 [(0, .int i), (1, .int n), (2, v)] := hl
  refine lv_iload_n hx hb dJ3_checkIndex_8e157_0 rfl (lv_at hl 0 rfl) ?_
  refine lv_if_lt (tgt := 9) hx hb dJ3_checkIndex_8e157_1 (by decide) (fun hc => absurd hc hi) (fun hc => ?_)
  refine lv_iload_n hx hb dJ3_checkIndex_8e157_4 rfl (lv_at hl 0 rfl) ?_
  refine lv_iload_n hx hb dJ3_checkIndex_8e157_5 rfl (lv_at hl 1 rfl) ?_
  refine lv_icmp_lt (tgt := 16) hx hb dJ3_checkIndex_8e157_6 (by decide) (fun hc => ?_) (fun hc => absurd hn hc)
  refine lv_iload_n hx hb dJ3_checkIndex_8e157_16 rfl (lv_at hl 0 rfl) ?_
  exact gm_iret C E hw rfl rfl rfl dJ3_checkIndex_8e157_17
set_option maxRecDepth 100000 in
set_option maxHeartbeats 4000000 in
theorem ok_J0_checkIndex_df160 (l : Launch) (Z : gm_Z) (u : gm_M) (i n : Int32) (hi : ¬ i < 0) (hn : i < n) : gm_Met l GC Z yJ0_checkIndex_df160 cJ0_checkIndex_df160 2 none ({ frames := 1, cells := 0, slots := 0, locals := 22 }) [.int i, .int n] u none u := by
  refine gm_ofWF (by decide +kernel) (Nat.le_of_ble_eq_true rfl) ?_
  intro p e s m args below meth c A ls Q R hRf hRl C E hl hw
  obtain ⟨hx, hb, -, hown, -⟩ := id C
  have hl : lv_has ls 2 [(0, .int i), (1, .int n)] := hl
  obtain ⟨-, -, -, -, -, -, hQ⟩ := C.2.2.2.2.2.2.2.2
  refine lv_iload_n hx hb dJ0_checkIndex_df160_0 rfl (lv_at hl 0 rfl) ?_
  refine lv_iload_n hx hb dJ0_checkIndex_df160_1 rfl (lv_at hl 1 rfl) ?_
  rcases hQ with hZ | ⟨a, hZ⟩
  · refine va_gets hx hb hZ hw.2.2.1 hown (C.2.2.2.2.1 _ wq_495) (fun _ h9 => h9) dJ0_checkIndex_df160_2 ?_
    refine gm_callS (G := GC) (u := u) (u' := u) (As := [.int i, .int n, .null]) (rest := []) (res := some (.int i)) C hw hl (ok_J3_checkIndex_8e157 l Z u i n (.null) rfl hi hn) cw_J0_1059 st_J3_checkIndex_8e157 rfl rfl ⟨Nat.le_trans (Nat.le_of_ble_eq_true rfl) hRf, Nat.le_trans (Nat.le_of_ble_eq_true rfl) hRl⟩ rfl rfl (Nat.le_of_ble_eq_true rfl) dJ0_checkIndex_df160_5 (fun H locs hw => ?_)
    refine lv_pop hx hb dJ0_checkIndex_df160_8 rfl ?_
    exact gm_vret C E hw rfl rfl rfl dJ0_checkIndex_df160_9
  · refine va_gets hx hb hZ hw.2.2.1 hown (C.2.2.2.2.1 _ wq_495) (fun _ h9 => h9) dJ0_checkIndex_df160_2 ?_
    refine gm_callS (G := GC) (u := u) (u' := u) (As := [.int i, .int n, .ref a]) (rest := []) (res := some (.int i)) C hw hl (ok_J3_checkIndex_8e157 l Z u i n (.ref a) rfl hi hn) cw_J0_1059 st_J3_checkIndex_8e157 rfl rfl ⟨Nat.le_trans (Nat.le_of_ble_eq_true rfl) hRf, Nat.le_trans (Nat.le_of_ble_eq_true rfl) hRl⟩ rfl rfl (Nat.le_of_ble_eq_true rfl) dJ0_checkIndex_df160_5 (fun H locs hw => ?_)
    refine lv_pop hx hb dJ0_checkIndex_df160_8 rfl ?_
    exact gm_vret C E hw rfl rfl rfl dJ0_checkIndex_df160_9
def gm_chr (j : Nat) : Int32 := gm_byt.getD j 0
theorem gm_chr1 : ∀ j, j < 120 → narrow .char (.int ((gm_chr j &&& 255).toUInt32 % 65536).toInt32) = .int (gm_chr j) := by decide +kernel
theorem gm_chr2 : ∀ j, j < 120 → narrow .char (.int (gm_chr j)) = .int (gm_chr j) := by decide +kernel
theorem gm_chr0 {j : Nat} (h : j < 120) : ¬ nI j < 0 ∧ nI j < (120 : Int32) := ⟨nI_pos (by omega), nI_lt (b := 120) h (by decide)⟩
set_option maxRecDepth 100000 in
set_option maxHeartbeats 4000000 in
theorem ok_J1_charAt_3b067 (l : Launch) (Z : gm_Z) (u : gm_M) (q t : Nat) (j : Nat) (hj : j < 120) : gm_MetX l GC Z yJ1_charAt_3b067 cJ1_charAt_3b067 2 (some .char) ({ frames := 2, cells := 0, slots := 0, locals := 43 }) [.ref t, .int (nI j)] u (some (.int (gm_chr j))) (gm_sx q t) := by
  refine gm_ofWX (by decide +kernel) (Nat.le_of_ble_eq_true rfl) ?_
  intro p e s m args below meth c A ls Q R hRf hRl hX C E hl hw
  obtain ⟨hx, hb, -, hown, -⟩ := id C
  have hl : lv_has ls 2 [(0, .ref t), (1, .int (nI j))] := hl
  obtain ⟨hO, hCo, hVa, hT⟩ := id hX
  refine lv_iload_n hx hb dJ1_charAt_3b067_0 rfl (lv_at hl 1 rfl) ?_
  refine lv_aload_n hx hb dJ1_charAt_3b067_1 rfl (lv_at hl 0 rfl) ?_
  refine va_tlen (v := 120) hx hb hT hw.2.2.1 (by decide) dJ1_charAt_3b067_2 ?_
  refine gm_callS (G := GC) (u := u) (u' := u) (As := [.int (nI j), .int 120]) (rest := []) (res := none) C hw hl (ok_J0_checkIndex_df160 l Z u (nI j) 120 (gm_chr0 hj).1 (gm_chr0 hj).2) cw_J1_9 st_J0_checkIndex_df160 rfl rfl ⟨Nat.le_trans (Nat.le_of_ble_eq_true rfl) hRf, Nat.le_trans (Nat.le_of_ble_eq_true rfl) hRl⟩ rfl rfl (Nat.le_of_ble_eq_true rfl) dJ1_charAt_3b067_3 (fun H locs hw => ?_)
  refine lv_aload_n hx hb dJ1_charAt_3b067_6 rfl (lv_at hl 0 rfl) ?_
  refine lv_iload_n hx hb dJ1_charAt_3b067_7 rfl (lv_at hl 1 rfl) ?_
  refine va_tb (v := .int (gm_chr j)) hx hb hT hw.2.2.1 (vp_in_nI hj (by decide)) (by rw [nI_clamp (by omega)]; rfl) dJ1_charAt_3b067_8 ?_
  refine lv_sipush (v := 255) hx hb dJ1_charAt_3b067_9 (by decide) ?_
  refine lv_iand hx hb dJ1_charAt_3b067_12 ?_
  refine lv_i2c hx hb dJ1_charAt_3b067_13 rfl ?_
  exact gm_zret C E hw rfl (gm_chr1 j hj) rfl rfl dJ1_charAt_3b067_14
set_option maxRecDepth 100000 in
set_option maxHeartbeats 4000000 in
theorem ok_J0_charAt_5068e (l : Launch) (Z : gm_Z) (u : gm_M) (q t : Nat) (j : Nat) (hj : j < 120) : gm_MetX l GC Z yJ0_charAt_5068e cJ0_charAt_5068e 2 (some .char) ({ frames := 3, cells := 0, slots := 0, locals := 64 }) [.ref q, .int (nI j)] u (some (.int (gm_chr j))) (gm_sx q t) := by
  refine gm_ofWX (by decide +kernel) (Nat.le_of_ble_eq_true rfl) ?_
  intro p e s m args below meth c A ls Q R hRf hRl hX C E hl hw
  obtain ⟨hx, hb, -, hown, -⟩ := id C
  have hl : lv_has ls 2 [(0, .ref q), (1, .int (nI j))] := hl
  obtain ⟨hO, hCo, hVa, hT⟩ := id hX
  refine lv_aload_n hx hb dJ0_charAt_5068e_0 rfl (lv_at hl 0 rfl) ?_
  refine gm_callXV (G := GC) (u := u) (As := []) (rest := []) (res := some (.int 1)) (Cn := RJ0) C hw hl (gm_sx_cl q t) hX (ok_J0_isLatin1_aae02 l Z u q t) cw_J0_492 im_J0_isLatin1_aae02 se_J0_isLatin1_aae02 hO rfl rfl ⟨Nat.le_trans (Nat.le_of_ble_eq_true rfl) hRf, Nat.le_trans (Nat.le_of_ble_eq_true rfl) hRl⟩ rfl rfl (Nat.le_of_ble_eq_true rfl) dJ0_charAt_5068e_1 (fun H locs hw => ?_)
  refine lv_if_eq (tgt := 16) hx hb dJ0_charAt_5068e_4 (by decide) (fun hc => absurd hc (by decide)) (fun hc => ?_)
  refine lv_aload_n hx hb dJ0_charAt_5068e_7 rfl (lv_at hl 0 rfl) ?_
  refine vk_getf hx hb hVa hw.2.2.1 hown (C.2.2.2.2.1 _ wq_1740) (fun _ h9 => h9) dJ0_charAt_5068e_8 ?_
  refine lv_iload_n hx hb dJ0_charAt_5068e_11 rfl (lv_at hl 1 rfl) ?_
  refine gm_callXS (G := GC) (u := u) (As := [.ref t, .int (nI j)]) (rest := []) (res := some (.int (gm_chr j))) C hw hl (gm_sx_cl q t) hX (ok_J1_charAt_3b067 l Z u q t j hj) cw_J0_495 st_J1_charAt_3b067 rfl rfl ⟨Nat.le_trans (Nat.le_of_ble_eq_true rfl) hRf, Nat.le_trans (Nat.le_of_ble_eq_true rfl) hRl⟩ rfl rfl (Nat.le_of_ble_eq_true rfl) dJ0_charAt_5068e_12 (fun H locs hw => ?_)
  exact gm_zret C E hw rfl (gm_chr2 j hj) rfl rfl dJ0_charAt_5068e_15
def pw_cs : List Int64 := [542723566, 81486, 536737, 824370, 102175109, 12900531, 6605428, 114085, 12748485, 394672, 754996, 599173, 17171758, 398384, 267570, 13097138, 14836, 1476, 498, 20594148, 52595, 1253, 132915]
def pw_n : List Int32 := [0, 0, 0, 0, 0, 0, 0, 1, 1, 1, 1, 1, 2, 2, 2, 2, 2, 3, 3, 3, 3, 3, 4, 4, 4, 4, 4, 4, 4, 5, 5, 5, 5, 5, 5, 6, 6, 6, 6, 6, 6, 7, 7, 7, 7, 7, 8, 8, 8, 8, 8, 8, 9, 9, 9, 9, 9, 10, 10, 10, 10, 10, 11, 11, 11, 11, 11, 12, 12, 12, 12, 12, 12, 13, 13, 13, 13, 13, 14, 14, 14, 14, 14, 15, 15, 15, 15, 15, 15, 16, 16, 16, 16, 17, 17, 17, 17, 18, 18, 18, 19, 19, 19, 19, 19, 19, 20, 20, 20, 20, 20, 21, 21, 21, 21, 22, 22, 22, 22, 22, 23]
def pw_w : List Int64 := [0, 16, 517, 16562, 530003, 16960111, 542723566, 0, 2, 79, 2546, 81486, 0, 16, 524, 16773, 536737, 0, 25, 805, 25761, 824370, 0, 3, 97, 3118, 99780, 3192972, 102175109, 0, 12, 393, 12598, 403141, 12900531, 0, 6, 201, 6450, 206419, 6605428, 0, 3, 111, 3565, 114085, 0, 12, 389, 12449, 398390, 12748485, 0, 12, 385, 12333, 394672, 0, 23, 737, 23593, 754996, 0, 18, 585, 18724, 599173, 0, 16, 524, 16769, 536617, 17171758, 0, 12, 389, 12449, 398384, 0, 8, 261, 8361, 267570, 0, 12, 399, 12790, 409285, 13097138, 0, 14, 463, 14836, 0, 1, 46, 1476, 0, 15, 498, 0, 19, 628, 20111, 643567, 20594148, 0, 1, 51, 1643, 52595, 0, 1, 39, 1253, 0, 4, 129, 4153, 132915, 0]
def pw_N (i : Nat) : Int32 := pw_n.getD i 0
def pw_W (i : Nat) : Int64 := pw_w.getD i 0
theorem pw_a : ∀ i, i < 120 → gm_chr i ≠ 32 → pw_N (i + 1) = pw_N i ∧ pw_W i * 32 + (gm_chr i).toInt64 - 97 + 1 = pw_W (i + 1) := by decide +kernel
theorem pw_b : ∀ i, i < 120 → gm_chr i = 32 → pw_N i + 1 = pw_N (i + 1) ∧ pw_W (i + 1) = 0 ∧ pIW (pw_W i) = pw_N i ∧ pw_cs.getD (pw_N i).toNatClampNeg 0 = pw_W i ∧ (pw_N i).toNatClampNeg + 1 = (pw_N (i + 1)).toNatClampNeg := by decide +kernel
theorem pw_c : ∀ i, i < 120 → gm_chr i ≠ 32 → (pw_N (i + 1)).toNatClampNeg = (pw_N i).toNatClampNeg := by decide +kernel
theorem pw_none (w : Int64) (h : ∀ k, k < 23 → w ≠ pw_cs.getD k 0) : pIW w = -1 := by
  unfold pIW
  rw [if_neg (show ¬ w = 542723566 from h 0 (by decide)), if_neg (show ¬ w = 81486 from h 1 (by decide)), if_neg (show ¬ w = 536737 from h 2 (by decide)), if_neg (show ¬ w = 824370 from h 3 (by decide)), if_neg (show ¬ w = 102175109 from h 4 (by decide)), if_neg (show ¬ w = 12900531 from h 5 (by decide)), if_neg (show ¬ w = 6605428 from h 6 (by decide)), if_neg (show ¬ w = 114085 from h 7 (by decide)), if_neg (show ¬ w = 12748485 from h 8 (by decide)), if_neg (show ¬ w = 394672 from h 9 (by decide)), if_neg (show ¬ w = 754996 from h 10 (by decide)), if_neg (show ¬ w = 599173 from h 11 (by decide)), if_neg (show ¬ w = 17171758 from h 12 (by decide)), if_neg (show ¬ w = 398384 from h 13 (by decide)), if_neg (show ¬ w = 267570 from h 14 (by decide)), if_neg (show ¬ w = 13097138 from h 15 (by decide)), if_neg (show ¬ w = 14836 from h 16 (by decide)), if_neg (show ¬ w = 1476 from h 17 (by decide)), if_neg (show ¬ w = 498 from h 18 (by decide)), if_neg (show ¬ w = 20594148 from h 19 (by decide)), if_neg (show ¬ w = 52595 from h 20 (by decide)), if_neg (show ¬ w = 1253 from h 21 (by decide)), if_neg (show ¬ w = 132915 from h 22 (by decide))]
set_option maxRecDepth 100000 in
set_option maxHeartbeats 4000000 in
theorem ok_X9_placeInWords (l : Launch) (Z : gm_Z) (a0 : Int64) (u : gm_M)  : gm_Met l GC Z yX9_placeInWords cX9_placeInWords 7 (some .int) ({ frames := 4, cells := 0, slots := 0, locals := 85 }) [.long a0] u (some (.int (pIW a0))) u := by
  refine gm_ofWF (by decide +kernel) (Nat.le_of_ble_eq_true rfl) ?_
  intro p e s m args below meth c A ls Q R hRf hRl C E hl hw
  obtain ⟨hx, hb, -, hown, -⟩ := id C
  have hl : lv_has ls 7 [(0, .long a0)] := hl
  obtain ⟨q, t, hR1, hX⟩ := C.2.2.2.2.2.2.2.2.str
  have loop : ∀ (n i : Nat), i + n = 120 → (∀ k, k < (pw_N i).toNatClampNeg → a0 ≠ pw_cs.getD k 0) → ∀ (H : Heap) (locs : List Loc) (ls : Array Slot), lv_has ls 7 [(0, .long a0), (2, .int (pw_N i)), (3, .long (pw_W i)), (5, .int (nI i))] → wd GC Z u A s.heap H locs → W p l e R s m args below meth c H locs 0 0 Q (F0 m 7 ls []) := by
    intro n
    induction n with
    | zero =>
      intro i hi hne H locs ls hl hw
      have hi : i = 120 := by omega
      subst hi
      refine lv_iload hx hb dX9_placeInWords_7 (lv_at hl 3 rfl) ?_
      refine va_ldcS hx hb hown hR1 dX9_placeInWords_9 ?_
      refine gm_callXV (G := GC) (u := u) (As := []) (rest := [.int (nI 120)]) (res := some (.int 120)) (Cn := RJ0) C hw hl (gm_sx_cl q t) hX (ok_J0_length_8abf5 l Z u q t) cw_X9_73 im_J0_length_8abf5 se_J0_length_8abf5 hX.1 rfl rfl ⟨Nat.le_trans (Nat.le_of_ble_eq_true rfl) hRf, Nat.le_trans (Nat.le_of_ble_eq_true rfl) hRl⟩ rfl rfl (Nat.le_of_ble_eq_true rfl) dX9_placeInWords_11 (fun H locs hw => ?_)
      refine lv_icmp_ge (tgt := 71) hx hb dX9_placeInWords_14 (by decide) (fun hc => ?_) (fun hc => absurd (by decide) hc)
      refine lv_iconst (v := -1) hx hb dX9_placeInWords_71 (by decide) ?_
      exact gm_iret C E hw rfl (by rw [pw_none a0 hne]) rfl dX9_placeInWords_72
    | succ n ih =>
      intro i hi hne H locs ls hl hw
      have hi2 : i < 120 := by omega
      refine lv_iload hx hb dX9_placeInWords_7 (lv_at hl 3 rfl) ?_
      refine va_ldcS hx hb hown hR1 dX9_placeInWords_9 ?_
      refine gm_callXV (G := GC) (u := u) (As := []) (rest := [.int (nI i)]) (res := some (.int 120)) (Cn := RJ0) C hw hl (gm_sx_cl q t) hX (ok_J0_length_8abf5 l Z u q t) cw_X9_73 im_J0_length_8abf5 se_J0_length_8abf5 hX.1 rfl rfl ⟨Nat.le_trans (Nat.le_of_ble_eq_true rfl) hRf, Nat.le_trans (Nat.le_of_ble_eq_true rfl) hRl⟩ rfl rfl (Nat.le_of_ble_eq_true rfl) dX9_placeInWords_11 (fun H locs hw => ?_)
      refine lv_icmp_ge (tgt := 71) hx hb dX9_placeInWords_14 (by decide) (fun hc => absurd hc (nI_ge (b := 120) hi2 (by decide))) (fun hc => ?_)
      refine va_ldcS hx hb hown hR1 dX9_placeInWords_17 ?_
      refine lv_iload hx hb dX9_placeInWords_19 (lv_at hl 3 rfl) ?_
      refine gm_callXV (G := GC) (u := u) (As := [.int (nI i)]) (rest := []) (res := some (.int (gm_chr i))) (Cn := RJ0) C hw hl (gm_sx_cl q t) hX (ok_J0_charAt_5068e l Z u q t i hi2) cw_X9_78 im_J0_charAt_5068e se_J0_charAt_5068e hX.1 rfl rfl ⟨Nat.le_trans (Nat.le_of_ble_eq_true rfl) hRf, Nat.le_trans (Nat.le_of_ble_eq_true rfl) hRl⟩ rfl rfl (Nat.le_of_ble_eq_true rfl) dX9_placeInWords_21 (fun H locs hw => ?_)
      refine lv_istore (lv' := [(6, .int (gm_chr i)), (0, .long a0), (2, .int (pw_N i)), (3, .long (pw_W i)), (5, .int (nI i))]) hx hb dX9_placeInWords_24 hl (by decide) rfl (fun ls hl => ?_)
      refine lv_iload hx hb dX9_placeInWords_26 (lv_at hl 0 rfl) ?_
      refine lv_bipush (v := 32) hx hb dX9_placeInWords_28 (by decide) ?_
      have last : ∀ (H : Heap) (locs : List Loc) (ls : Array Slot), (∀ k, k < (pw_N (i + 1)).toNatClampNeg → a0 ≠ pw_cs.getD k 0) → lv_has ls 7 [(0, .long a0), (2, .int (pw_N (i + 1))), (3, .long (pw_W (i + 1))), (5, .int (nI i))] → wd GC Z u A s.heap H locs → W p l e R s m args below meth c H locs 0 0 Q (F0 m 65 ls []) := by
        intro H locs ls hne hl hw
        refine lv_iinc (v := nI (i + 1)) (lv' := [(5, .int (nI (i + 1))), (0, .long a0), (2, .int (pw_N (i + 1))), (3, .long (pw_W (i + 1)))]) hx hb dX9_placeInWords_65 hl (k := 3) rfl (nI_1 i) (by decide) rfl (fun ls hl => ?_)
        refine lv_goto (tgt := 7) hx hb dX9_placeInWords_68 (by decide) ?_
        exact ih (i + 1) (by omega) hne H locs ls (lv_sub hl [1, 2, 3, 0] rfl) hw
      refine lv_icmp_eq (tgt := 52) hx hb dX9_placeInWords_30 (by decide) (fun hc => ?_) (fun hc => ?_)
      · obtain ⟨b1, b2, b3, b4, b5⟩ := pw_b i hi2 hc
        refine lv_lload_n hx hb dX9_placeInWords_52 rfl (lv_at hl 3 rfl) ?_
        refine lv_lload_n hx hb dX9_placeInWords_53 rfl (lv_at hl 1 rfl) ?_
        refine W.lcmp hx hb dX9_placeInWords_54 ?_
        have hcmp : lg_cmp (pw_W i) a0 = 0 ↔ pw_W i = a0 := by
          unfold lg_cmp
          by_cases h1 : pw_W i > a0
          · have : pw_W i ≠ a0 := fun h => by rw [h] at h1; exact absurd h1 (by simp [Int64.lt_irrefl])
            simp [h1, this]
          · by_cases h2 : pw_W i = a0 <;> simp [h1, h2]
        refine lv_if_ne (tgt := 60) hx hb dX9_placeInWords_55 (by decide) (fun hd => ?_) (fun hd => ?_)
        · refine lv_iinc (v := pw_N (i + 1)) (lv' := [(2, .int (pw_N (i + 1))), (6, .int (gm_chr i)), (0, .long a0), (3, .long (pw_W i)), (5, .int (nI i))]) hx hb dX9_placeInWords_60 hl (k := 2) rfl b1 (by decide) rfl (fun ls hl => ?_)
          refine lv_lconst (v := 0) hx hb dX9_placeInWords_63 (by decide) ?_
          refine lv_lstore_n (i := 3) (lv' := [(3, .long 0), (2, .int (pw_N (i + 1))), (6, .int (gm_chr i)), (0, .long a0), (5, .int (nI i))]) hx hb dX9_placeInWords_64 rfl hl (by decide) rfl (fun ls hl => ?_)
          refine last H locs ls (fun k hk => ?_) (by rw [b2]; exact lv_sub hl [3, 1, 0, 4] rfl) hw
          rcases Nat.lt_or_ge k (pw_N i).toNatClampNeg with q1 | q1
          · exact hne k q1
          · have hk2 : k = (pw_N i).toNatClampNeg := by omega
            rw [hk2, b4]
            exact fun h => hd (hcmp.mpr h.symm)
        · have he := hcmp.mp hd
          refine lv_iload_n hx hb dX9_placeInWords_58 rfl (lv_at hl 2 rfl) ?_
          exact gm_iret C E hw rfl (by rw [← he, b3]) rfl dX9_placeInWords_59
      · obtain ⟨a1, a2⟩ := pw_a i hi2 hc
        refine lv_lload_n hx hb dX9_placeInWords_33 rfl (lv_at hl 3 rfl) ?_
        refine lv_ldc2 hx hb C.2.2.2.1 (C.2.2.2.2.1 _ kn_X9_63) dX9_placeInWords_34 ?_
        refine lv_lmul hx hb dX9_placeInWords_37 ?_
        refine lv_iload hx hb dX9_placeInWords_38 (lv_at hl 0 rfl) ?_
        refine lv_i2l hx hb dX9_placeInWords_40 rfl ?_
        refine lv_ladd hx hb dX9_placeInWords_41 ?_
        refine lv_ldc2 hx hb C.2.2.2.1 (C.2.2.2.2.1 _ kn_X9_65) dX9_placeInWords_42 ?_
        refine lv_lsub hx hb dX9_placeInWords_45 ?_
        refine lv_lconst (v := 1) hx hb dX9_placeInWords_46 (by decide) ?_
        refine lv_ladd hx hb dX9_placeInWords_47 ?_
        refine gm_topJ a2.symm ?_
        refine lv_lstore_n (i := 3) (lv' := [(3, .long (pw_W (i + 1))), (6, .int (gm_chr i)), (0, .long a0), (2, .int (pw_N i)), (5, .int (nI i))]) hx hb dX9_placeInWords_48 rfl hl (by decide) rfl (fun ls hl => ?_)
        refine lv_goto (tgt := 65) hx hb dX9_placeInWords_49 (by decide) ?_
        exact last H locs ls (by rw [pw_c i hi2 hc]; exact hne) (by rw [a1]; exact lv_sub hl [2, 3, 0, 4] rfl) hw
  refine lv_iconst (v := 0) hx hb dX9_placeInWords_0 (by decide) ?_
  refine lv_istore_n (i := 2) (lv' := [(2, .int 0), (0, .long a0)]) hx hb dX9_placeInWords_1 rfl hl (by decide) rfl (fun ls hl => ?_)
  refine lv_lconst (v := 0) hx hb dX9_placeInWords_2 (by decide) ?_
  refine lv_lstore_n (i := 3) (lv' := [(3, .long 0), (2, .int 0), (0, .long a0)]) hx hb dX9_placeInWords_3 rfl hl (by decide) rfl (fun ls hl => ?_)
  refine lv_iconst (v := 0) hx hb dX9_placeInWords_4 (by decide) ?_
  refine lv_istore (lv' := [(5, .int (nI 0)), (3, .long 0), (2, .int 0), (0, .long a0)]) hx hb dX9_placeInWords_5 hl (by decide) rfl (fun ls hl => ?_)
  exact loop 120 0 rfl (fun k hk => absurd hk (by simp [pw_N, pw_n])) s.heap [] ls (lv_sub hl [3, 2, 1, 0] rfl) hw
