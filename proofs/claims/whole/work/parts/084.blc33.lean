theorem gl_code : Cond.codeWith yL_rests cL_rests 7 (some .int) [(0, 14, 17, 13)] ∈ gm_tb := List.mem_filter.mpr ⟨by decide +kernel, rfl⟩
theorem gl_ml : Cond.methodLink RL 160 yL_rests ∈ gm_tb := List.mem_filter.mpr ⟨by decide +kernel, rfl⟩
theorem gl_st : Cond.static yL_rests ∈ gm_tb := List.mem_filter.mpr ⟨by decide +kernel, rfl⟩
theorem gl_in : Cond.initialized RL ∈ gm_tb := List.mem_filter.mpr ⟨by decide +kernel, rfl⟩
theorem cw_L_165 : gm_cw RL 165 yX11_rests cX11_rests 9 (some .int) 4 := ⟨List.mem_filter.mpr ⟨by decide +kernel, rfl⟩, List.mem_filter.mpr ⟨by decide +kernel, rfl⟩, List.mem_filter.mpr ⟨by decide +kernel, rfl⟩, by decide +kernel⟩
theorem cw_L_166 : gm_cw RL 166 yX11_thrown cX11_thrown 1 (some .int) 0 := ⟨List.mem_filter.mpr ⟨by decide +kernel, rfl⟩, List.mem_filter.mpr ⟨by decide +kernel, rfl⟩, List.mem_filter.mpr ⟨by decide +kernel, rfl⟩, by decide +kernel⟩
theorem im_X11_rests : Cond.instanceMethod yX11_rests ∈ gm_tb := List.mem_filter.mpr ⟨by decide +kernel, rfl⟩
theorem se_X11_rests : Cond.selects RX11 yX11_rests yX11_rests ∈ gm_tb := List.mem_filter.mpr ⟨by decide +kernel, rfl⟩
theorem im_X11_thrown : Cond.instanceMethod yX11_thrown ∈ gm_tb := List.mem_filter.mpr ⟨by decide +kernel, rfl⟩
theorem se_X11_thrown : Cond.selects RX11 yX11_thrown yX11_thrown ∈ gm_tb := List.mem_filter.mpr ⟨by decide +kernel, rfl⟩
theorem gl_good : GoodIn gm_tb (.codeWith yL_rests cL_rests 7 (some .int) [(0, 14, 17, 13)] :: gm_tb) := by
  intro w hw
  have hm : w ∈ gm_tb := by
    rcases List.mem_cons.mp hw with h1 | h1
    · rw [h1]; exact gl_code
    · exact h1
  exact ⟨hm, good_of_word (List.mem_filter.mp hm).2⟩
section GLC
variable {p : Program} {l : Launch} {e : Env} {R : Room} {s : State} {m : MethodId} {args : Array Value} {below : List Frame} {meth : Method} {c : Code} {H : Heap} {locs : List Loc} {cells slots : Nat} {Q : State → Prop}
variable {cc : ByteArray} {nL : Nat} {own : String} {ret : Option FieldType} {pc : Nat} {ls : Array Slot} {rest st0 : List Value} {Z ZO : gm_Z} {u uO : gm_M} {A : Nat → Prop} {H0 : Heap} {o : Option Int32}
theorem gl_sub (hw : wd GC Z u A H0 H locs) (hO : wd GO ZO uO A H0 H locs) : ∀ q, gl_A Z ZO u uO H.size q → A q := fun q h => h.elim (gm_sub hw q) (gm_sub hO q)
theorem gl_go {a : Array Value} {sz : Nat} (hr : va_Run p l e R s m args below meth c H locs cells slots 1 6 (F0 m pc ls st0) rest (gl_Q Z ZO u uO sz o a) (gl_A Z ZO u uO sz)) (hsz : sz = H.size) (hw : wd GC Z u A H0 H locs) (hO : wd GO ZO uO A H0 H locs)
    (kk : ∀ (H1 : Heap) (locs1 : List Loc), wd GC Z u A H0 H1 locs1 → wd GO ZO (gl_u o uO) A H0 H1 locs1 → (∀ q : Nat, q < H.size → ¬ gl_A Z ZO u uO H.size q → H1[q]? = H[q]?) → W p l e R s m args below meth c H1 locs1 (cells + 1) (slots + 6) Q (F0 m (pc + 3) ls (.int (gl_k o) :: rest))) : W p l e R s m args below meth c H locs cells slots Q (F0 m pc ls st0) := by
  subst hsz
  have hA := gl_sub hw hO
  intro T hT X
  obtain ⟨v, st₀, t, T', L, h0, X', hL, e1, e2, ⟨⟨hv, hP', hPO'⟩, hF⟩, st⟩ := hr T hT X
  cases hv
  obtain ⟨k1, k2, k3⟩ := vx_keep h0 e1 hw.2.2.1 (fun q _ h => hA q h) hA hL hF
  obtain ⟨t2, a1, b1⟩ := kk T'.heap (locs ++ L) ⟨by rw [e1]; exact hP', hw.2.1, k3, hw.2.2.2⟩ ⟨by rw [e1]; exact hPO', gm_D hO.2.1, k3, hO.2.2.2⟩ k2 T' rfl X'
  exact ⟨t2, st t2 a1, b1⟩
theorem gl_blind {av : List Value} {sz : Nat} : FrameBlind (va_Pc av (gl_P Z ZO u uO sz)) := fun a U g mk q => by
  obtain ⟨q0, q1, qP, qPO, qK, qKO, qD, qDO, qV, qX⟩ := q
  exact ⟨q0, q1, qP, qPO, va_K.moved (u := U) (U := U.calling g mk a) (Vm.Alike.refl U.vm) qK, va_K.moved (u := U) (U := U.calling g mk a) (Vm.Alike.refl U.vm) qKO, qD, qDO, gm_V.blind (U := U) rfl qV, gm_tx_cl.2 _ U _ _ rfl qX⟩
theorem gl_call (C : gm_C p s m meth c args Z A cc nL RL ret) (CO : gm_C p s m meth c args ZO A cc nL RL ret) (hX : gm_tx A s s.heap) (hw : wd GC Z u A s.heap H locs) (hO : wd GO ZO uO A s.heap H locs) {lv : List (Nat × Value)} (hl : lv_has ls nL lv) {As : List Value}
    (hM : gl_Met l Z ZO As u uO o) (hR : 8 ≤ R.frames ∧ 136 ≤ R.locals) (hcs : cells + 1 ≤ R.cells ∧ slots + 6 ≤ R.slots)
    (hn : As.length = 6) (hst : st0 = As.reverse ++ rest) (hcat : (rest.map fun v => v.category).sum ≤ 8) (hdg : decode cc pc = .ok (.invokestatic 160, 3))
    (kk : ∀ (H1 : Heap) (locs1 : List Loc), wd GC Z u A s.heap H1 locs1 → wd GO ZO (gl_u o uO) A s.heap H1 locs1 → (∀ q : Nat, q < H.size → ¬ gl_A Z ZO u uO H.size q → H1[q]? = H[q]?) → W p l e R s m args below meth c H1 locs1 (cells + 1) (slots + 6) Q (F0 m (pc + 3) ls (.int (gl_k o) :: rest))) : W p l e R s m args below meth c H locs cells slots Q (F0 m pc ls st0) := by
  have ht := C.2.2.2.2.1
  refine gl_go (u := u) (uO := uO) (rest := rest) (o := o) (a := As.toArray) (vx_runSW (hh := [(0, 14, 17, 13)]) (bytes := cL_rests) (maxL := 7) (ret := some .int) (n := 6) (As := As) (rest := rest) ⟨C.1, C.2.1, C.2.2.1, C.2.2.2.1, ht⟩ (hM H.size) ⟨⟨rfl, rfl, hR.1, hR.2, pay_in ht gl_good, List.mem_cons_self⟩, ht _ gl_code, ht _ gl_in, ⟨by decide, by decide⟩, fun sig h => ?_, ht _ gl_ml, ht _ gl_st⟩ ⟨gl_blind, fun U hU hW => ⟨rfl, by rw [hU], by rw [hU]; exact hw.1, by rw [hU]; exact hO.1, va_K.moved hW.alike C.2.2.2.2.2.1, va_K.moved hW.alike CO.2.2.2.2.2.1, hw.2.1.weaken (fun _ _ _ _ => trivial), hO.2.1.weaken (fun _ _ _ _ => trivial), C.2.2.2.2.2.2.2.2.go hw.2.2.1 (gl_sub hw hO) hW hU, gm_tx_cl.1 _ _ _ _ _ _ hX hw.2.2.1 (gl_sub hw hO) hW hU⟩⟩ rfl hn hl.1 hst (lv_room hcat) hdg hcs) rfl hw hO kk
  have h2 : (parseMethodDescriptor yL_rests.desc).map (fun d => d.parameters.length) = some 6 := by decide +kernel
  rw [h] at h2
  exact (Option.some.inj h2).symm
theorem gl_other {ZM : gm_Z} {uM : gm_M} {H1 : Heap} {locs1 : List Loc} (hd1 : gm_dj GC Z GM ZM) (hd2 : gm_dj GO ZO GM ZM) (h2 : wd GM ZM uM A H0 H locs) (h1 : wd GC Z u A H0 H1 locs1) (hk : ∀ q : Nat, q < H.size → ¬ gl_A Z ZO u uO H.size q → H1[q]? = H[q]?) : wd GM ZM uM A H0 H1 locs1 := by
  refine ⟨h2.1.kept (fun k q hq => ?_), h2.2.1, h1.2.2.1, h2.2.2.2⟩
  have hl := (h2.1 k q hq).lt
  obtain ⟨b1, b2⟩ := gm_ad hq
  refine hk q.1 hl (fun h => ?_)
  rcases h with (⟨k2, x, h⟩ | h) | (⟨k2, x, h⟩ | h)
  · obtain ⟨a1, a2⟩ := gm_ad h
    exact hd1 k2 k a1 b1 (a2.symm.trans b2)
  · omega
  · obtain ⟨a1, a2⟩ := gm_ad h
    exact hd2 k2 k a1 b1 (a2.symm.trans b2)
  · omega
end GLC
/-- what is to be shown of rests: both throw, or both return the same -/
def St_rests (Rel Rel' : gm_M → gm_M → Prop) : Prop := ∀ (uC uM : gm_M), Rel uC uM → ∀ (a1 a2 a3 a4 : Int32), ∃ (o : Option Int32) (r : Int32) (uM' : gm_M), f_X10_rests a1 a2 a3 a4 = some o ∧ f_X11_rests a1 a2 a3 a4 uM = some (r, uM') ∧ f_X11_thrown uM' = gl_k o ∧ (∀ v, o = some v → v = r) ∧ Rel' uC uM'

set_option maxRecDepth 100000 in
set_option maxHeartbeats 4000000 in
theorem lc_33 (Rel Rel' : gm_M → gm_M → Prop) (S : St_rests Rel Rel') {p : Program} {l : Launch} {e : Env} {s : State} {m : MethodId} {below : List Frame} {meth : Method} {c : Code} {b L : Nat} {xs : Nat → Int32} {D : va_G} {tc : Nat → ClassId} {aC aM aO : Nat → Nat} {A : Nat → Prop} {Q : State → Prop} (hls : l.stackTraces = false) (hT : gm_tx A s s.heap) (hL : L ≤ 3584) (C : gm_C p s m meth c #[.ref b] (D, tc, aC) A code 7 RL ret) (hX : va_X b L xs s s.heap) (hbl : b < s.heap.size) (hbA : ¬ A b) (hd1 : gm_dj GC (D, tc, aC) GM (D, tc, aM)) (hd2 : gm_dj GM (D, tc, aM) GC (D, tc, aC)) (hd3 : gm_dj GC (D, tc, aC) GO (D, tc, aO)) (hd4 : gm_dj GM (D, tc, aM) GO (D, tc, aO)) {uC uM uO : gm_M} {H : Heap} {locs : List Loc} {ls : Array Slot} {cells slots : Nat} (hC : wd GC (D, tc, aC) uC A s.heap H locs) (hM : wd GM (D, tc, aM) uM A s.heap H locs) (hO : wd GO (D, tc, aO) uO A s.heap H locs) (hR : Rel uC uM) (hcs : cells + 1 ≤ room_1.cells ∧ slots + 6 ≤ room_1.slots) {i : Nat} (hi : i + 7 ≤ L) (hl : lv_has ls 7 [(0, .ref b), (1, .ref (aC 1)), (2, .ref (aM 1)), (3, .ref (aO 1)), (4, .int (nI i))]) (K : ∀ (uC uM uO : gm_M) (H : Heap) (locs : List Loc) (ls : Array Slot) (cells' slots' : Nat), cells' ≤ cells + 1 → slots' ≤ slots + 6 → wd GC (D, tc, aC) uC A s.heap H locs → wd GM (D, tc, aM) uM A s.heap H locs → wd GO (D, tc, aO) uO A s.heap H locs → Rel' uC uM → lv_has ls 7 [(0, .ref b), (1, .ref (aC 1)), (2, .ref (aM 1)), (3, .ref (aO 1)), (4, .int (nI i))] → W p l e room_1 s m #[.ref b] below meth c H locs cells' slots' Q (F0 m 1386 ls [])) : W p l e room_1 s m #[.ref b] below meth c H locs cells slots Q (F0 m 1167 ls []) := by
  obtain ⟨hx, hb, -⟩ := id C
  have CM : gm_C p s m meth c #[.ref b] (D, tc, aM) A code 7 RL ret := C
  have CO : gm_C p s m meth c #[.ref b] (D, tc, aO) A code 7 RL ret := C
  have hd3s : gm_dj GO (D, tc, aO) GC (D, tc, aC) := fun r1 r2 h1 h2 h => hd3 r2 r1 h2 h1 h.symm
  have hd4s : gm_dj GO (D, tc, aO) GM (D, tc, aM) := fun r1 r2 h1 h2 h => hd4 r2 r1 h2 h1 h.symm
  obtain ⟨o, r, uM', h1, h2, h3, h4, hR'⟩ := S uC uM hR (xs (ix (nI i + (1 : Int32)))) (xs (ix (nI i + (2 : Int32)))) (xs (ix (nI i + (3 : Int32)))) (xs (ix (nI i + (4 : Int32))))
  refine lv_aload_n hx hb dL_law_1167 rfl (lv_at hl 1 rfl) ?_
  refine lv_aload_n hx hb dL_law_1168 rfl (lv_at hl 0 rfl) ?_
  refine lv_iload hx hb dL_law_1169 (lv_at hl 4 rfl) ?_
  refine lv_iconst (v := 1) hx hb dL_law_1171 (by decide) ?_
  refine lv_iadd hx hb dL_law_1172 ?_
  refine va_sld hx hb hX hbl hbA hC.2.2.1 (lw_in (k := 1) hi hL (by decide)) dL_law_1173 ?_
  refine lv_aload_n hx hb dL_law_1174 rfl (lv_at hl 0 rfl) ?_
  refine lv_iload hx hb dL_law_1175 (lv_at hl 4 rfl) ?_
  refine lv_iconst (v := 2) hx hb dL_law_1177 (by decide) ?_
  refine lv_iadd hx hb dL_law_1178 ?_
  refine va_sld hx hb hX hbl hbA hC.2.2.1 (lw_in (k := 2) hi hL (by decide)) dL_law_1179 ?_
  refine lv_aload_n hx hb dL_law_1180 rfl (lv_at hl 0 rfl) ?_
  refine lv_iload hx hb dL_law_1181 (lv_at hl 4 rfl) ?_
  refine lv_iconst (v := 3) hx hb dL_law_1183 (by decide) ?_
  refine lv_iadd hx hb dL_law_1184 ?_
  refine va_sld hx hb hX hbl hbA hC.2.2.1 (lw_in (k := 3) hi hL (by decide)) dL_law_1185 ?_
  refine lv_aload_n hx hb dL_law_1186 rfl (lv_at hl 0 rfl) ?_
  refine lv_iload hx hb dL_law_1187 (lv_at hl 4 rfl) ?_
  refine lv_iconst (v := 4) hx hb dL_law_1189 (by decide) ?_
  refine lv_iadd hx hb dL_law_1190 ?_
  refine va_sld hx hb hX hbl hbA hC.2.2.1 (lw_in (k := 4) hi hL (by decide)) dL_law_1191 ?_
  refine lv_aload_n hx hb dL_law_1192 rfl (lv_at hl 3 rfl) ?_
  refine gl_call (Z := (D, tc, aC)) (ZO := (D, tc, aO)) (u := uC) (uO := uO) (o := o) (As := [.ref (aC 1), .int (xs (ix (nI i + (1 : Int32)))), .int (xs (ix (nI i + (2 : Int32)))), .int (xs (ix (nI i + (3 : Int32)))), .int (xs (ix (nI i + (4 : Int32)))), .ref (aO 1)]) (rest := []) C CO hT hC hO hl (ok_L_rests l hls (D, tc, aC) (D, tc, aO) hd3 hd3s (xs (ix (nI i + (1 : Int32)))) (xs (ix (nI i + (2 : Int32)))) (xs (ix (nI i + (3 : Int32)))) (xs (ix (nI i + (4 : Int32)))) uC uO o h1) ⟨Nat.le_of_ble_eq_true rfl, Nat.le_of_ble_eq_true rfl⟩ hcs rfl rfl (Nat.le_of_ble_eq_true rfl) dL_law_1193 (fun H locs hC hO hk => ?_)
  have hM := gl_other hd1 hd4s hM hC hk
  refine lv_istore (lv' := [(5, .int (gl_k o)), (0, .ref b), (1, .ref (aC 1)), (2, .ref (aM 1)), (3, .ref (aO 1)), (4, .int (nI i))]) hx hb dL_law_1196 hl (by decide) rfl (fun ls hl => ?_)
  refine lv_aload_n hx hb dL_law_1198 rfl (lv_at hl 3 rfl) ?_
  refine lv_aload_n hx hb dL_law_1199 rfl (lv_at hl 1 rfl) ?_
  refine lv_iload hx hb dL_law_1200 (lv_at hl 5 rfl) ?_
  refine lv_iconst (v := 1) hx hb dL_law_1202 (by decide) ?_
  refine lv_iadd hx hb dL_law_1203 ?_
  refine va_sld hx hb hX hbl hbA hC.2.2.1 (lw_in (k := 1) hi hL (by decide)) dL_law_1204 ?_
  refine lv_aload_n hx hb dL_law_1205 rfl (lv_at hl 1 rfl) ?_
  refine lv_iload hx hb dL_law_1206 (lv_at hl 5 rfl) ?_
  refine lv_iconst (v := 2) hx hb dL_law_1208 (by decide) ?_
  refine lv_iadd hx hb dL_law_1209 ?_
  refine va_sld hx hb hX hbl hbA hC.2.2.1 (lw_in (k := 2) hi hL (by decide)) dL_law_1210 ?_
  refine lv_aload_n hx hb dL_law_1211 rfl (lv_at hl 1 rfl) ?_
  refine lv_iload hx hb dL_law_1212 (lv_at hl 5 rfl) ?_
  refine lv_iconst (v := 3) hx hb dL_law_1214 (by decide) ?_
  refine lv_iadd hx hb dL_law_1215 ?_
  refine va_sld hx hb hX hbl hbA hC.2.2.1 (lw_in (k := 3) hi hL (by decide)) dL_law_1216 ?_
  refine lv_aload_n hx hb dL_law_1217 rfl (lv_at hl 1 rfl) ?_
  refine lv_iload hx hb dL_law_1218 (lv_at hl 5 rfl) ?_
  refine lv_iconst (v := 4) hx hb dL_law_1220 (by decide) ?_
  refine lv_iadd hx hb dL_law_1221 ?_
  refine va_sld hx hb hX hbl hbA hC.2.2.1 (lw_in (k := 4) hi hL (by decide)) dL_law_1222 ?_
  refine gm_callL (G := GM) (Z := (D, tc, aM)) (u := uM) (u' := uM') (r := 1) (ci := 10) (As := [.int (xs (ix (nI i + (1 : Int32)))), .int (xs (ix (nI i + (2 : Int32)))), .int (xs (ix (nI i + (3 : Int32)))), .int (xs (ix (nI i + (4 : Int32))))]) (rest := []) (res := some (.int r)) CM hM hl (ok_X11_rests l (D, tc, aM) (xs (ix (nI i + (1 : Int32)))) (xs (ix (nI i + (2 : Int32)))) (xs (ix (nI i + (3 : Int32)))) (xs (ix (nI i + (4 : Int32)))) uM r uM' h2) cw_L_165 im_X11_rests rfl se_X11_rests rfl rfl rfl ⟨Nat.le_of_ble_eq_true rfl, Nat.le_of_ble_eq_true rfl⟩ hcs rfl rfl (Nat.le_of_ble_eq_true rfl) dL_law_1223 (fun H locs hM hk => ?_)
  have hC := gm_other hd2 hC hM hk
  have hO := gm_other hd4 hO hM hk
  refine lv_istore (lv' := [(6, .int r), (5, .int (gl_k o)), (0, .ref b), (1, .ref (aC 1)), (2, .ref (aM 1)), (3, .ref (aO 1)), (4, .int (nI i))]) hx hb dL_law_1226 hl (by decide) rfl (fun ls hl => ?_)
  refine lv_aload_n hx hb dL_law_1228 rfl (lv_at hl 4 rfl) ?_
  refine gm_callL (G := GM) (Z := (D, tc, aM)) (u := uM') (u' := uM') (r := 1) (ci := 10) (As := []) (rest := []) (res := some (.int (f_X11_thrown uM'))) CM hM hl (ok_X11_thrown l (D, tc, aM) uM') cw_L_166 im_X11_thrown rfl se_X11_thrown rfl rfl rfl ⟨Nat.le_of_ble_eq_true rfl, Nat.le_of_ble_eq_true rfl⟩ hcs rfl rfl (Nat.le_of_ble_eq_true rfl) dL_law_1229 (fun H locs hM hk => ?_)
  have hC := gm_other hd2 hC hM hk
  have hO := gm_other hd4 hO hM hk
  refine lv_iload hx hb dL_law_1232 (lv_at hl 1 rfl) ?_
  refine lv_icmp_eq (tgt := 1239) hx hb dL_law_1234 (by decide) (fun hc => ?_) (fun hc => absurd h3 hc)
  have fin : ∀ (H : Heap) (locs : List Loc), wd GC (D, tc, aC) uC A s.heap H locs → wd GM (D, tc, aM) uM' A s.heap H locs → wd GO (D, tc, aO) (gl_u o uO) A s.heap H locs → W p l e room_1 s m #[.ref b] below meth c H locs (cells + 1) (slots + 6) Q (F0 m 1256 ls []) := fun H locs hC hM hO => by
    refine lv_goto (tgt := 1386) hx hb dL_law_1256 (by decide) ?_
    exact K uC uM' _ H locs ls _ _ (Nat.le_refl _) (Nat.le_refl _) hC hM hO hR' (lv_sub hl [2, 3, 4, 5, 6] rfl)
  refine lv_iload hx hb dL_law_1239 (lv_at hl 1 rfl) ?_
  refine lv_if_ne (tgt := 1256) hx hb dL_law_1241 (by decide) (fun hc => fin H locs hC hM hO) (fun hc => ?_)
  cases o with
  | none => exact absurd hc (by decide)
  | some v =>
    have hv := h4 v rfl
    subst hv
    refine lv_aload_n hx hb dL_law_1244 rfl (lv_at hl 5 rfl) ?_
    refine lv_iconst (v := 0) hx hb dL_law_1245 (by decide) ?_
    refine gm_lald (G := GO) (Z := (D, tc, aO)) (r := 1) (n := 1) CO hO rfl (i := 0) (by decide) (j := 0) (by decide) dL_law_1246 ?_
    refine lv_iload hx hb dL_law_1247 (lv_at hl 0 rfl) ?_
    refine lv_i2l hx hb dL_law_1249 rfl ?_
    refine W.lcmp hx hb dL_law_1250 ?_
    refine lv_if_eq (tgt := 1256) hx hb dL_law_1251 (by decide) (fun hc => fin H locs hC hM hO) (fun hc => ?_)
    refine absurd ?_ hc
    have hg : gJ (gl_u (some v) uO) 1 0 = v.toInt64 := by
      show gJ (sJ uO 1 0 v.toInt64) 1 0 = _
      rw [sJ_up]; simp [vp_updL]
    rw [hg]
    simp [lg_cmp]
