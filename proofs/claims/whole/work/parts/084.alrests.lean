/-! the law's own rests: it catches; two worlds, the class's and the law's array -/
theorem cw_L_7 : gm_cw RL 7 yX10_rests cX10_rests 10 (some .int) 4 := ⟨List.mem_filter.mpr ⟨by decide +kernel, rfl⟩, List.mem_filter.mpr ⟨by decide +kernel, rfl⟩, List.mem_filter.mpr ⟨by decide +kernel, rfl⟩, by decide +kernel⟩
theorem im_X10_rests : Cond.instanceMethod yX10_rests ∈ gm_tb := List.mem_filter.mpr ⟨by decide +kernel, rfl⟩
theorem se_X10_rests : Cond.selects RX10 yX10_rests yX10_rests ∈ gm_tb := List.mem_filter.mpr ⟨by decide +kernel, rfl⟩
theorem gl_link : Cond.classLink RL 13 "java/util/NoSuchElementException" ∈ gm_tb := List.mem_filter.mpr ⟨by decide +kernel, rfl⟩
section GLR
variable {p : Program} {l : Launch} {e : Env} {R : Room} {s : State} {m : MethodId} {args : Array Value} {below : List Frame} {meth : Method} {c : Code} {H : Heap} {locs : List Loc} {cells slots : Nat} {Q : State → Prop}
variable {cc : ByteArray} {nL : Nat} {own : String} {ret : Option FieldType} {pc : Nat} {ls : Array Slot} {rest st0 : List Value} {Z : gm_Z} {u : gm_M} {A : Nat → Prop} {H0 : Heap} {o : Option Int32}
theorem gx_go {a : Array Value} {sz : Nat} (hr : vx_Run p l e R s m args below meth c H locs cells slots 1 6 (F0 m pc ls st0) rest (gx_Qc Z u sz o a) (gx_XC Z u sz o) (va_A (gm_ws GC Z u) sz)) (hsz : sz = H.size) (hw : wd GC Z u A H0 H locs)
    (kk : ∀ (r : Int32) (H1 : Heap) (locs1 : List Loc), o = some r → wd GC Z u A H0 H1 locs1 → (∀ q : Nat, q < H.size → ¬ va_A (gm_ws GC Z u) H.size q → H1[q]? = H[q]?) → W p l e R s m args below meth c H1 locs1 (cells + 1) (slots + 6) Q (F0 m (pc + 3) ls (.int r :: rest)))
    (kx : ∀ (ce : Cell) (q9 : Addr) (H1 : Heap) (locs1 : List Loc), o = none → wd GC Z u A H0 H1 locs1 → (∀ q : Nat, q < H.size → ¬ va_A (gm_ws GC Z u) H.size q → H1[q]? = H[q]?) → H1[q9]? = some ce → ce.vm = .none → s.vm.findClass "java/util/NoSuchElementException" = some ce.cls → vx_W p l e R s m args below meth c H1 locs1 (cells + 1) (slots + 6) Q (F0 m pc ls rest) q9) : W p l e R s m args below meth c H locs cells slots Q (F0 m pc ls st0) := by
  subst hsz
  have hA := gm_sub hw
  obtain ⟨hP, hD, hS, hA0⟩ := hw
  intro T hT X
  rcases hr T hT X with ⟨v, st₀, t, T', L, h0, X', hL, e1, e2, ⟨r, ho, ⟨hv, hP'⟩, hF⟩, st⟩ | ⟨q, st₀, t, T', L, E, ce, h0, X', hL, e1, e2, ⟨ho, hE, hP', hF⟩, hce, hcv, hcl, st⟩
  · cases hv
    obtain ⟨k1, k2, k3⟩ := vx_keep h0 e1 hS (fun q _ h => hA q h) hA hL hF
    obtain ⟨t2, a1, b1⟩ := kk r T'.heap (locs ++ L) ho ⟨by rw [e1]; exact hP', hD, k3, hA0⟩ k2 T' rfl X'
    exact ⟨t2, st t2 a1, b1⟩
  · subst hE
    obtain ⟨k1, k2, k3⟩ := vx_keep h0 e1 hS (fun q _ h => hA q h) hA hL hF
    obtain ⟨t2, a1, b1⟩ := kx ce q T'.heap (locs ++ L) ho ⟨by rw [e1]; exact hP', hD, k3, hA0⟩ k2 (by rw [e1]; exact hce) hcv hcl T' rfl X'
    exact ⟨t2, st.trans a1, b1⟩
theorem gx_cb {idx : Nat} {y : MethodName} {bytes : ByteArray} {maxL n : Nat} {rt : Option FieldType} {rm : Room} (C : gm_C p s m meth c args Z A cc nL own ret) (cw : gm_cw own idx y bytes maxL rt n) (hrc : rm.cells = 1) (hrs : rm.slots = 6) (hR : rm.frames + 1 ≤ R.frames ∧ 8 + (maxL + 11) + rm.locals ≤ R.locals) :
    CallB R s args own idx y bytes maxL rt (.code y bytes maxL rt :: gm_tb) rm 1 6 n :=
  callB_of n C.2.2.2.2.1 (gm_good y bytes maxL rt cw.2.2.1) rfl hrc hrs (C.2.2.2.2.1 _ cw.2.1) (C.2.2.2.2.1 _ cw.1) cw.2.2.2 hR
theorem gx_callR (C : gm_C p s m meth c args Z A cc nL RL ret) (hX : gm_tx A s s.heap) (hw : wd GC Z u A s.heap H locs) {lv : List (Nat × Value)} (hl : lv_has ls nL lv) {rm : Room} {As : List Value}
    (hM : gx_Met l Z rm (rv Z 1 :: As) u o) (hrc : rm.cells = 1) (hrs : rm.slots = 6) (hR : rm.frames + 1 ≤ R.frames ∧ 8 + (10 + 11) + rm.locals ≤ R.locals) (hcs : cells + 1 ≤ R.cells ∧ slots + 6 ≤ R.slots)
    (hn : As.length = 4) (hst : st0 = As.reverse ++ rv Z 1 :: rest) (hcat : (rest.map fun v => v.category).sum ≤ 8) (hdg : decode cc pc = .ok (.invokevirtual 7, 3))
    (kk : ∀ (r : Int32) (H1 : Heap) (locs1 : List Loc), o = some r → wd GC Z u A s.heap H1 locs1 → (∀ q : Nat, q < H.size → ¬ va_A (gm_ws GC Z u) H.size q → H1[q]? = H[q]?) → W p l e R s m args below meth c H1 locs1 (cells + 1) (slots + 6) Q (F0 m (pc + 3) ls (.int r :: rest)))
    (kx : ∀ (ce : Cell) (q9 : Addr) (H1 : Heap) (locs1 : List Loc), o = none → wd GC Z u A s.heap H1 locs1 → (∀ q : Nat, q < H.size → ¬ va_A (gm_ws GC Z u) H.size q → H1[q]? = H[q]?) → H1[q9]? = some ce → ce.vm = .none → s.vm.findClass "java/util/NoSuchElementException" = some ce.cls → vx_W p l e R s m args below meth c H1 locs1 (cells + 1) (slots + 6) Q (F0 m pc ls rest) q9) : W p l e R s m args below meth c H locs cells slots Q (F0 m pc ls st0) := by
  refine gx_go (u := u) (rest := rest) (o := o) (a := (rv Z 1 :: As).toArray) (vx_runV (As := As) (rest := rest) (b := Z.2.2 1) ⟨C.1, C.2.1, C.2.2.1, C.2.2.2.1, C.2.2.2.2.1⟩ (hM H.size) ⟨gx_cb C cw_L_7 hrc hrs hR, C.2.2.2.2.1 _ im_X10_rests, C.2.2.2.2.1 _ se_X10_rests⟩ ⟨gm_blindX gm_tx_cl, va_recv (ci := 9) C.2.2.2.2.2.1 hw.1 rfl (gm_at (G := GC) (r := 0) rfl), fun U hU hW => ⟨rfl, ⟨by rw [hU], by rw [hU]; exact hw.1, va_K.moved hW.alike C.2.2.2.2.2.1, hw.2.1.weaken (fun _ _ _ _ => trivial), C.2.2.2.2.2.2.2.2.go hw.2.2.1 (gm_sub hw) hW hU⟩, gm_tx_cl.1 _ _ _ _ _ _ hX hw.2.2.1 (gm_sub hw) hW hU⟩⟩ rfl hn hl.1 hst (lv_room hcat) hdg hcs) rfl hw kk kx
/-- a store into the law's array; the rest of the heap stays -/
theorem gx_last (C : gm_C p s m meth c args Z A cc nL own ret) (hw : wd GO Z u A H0 H locs) {x : Int64} (hdg : decode cc pc = .ok (.lastore, 1))
    (kk : ∀ (H1 : Heap) (locs1 : List Loc), wd GO Z (sJ u 1 0 x) A H0 H1 locs1 → (∀ q : Nat, q < H.size → ¬ va_A (gm_ws GO Z u) H.size q → H1[q]? = H[q]?) → W p l e R s m args below meth c H1 locs1 cells slots Q (F0 m (pc + 1) ls rest)) : W p l e R s m args below meth c H locs cells slots Q (F0 m pc ls (.long x :: .int 0 :: .ref (Z.2.2 1) :: rest)) := by
  have hs : gm_sh GO (0 + 1) = some (.inr (1, 1)) := rfl
  have ha : (gm_ws GO Z u)[0]? = some (Z.2.2 1, .inl (Z.2.1 1, 1, .inr (.inl (gJ u 1)))) := gm_at (Z := Z) (u := u) hs
  refine W.last C.1 C.2.1 (hw.1 0 _ ha) ((C.2.2.2.2.2.1.2 1 _ rfl).1 1 (fun j => .long (gJ u 1 j))) (fun q => by cases q) (by show ¬ ((0 : Int32) < 0 ∨ (arrV _ _ _).slots.size ≤ _); rw [arrV_size]; exact (by decide : ¬ ((0 : Int32) < 0 ∨ 1 ≤ Int32.toNatClampNeg 0))) rfl rfl hdg fun H1 e z oq => ?_
  have he := gm_set (Z := Z) (u := u) (v := sJ u (0 + 1) 0 x) hs (x := .inl (Z.2.1 1, 1, .inr (.inl (vp_updL (gJ u (0 + 1)) 0 x)))) (by show gm_ce GO Z _ (0 + 1) (.inr (1, 1)) = _; simp only [gm_ce, gm_ar, sJ_up]) (fun b hb => ⟨rfl, sJ_ne hb, rfl⟩)
  have h1 := hw.1.set (e := .inl (Z.2.1 1, 1, .inr (.inl (vp_updL (gJ u (0 + 1)) 0 x)))) hw.2.1 ha (by
    show H1[Z.2.2 1]? = some (vp_cell _ _)
    rw [e, vp_cell_l, vp_cell_l, arrV_store]
    congr 2
    funext q
    by_cases hq : q = 0
    · subst hq; simp [updV, vp_updL]
    · simp [updV, vp_updL, hq]) oq
  have h2 := hw.2.1.set (e := .inl (Z.2.1 1, 1, .inr (.inl (vp_updL (gJ u (0 + 1)) 0 x)))) ha
  rw [he] at h1 h2
  exact kk H1 _ ⟨h1, h2, hw.2.2.1.put z oq (hw.2.1.2 0 _ ha), hw.2.2.2⟩ (fun q h1 h2 => oq q (fun h => h2 (by rw [h]; exact Or.inl ⟨0, _, ha⟩)))
end GLR
def gl_A (Z ZO : gm_Z) (u uO : gm_M) (sz : Nat) : Nat → Prop := fun q => va_A (gm_ws GC Z u) sz q ∨ va_A (gm_ws GO ZO uO) sz q
def gl_P (Z ZO : gm_Z) (u uO : gm_M) (sz : Nat) : State → Prop := fun U => U.heap.size = sz ∧ va_P Z.1 vwCl (gm_ws GC Z u) U.heap ∧ va_P ZO.1 vwCl (gm_ws GO ZO uO) U.heap ∧ va_K Z.1 vwCl (gm_tys Z) U ∧ va_K ZO.1 vwCl (gm_tys ZO) U ∧ va_D (fun _ => True) (gm_ws GC Z u) ∧ va_D (fun _ => True) (gm_ws GO ZO uO) ∧ gm_V (gl_A Z ZO u uO sz) U U.heap ∧ gm_tx (gl_A Z ZO u uO sz) U U.heap
def gl_k (o : Option Int32) : Int32 := match o with | some _ => 0 | none => 1
def gl_u (o : Option Int32) (uO : gm_M) : gm_M := match o with | some r => sJ uO 1 0 r.toInt64 | none => uO
def gl_Q (Z ZO : gm_Z) (u uO : gm_M) (sz : Nat) (o : Option Int32) : Array Value → State → Outcome → State → Prop := fun _ st oc t => (oc = .returned (some (.int (gl_k o))) ∧ va_P Z.1 vwCl (gm_ws GC Z u) t.heap ∧ va_P ZO.1 vwCl (gm_ws GO ZO (gl_u o uO)) t.heap) ∧ va_F (gl_A Z ZO u uO sz) st t
def gl_rm : Room := { frames := 7, cells := 1, slots := 6, locals := 110 }
def gl_Met (l : Launch) (Z ZO : gm_Z) (av : List Value) (u uO : gm_M) (o : Option Int32) : Prop := ∀ sz : Nat, Met l yL_rests (.codeWith yL_rests cL_rests 7 (some .int) [(0, 14, 17, 13)] :: gm_tb) gl_rm (va_Pc av (gl_P Z ZO u uO sz)) (gl_Q Z ZO u uO sz o) 1 6 (gl_A Z ZO u uO sz)
set_option maxRecDepth 100000 in
theorem ok_L_rests (l : Launch) (hls : l.stackTraces = false) (Z ZO : gm_Z) (hd : gm_dj GC Z GO ZO) (hd' : gm_dj GO ZO GC Z) (a1 a2 a3 a4 : Int32) (u uO : gm_M) (o : Option Int32) (hf : f_X10_rests a1 a2 a3 a4 = some o) : gl_Met l Z ZO [rv Z 1, .int a1, .int a2, .int a3, .int a4, rv ZO 1] u uO o := by
  intro sz
  refine va_MetW (cc := cL_rests) (maxL := 7) (ret := some .int) (hh := [(0, 14, 17, 13)]) (by decide +kernel) rfl ?_
  intro p e s m args below meth c s₁ B hml hv
  obtain ⟨rfl, hsz, hP, hPO, hK, hKO, hD0, hDO, hV, hX⟩ := hv
  have hts := atoms_spec (ws := .codeWith yL_rests cL_rests 7 (some .int) [(0, 14, 17, 13)] :: gm_tb) B.pre
  have hown : s.vm.findClass RL = some m.cls := findClass_of_methodNamed B.named
  have htab : c.exceptionTable.toList = tableOf [(0, 14, 17, 13)] := vx_table (x := yL_rests) B (hts _ List.mem_cons_self)
  subst hsz
  have hl := lv_entry [rv Z 1, .int a1, .int a2, .int a3, .int a4, rv ZO 1] (n := 7) (Nat.le_of_ble_eq_true rfl)
  rw [lg_entry_eq]
  generalize (lg_sl [rv Z 1, .int a1, .int a2, .int a3, .int a4, rv ZO 1] ++ List.replicate (7 - (lg_sl [rv Z 1, .int a1, .int a2, .int a3, .int a4, rv ZO 1]).length) Slot.unset).toArray = ls at hl ⊢
  have hl : lv_has ls 7 [(0, rv Z 1), (1, .int a1), (2, .int a2), (3, .int a3), (4, .int a4), (5, rv ZO 1)] := hl
  have hx := B.exec
  have hb := B.bytes
  have hr := B.returns
  have hlocks := B.notSynchronized
  have htg : ∀ w ∈ gm_tb, w.before _ s = true := fun w h => hts w (List.mem_cons_of_mem _ h)
  have C : gm_C p s m meth c _ Z (gl_A Z ZO u uO s.heap.size) cL_rests 7 RL (some .int) := ⟨hx, hb, hml, hown, htg, hK, hr, hlocks, hV⟩
  have CO : gm_C p s m meth c _ ZO (gl_A Z ZO u uO s.heap.size) cL_rests 7 RL (some .int) := ⟨hx, hb, hml, hown, htg, hKO, hr, hlocks, hV⟩
  have hw : wd GC Z u (gl_A Z ZO u uO s.heap.size) s.heap s.heap [] := ⟨hP, hD0.self.weaken (fun _ _ _ h => Or.inl h), va_S.rf, fun q h => Or.inl (Or.inr h)⟩
  have hO0 : wd GO ZO uO (gl_A Z ZO u uO s.heap.size) s.heap s.heap [] := ⟨hPO, hDO.self.weaken (fun _ _ _ h => Or.inr h), va_S.rf, fun q h => Or.inl (Or.inr h)⟩
  refine lv_aload hx hb dL_rests_0 (lv_at hl 5 rfl) ?_
  refine lv_iconst (v := 0) hx hb dL_rests_2 (by decide) ?_
  refine lv_aload_n hx hb dL_rests_3 rfl (lv_at hl 0 rfl) ?_
  refine lv_iload_n hx hb dL_rests_4 rfl (lv_at hl 1 rfl) ?_
  refine lv_iload_n hx hb dL_rests_5 rfl (lv_at hl 2 rfl) ?_
  refine lv_iload_n hx hb dL_rests_6 rfl (lv_at hl 3 rfl) ?_
  refine lv_iload hx hb dL_rests_7 (lv_at hl 4 rfl) ?_
  refine gx_callR (rest := [.int 0, rv ZO 1]) (As := [.int a1, .int a2, .int a3, .int a4]) (o := o) C hX hw hl (ok_X10_rests l hls Z a1 a2 a3 a4 u o hf) rfl rfl ⟨Nat.le_of_ble_eq_true rfl, Nat.le_of_ble_eq_true rfl⟩ ⟨Nat.le_of_ble_eq_true rfl, Nat.le_of_ble_eq_true rfl⟩ rfl rfl (Nat.le_of_ble_eq_true rfl) dL_rests_9 (fun r H locs ho hC hk => ?_) (fun ce q H locs ho hC hk h1 h2 h3 => ?_)
  · subst ho
    have hO := gm_other hd hO0 hC hk
    refine lv_i2l hx hb dL_rests_12 rfl ?_
    refine gx_last CO hO dL_rests_13 (fun H1 locs1 hO hk1 => ?_)
    have hC := gm_other hd' hC hO hk1
    refine lv_goto (tgt := 21) hx hb dL_rests_14 (by decide) ?_
    refine lv_iconst (v := 0) hx hb dL_rests_21 (by decide) ?_
    exact W.iret hx hb hr (fun t ht _ => ⟨⟨rfl, by rw [ht]; exact hC.1, by rw [ht]; exact hO.1⟩, hC.2.2.1.F ht⟩) hC.2.2.1.2.2 dL_rests_22 (hlocks := hlocks)
  · subst ho
    have hO := gm_other hd hO0 hC hk
    refine vx_catch (own := RL) (name := "java/util/NoSuchElementException") (E := "java/util/NoSuchElementException") hown [] _ [] htab (fun z hz => nomatch hz) (by decide) (by decide) (htg _ gl_link) (va_Nw.use rfl hX.2.2.1) h1 h2 h3 ?_
    refine lv_astore (lv' := [(6, .ref q), (0, rv Z 1), (1, .int a1), (2, .int a2), (3, .int a3), (4, .int a4), (5, rv ZO 1)]) hx hb dL_rests_17 hl (by decide) rfl (fun ls hl => ?_)
    refine lv_iconst (v := 1) hx hb dL_rests_19 (by decide) ?_
    exact W.iret hx hb hr (fun t ht _ => ⟨⟨rfl, by rw [ht]; exact hC.1, by rw [ht]; exact hO.1⟩, hC.2.2.1.F ht⟩) hC.2.2.1.2.2 dL_rests_20 (hlocks := hlocks)
