/-! methods of classes of which some methods are native: by the method's own name -/
theorem gm_Met_ofWF {l : Launch} {y : MethodName} {ws ws' : List Cond} {rm : Room} {Pc : Array Value → State → Prop} {Qc : Array Value → State → Outcome → State → Prop} {mc ms : Nat} {free : Addr → Prop} {cc : ByteArray} {maxL : Nat} {ret : Option FieldType}
    (hy : plainFor y = true) (hw : ws = Cond.code y cc maxL ret :: ws')
    (body : ∀ p e s m args below meth c s₁, BodyLoose p l y (headSpec ws rm) cc maxL ret e s m args below meth c s₁ → c.maxLocals = maxL → Pc args s →
      W p l e (headSpec ws rm).room s m args below meth c s.heap [] 0 0 (MQ below Qc args s mc ms free) (entryFrame m args maxL)) : Met l y ws rm Pc Qc mc ms free := by
  refine MetFree.of_bodySF (code := cc) (maxLocals := maxL) (ret := ret) hy ?_ ?_
  · intro args s m h hn
    obtain ⟨meth, c, h1, h2, h3, h4, h5, h6, -, -⟩ := Cond.code_spec hn (atoms_spec (ws := ws) h _ (by rw [hw]; exact List.mem_cons_self))
    exact ⟨meth, c, h1, h2, h3, h4, h5, h6⟩
  · intro p e s m args below meth c s₁ B hml hP _
    have hh0 : s₁.heap = s.heap := by rw [B.state]; rfl
    obtain ⟨t, a1, o, b1, b2, b3⟩ := body p e s m args below meth c s₁ B hml hP s₁ hh0 (Stand.of_body B)
    exact ⟨t, o, a1, b1, b2, ⟨b3.1, b3.2⟩⟩
theorem gm_ofWF {l : Launch} {G : gm_G} {Z : gm_Z} {y : MethodName} {cc : ByteArray} {maxL : Nat} {ret : Option FieldType} {rm : Room} {av : List Value} {u u' : gm_M} {res : Option Value} (hy : plainFor y = true) (hav : (lg_sl av).length ≤ maxL)
    (body : ∀ (p : Program) (e : Env) (s : State) (m : MethodId) (args : Array Value) (below : List Frame) (meth : Method) (c : Code) (A : Nat → Prop) (ls : Array Slot) (Q : State → Prop) (R : Room), rm.frames ≤ R.frames → rm.locals ≤ R.locals → gm_C p s m meth c args Z A cc maxL y.cls ret → gm_E G Z u u' res A below args s Q → lv_has ls maxL (lv_args 0 av) → wd G Z u A s.heap s.heap [] →
      W p l e R s m args below meth c s.heap [] 0 0 Q (F0 m 0 ls [])) : gm_Met l G Z y cc maxL ret rm av u res u' := by
  intro sz
  refine gm_Met_ofWF (cc := cc) (maxL := maxL) (ret := ret) hy rfl ?_
  intro p e s m args below meth c s₁ B hml hv
  obtain ⟨rfl, hsz, hP, hK, hD0, hV⟩ := hv
  have hts := atoms_spec (ws := .code y cc maxL ret :: gm_tb) B.pre
  have hown : s.vm.findClass y.cls = some m.cls := findClass_of_methodNamed B.named
  subst hsz
  have hl := lv_entry av (n := maxL) hav
  rw [lg_entry_eq]
  generalize (lg_sl av ++ List.replicate (maxL - (lg_sl av).length) Slot.unset).toArray = ls at hl ⊢
  exact body p e s m av.toArray below meth c (va_A (gm_ws G Z u) s.heap.size) ls _ rm (Nat.le_refl _) (Nat.le_refl _) ⟨B.exec, B.bytes, hml, hown, fun w h => hts w (List.mem_cons_of_mem _ h), hK, B.returns, B.notSynchronized, hV⟩ ⟨rfl, rfl⟩ hl ⟨hP, hD0.self, va_S.rf, fun q h => Or.inr h⟩
/-! contracts with a fact more: of cells that were there before -/
def gm_MetX (l : Launch) (G : gm_G) (Z : gm_Z) (y : MethodName) (cc : ByteArray) (maxL : Nat) (ret : Option FieldType) (rm : Room) (av : List Value) (u : gm_M) (res : Option Value) (Xp : (Nat → Prop) → State → Heap → Prop) : Prop :=
  ∀ sz : Nat, Met l y (.code y cc maxL ret :: gm_tb) rm (va_Pc av (fun U => gm_P G Z u sz U ∧ Xp (va_A (gm_ws G Z u) sz) U U.heap)) (gm_Q G Z u u sz res) 0 0 (va_A (gm_ws G Z u) sz)
def gm_cl (Xp : (Nat → Prop) → State → Heap → Prop) : Prop := (∀ (A B : Nat → Prop) (s U : State) (H : Heap) (locs : List Loc), Xp A s s.heap → va_S A s.heap H locs → (∀ q, B q → A q) → s.WarmedH U.vm → U.heap = H → Xp B U U.heap) ∧ ∀ (A : Nat → Prop) (U V : State) (H : Heap), V.vm = U.vm → Xp A U H → Xp A V H
theorem gm_ofWX {l : Launch} {G : gm_G} {Z : gm_Z} {y : MethodName} {cc : ByteArray} {maxL : Nat} {ret : Option FieldType} {rm : Room} {av : List Value} {u : gm_M} {res : Option Value} {Xp : (Nat → Prop) → State → Heap → Prop} (hy : plainFor y = true) (hav : (lg_sl av).length ≤ maxL)
    (body : ∀ (p : Program) (e : Env) (s : State) (m : MethodId) (args : Array Value) (below : List Frame) (meth : Method) (c : Code) (A : Nat → Prop) (ls : Array Slot) (Q : State → Prop) (R : Room), rm.frames ≤ R.frames → rm.locals ≤ R.locals → Xp A s s.heap → gm_C p s m meth c args Z A cc maxL y.cls ret → gm_E G Z u u res A below args s Q → lv_has ls maxL (lv_args 0 av) → wd G Z u A s.heap s.heap [] →
      W p l e R s m args below meth c s.heap [] 0 0 Q (F0 m 0 ls [])) : gm_MetX l G Z y cc maxL ret rm av u res Xp := by
  intro sz
  refine gm_Met_ofWF (cc := cc) (maxL := maxL) (ret := ret) hy rfl ?_
  intro p e s m args below meth c s₁ B hml hv
  obtain ⟨rfl, ⟨hsz, hP, hK, hD0, hV⟩, hXX⟩ := hv
  have hts := atoms_spec (ws := .code y cc maxL ret :: gm_tb) B.pre
  have hown : s.vm.findClass y.cls = some m.cls := findClass_of_methodNamed B.named
  subst hsz
  have hl := lv_entry av (n := maxL) hav
  rw [lg_entry_eq]
  generalize (lg_sl av ++ List.replicate (maxL - (lg_sl av).length) Slot.unset).toArray = ls at hl ⊢
  exact body p e s m av.toArray below meth c (va_A (gm_ws G Z u) s.heap.size) ls _ rm (Nat.le_refl _) (Nat.le_refl _) hXX ⟨B.exec, B.bytes, hml, hown, fun w h => hts w (List.mem_cons_of_mem _ h), hK, B.returns, B.notSynchronized, hV⟩ ⟨rfl, rfl⟩ hl ⟨hP, hD0.self, va_S.rf, fun q h => Or.inr h⟩
section GX
variable {p : Program} {l : Launch} {e : Env} {R : Room} {s : State} {m : MethodId} {args : Array Value} {below : List Frame} {meth : Method} {c : Code} {H : Heap} {locs : List Loc} {Q : State → Prop}
variable {cc : ByteArray} {nL : Nat} {own : String} {ret : Option FieldType} {pc : Nat} {ls : Array Slot} {rest st0 : List Value} {G : gm_G} {Z : gm_Z} {u : gm_M} {A : Nat → Prop} {Xp : (Nat → Prop) → State → Heap → Prop}
theorem gm_blindX (hcl : gm_cl Xp) {av : List Value} {sz : Nat} : FrameBlind (va_Pc av (fun U => gm_P G Z u sz U ∧ Xp (va_A (gm_ws G Z u) sz) U U.heap)) := fun a U g mk q => by
  obtain ⟨q0, ⟨q1, qP, qK, qD, qV⟩, qX⟩ := q
  exact ⟨q0, ⟨q1, qP, va_K.moved (u := U) (U := U.calling g mk a) (Vm.Alike.refl U.vm) qK, qD, gm_V.blind (U := U) rfl qV⟩, hcl.2 _ U _ _ rfl qX⟩
theorem gm_callXV (C : gm_C p s m meth c args Z A cc nL own ret) (hw : wd G Z u A s.heap H locs) {lv : List (Nat × Value)} (hl : lv_has ls nL lv) {idx n : Nat} {y : MethodName} {bytes : ByteArray} {maxL : Nat} {rt : Option FieldType} {rm : Room} {b : Nat} {Cn : String} {As : List Value} {res : Option Value} (hcl : gm_cl Xp) (hX : Xp A s s.heap)
    (hM : gm_MetX l G Z y bytes maxL rt rm (.ref b :: As) u res Xp) (cw : gm_cw own idx y bytes maxL rt n) (hin : Cond.instanceMethod y ∈ gm_tb) (hse : Cond.selects Cn y y ∈ gm_tb) (ho : va_O Cn b A s s.heap) (hrc : rm.cells = 0) (hrs : rm.slots = 0) (hR : rm.frames + 1 ≤ R.frames ∧ 8 + (maxL + 11) + rm.locals ≤ R.locals)
    (hn : As.length = n) (hst : st0 = As.reverse ++ .ref b :: rest) (hcat : (rest.map fun v => v.category).sum ≤ 8) (hdg : decode cc pc = .ok (.invokevirtual idx, 3))
    (kk : ∀ (H1 : Heap) (locs1 : List Loc), wd G Z u A s.heap H1 locs1 → W p l e R s m args below meth c H1 locs1 0 0 Q (F0 m (pc + 3) ls (res.toList ++ rest))) : W p l e R s m args below meth c H locs 0 0 Q (F0 m pc ls st0) := by
  obtain ⟨cell, o1, o2, o3, -⟩ := ho.kept hw.2.2.1.2.1
  refine gm_go (u := u) (rest := rest) (a := (Value.ref b :: As).toArray) (va_runV (As := As) (rest := rest) (b := b) ⟨C.1, C.2.1, C.2.2.1, C.2.2.2.1, C.2.2.2.2.1⟩ (hM H.size) ⟨gm_cb C cw hrc hrs hR, C.2.2.2.2.1 _ hin, C.2.2.2.2.1 _ hse⟩ ⟨gm_blindX hcl, ⟨cell, o1, o2, o3⟩, fun U hU hW => ⟨rfl, ⟨by rw [hU], by rw [hU]; exact hw.1, va_K.moved hW.alike C.2.2.2.2.2.1, hw.2.1.weaken (fun _ _ _ _ => trivial), C.2.2.2.2.2.2.2.2.go hw.2.2.1 (gm_sub hw) hW hU⟩, hcl.1 _ _ _ _ _ _ hX hw.2.2.1 (gm_sub hw) hW hU⟩⟩ rfl hn hl.1 hst (lv_room hcat) hdg ⟨Nat.zero_le _, Nat.zero_le _⟩) rfl hw kk
theorem gm_callXS (C : gm_C p s m meth c args Z A cc nL own ret) (hw : wd G Z u A s.heap H locs) {lv : List (Nat × Value)} (hl : lv_has ls nL lv) {idx n : Nat} {y : MethodName} {bytes : ByteArray} {maxL : Nat} {rt : Option FieldType} {rm : Room} {As : List Value} {res : Option Value} (hcl : gm_cl Xp) (hX : Xp A s s.heap)
    (hM : gm_MetX l G Z y bytes maxL rt rm As u res Xp) (cw : gm_cw own idx y bytes maxL rt n) (hin : Cond.static y ∈ gm_tb) (hrc : rm.cells = 0) (hrs : rm.slots = 0) (hR : rm.frames + 1 ≤ R.frames ∧ 8 + (maxL + 11) + rm.locals ≤ R.locals)
    (hn : As.length = n) (hst : st0 = As.reverse ++ rest) (hcat : (rest.map fun v => v.category).sum ≤ 8) (hdg : decode cc pc = .ok (.invokestatic idx, 3))
    (kk : ∀ (H1 : Heap) (locs1 : List Loc), wd G Z u A s.heap H1 locs1 → W p l e R s m args below meth c H1 locs1 0 0 Q (F0 m (pc + 3) ls (res.toList ++ rest))) : W p l e R s m args below meth c H locs 0 0 Q (F0 m pc ls st0) := by
  refine gm_go (u := u) (rest := rest) (a := As.toArray) (va_runS (As := As) (rest := rest) ⟨C.1, C.2.1, C.2.2.1, C.2.2.2.1, C.2.2.2.2.1⟩ (hM H.size) ⟨gm_cb C cw hrc hrs hR, C.2.2.2.2.1 _ hin⟩ ⟨gm_blindX hcl, fun U hU hW => ⟨rfl, ⟨by rw [hU], by rw [hU]; exact hw.1, va_K.moved hW.alike C.2.2.2.2.2.1, hw.2.1.weaken (fun _ _ _ _ => trivial), C.2.2.2.2.2.2.2.2.go hw.2.2.1 (gm_sub hw) hW hU⟩, hcl.1 _ _ _ _ _ _ hX hw.2.2.1 (gm_sub hw) hW hU⟩⟩ rfl hn hl.1 hst (lv_room hcat) hdg ⟨Nat.zero_le _, Nat.zero_le _⟩) rfl hw kk
end GX
/-- the text of the words: its cell q, its bytes' cell t -/
def gm_sx (q t : Nat) : (Nat → Prop) → State → Heap → Prop := fun A U H => va_O "java/lang/String" q A U H ∧ va_OF "java/lang/String" "coder" "B" (.int 0) q A U H ∧ va_OF "java/lang/String" "value" "[B" (.ref t) q A U H ∧ va_T .byte t 120 (fun j => .int (gm_byt.getD j 0)) A U H
theorem gm_sx_cl (q t : Nat) : gm_cl (gm_sx q t) := by
  refine ⟨fun A B s U H locs h hS hAB hW hU => ?_, fun A U V H hv h => ?_⟩
  · obtain ⟨h1, h2, h3, h4⟩ := h
    subst hU
    exact ⟨((h1.kept hS.2.1).narrow hAB).moved hW.alike, ((h2.kept hS.2.1).narrow hAB).moved hW.alike, ((h3.kept hS.2.1).narrow hAB).moved hW.alike, ((h4.kept hS.2.1).narrow hAB).moved hW.alike⟩
  · obtain ⟨h1, h2, h3, h4⟩ := h
    have ha : U.vm.Alike V.vm := by rw [hv]; exact Vm.Alike.refl _
    exact ⟨h1.moved ha, h2.moved ha, h3.moved ha, h4.moved ha⟩
theorem gm_V.str {A : Nat → Prop} {s : State} (h : gm_V A s s.heap) : ∃ q t, vk_R RX9 71 gm_txt q s ∧ gm_sx q t A s s.heap := by
  obtain ⟨-, adK, adV, h2, h3, -⟩ := h
  exact ⟨adK 0, adV 0, h2, h3.1 0 (by omega)⟩
