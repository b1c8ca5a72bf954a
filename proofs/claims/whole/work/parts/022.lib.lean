/-- how a method ends: its answer, its world, nothing else changed -/
def gm_Q (G : gm_G) (Z : gm_Z) (u u' : gm_M) (sz : Nat) (res : Option Value) : Array Value → State → Outcome → State → Prop := fun _ st oc t => (oc = .returned res ∧ va_P Z.1 vwCl (gm_ws G Z u') t.heap) ∧ va_F (va_A (gm_ws G Z u) sz) st t
/-- how it begins -/
def gm_P (G : gm_G) (Z : gm_Z) (u : gm_M) (sz : Nat) : State → Prop := fun U => U.heap.size = sz ∧ va_P Z.1 vwCl (gm_ws G Z u) U.heap ∧ va_K Z.1 vwCl (gm_tys Z) U ∧ va_D (fun _ => True) (gm_ws G Z u) ∧ gm_V (va_A (gm_ws G Z u) sz) U U.heap
/-- a method's contract: from the memory u, with the arguments av, it answers res and leaves the memory u' -/
def gm_Met (l : Launch) (G : gm_G) (Z : gm_Z) (y : MethodName) (cc : ByteArray) (maxL : Nat) (ret : Option FieldType) (rm : Room) (av : List Value) (u : gm_M) (res : Option Value) (u' : gm_M) : Prop :=
  ∀ sz : Nat, Met l y (.code y cc maxL ret :: gm_tb) rm (va_Pc av (gm_P G Z u sz)) (gm_Q G Z u u' sz res) 0 0 (va_A (gm_ws G Z u) sz)
/-- the end that a walk has to reach -/
def gm_E (G : gm_G) (Z : gm_Z) (u u' : gm_M) (res : Option Value) (A : Nat → Prop) (below : List Frame) (args : Array Value) (s : State) (Q : State → Prop) : Prop :=
  Q = MQ below (gm_Q G Z u u' s.heap.size res) args s 0 0 (va_A (gm_ws G Z u) s.heap.size) ∧ A = va_A (gm_ws G Z u) s.heap.size
theorem gm_ofW {l : Launch} {G : gm_G} {Z : gm_Z} {y : MethodName} {cc : ByteArray} {maxL : Nat} {ret : Option FieldType} {rm : Room} {av : List Value} {u u' : gm_M} {res : Option Value} (hy : plainName y.cls = true) (hav : (lg_sl av).length ≤ maxL)
    (body : ∀ (p : Program) (e : Env) (s : State) (m : MethodId) (args : Array Value) (below : List Frame) (meth : Method) (c : Code) (A : Nat → Prop) (ls : Array Slot) (Q : State → Prop) (R : Room), rm.frames ≤ R.frames → rm.locals ≤ R.locals → gm_C p s m meth c args Z A cc maxL y.cls ret → gm_E G Z u u' res A below args s Q → lv_has ls maxL (lv_args 0 av) → wd G Z u A s.heap s.heap [] →
      W p l e R s m args below meth c s.heap [] 0 0 Q (F0 m 0 ls [])) : gm_Met l G Z y cc maxL ret rm av u res u' := by
  intro sz
  refine Met.ofW (cc := cc) (maxL := maxL) (ret := ret) hy rfl ?_
  intro p e s m args below meth c s₁ B hml hv
  obtain ⟨rfl, hsz, hP, hK, hD0, hV⟩ := hv
  have hts := atoms_spec (ws := .code y cc maxL ret :: gm_tb) B.pre
  have hown : s.vm.findClass y.cls = some m.cls := findClass_of_methodNamed B.named
  subst hsz
  have hl := lv_entry av (n := maxL) hav
  rw [lg_entry_eq]
  generalize (lg_sl av ++ List.replicate (maxL - (lg_sl av).length) Slot.unset).toArray = ls at hl ⊢
  exact body p e s m av.toArray below meth c (va_A (gm_ws G Z u) s.heap.size) ls _ rm (Nat.le_refl _) (Nat.le_refl _) ⟨B.exec, B.bytes, hml, hown, fun w h => hts w (List.mem_cons_of_mem _ h), hK, B.returns, B.notSynchronized, hV⟩ ⟨rfl, rfl⟩ hl ⟨hP, hD0.self, va_S.rf, fun q h => Or.inr h⟩
section GM3
variable {p : Program} {l : Launch} {e : Env} {R : Room} {s : State} {m : MethodId} {args : Array Value} {below : List Frame} {meth : Method} {c : Code} {H : Heap} {locs : List Loc} {Q : State → Prop}
variable {cc : ByteArray} {nL : Nat} {own : String} {ret : Option FieldType} {pc : Nat} {ls : Array Slot} {rest st0 : List Value} {G : gm_G} {Z : gm_Z} {u u0 u' : gm_M} {res : Option Value} {A : Nat → Prop} {H0 : Heap}
theorem gm_iret (C : gm_C p s m meth c args Z A cc nL own ret) (E : gm_E G Z u0 u' res A below args s Q) (hw : wd G Z u A s.heap H locs) {v : Int32} (hr : ret = some .int) (hres : res = some (.int v)) (hu : u' = u) (hdg : decode cc pc = .ok (.ireturn, 1)) : W p l e R s m args below meth c H locs 0 0 Q (F0 m pc ls [.int v]) := by
  obtain ⟨rfl, rfl⟩ := E
  subst hres; subst hu; subst hr
  exact W.iret C.1 C.2.1 C.2.2.2.2.2.2.1 (fun t ht _ => ⟨⟨rfl, by rw [ht]; exact hw.1⟩, hw.2.2.1.F ht⟩) hw.2.2.1.2.2 hdg (hlocks := C.2.2.2.2.2.2.2.1)
theorem gm_zret (C : gm_C p s m meth c args Z A cc nL own ret) (E : gm_E G Z u0 u' res A below args s Q) (hw : wd G Z u A s.heap H locs) {v v' : Int32} {ty : FieldType} (hr : ret = some ty) (hn : narrow ty (.int v) = .int v') (hres : res = some (.int v')) (hu : u' = u) (hdg : decode cc pc = .ok (.ireturn, 1)) : W p l e R s m args below meth c H locs 0 0 Q (F0 m pc ls [.int v]) := by
  obtain ⟨rfl, rfl⟩ := E
  subst hres; subst hu; subst hr
  obtain ⟨hexec, hb, hml, hown, hts, hK, hr, hlocks, hV⟩ := C
  intro T hT X
  obtain ⟨fs, hret, hrun, hended, hW, hframe⟩ := X.leave (v := some (.int v')) (fun h => by rw [hr] at h; cases h) (hlocks := hlocks)
  have hmeth' : T.vm.method? m = some meth := X.method'
  refine ⟨T.setFrames fs, ?_, .returned (some (.int v')), hrun, hended, ⟨⟨rfl, by show va_P _ _ _ T.heap; rw [hT]; exact hw.1⟩, hw.2.2.1.F hT⟩, locs, ⟨⟨_, rfl⟩, hW, hframe⟩, hw.2.2.1.2.2⟩
  jvm_step X.here [X.here.top, hexec, hb, hdg, hmeth', hr, hn]
  (try refine ⟨rfl, ?_⟩); (try refine ⟨rfl, ?_⟩)
  first | (intro acts; rw [hret _ acts rfl rfl rfl]) | rw [hret _ _ rfl rfl rfl]
  exact Steps.refl _
theorem gm_lret (C : gm_C p s m meth c args Z A cc nL own ret) (E : gm_E G Z u0 u' res A below args s Q) (hw : wd G Z u A s.heap H locs) {v : Int64} (hr : ret = some .long) (hres : res = some (.long v)) (hu : u' = u) (hdg : decode cc pc = .ok (.lreturn, 1)) : W p l e R s m args below meth c H locs 0 0 Q (F0 m pc ls [.long v]) := by
  obtain ⟨rfl, rfl⟩ := E
  subst hres; subst hu; subst hr
  have hlocks := C.2.2.2.2.2.2.2.1
  exact W.lret C.1 C.2.1 C.2.2.2.2.2.2.1 (fun t ht _ => ⟨⟨rfl, by rw [ht]; exact hw.1⟩, hw.2.2.1.F ht⟩) hw.2.2.1.2.2 hdg
theorem gm_vret (C : gm_C p s m meth c args Z A cc nL own ret) (E : gm_E G Z u0 u' res A below args s Q) (hw : wd G Z u A s.heap H locs) (hr : ret = none) (hres : res = none) (hu : u' = u) (hdg : decode cc pc = .ok (.return_, 1)) : W p l e R s m args below meth c H locs 0 0 Q (F0 m pc ls []) := by
  obtain ⟨rfl, rfl⟩ := E
  subst hres; subst hu; subst hr
  exact W.vret C.1 C.2.1 C.2.2.2.2.2.2.1 (fun t ht _ => ⟨⟨rfl, by rw [ht]; exact hw.1⟩, hw.2.2.1.F ht⟩) hw.2.2.1.2.2 hdg (hlocks := C.2.2.2.2.2.2.2.1)
theorem gm_go {a : Array Value} {res : Option Value} {sz : Nat} (hr : va_Run p l e R s m args below meth c H locs 0 0 0 0 (F0 m pc ls st0) rest (gm_Q G Z u u' sz res a) (va_A (gm_ws G Z u) sz)) (hsz : sz = H.size) (hw : wd G Z u A H0 H locs)
    (kk : ∀ (H1 : Heap) (locs1 : List Loc), wd G Z u' A H0 H1 locs1 → W p l e R s m args below meth c H1 locs1 0 0 Q (F0 m (pc + 3) ls (res.toList ++ rest))) : W p l e R s m args below meth c H locs 0 0 Q (F0 m pc ls st0) := by
  subst hsz
  obtain ⟨hP, hD, hS, hA0⟩ := hw
  have hA : ∀ q, va_A (gm_ws G Z u) H.size q → A q := fun q h => by
    rcases h with ⟨k, x, h⟩ | h
    · exact hD.2 k _ h
    · exact hA0 q (Nat.le_trans hS.1 h)
  intro T hT X
  obtain ⟨v, st₀, t, T', L, h0, X', hL, e1, e2, ⟨⟨hv, hP'⟩, hz, hk⟩, st⟩ := hr T hT X
  cases hv
  rw [h0] at hz hk
  obtain ⟨t2, a1, b1⟩ := kk T'.heap (locs ++ L) ⟨by rw [e1]; exact hP', gm_D hD, ⟨Nat.le_trans hS.1 (by rw [e1]; exact hz), fun q h1 h2 => by rw [e1, hk q (Nat.lt_of_lt_of_le h1 hS.1) (fun z => h2 (hA q z))]; exact hS.2.1 q h1 h2, fun q hq => by
      rcases List.mem_append.mp hq with h | h
      · exact hS.2.2 q h
      · exact hA _ (hL q h)⟩, hA0⟩ T' rfl X'
  exact ⟨t2, st t2 a1, b1⟩
theorem gm_sub (hw : wd G Z u A H0 H locs) : ∀ q, va_A (gm_ws G Z u) H.size q → A q := fun q h => by
  obtain ⟨hP, hD, hS, hA0⟩ := hw
  rcases h with ⟨k, x, h⟩ | h
  · exact hD.2 k _ h
  · exact hA0 q (Nat.le_trans hS.1 h)
/-- the words of a call -/
def gm_cw (own : String) (idx : Nat) (y : MethodName) (bytes : ByteArray) (maxL : Nat) (ret : Option FieldType) (n : Nat) : Prop :=
  Cond.methodLink own idx y ∈ gm_tb ∧ Cond.initialized y.cls ∈ gm_tb ∧ Cond.code y bytes maxL ret ∈ gm_tb ∧ (y.cls ≠ "java/lang/invoke/MethodHandle" ∧ y.cls ≠ "java/lang/invoke/VarHandle" ∧ (parseMethodDescriptor y.desc).map (fun d => d.parameters.length) = some n)
theorem gm_good (y : MethodName) (bytes : ByteArray) (maxL : Nat) (ret : Option FieldType) (h : Cond.code y bytes maxL ret ∈ gm_tb) : GoodIn gm_tb (.code y bytes maxL ret :: gm_tb) := by
  intro w hw
  have hm : w ∈ gm_tb := by
    rcases List.mem_cons.mp hw with h1 | h1
    · rw [h1]; exact h
    · exact h1
  exact ⟨hm, good_of_word (List.mem_filter.mp hm).2⟩
theorem gm_cb {idx : Nat} {y : MethodName} {bytes : ByteArray} {maxL n : Nat} {rt : Option FieldType} {rm : Room} (C : gm_C p s m meth c args Z A cc nL own ret) (cw : gm_cw own idx y bytes maxL rt n) (hrc : rm.cells = 0) (hrs : rm.slots = 0) (hR : rm.frames + 1 ≤ R.frames ∧ 8 + (maxL + 11) + rm.locals ≤ R.locals) :
    CallB R s args own idx y bytes maxL rt (.code y bytes maxL rt :: gm_tb) rm 0 0 n :=
  callB_of n C.2.2.2.2.1 (gm_good y bytes maxL rt cw.2.2.1) rfl hrc hrs (C.2.2.2.2.1 _ cw.2.1) (C.2.2.2.2.1 _ cw.1) cw.2.2.2 hR
theorem gm_blind {av : List Value} {sz : Nat} : FrameBlind (va_Pc av (gm_P G Z u sz)) := fun a U g mk q => by
  obtain ⟨q0, q1, qP, qK, qD, qV⟩ := q
  exact ⟨q0, q1, qP, va_K.moved (u := U) (U := U.calling g mk a) (Vm.Alike.refl U.vm) qK, qD, gm_V.blind (U := U) rfl qV⟩
theorem gm_callV (C : gm_C p s m meth c args Z A cc nL own ret) (hw : wd G Z u A s.heap H locs) {lv : List (Nat × Value)} (hl : lv_has ls nL lv) {idx n : Nat} {y : MethodName} {bytes : ByteArray} {maxL : Nat} {rt : Option FieldType} {rm : Room} {r ci : Nat} {As : List Value} {res : Option Value}
    (hM : gm_Met l G Z y bytes maxL rt rm (rv Z r :: As) u res u') (cw : gm_cw own idx y bytes maxL rt n) (hin : Cond.instanceMethod y ∈ gm_tb) {q : vw_C} (hc : vwCl[ci]? = some q) (hse : Cond.selects q.1 y y ∈ gm_tb) (hs : gm_sh G r = some (.inl ci)) (hrc : rm.cells = 0) (hrs : rm.slots = 0) (hR : rm.frames + 1 ≤ R.frames ∧ 8 + (maxL + 11) + rm.locals ≤ R.locals)
    (hn : As.length = n) (hst : st0 = As.reverse ++ rv Z r :: rest) (hcat : (rest.map fun v => v.category).sum ≤ 8) (hdg : decode cc pc = .ok (.invokevirtual idx, 3))
    (kk : ∀ (H1 : Heap) (locs1 : List Loc), wd G Z u' A s.heap H1 locs1 → W p l e R s m args below meth c H1 locs1 0 0 Q (F0 m (pc + 3) ls (res.toList ++ rest))) : W p l e R s m args below meth c H locs 0 0 Q (F0 m pc ls st0) := by
  cases r with
  | zero => cases hs
  | succ r =>
    refine gm_go (u := u) (rest := rest) (a := (rv Z (r + 1) :: As).toArray) (va_runV (As := As) (rest := rest) (b := Z.2.2 (r + 1)) ⟨C.1, C.2.1, C.2.2.1, C.2.2.2.1, C.2.2.2.2.1⟩ (hM H.size) ⟨gm_cb C cw hrc hrs hR, C.2.2.2.2.1 _ hin, C.2.2.2.2.1 _ hse⟩ ⟨gm_blind, va_recv C.2.2.2.2.2.1 hw.1 hc (gm_at hs), fun U hU hW => ⟨rfl, by rw [hU], by rw [hU]; exact hw.1, va_K.moved hW.alike C.2.2.2.2.2.1, hw.2.1.weaken (fun _ _ _ _ => trivial), C.2.2.2.2.2.2.2.2.go hw.2.2.1 (gm_sub hw) hW hU⟩⟩ rfl hn hl.1 hst (lv_room hcat) hdg ⟨Nat.zero_le _, Nat.zero_le _⟩) rfl hw kk
theorem gm_callS (C : gm_C p s m meth c args Z A cc nL own ret) (hw : wd G Z u A s.heap H locs) {lv : List (Nat × Value)} (hl : lv_has ls nL lv) {idx n : Nat} {y : MethodName} {bytes : ByteArray} {maxL : Nat} {rt : Option FieldType} {rm : Room} {As : List Value} {res : Option Value}
    (hM : gm_Met l G Z y bytes maxL rt rm As u res u') (cw : gm_cw own idx y bytes maxL rt n) (hin : Cond.static y ∈ gm_tb) (hrc : rm.cells = 0) (hrs : rm.slots = 0) (hR : rm.frames + 1 ≤ R.frames ∧ 8 + (maxL + 11) + rm.locals ≤ R.locals)
    (hn : As.length = n) (hst : st0 = As.reverse ++ rest) (hcat : (rest.map fun v => v.category).sum ≤ 8) (hdg : decode cc pc = .ok (.invokestatic idx, 3))
    (kk : ∀ (H1 : Heap) (locs1 : List Loc), wd G Z u' A s.heap H1 locs1 → W p l e R s m args below meth c H1 locs1 0 0 Q (F0 m (pc + 3) ls (res.toList ++ rest))) : W p l e R s m args below meth c H locs 0 0 Q (F0 m pc ls st0) := by
  refine gm_go (u := u) (rest := rest) (a := As.toArray) (va_runS (As := As) (rest := rest) ⟨C.1, C.2.1, C.2.2.1, C.2.2.2.1, C.2.2.2.2.1⟩ (hM H.size) ⟨gm_cb C cw hrc hrs hR, C.2.2.2.2.1 _ hin⟩ ⟨gm_blind, fun U hU hW => ⟨rfl, by rw [hU], by rw [hU]; exact hw.1, va_K.moved hW.alike C.2.2.2.2.2.1, hw.2.1.weaken (fun _ _ _ _ => trivial), C.2.2.2.2.2.2.2.2.go hw.2.2.1 (gm_sub hw) hW hU⟩⟩ rfl hn hl.1 hst (lv_room hcat) hdg ⟨Nat.zero_le _, Nat.zero_le _⟩) rfl hw kk
end GM3
/-! shallow programs -/
def gm_FU : Nat := 100000
def gm_lp {σ ρ : Type} (body : σ → Option (σ ⊕ ρ)) : Nat → σ → Option ρ
  | 0, _ => none
  | n + 1, x => (body x).bind (fun o => match o with
    | .inl y => gm_lp body n y
    | .inr r => some r)
theorem gm_bnd {α β : Type} {x : Option α} {k : α → Option β} {r : β} (h : x.bind k = some r) : ∃ a, x = some a ∧ k a = some r := by
  cases x with
  | none => cases h
  | some a => exact ⟨a, rfl, h⟩
theorem gm_grd {c : Prop} {β : Type} [Decidable c] {x : Option β} {r : β} (h : (if c then x else none) = some r) : c ∧ x = some r := by
  by_cases hc : c
  · rw [if_pos hc] at h; exact ⟨hc, h⟩
  · rw [if_neg hc] at h; cases h
theorem gm_loop {σ ρ : Type} (body : σ → Option (σ ⊕ ρ)) (P : σ → Prop) (X : ρ → Prop) (step : ∀ x o, body x = some o → (∀ y, o = .inl y → P y) → (∀ r, o = .inr r → X r) → P x) : ∀ n x r, gm_lp body n x = some r → X r → P x := by
  intro n
  induction n with
  | zero => intro x r h; cases h
  | succ n ih =>
    intro x r h hX
    obtain ⟨o, h1, h2⟩ := gm_bnd h
    refine step x o h1 (fun y hy => ?_) (fun r' hr => ?_)
    · subst hy; exact ih y r h2 hX
    · subst hr; cases h2; exact hX
