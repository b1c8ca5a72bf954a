theorem gm_DN {S : List (Nat ⊕ (Nat × Nat))} {Z : gm_Z} {u : gm_M} {A : Nat → Prop} {B n : Nat} (hB : ∀ r, Z.2.2 (r + 1) = B + r) (hA : ∀ r, r < n → A (B + r)) : va_D A (gm_ws (gm_T S n) Z u) := by
  have key : ∀ (k : Nat) (q : Nat × va_E), (gm_ws (gm_T S n) Z u)[k]? = some q → k < n ∧ q.1 = B + k := by
    intro k q hk
    obtain ⟨h1, h2⟩ := gm_ad hk
    refine ⟨?_, h2.trans (hB k)⟩
    have h3 : k < (S.take n).length := h1
    rw [List.length_take] at h3
    omega
  refine ⟨fun i j x y hi hj hxy => ?_, fun k q hk => ?_⟩
  · have a := key i x hi
    have b := key j y hj
    omega
  · obtain ⟨a, b⟩ := key k q hk
    rw [b]; exact hA k a
section GN2
variable {p : Program} {l : Launch} {e : Env} {R : Room} {s : State} {m : MethodId} {args : Array Value} {below : List Frame} {meth : Method} {c : Code} {H : Heap} {locs : List Loc} {cells slots : Nat} {Q : State → Prop}
variable {cc : ByteArray} {nL : Nat} {own : String} {ret : Option FieldType} {pc : Nat} {ls : Array Slot} {rest st0 : List Value} {S : List (Nat ⊕ (Nat × Nat))} {Z : gm_Z} {u u' u0 : gm_M} {A : Nat → Prop} {B n n' n0 : Nat} {G : gm_G}
/-- a new cell that is an array -/
theorem gm_pushA (hw : wd (gm_T S n) Z u A s.heap H locs) (hB : ∀ r, Z.2.2 (r + 1) = B + r) (hsz : H.size = B + n) {t N : Nat} (hS : S[n]? = some (.inr (t, N))) {H1 : Heap} (e1 : H1[H.size]? = some (vp_cell (Z.2.1 t) (N, gm_ar Z u (n + 1) t))) (z1 : H1.size = H.size + 1) (o1 : ∀ q, q < H.size → H1[q]? = H[q]?) : wd (gm_T S (n + 1)) Z u A s.heap H1 locs := by
  obtain ⟨hP, hD, hSS, hA⟩ := hw
  have had : Z.2.2 (n + 1) = H.size := by rw [hB n, hsz]
  have hws := gm_Tws (Z := Z) (u := u) hS
  have hk : ∀ (k : Nat) (x : Nat × va_E), (gm_ws (gm_T S n) Z u)[k]? = some x → H1[x.1]? = H[x.1]? := fun k x hx => o1 x.1 ((hP k x hx).lt)
  refine ⟨?_, ?_, ⟨Nat.le_trans hSS.1 (by omega), fun x h1 h2 => (o1 x (Nat.lt_of_lt_of_le h1 hSS.1)).trans (hSS.2.1 x h1 h2), hSS.2.2⟩, hA⟩
  · rw [hws]
    refine (hP.kept hk).app (fun k x hx => ?_)
    have hz : k < 1 := (List.getElem?_eq_some_iff.mp hx).1
    rw [show k = 0 by omega] at hx
    cases hx
    show H1[Z.2.2 (n + 1)]? = _
    rw [had]
    exact e1
  · rw [hws]
    exact hD.push hP had (by rw [had]; exact hA _ hSS.1)
theorem gm_newaS (C : gm_C p s m meth c args Z A cc nL own ret) (hw : wd (gm_T S n) Z u A s.heap H locs) (hz : gm_z n u) (hB : ∀ r, Z.2.2 (r + 1) = B + r) (hsz : H.size = B + n) {t N : Nat} {atype : ArrayType} {ty : FieldType} (hS : S[n]? = some (.inr (t, N))) (hat : newarray.typeOf atype = ty) (ht : (gm_tys Z)[t]? = some (Z.2.1 t, ty)) (hra : va_RA s (Z.2.1 t) ty = (s.vm.findClass ("[" ++ ty.toString) = some (Z.2.1 t))) (harr : Cond.arrayClass ty ∈ gm_tb)
    (hd : ∀ cA, vp_cell cA (N, gm_ar Z u (n + 1) t) = arrV cA N (fun _ => defaultValue ty)) {v : Int32} (hn : ¬ v < 0) (hN : v.toNatClampNeg = N) (hbytes : N * componentBytes ty ≤ 536870912) (hcells : cells + 1 ≤ R.cells) (hslots : slots + N ≤ R.slots) (hdg : decode cc pc = .ok (.newarray atype, 2))
    (kk : ∀ H1 : Heap, wd (gm_T S (n + 1)) Z u A s.heap H1 locs → W p l e R s m args below meth c H1 locs (cells + 1) (slots + N) Q (F0 m (pc + 2) ls (rv Z (n + 1) :: rest))) : W p l e R s m args below meth c H locs cells slots Q (F0 m pc ls (.int v :: rest)) := by
  subst hat
  have had : Z.2.2 (n + 1) = H.size := by rw [hB n, hsz]
  refine va_newaK C.1 C.2.1 (C.2.2.2.2.1 _ harr) rfl hdg rfl hn hN hbytes hcells hslots rfl (fun H1 cA e1 z1 o1 _ hf => ?_)
  have hcA : cA = Z.2.1 t := by
    have h2 := (C.2.2.2.2.2.1.2 t _ ht).2
    rw [hra] at h2
    exact Option.some.inj (hf.symm.trans h2)
  subst hcA
  rw [show (Value.ref H.size :: rest) = rv Z (n + 1) :: rest from by rw [← had]; rfl]
  exact kk H1 (gm_pushA hw hB hsz hS (by rw [hd]; exact e1) z1 o1)
theorem gm_newqS (C : gm_C p s m meth c args Z A cc nL own ret) (hw : wd (gm_T S n) Z u A s.heap H locs) (hz : gm_z n u) (hB : ∀ r, Z.2.2 (r + 1) = B + r) (hsz : H.size = B + n) {t N idx : Nat} {Cn : String} (hS : S[n]? = some (.inr (t, N))) (ht : (gm_tys Z)[t]? = some (Z.2.1 t, .object Cn)) (hcl : Cond.classLink own idx Cn ∈ gm_tb) (hov : va_AO Cn s)
    (hd : ∀ cA, vp_cell cA (N, gm_ar Z u (n + 1) t) = arrV cA N (fun _ => .null)) {v : Int32} (hn : ¬ v < 0) (hN : v.toNatClampNeg = N) (hbytes : N * 4 ≤ 536870912) (hcells : cells + 1 ≤ R.cells) (hslots : slots + N ≤ R.slots) (hdg : decode cc pc = .ok (.anewarray idx, 3))
    (kk : ∀ H1 : Heap, wd (gm_T S (n + 1)) Z u A s.heap H1 locs → W p l e R s m args below meth c H1 locs (cells + 1) (slots + N) Q (F0 m (pc + 3) ls (rv Z (n + 1) :: rest))) : W p l e R s m args below meth c H locs cells slots Q (F0 m pc ls (.int v :: rest)) := by
  subst hN
  have had : Z.2.2 (n + 1) = H.size := by rw [hB n, hsz]
  refine W.anew C.1 C.2.1 C.2.2.2.1 (C.2.2.2.2.1 _ hcl) (va_AO.use hov) rfl hdg rfl hn hbytes hcells hslots fun cA kA comp f1 f2 f3 f4 => ?_
  have hcA : cA = Z.2.1 t := by
    obtain ⟨_, _, _, _, _, h2⟩ := (C.2.2.2.2.2.1.2 t _ ht).2
    exact Option.some.inj (f1.symm.trans h2)
  subst hcA
  generalize hH1 : H.push ({ cls := Z.2.1 t, slots := Array.replicate v.toNatClampNeg .null, vm := .none } : Cell) = H1
  have z1 : H1.size = H.size + 1 := by rw [← hH1, Array.size_push]
  have e1 : H1[H.size]? = some (arrV (Z.2.1 t) v.toNatClampNeg (fun _ => .null)) := by rw [← hH1, Array.getElem?_push_size, ← arrV_new]
  have o1 : ∀ q : Nat, q < H.size → H1[q]? = H[q]? := fun q hq => by rw [← hH1, Array.getElem?_push, if_neg (Nat.ne_of_lt hq)]
  rw [show (Value.ref H.size :: rest) = rv Z (n + 1) :: rest from by rw [← had]; rfl]
  exact kk H1 (gm_pushA hw hB hsz hS (by rw [hd]; exact e1) z1 o1)
/-- a final reference, in its constructor -/
def gm_ff (ci k : Nat) (own : String) (ty : FieldType) : Prop := ∃ (C : String) (T : u_T) (N : Nat) (ty0 : Nat → FieldType), vwCl[ci]? = some (C, T, N) ∧ (∀ k, k < N → parseFieldDescriptor (T k).2.2.1 = some (ty0 k)) ∧ (∀ a, a < N → ∀ b, b < N → a ≠ b → (T a).2.1 ≠ (T b).2.1) ∧ (T k).2.2.2 = true ∧ (T k).1 = own ∧ parseFieldDescriptor (T k).2.2.1 = some ty
def gm_fo (own : String) (idx ci k : Nat) : Prop := ∃ (C : String) (T : u_T) (N : Nat), vwCl[ci]? = some (C, T, N) ∧ k < N ∧ Cond.fieldLink own idx (T k).1 (T k).2.1 (T k).2.2.1 ∈ gm_tb ∧ ∀ w ∈ u_ws C T N, w ∈ gm_tb
theorem gm_putF (C : gm_C p s m meth c args Z A cc nL own ret) (hin : meth.name = "<init>") (hw : wd G Z u A s.heap H locs) {r ci k idx : Nat} (hs : gm_sh G r = some (.inl ci)) (hf : gm_fo own idx ci k) {ty : FieldType} (hp : gm_ff ci k own ty) (hdg : decode cc pc = .ok (.putfield idx, 3)) (hk : G.1 ci k = 2) {v : Nat}
    (hn : narrow ty (rv Z v) = rv Z v) (hfit : fits ty (rv Z v) = true) (kk : ∀ (H1 : Heap) (locs1 : List Loc), wd G Z (sR u r k v) A s.heap H1 locs1 → W p l e R s m args below meth c H1 locs1 cells slots Q (F0 m (pc + 3) ls rest)) : W p l e R s m args below meth c H locs cells slots Q (F0 m pc ls (rv Z v :: rv Z r :: rest)) := by
  obtain ⟨hx, hb, hml, hown, hts, hK, -, -, hV⟩ := C
  obtain ⟨C, T, N, hc, hk1, hl, hu⟩ := hf
  obtain ⟨C', T', N', ty0, hc', hty, hnm, hfin, hdecl, hd⟩ := hp
  cases hc.symm.trans hc'
  cases r with
  | zero => cases hs
  | succ r =>
    have hN := gm_N_eq hc
    obtain ⟨hP, hD, hS, hA⟩ := hw
    have hx' : gm_fv G Z (sR u (r + 1) k v) (r + 1) ci k = rv Z v := by simp [gm_fv, hk, gR, sR]
    have ho : ∀ j, j ≠ k → gm_fv G Z (sR u (r + 1) k v) (r + 1) ci j = gm_fv G Z u (r + 1) ci j := fun j hj => by simp [gm_fv, gI, gJ, gR, sR, hj]
    have he : (gm_ws G Z u).set r (Z.2.2 (r + 1), .inr (ci, (gm_fs G Z u (r + 1) ci).set k (rv Z v))) = gm_ws G Z (sR u (r + 1) k v) :=
      gm_set hs (by show gm_ce G Z _ (r + 1) (.inl ci) = _; simp only [gm_ce, gm_fs_set hx' ho]) (fun b hb => ⟨rfl, rfl, sR_ne hb⟩)
    · refine va_putF (D := Z.1) (fs := gm_fs G Z u (r + 1) ci) hx hb hts hu ty0 hty hnm hown hK hP hD hS r (gm_at hs) hc k hk1 (hts _ hl) (fun _ h9 => h9) hfin hin hdecl hd hn hfit (by simpa [gm_fs, hN] using hk1) hdg (fun H1 locs1 h1 h2 h3 => ?_)
      rw [he] at h1 h2
      exact kk H1 locs1 ⟨h1, h2, h3, hA⟩
theorem gm_aload_nS (C : gm_C p s m meth c args Z A cc nL own ret) {k : Fin 4} {i r : Nat} (hdg : decode cc pc = .ok (.aload_n k, 1)) (hi : (k : Nat) = i) (hl : ls[i]? = some (.val (rv Z (r + 1))))
    (kk : W p l e R s m args below meth c H locs cells slots Q (F0 m (pc + 1) ls (rv Z (r + 1) :: rest))) : W p l e R s m args below meth c H locs cells slots Q (F0 m pc ls rest) := lv_aload_n C.1 C.2.1 hdg hi hl kk
theorem gm_objS (C : gm_C p s m meth c args Z A cc nL own ret) {lv : List (Nat × Value)} (hl : lv_has ls nL lv) {idx r : Nat} (h1 : Cond.methodLink own idx Lib.objectInit ∈ gm_tb) (h2 : Cond.instanceMethod Lib.objectInit ∈ gm_tb) (h3 : Cond.code Lib.objectInit ⟨#[0xb1]⟩ 1 none ∈ gm_tb) (hf : 1 ≤ R.frames) (hlo : 20 ≤ R.locals) (hcat : (rest.map fun v => v.category).sum ≤ 8) (hdg : decode cc pc = .ok (.invokespecial idx, 3))
    (kk : W p l e R s m args below meth c H locs cells slots Q (F0 m (pc + 3) ls rest)) : W p l e R s m args below meth c H locs cells slots Q (F0 m pc ls (rv Z (r + 1) :: rest)) :=
  W.objInit C.1 C.2.1 C.2.2.2.1 (C.2.2.2.2.1 _ h1) (C.2.2.2.2.1 _ h2) (C.2.2.2.2.1 _ h3) rfl (by rw [C.2.2.1]; exact hl.1) rfl hdg hf (by have := lv_room (m := m) (pc := pc) (ls := ls) (rest := rest) hcat; show 2 * 0 + _ + 12 ≤ _; omega) kk
theorem gm_vretN (C : gm_C p s m meth c args Z A cc nL own ret) {mc ms : Nat} (E : gm_EN S Z n0 u0 n' u' mc ms A below args s Q) (hw : wd (gm_T S n') Z u A s.heap H locs) (hr : ret = none) (hu : u' = u) (h1 : cells ≤ mc) (h2 : slots ≤ ms) (hdg : decode cc pc = .ok (.return_, 1)) : W p l e R s m args below meth c H locs cells slots Q (F0 m pc ls []) := by
  obtain ⟨rfl, rfl⟩ := E
  subst hu; subst hr
  refine W.widen (k := mc) (n := ms) h1 h2 ?_
  exact W.vret C.1 C.2.1 C.2.2.2.2.2.2.1 (fun t ht _ => ⟨⟨rfl, by rw [ht]; exact hw.1⟩, hw.2.2.1.F ht⟩) hw.2.2.1.2.2 hdg (hlocks := C.2.2.2.2.2.2.2.1)
theorem gm_goN {a : Array Value} {sz mc ms : Nat} (hr : va_Run p l e R s m args below meth c H locs cells slots mc ms (F0 m pc ls st0) rest (gm_QN S Z n u n' u' sz a) (va_A (gm_ws (gm_T S n) Z u) sz)) (hsz : sz = H.size) (hw : wd (gm_T S n) Z u A s.heap H locs) (hB : ∀ r, Z.2.2 (r + 1) = B + r) (hHn : H.size = B + n)
    (kk : ∀ (H1 : Heap) (locs1 : List Loc), wd (gm_T S n') Z u' A s.heap H1 locs1 → W p l e R s m args below meth c H1 locs1 (cells + mc) (slots + ms) Q (F0 m (pc + 3) ls rest)) (hnl : n ≤ S.length) : W p l e R s m args below meth c H locs cells slots Q (F0 m pc ls st0) := by
  subst hsz
  have hA := gm_sub hw
  obtain ⟨hP, hD, hS, hA0⟩ := hw
  intro T hT X
  obtain ⟨v, st₀, t, T', L, h0, X', hL, e1, e2, ⟨⟨hv, hP'⟩, hz, hk⟩, st⟩ := hr T hT X
  cases hv
  rw [h0] at hz hk
  have hAA : ∀ r, r < n' → A (B + r) := fun r _ => by
    by_cases hrn : r < n
    · obtain ⟨x, hx⟩ : ∃ x, S[r]? = some x := ⟨_, List.getElem?_eq_getElem (by omega)⟩
      have := hD.2 r _ (gm_at (gm_Tsh hx hrn))
      rw [← hB r]; exact this
    · exact hA0 _ (Nat.le_trans hS.1 (by omega))
  obtain ⟨t2, a1, b1⟩ := kk T'.heap (locs ++ L) ⟨by rw [e1]; exact hP', gm_DN hB hAA, ⟨Nat.le_trans hS.1 (by rw [e1]; exact hz), fun q h1 h2 => by rw [e1, hk q (Nat.lt_of_lt_of_le h1 hS.1) (fun z => h2 (hA q z))]; exact hS.2.1 q h1 h2, fun q hq => by
      rcases List.mem_append.mp hq with h | h
      · exact hS.2.2 q h
      · exact hA _ (hL q h)⟩, hA0⟩ T' rfl X'
  exact ⟨t2, st t2 a1, b1⟩
theorem gm_blindN {av : List Value} {sz : Nat} : FrameBlind (va_Pc av (gm_PN S Z n u sz)) := fun a U g mk q => by
  obtain ⟨q0, ⟨q1, qP, qK, qD, qV⟩, qU⟩ := q
  exact ⟨q0, ⟨q1, qP, va_K.moved (u := U) (U := U.calling g mk a) (Vm.Alike.refl U.vm) qK, qD, gm_V.blind (U := U) rfl qV⟩, fun x hx => va_Nw.same rfl rfl (qU x hx)⟩
theorem gm_preN (C : gm_C p s m meth c args Z A cc nL own ret) (hU : gm_U s) (hw : wd (gm_T S n) Z u A s.heap H locs) (hsz : H.size = B + n) {av : List Value} : PreS s H (va_Pc av (gm_PN S Z n u (B + n))) av :=
  ⟨gm_blindN, fun U hE hW => ⟨rfl, ⟨by rw [hE, hsz], by rw [hE]; exact hw.1, va_K.moved hW.alike C.2.2.2.2.2.1, hw.2.1.weaken (fun _ _ _ _ => trivial), by rw [← hsz]; exact C.2.2.2.2.2.2.2.2.go hw.2.2.1 (gm_sub hw) hW hE⟩, fun x hx => va_Nw.warmM hW (hU x hx)⟩⟩
/-- a constructor calls another class's private one -/
theorem gm_callIN (C : gm_C p s m meth c args Z A cc nL own ret) (hU : gm_U s) (hw : wd (gm_T S n) Z u A s.heap H locs) (hB : ∀ r, Z.2.2 (r + 1) = B + r) (hsz : H.size = B + n) (hnl : n ≤ S.length) {lv : List (Nat × Value)} (hl : lv_has ls nL lv) {idx k : Nat} {y : MethodName} {host : String} {bytes : ByteArray} {maxL : Nat} {rm : Room} {r : Nat} {As : List Value}
    (hM : gm_MetN l S Z B y bytes maxL rm (rv Z (r + 1) :: As) n u n' u') (hlk : (own, idx, y, host) ∈ gm_mb) (hini : Cond.initialized y.cls ∈ gm_tb) (hcode : Cond.code y bytes maxL none ∈ gm_tb) (hy : y.cls ≠ "java/lang/invoke/MethodHandle" ∧ y.cls ≠ "java/lang/invoke/VarHandle" ∧ (parseMethodDescriptor y.desc).map (fun d => d.parameters.length) = some k) (hyn : y.name = "<init>") (hin : Cond.instanceMethod y ∈ gm_tb) (hR : rm.frames + 1 ≤ R.frames ∧ 8 + (maxL + 11) + rm.locals ≤ R.locals) (hcs : cells + rm.cells ≤ R.cells ∧ slots + rm.slots ≤ R.slots)
    (hn : As.length = k) (hst : st0 = As.reverse ++ rv Z (r + 1) :: rest) (hcat : (rest.map fun v => v.category).sum ≤ 8) (hdg : decode cc pc = .ok (.invokespecial idx, 3))
    (kk : ∀ (H1 : Heap) (locs1 : List Loc), wd (gm_T S n') Z u' A s.heap H1 locs1 → W p l e R s m args below meth c H1 locs1 (cells + rm.cells) (slots + rm.slots) Q (F0 m (pc + 3) ls rest)) : W p l e R s m args below meth c H locs cells slots Q (F0 m pc ls st0) := by
  refine gm_goN (rest := rest) (a := (rv Z (r + 1) :: As).toArray) (va_runIN (As := As) (rest := rest) (b := Z.2.2 (r + 1)) (host := host) ⟨C.1, C.2.1, C.2.2.1, C.2.2.2.1, C.2.2.2.2.1⟩ hM ⟨va_cnB k C.2.2.2.2.1 (gm_good y bytes maxL none hcode) rfl rfl rfl (hU _ hlk) (C.2.2.2.2.1 _ hini) hy hR, hyn, C.2.2.2.2.1 _ hin⟩ (gm_preN C hU hw hsz) rfl hn hl.1 hst (lv_room hcat) hdg hcs) hsz.symm hw hB hsz kk hnl
/-- and one that isn't private -/
theorem gm_callI (C : gm_C p s m meth c args Z A cc nL own ret) (hU : gm_U s) (hw : wd (gm_T S n) Z u A s.heap H locs) (hB : ∀ r, Z.2.2 (r + 1) = B + r) (hsz : H.size = B + n) (hnl : n ≤ S.length) {lv : List (Nat × Value)} (hl : lv_has ls nL lv) {idx k : Nat} {y : MethodName} {bytes : ByteArray} {maxL : Nat} {rm : Room} {r : Nat} {As : List Value}
    (hM : gm_MetN l S Z B y bytes maxL rm (rv Z (r + 1) :: As) n u n' u') (cw : gm_cw own idx y bytes maxL none k) (hyn : y.name = "<init>") (hin : Cond.instanceMethod y ∈ gm_tb) (hR : rm.frames + 1 ≤ R.frames ∧ 8 + (maxL + 11) + rm.locals ≤ R.locals) (hcs : cells + rm.cells ≤ R.cells ∧ slots + rm.slots ≤ R.slots)
    (hn : As.length = k) (hst : st0 = As.reverse ++ rv Z (r + 1) :: rest) (hcat : (rest.map fun v => v.category).sum ≤ 8) (hdg : decode cc pc = .ok (.invokespecial idx, 3))
    (kk : ∀ (H1 : Heap) (locs1 : List Loc), wd (gm_T S n') Z u' A s.heap H1 locs1 → W p l e R s m args below meth c H1 locs1 (cells + rm.cells) (slots + rm.slots) Q (F0 m (pc + 3) ls rest)) : W p l e R s m args below meth c H locs cells slots Q (F0 m pc ls st0) := by
  refine gm_goN (rest := rest) (a := (rv Z (r + 1) :: As).toArray) (va_runI (As := As) (rest := rest) (b := Z.2.2 (r + 1)) ⟨C.1, C.2.1, C.2.2.1, C.2.2.2.1, C.2.2.2.2.1⟩ hM ⟨callB_of k C.2.2.2.2.1 (gm_good y bytes maxL none cw.2.2.1) rfl rfl rfl (C.2.2.2.2.1 _ cw.2.1) (C.2.2.2.2.1 _ cw.1) cw.2.2.2 hR, hyn, C.2.2.2.2.1 _ hin⟩ (gm_preN C hU hw hsz) rfl hn hl.1 hst (lv_room hcat) hdg hcs) hsz.symm hw hB hsz kk hnl
/-- a method that makes nothing, called while the world grows -/
theorem gm_callNV (C : gm_C p s m meth c args Z A cc nL own ret) (hU : gm_U s) (hw : wd (gm_T S n) Z u A s.heap H locs) (hB : ∀ r, Z.2.2 (r + 1) = B + r) (hsz : H.size = B + n) (hnl : n ≤ S.length) {lv : List (Nat × Value)} (hl : lv_has ls nL lv) {idx k ci : Nat} {y : MethodName} {bytes : ByteArray} {maxL : Nat} {rm : Room} {r : Nat} {As : List Value}
    (hM : gm_MetN l S Z B y bytes maxL rm (rv Z (r + 1) :: As) n u n' u') (cw : gm_cw own idx y bytes maxL none k) (hin : Cond.instanceMethod y ∈ gm_tb) {q : vw_C} (hc : vwCl[ci]? = some q) (hse : Cond.selects q.1 y y ∈ gm_tb) (hs : gm_sh (gm_T S n) (r + 1) = some (.inl ci)) (hR : rm.frames + 1 ≤ R.frames ∧ 8 + (maxL + 11) + rm.locals ≤ R.locals) (hcs : cells + rm.cells ≤ R.cells ∧ slots + rm.slots ≤ R.slots)
    (hn : As.length = k) (hst : st0 = As.reverse ++ rv Z (r + 1) :: rest) (hcat : (rest.map fun v => v.category).sum ≤ 8) (hdg : decode cc pc = .ok (.invokevirtual idx, 3))
    (kk : ∀ (H1 : Heap) (locs1 : List Loc), wd (gm_T S n') Z u' A s.heap H1 locs1 → W p l e R s m args below meth c H1 locs1 (cells + rm.cells) (slots + rm.slots) Q (F0 m (pc + 3) ls rest)) : W p l e R s m args below meth c H locs cells slots Q (F0 m pc ls st0) := by
  refine gm_goN (rest := rest) (a := (rv Z (r + 1) :: As).toArray) (va_runV (As := As) (rest := rest) (b := Z.2.2 (r + 1)) ⟨C.1, C.2.1, C.2.2.1, C.2.2.2.1, C.2.2.2.2.1⟩ hM ⟨callB_of k C.2.2.2.2.1 (gm_good y bytes maxL none cw.2.2.1) rfl rfl rfl (C.2.2.2.2.1 _ cw.2.1) (C.2.2.2.2.1 _ cw.1) cw.2.2.2 hR, C.2.2.2.2.1 _ hin, C.2.2.2.2.1 _ hse⟩ ⟨gm_blindN, va_recv C.2.2.2.2.2.1 hw.1 hc (gm_at hs), (gm_preN C hU hw hsz).2⟩ rfl hn hl.1 hst (lv_room hcat) hdg hcs) hsz.symm hw hB hsz kk hnl
end GN2
