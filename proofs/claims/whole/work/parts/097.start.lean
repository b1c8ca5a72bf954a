theorem cw_L_15 : gm_cw RL 15 yX10_init cX10_init 2 none 0 := ⟨gm_ix 113 (by decide +kernel) rfl, gm_ix 89 (by decide +kernel) rfl, gm_ix 115 (by decide +kernel) rfl, by decide +kernel⟩
theorem cw_L_18 : gm_cw RL 18 yX11_init cX11_init 1 none 0 := ⟨gm_ix 1123 (by decide +kernel) rfl, gm_ix 99 (by decide +kernel) rfl, gm_ix 1125 (by decide +kernel) rfl, by decide +kernel⟩
theorem df_X10 : ∀ j, j < 15 → defaultValue (tyX10 j) = match gm_kd0 9 j with | 0 => .int 0 | 1 => .long 0 | _ => .null := by decide +kernel
theorem df_X11 : ∀ j, j < 57 → defaultValue (tyX11 j) = match gm_kd0 10 j with | 0 => .int 0 | 1 => .long 0 | _ => .null := by decide +kernel
theorem wq_111 : Cond.classLink RL 8 RX10 ∈ gm_tb := gm_ix 111 (by decide +kernel) rfl
theorem wq_89 : Cond.initialized RX10 ∈ gm_tb := gm_ix 89 (by decide +kernel) rfl
theorem im_X10_init : Cond.instanceMethod yX10_init ∈ gm_tb := gm_ix 114 (by decide +kernel) rfl
theorem wq_1121 : Cond.classLink RL 16 RX11 ∈ gm_tb := gm_ix 1121 (by decide +kernel) rfl
theorem wq_99 : Cond.initialized RX11 ∈ gm_tb := gm_ix 99 (by decide +kernel) rfl
theorem im_X11_init : Cond.instanceMethod yX11_init ∈ gm_tb := gm_ix 1124 (by decide +kernel) rfl
section GT
variable {p : Program} {l : Launch} {e : Env} {R : Room} {s : State} {m : MethodId} {args : Array Value} {below : List Frame} {meth : Method} {c : Code} {H : Heap} {locs : List Loc} {cells slots : Nat} {Q : State → Prop}
variable {cc : ByteArray} {nL : Nat} {own : String} {ret : Option FieldType} {pc : Nat} {ls : Array Slot} {rest st0 : List Value} {S : List (Nat ⊕ (Nat × Nat))} {Z : gm_Z} {u u' : gm_M} {A : Nat → Prop} {B : Nat} {G : gm_G}
theorem gm_DG (hB : ∀ r, Z.2.2 (r + 1) = B + r) (hA : ∀ r, r < G.2.2.length → A (B + r)) : va_D A (gm_ws G Z u) := by
  have key : ∀ (k : Nat) (q : Nat × va_E), (gm_ws G Z u)[k]? = some q → k < G.2.2.length ∧ q.1 = B + k := by
    intro k q hk
    obtain ⟨h1, h2⟩ := gm_ad hk
    exact ⟨h1, h2.trans (hB k)⟩
  refine ⟨fun i j x y hi hj hxy => ?_, fun k q hk => ?_⟩
  · have a := key i x hi
    have b := key j y hj
    omega
  · obtain ⟨a, b⟩ := key k q hk
    rw [b]; exact hA k a
/-- the law calls a constructor: the whole world stands behind it; what was there outside it is as it was -/
theorem gm_callT (C : gm_C p s m meth c args Z A cc nL own ret) (hU : gm_U s) (ho4 : va_AO RX1 s) (ho5 : va_AO RX4 s) (hw : wd (gm_T S 1) Z u A s.heap H locs) (hB : ∀ r, Z.2.2 (r + 1) = B + r) (hsz : H.size = B + 1) (hA1 : ∀ r, A (B + r)) {lv : List (Nat × Value)} (hl : lv_has ls nL lv) {idx : Nat} {y : MethodName} {bytes : ByteArray} {maxL : Nat} {rm : Room}
    (hM : gm_MetT l G S Z B y bytes maxL rm u u') (cw : gm_cw own idx y bytes maxL none 0) (hyn : y.name = "<init>") (hin : Cond.instanceMethod y ∈ gm_tb) (hR : rm.frames + 1 ≤ R.frames ∧ 8 + (maxL + 11) + rm.locals ≤ R.locals) (hcs : cells + rm.cells ≤ R.cells ∧ slots + rm.slots ≤ R.slots)
    (hcat : (rest.map fun v => v.category).sum ≤ 8) (hdg : decode cc pc = .ok (.invokespecial idx, 3))
    (kk : ∀ (H1 : Heap) (locs1 : List Loc), wd G Z u' A s.heap H1 locs1 → (∀ q : Nat, q < H.size → ¬ va_A (gm_ws (gm_T S 1) Z u) H.size q → H1[q]? = H[q]?) → H.size ≤ H1.size → W p l e R s m args below meth c H1 locs1 (cells + rm.cells) (slots + rm.slots) Q (F0 m (pc + 3) ls rest)) : W p l e R s m args below meth c H locs cells slots Q (F0 m pc ls (rv Z 1 :: rest)) := by
  have hr := va_runI (As := []) (rest := rest) (b := Z.2.2 1) (H := H) (locs := locs) (cells := cells) (slots := slots) (below := below) (meth := meth) (e := e) (g := F0 m pc ls (rv Z 1 :: rest)) ⟨C.1, C.2.1, C.2.2.1, C.2.2.2.1, C.2.2.2.2.1⟩ hM ⟨callB_of (R := R) 0 C.2.2.2.2.1 (gm_good y bytes maxL none cw.2.2.1) rfl rfl rfl (C.2.2.2.2.1 _ cw.2.1) (C.2.2.2.2.1 _ cw.1) cw.2.2.2 hR, hyn, C.2.2.2.2.1 _ hin⟩
    ⟨fun a U g mk q => by
      obtain ⟨q0, ⟨⟨q1, qP, qK, qD, qV⟩, qU⟩, q4, q5⟩ := q
      exact ⟨q0, ⟨⟨q1, qP, va_K.moved (u := U) (U := U.calling g mk a) (Vm.Alike.refl U.vm) qK, qD, gm_V.blind (U := U) rfl qV⟩, fun x hx => va_Nw.same rfl rfl (qU x hx)⟩, va_AO.moved (u := U) (Vm.Alike.refl U.vm) q4, va_AO.moved (u := U) (Vm.Alike.refl U.vm) q5⟩,
     fun U hE hW => ⟨rfl, ⟨⟨by rw [hE, hsz], by rw [hE]; exact hw.1, va_K.moved hW.alike C.2.2.2.2.2.1, hw.2.1.weaken (fun _ _ _ _ => trivial), by rw [← hsz]; exact C.2.2.2.2.2.2.2.2.go hw.2.2.1 (gm_sub hw) hW hE⟩, fun x hx => va_Nw.warmM hW (hU x hx)⟩, va_AO.moved hW.alike ho4, va_AO.moved hW.alike ho5⟩⟩
    rfl rfl hl.1 rfl (lv_room hcat) hdg hcs
  have hA := gm_sub hw
  rw [← hsz] at hr
  obtain ⟨hP, hD, hS, hA0⟩ := hw
  intro T hT X
  obtain ⟨v, st₀, t, T', L, h0, X', hL, e1, e2, ⟨⟨hv, hP'⟩, hz, hk⟩, st⟩ := hr T hT X
  cases hv
  rw [h0] at hz hk
  obtain ⟨t2, a1, b1⟩ := kk T'.heap (locs ++ L) ⟨by rw [e1]; exact hP', gm_DG hB (fun r _ => hA1 r), ⟨Nat.le_trans hS.1 (by rw [e1]; exact hz), fun q h1 h2 => by rw [e1, hk q (Nat.lt_of_lt_of_le h1 hS.1) (fun z => h2 (hA q z))]; exact hS.2.1 q h1 h2, fun q hq => by
      rcases List.mem_append.mp hq with h | h
      · exact hS.2.2 q h
      · exact hA _ (hL q h)⟩, hA0⟩ (fun q h1 h2 => by rw [e1]; exact hk q h1 h2) (by rw [e1]; exact hz) T' rfl X'
  exact ⟨t2, st t2 a1, b1⟩
/-- how large the heap is behind a whole world -/
theorem gm_sizeG (hw : wd G Z u A s.heap H locs) (hn : 0 < G.2.2.length) (hB : ∀ r, Z.2.2 (r + 1) = B + r) (hc : s.heap.size + cells = B + G.2.2.length) {g : JFrame} (k : H.size = B + G.2.2.length → W p l e R s m args below meth c H locs cells slots Q g) : W p l e R s m args below meth c H locs cells slots Q g := by
  intro T hT X
  have h1 : T.heap.size ≤ s.heap.size + cells := X.same.2.2.1
  rw [hT] at h1
  obtain ⟨n, hn1⟩ : ∃ n, G.2.2.length = n + 1 := ⟨G.2.2.length - 1, by omega⟩
  obtain ⟨x, hx⟩ : ∃ x, G.2.2[n]? = some x := ⟨_, List.getElem?_eq_getElem (by omega)⟩
  have h2 : Z.2.2 (n + 1) < H.size := (hw.1 n _ (gm_at (show gm_sh G (n + 1) = some x from hx))).lt
  rw [hB n] at h2
  exact k (by omega) T hT X
theorem wd_empty (hS : va_S A s.heap H locs) (hA : ∀ q, s.heap.size ≤ q → A q) : wd (gm_T S 0) Z u A s.heap H locs := by
  have h0 : gm_ws (gm_T S 0) Z u = [] := rfl
  refine ⟨?_, ?_, hS, hA⟩
  · rw [h0]; intro k q h; cases h
  · rw [h0]; exact ⟨fun i j p q h => (by cases h), fun k q h => (by cases h)⟩
/-- what a new cell leaves as it was -/
theorem wd_push {H1 : Heap} {locs1 : List Loc} (h : wd G Z u A s.heap H locs) (hS : va_S A s.heap H1 locs1) (hk : ∀ q : Nat, q < H.size → H1[q]? = H[q]?) : wd G Z u A s.heap H1 locs1 :=
  ⟨h.1.kept (fun k q hq => hk q.1 (h.1 k q hq).lt), h.2.1, hS, h.2.2.2⟩
end GT
section GN9
variable {p : Program} {l : Launch} {e : Env} {R : Room} {s : State} {m : MethodId} {args : Array Value} {below : List Frame} {meth : Method} {c : Code} {H : Heap} {locs : List Loc} {cells slots : Nat} {Q : State → Prop}
variable {cc : ByteArray} {nL : Nat} {own : String} {ret : Option FieldType} {pc : Nat} {ls : Array Slot} {rest st0 : List Value} {S : List (Nat ⊕ (Nat × Nat))} {Z : gm_Z} {u u' : gm_M} {A : Nat → Prop} {B n : Nat}
theorem gm_newS2 (C : gm_C p s m meth c args Z A cc nL own ret) (hw : wd (gm_T S n) Z u A s.heap H locs) (hz : gm_z n u) (hB : ∀ r, Z.2.2 (r + 1) = B + r) (hsz : H.size = B + n) {ci idx N : Nat} {Cn : String} {T : u_T} {ty : Nat → FieldType} (hS : S[n]? = some (.inl ci)) (hc : vwCl[ci]? = some (Cn, T, N)) (hcl : Cond.classLink own idx Cn ∈ gm_tb) (hins : Cond.instantiable Cn N ∈ gm_tb) (hini : Cond.initialized Cn ∈ gm_tb) (hu : ∀ w ∈ u_ws Cn T N, w ∈ gm_tb) (hty : ∀ k, k < N → parseFieldDescriptor (T k).2.2.1 = some (ty k))
    (hdef : ∀ j, j < N → defaultValue (ty j) = match gm_kd0 ci j with | 0 => .int 0 | 1 => .long 0 | _ => .null) (hcells : cells + 1 ≤ R.cells) (hslots : slots + N ≤ R.slots) (hdg : decode cc pc = .ok (.new idx, 3))
    (kk : ∀ H1 : Heap, wd (gm_T S (n + 1)) Z u A s.heap H1 locs → (∀ q : Nat, q < H.size → H1[q]? = H[q]?) → W p l e R s m args below meth c H1 locs (cells + 1) (slots + N) Q (F0 m (pc + 3) ls (rv Z (n + 1) :: rest))) : W p l e R s m args below meth c H locs cells slots Q (F0 m pc ls rest) := by
  obtain ⟨hx, hb, hml, hown, hts, hK, -, -, -⟩ := C
  obtain ⟨hP, hD, hSS, hA⟩ := hw
  have hKn := hK.1 ci _ hc
  have had : Z.2.2 (n + 1) = H.size := by rw [hB n, hsz]
  refine W.newcK hx hb hown (hts _ hcl) (hts _ hins) (hts _ hini) rfl hdg hcells hslots hKn.2.1 rfl fun H1 kC hkC e1 z1 o1 => ?_
  have hk : ∀ (k : Nat) (x : Nat × va_E), (gm_ws (gm_T S n) Z u)[k]? = some x → H1[x.1]? = H[x.1]? := fun k x hx => o1 x.1 ((hP k x hx).lt)
  have hfv : ∀ j, gm_fv (gm_T S n) Z u (n + 1) ci j = match gm_kd0 ci j with | 0 => .int 0 | 1 => .long 0 | _ => .null := fun j => by
    obtain ⟨q1, q2, q3⟩ := hz (n + 1) (Nat.lt_succ_self n) j
    show (match gm_kd0 ci j with | 0 => Value.int (gI u (n + 1) j) | 1 => .long (gJ u (n + 1) j) | 2 => rv Z (gR u (n + 1) j) | _ => rv Z 0) = _
    rw [q1, q2, q3]
    match gm_kd0 ci j with
    | 0 => rfl
    | 1 => rfl
    | 2 => rfl
    | (_ + 3) => rfl
  have hcell : va_at Z.1 vwCl (Z.2.2 (n + 1), gm_ce (gm_T S n) Z u (n + 1) (.inl ci)) H1 := by
    rw [had]
    refine ⟨_, hc, (u_born ty hts hu hKn hkC e1 hty).to (fun j hj => ?_)⟩
    rw [hdef j hj, ← hfv j]
    have := gm_fs_at (G := gm_T S n) (Z := Z) (u := u) (r := n + 1) (ci := ci) (k := j) (by rw [gm_N_eq hc]; exact hj)
    simp [vp_V, this]
  have hws := gm_Tws (Z := Z) (u := u) hS
  rw [show (Value.ref H.size :: (F0 m pc ls rest).stack) = rv Z (n + 1) :: rest from by rw [← had]; rfl]
  refine kk H1 ⟨?_, ?_, ⟨Nat.le_trans hSS.1 (by omega), fun x h1 h2 => (o1 x (Nat.lt_of_lt_of_le h1 hSS.1)).trans (hSS.2.1 x h1 h2), hSS.2.2⟩, hA⟩ o1
  · rw [hws]
    refine (hP.kept hk).app (fun k x hx => ?_)
    have hz : k < 1 := (List.getElem?_eq_some_iff.mp hx).1
    rw [show k = 0 by omega] at hx
    cases hx
    exact hcell
  · rw [hws]
    exact hD.push hP had (by rw [had]; exact hA _ hSS.1)
theorem gm_newaS2 (C : gm_C p s m meth c args Z A cc nL own ret) (hw : wd (gm_T S n) Z u A s.heap H locs) (hz : gm_z n u) (hB : ∀ r, Z.2.2 (r + 1) = B + r) (hsz : H.size = B + n) {t N : Nat} {atype : ArrayType} {ty : FieldType} (hS : S[n]? = some (.inr (t, N))) (hat : newarray.typeOf atype = ty) (ht : (gm_tys Z)[t]? = some (Z.2.1 t, ty)) (hra : va_RA s (Z.2.1 t) ty = (s.vm.findClass ("[" ++ ty.toString) = some (Z.2.1 t))) (harr : Cond.arrayClass ty ∈ gm_tb)
    (hd : ∀ cA, vp_cell cA (N, gm_ar Z u (n + 1) t) = arrV cA N (fun _ => defaultValue ty)) {v : Int32} (hn : ¬ v < 0) (hN : v.toNatClampNeg = N) (hbytes : N * componentBytes ty ≤ 536870912) (hcells : cells + 1 ≤ R.cells) (hslots : slots + N ≤ R.slots) (hdg : decode cc pc = .ok (.newarray atype, 2))
    (kk : ∀ H1 : Heap, wd (gm_T S (n + 1)) Z u A s.heap H1 locs → (∀ q : Nat, q < H.size → H1[q]? = H[q]?) → W p l e R s m args below meth c H1 locs (cells + 1) (slots + N) Q (F0 m (pc + 2) ls (rv Z (n + 1) :: rest))) : W p l e R s m args below meth c H locs cells slots Q (F0 m pc ls (.int v :: rest)) := by
  subst hat
  have had : Z.2.2 (n + 1) = H.size := by rw [hB n, hsz]
  refine va_newaK C.1 C.2.1 (C.2.2.2.2.1 _ harr) rfl hdg rfl hn hN hbytes hcells hslots rfl (fun H1 cA e1 z1 o1 _ hf => ?_)
  have hcA : cA = Z.2.1 t := by
    have h2 := (C.2.2.2.2.2.1.2 t _ ht).2
    rw [hra] at h2
    exact Option.some.inj (hf.symm.trans h2)
  subst hcA
  rw [show (Value.ref H.size :: rest) = rv Z (n + 1) :: rest from by rw [← had]; rfl]
  exact kk H1 (gm_pushA hw hB hsz hS (by rw [hd]; exact e1) z1 o1) o1
theorem gm_other2 {G1 : gm_G} {Z1 : gm_Z} {u1 : gm_M} {G2 : gm_G} {Z2 : gm_Z} {u2 : gm_M} {H1 : Heap} {locs1 : List Loc} (hd : gm_dj G1 Z1 G2 Z2) (h2 : wd G2 Z2 u2 A s.heap H locs) (hS : va_S A s.heap H1 locs1) (hk : ∀ q : Nat, q < H.size → ¬ va_A (gm_ws G1 Z1 u1) H.size q → H1[q]? = H[q]?) : wd G2 Z2 u2 A s.heap H1 locs1 := by
  refine ⟨h2.1.kept (fun k q hq => ?_), h2.2.1, hS, h2.2.2.2⟩
  have hl := (h2.1 k q hq).lt
  refine hk q.1 hl (fun h => ?_)
  rcases h with ⟨k2, x, h⟩ | h
  · obtain ⟨a1, a2⟩ := gm_ad h
    obtain ⟨b1, b2⟩ := gm_ad hq
    exact hd k2 k a1 b1 (a2.symm.trans b2)
  · omega
end GN9
def gm_SO : List (Nat ⊕ (Nat × Nat)) := [.inr (1, 1)]
set_option maxRecDepth 100000 in
set_option maxHeartbeats 40000000 in
/-- THE LAW, from its entry, out of what is pure: a relation that holds at first and is kept -/
theorem whole_from (Rel : Nat → gm_M → gm_M → Prop) (R0 : Rel 600 uC0 uM0) (SS : ∀ n, St_all (Rel (n + 1)) (Rel n)) (S33 : ∀ n, St_rests (Rel (n + 1)) (Rel n)) (mono : ∀ n uC uM, Rel (n + 1) uC uM → Rel n uC uM) {p : Program} {e : Env} {s : State} {m : MethodId} {below : List Frame} {meth : Method} {c : Code} (l : Launch) (hls : l.stackTraces = false) {b L : Nat} {xs : Nat → Int32} (hL : L ≤ 3584) (C0 : lw_At p s m meth c b L xs) : W p l e room_1 s m #[Value.ref b] below meth c s.heap [] 0 0 (lw_Z below #[Value.ref b] s) (entryFrame m ([Value.ref b] : List Value).toArray 7) := by
  obtain ⟨hx, hb, hr, hml, hown, hts, hX, hbl, hlocks, hgv⟩ := id C0
  obtain ⟨D, tc, hK, hV, hU, ho4, ho5⟩ := lw_env hts hgv
  have htg : ∀ w ∈ gm_tb, w.before #[Value.ref b] s = true := fun w h => hts w (List.mem_filter.mp h).1
  obtain ⟨aC, eC⟩ : ∃ f : Nat → Nat, f = fun r => s.heap.size + (r - 1) := ⟨_, rfl⟩
  obtain ⟨aM, eM⟩ : ∃ f : Nat → Nat, f = fun r => s.heap.size + 157 + (r - 1) := ⟨_, rfl⟩
  obtain ⟨aO, eO⟩ : ∃ f : Nat → Nat, f = fun r => s.heap.size + 196 + (r - 1) := ⟨_, rfl⟩
  have hBC : ∀ r, aC (r + 1) = s.heap.size + r := fun r => by rw [eC]; rfl
  have hBM : ∀ r, aM (r + 1) = s.heap.size + 157 + r := fun r => by rw [eM]; rfl
  have hBO : ∀ r, aO (r + 1) = s.heap.size + 196 + r := fun r => by rw [eO]; rfl
  have C : gm_C p s m meth c #[.ref b] (D, tc, aC) (fun q : Nat => s.heap.size ≤ q) code 7 RL ret := ⟨hx, hb, hml, hown, htg, hK, hr, hlocks, hV⟩
  have CM : gm_C p s m meth c #[.ref b] (D, tc, aM) (fun q : Nat => s.heap.size ≤ q) code 7 RL ret := C
  have CO : gm_C p s m meth c #[.ref b] (D, tc, aO) (fun q : Nat => s.heap.size ≤ q) code 7 RL ret := C
  have hl := lv_entry [Value.ref b] (n := 7) (Nat.le_of_ble_eq_true rfl)
  rw [lg_entry_eq]
  generalize (lg_sl [Value.ref b] ++ List.replicate (7 - (lg_sl [Value.ref b]).length) Slot.unset).toArray = ls at hl ⊢
  have hl : lv_has ls 7 [(0, .ref b)] := hl
  have hA0 : ∀ q, s.heap.size ≤ q → (fun q : Nat => s.heap.size ≤ q) q := fun _ h => h
  have hRc : room_1.cells = 601024 := rfl
  have hRs : room_1.slots = 7293034 := rfl
  -- the class
  refine gm_newS (S := gm_SC) (Z := (D, tc, aC)) (u := gm_u0) (n := 0) (ci := 9) (T := TX10) (N := 15) (ty := tyX10) (B := s.heap.size) C (wd_empty va_S.rf hA0) (gm_z0 0) hBC rfl rfl rfl wq_111 wq_112 wq_89 us_X10 tyX10_ok df_X10 (by omega) (by omega) dL_law_0 (fun H hw => ?_)
  refine lv_dup hx hb dL_law_3 rfl ?_
  refine gm_size (n := 0) hw (by decide) hBC (by omega) (fun hsz => ?_)
  refine gm_callT (G := GC) (S := gm_SC) (Z := (D, tc, aC)) (u := gm_u0) (u' := uC0) (B := s.heap.size) (rest := [rv (D, tc, aC) 1]) C hU ho4 ho5 hw hBC hsz (fun r => Nat.le_add_right _ _) hl (ct_X10_init l (D, tc, aC) s.heap.size hBC) cw_L_15 rfl im_X10_init ⟨Nat.le_of_ble_eq_true rfl, Nat.le_of_ble_eq_true rfl⟩ ⟨Nat.le_of_ble_eq_true rfl, Nat.le_of_ble_eq_true rfl⟩ (Nat.le_of_ble_eq_true rfl) dL_law_4 (fun H locs hC _ _ => ?_)
  show W p l e room_1 s m #[.ref b] below meth c H locs 157 4579 _ _
  refine lv_astore_n (i := 1) (lv' := [(1, .ref (aC 1)), (0, .ref b)]) hx hb dL_law_7 rfl hl (by decide) rfl (fun ls hl => ?_)
  -- the reference
  refine gm_sizeG (B := s.heap.size) hC (by decide) hBC (by show _ = _ + 157; omega) (fun hsz => ?_)
  have hsz : H.size = s.heap.size + 157 := hsz
  have hC0 := hC
  refine gm_newS2 (S := gm_SM) (Z := (D, tc, aM)) (u := gm_u0) (n := 0) (ci := 10) (T := TX11) (N := 57) (ty := tyX11) (B := s.heap.size + 157) CM (wd_empty hC.2.2.1 hA0) (gm_z0 0) hBM hsz rfl rfl wq_1121 wq_1122 wq_99 us_X11 tyX11_ok df_X11 (by omega) (by omega) dL_law_8 (fun H1 hw hk1 => ?_)
  have hC := wd_push hC hw.2.2.1 hk1
  refine lv_dup hx hb dL_law_11 rfl ?_
  refine gm_size (n := 0) hw (by decide) hBM (by omega) (fun hsz1 => ?_)
  have hdT : gm_dj (gm_T gm_SM 1) (D, tc, aM) GC (D, tc, aC) := fun r1 r2 h1 h2 => by
    have h1 : r1 < 1 := h1
    have h2 : r2 < 157 := h2
    show aM (r1 + 1) ≠ aC (r2 + 1)
    rw [hBM, hBC]; omega
  refine gm_callT (G := GM) (S := gm_SM) (Z := (D, tc, aM)) (u := gm_u0) (u' := uM0) (B := s.heap.size + 157) (rest := [rv (D, tc, aM) 1]) CM hU ho4 ho5 hw hBM hsz1 (fun r => (by omega : s.heap.size ≤ s.heap.size + 157 + r)) hl (ct_X11_init l (D, tc, aM) (s.heap.size + 157) hBM) cw_L_18 rfl im_X11_init ⟨Nat.le_of_ble_eq_true rfl, Nat.le_of_ble_eq_true rfl⟩ ⟨Nat.le_of_ble_eq_true rfl, Nat.le_of_ble_eq_true rfl⟩ (Nat.le_of_ble_eq_true rfl) dL_law_12 (fun H2 locs hM hk2 _ => ?_)
  show W p l e room_1 s m #[.ref b] below meth c H2 locs 196 8939 _ _
  have hC := gm_other2 hdT hC hM.2.2.1 hk2
  refine lv_astore_n (i := 2) (lv' := [(2, .ref (aM 1)), (1, .ref (aC 1)), (0, .ref b)]) hx hb dL_law_15 rfl hl (by decide) rfl (fun ls hl => ?_)
  refine gm_sizeG (B := s.heap.size + 157) hM (by decide) hBM (by show _ = _ + 39; omega) (fun hsz => ?_)
  have hsz : H2.size = s.heap.size + 196 := hsz
  refine lv_iconst (v := 1) hx hb dL_law_16 (by decide) ?_
  refine gm_newaS2 (S := gm_SO) (Z := (D, tc, aO)) (u := gm_u0) (n := 0) (t := 1) (N := 1) (ty := .long) (B := s.heap.size + 196) CO (wd_empty hC.2.2.1 hA0) (gm_z0 0) hBO hsz rfl rfl rfl rfl wq_arr_long (fun cA => gm_dJ (Z := (D, tc, aO)) (gm_z0 0) (Nat.lt_succ_self _) cA) (by decide) (by decide) (by decide) (by omega) (by omega) dL_law_17 (fun H3 hO hk3 => ?_)
  have hO : wd GO (D, tc, aO) gm_u0 (fun q : Nat => s.heap.size ≤ q) s.heap H3 locs := hO
  have hC := wd_push hC hO.2.2.1 hk3
  have hM := wd_push hM hO.2.2.1 hk3
  show W p l e room_1 s m #[.ref b] below meth c H3 locs 197 8940 _ _
  refine lv_astore_n (i := 3) (lv' := [(3, .ref (aO 1)), (2, .ref (aM 1)), (1, .ref (aC 1)), (0, .ref b)]) hx hb dL_law_19 rfl hl (by decide) rfl (fun ls hl => ?_)
  refine lv_iconst (v := 0) hx hb dL_law_20 (by decide) ?_
  refine lv_istore (lv' := [(4, .int (nI 0)), (3, .ref (aO 1)), (2, .ref (aM 1)), (1, .ref (aC 1)), (0, .ref b)]) hx hb dL_law_21 hl (by decide) rfl (fun ls hl => ?_)
  refine law_loop Rel SS S33 mono hls (lw_tx hts hgv) hL C hX hbl ?_ ?_ ?_ ?_ 600 0 (Nat.zero_le _) (by omega) uC0 uM0 gm_u0 H3 locs ls 197 8940 (by omega) (by omega) hC hM hO R0 (lv_sub hl [4, 3, 2, 1, 0] rfl)
  · intro r1 r2 h1 h2
    have h1 : r1 < 157 := h1
    show aC (r1 + 1) ≠ aM (r2 + 1)
    rw [hBC, hBM]; omega
  · intro r1 r2 h1 h2
    have h2 : r2 < 157 := h2
    show aM (r1 + 1) ≠ aC (r2 + 1)
    rw [hBC, hBM]; omega
  · intro r1 r2 h1 h2
    have h1 : r1 < 157 := h1
    show aC (r1 + 1) ≠ aO (r2 + 1)
    rw [hBC, hBO]; omega
  · intro r1 r2 h1 h2
    have h1 : r1 < 39 := h1
    show aM (r1 + 1) ≠ aO (r2 + 1)
    rw [hBM, hBO]; omega
