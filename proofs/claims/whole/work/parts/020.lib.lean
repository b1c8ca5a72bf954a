/-! MEMORY WORLDS: the cells of a fixed world, numbered from 1 (0 is null); what they hold is three functions of cell and place -/
abbrev gm_M : Type := (Nat → Nat → Int32) × (Nat → Nat → Int64) × (Nat → Nat → Nat)
def gI (u : gm_M) (a k : Nat) : Int32 := u.1 a k
def gJ (u : gm_M) (a k : Nat) : Int64 := u.2.1 a k
def gR (u : gm_M) (a k : Nat) : Nat := u.2.2 a k
def sI (u : gm_M) (a k : Nat) (v : Int32) : gm_M := (fun b j => if b = a ∧ j = k then v else u.1 b j, u.2)
def sJ (u : gm_M) (a k : Nat) (v : Int64) : gm_M := (u.1, fun b j => if b = a ∧ j = k then v else u.2.1 b j, u.2.2)
def sR (u : gm_M) (a k : Nat) (v : Nat) : gm_M := (u.1, u.2.1, fun b j => if b = a ∧ j = k then v else u.2.2 b j)
abbrev ix (i : Int32) : Nat := i.toNatClampNeg
def ib (i : Int32) (n : Nat) : Bool := !(decide (i < 0) || decide (n ≤ i.toNatClampNeg))
theorem ib_in {i : Int32} {n : Nat} (h : ib i n = true) : vp_in i n := by
  intro q
  rcases q with q | q <;> simp [ib, q] at h
/-- a world's plan: the kind of a class's field (0 int, 1 long, 2 a reference in the memory, else a fixed one), the fixed references, the shapes (object of a class, or array of a type and length) -/
abbrev gm_G : Type := (Nat → Nat → Nat) × (Nat → Nat → Nat) × List (Nat ⊕ (Nat × Nat))
/-- class numbers and slots, array classes, addresses -/
abbrev gm_Z : Type := va_G × (Nat → ClassId) × (Nat → Nat)
def rv (Z : gm_Z) : Nat → Value
  | 0 => .null
  | r + 1 => .ref (Z.2.2 (r + 1))
def gm_op (Z : gm_Z) : Nat → Option Nat
  | 0 => none
  | r + 1 => some (Z.2.2 (r + 1))
theorem gm_rf_op (Z : gm_Z) (r : Nat) : va_rf (gm_op Z r) = rv Z r := by cases r <;> rfl
def gm_N (ci : Nat) : Nat := (vwCl[ci]?.map (fun q => q.2.2)).getD 0
def gm_fv (G : gm_G) (Z : gm_Z) (u : gm_M) (r ci k : Nat) : Value := match G.1 ci k with
  | 0 => .int (gI u r k)
  | 1 => .long (gJ u r k)
  | 2 => rv Z (gR u r k)
  | _ => rv Z (G.2.1 r k)
def gm_fs (G : gm_G) (Z : gm_Z) (u : gm_M) (r ci : Nat) : List Value := (List.range (gm_N ci)).map (gm_fv G Z u r ci)
def gm_ar (Z : gm_Z) (u : gm_M) (r t : Nat) : (Nat → Int32) ⊕ (Nat → Int64) ⊕ (Nat → UInt32) ⊕ (Nat → UInt64) ⊕ (Nat → Option Nat) := match t with
  | 1 => .inr (.inl (gJ u r))
  | 4 => .inr (.inr (.inr (.inr (fun j => gm_op Z (gR u r j)))))
  | 5 => .inr (.inr (.inr (.inr (fun j => gm_op Z (gR u r j)))))
  | _ => .inl (gI u r)
def gm_ce (G : gm_G) (Z : gm_Z) (u : gm_M) (r : Nat) (e : Nat ⊕ (Nat × Nat)) : va_E := match e with
  | .inl ci => .inr (ci, gm_fs G Z u r ci)
  | .inr q => .inl (Z.2.1 q.1, q.2, gm_ar Z u r q.1)
def gm_ws (G : gm_G) (Z : gm_Z) (u : gm_M) : va_W := G.2.2.mapIdx (fun i e => (Z.2.2 (i + 1), gm_ce G Z u (i + 1) e))
def gm_sh (G : gm_G) : Nat → Option (Nat ⊕ (Nat × Nat))
  | 0 => none
  | r + 1 => G.2.2[r]?
def gm_tys (Z : gm_Z) : List (ClassId × FieldType) := [(Z.2.1 0, .int), (Z.2.1 1, .long), (Z.2.1 2, .boolean), (Z.2.1 3, .char), (Z.2.1 4, .object RX1), (Z.2.1 5, .object RX4)]
theorem gm_at {G : gm_G} {Z : gm_Z} {u : gm_M} {r : Nat} {e : Nat ⊕ (Nat × Nat)} (h : gm_sh G (r + 1) = some e) : (gm_ws G Z u)[r]? = some (Z.2.2 (r + 1), gm_ce G Z u (r + 1) e) := by
  have h1 : G.2.2[r]? = some e := h
  simp [gm_ws, List.getElem?_mapIdx, h1]
theorem gm_ce_congr {G : gm_G} {Z : gm_Z} {u v : gm_M} {b : Nat} (h1 : gI v b = gI u b) (h2 : gJ v b = gJ u b) (h3 : gR v b = gR u b) (e : Nat ⊕ (Nat × Nat)) : gm_ce G Z v b e = gm_ce G Z u b e := by
  have k1 : ∀ k, gI v b k = gI u b k := fun k => congrFun h1 k
  have k2 : ∀ k, gJ v b k = gJ u b k := fun k => congrFun h2 k
  have k3 : ∀ k, gR v b k = gR u b k := fun k => congrFun h3 k
  have kf : ∀ ci, gm_fv G Z v b ci = gm_fv G Z u b ci := fun ci => by funext k; simp only [gm_fv, k1, k2, k3]
  cases e with
  | inl ci => simp only [gm_ce, gm_fs, kf]
  | inr q => simp only [gm_ce, gm_ar, h1, h2, k3]
theorem gm_set {G : gm_G} {Z : gm_Z} {u v : gm_M} {r : Nat} {e : Nat ⊕ (Nat × Nat)} {x : va_E} (h : gm_sh G (r + 1) = some e) (hs : gm_ce G Z v (r + 1) e = x)
    (ho : ∀ b, b ≠ r + 1 → gI v b = gI u b ∧ gJ v b = gJ u b ∧ gR v b = gR u b) : (gm_ws G Z u).set r (Z.2.2 (r + 1), x) = gm_ws G Z v := by
  have h1 : G.2.2[r]? = some e := h
  apply List.ext_getElem?
  intro i
  by_cases hi : i = r
  · subst hi
    have hl : i < (gm_ws G Z u).length := by
      have := (List.getElem?_eq_some_iff.mp h1).1
      simpa [gm_ws] using this
    rw [List.getElem?_set_self hl, gm_at h, hs]
  · rw [List.getElem?_set_ne (Ne.symm hi)]
    simp only [gm_ws, List.getElem?_mapIdx]
    obtain ⟨a1, a2, a3⟩ := ho (i + 1) (by omega)
    simp only [gm_ce_congr (G := G) (Z := Z) a1 a2 a3]
theorem sI_ne {u : gm_M} {a b k : Nat} {v : Int32} (h : b ≠ a) : gI (sI u a k v) b = gI u b := by
  funext j; simp [gI, sI, h]
theorem sJ_ne {u : gm_M} {a b k : Nat} {v : Int64} (h : b ≠ a) : gJ (sJ u a k v) b = gJ u b := by
  funext j; simp [gJ, sJ, h]
theorem sR_ne {u : gm_M} {a b k : Nat} {v : Nat} (h : b ≠ a) : gR (sR u a k v) b = gR u b := by
  funext j; simp [gR, sR, h]
theorem sI_up {u : gm_M} {a k : Nat} {v : Int32} : gI (sI u a k v) a = upd (gI u a) k v := by
  funext j; simp [gI, sI, upd]
theorem sJ_up {u : gm_M} {a k : Nat} {v : Int64} : gJ (sJ u a k v) a = vp_updL (gJ u a) k v := by
  funext j; simp [gJ, sJ, vp_updL]
theorem gm_fs_at {G : gm_G} {Z : gm_Z} {u : gm_M} {r ci k : Nat} (hk : k < gm_N ci) : (gm_fs G Z u r ci)[k]? = some (gm_fv G Z u r ci k) := by
  simp [gm_fs, List.getElem?_map, List.getElem?_range hk]
theorem gm_fs_set {G : gm_G} {Z : gm_Z} {u v : gm_M} {r ci k : Nat} {x : Value} (hx : gm_fv G Z v r ci k = x) (ho : ∀ j, j ≠ k → gm_fv G Z v r ci j = gm_fv G Z u r ci j) : gm_fs G Z v r ci = (gm_fs G Z u r ci).set k x := by
  apply List.ext_getElem?
  intro j
  by_cases hj : j < gm_N ci
  · rw [gm_fs_at hj]
    by_cases hjk : j = k
    · subst hjk
      rw [List.getElem?_set_self (by simpa [gm_fs] using hj), hx]
    · rw [List.getElem?_set_ne (Ne.symm hjk), gm_fs_at hj, ho j hjk]
  · rw [List.getElem?_eq_none (by simpa [gm_fs] using hj), List.getElem?_eq_none (by simpa [gm_fs] using hj)]
/-- the tables' words that stay -/
def gm_tb : List Cond := lw_tbl.filter goodWord
theorem gm_in {w : Cond} (h : w ∈ lw_tbl) (g : goodWord w = true) : w ∈ gm_tb := List.mem_filter.mpr ⟨h, g⟩
theorem gm_ix {w : Cond} (i : Nat) (h : lw_tbl[i]? = some w) (g : goodWord w = true) : w ∈ gm_tb := gm_in (List.mem_of_getElem? h) g
theorem gm_ixs {ws : List Cond} (is : List Nat) (h : ws = is.filterMap (fun i => lw_tbl[i]?)) (g : ws.all goodWord = true) : ∀ w ∈ ws, w ∈ gm_tb := by
  intro w hw
  have g1 := List.all_eq_true.mp g w hw
  rw [h] at hw
  obtain ⟨i, -, hi⟩ := List.mem_filterMap.mp hw
  exact gm_ix i hi g1
/-- a world that the heap holds; its cells lie apart, in A; since H0 nothing outside A has changed -/
def wd (G : gm_G) (Z : gm_Z) (u : gm_M) (A : Nat → Prop) (H0 H : Heap) (locs : List Loc) : Prop := va_P Z.1 vwCl (gm_ws G Z u) H ∧ va_D A (gm_ws G Z u) ∧ va_S A H0 H locs ∧ ∀ q, H0.size ≤ q → A q
def gm_C (p : Program) (s : State) (m : MethodId) (meth : Method) (c : Code) (args : Array Value) (Z : gm_Z) (A : Nat → Prop) (cc : ByteArray) (nL : Nat) (own : String) (ret : Option FieldType) : Prop :=
  p.tables.exec = Jvm.exec ∧ c.code = cc ∧ c.maxLocals = nL ∧ s.vm.findClass own = some m.cls ∧ (∀ w ∈ gm_tb, w.before args s = true) ∧ va_K Z.1 vwCl (gm_tys Z) s ∧ meth.sig.returnType = ret ∧ meth.locks = false ∧ gm_V A s s.heap
/-- what a field's link says -/
def gm_fl (own : String) (idx ci k : Nat) : Prop := ∃ (C : String) (T : u_T) (N : Nat), vwCl[ci]? = some (C, T, N) ∧ k < N ∧ (Cond.fieldLink own idx (T k).1 (T k).2.1 (T k).2.2.1 ∈ gm_tb ∨ ∃ host, (own, idx, (T k).1, (T k).2.1, (T k).2.2.1, host) ∈ gm_nb) ∧ ∀ w ∈ u_ws C T N, w ∈ gm_tb
/-- and for a store: not final, its type -/
def gm_fp (ci k : Nat) (ty : FieldType) : Prop := ∃ (C : String) (T : u_T) (N : Nat) (ty0 : Nat → FieldType), vwCl[ci]? = some (C, T, N) ∧ (∀ k, k < N → parseFieldDescriptor (T k).2.2.1 = some (ty0 k)) ∧ (∀ a, a < N → ∀ b, b < N → a ≠ b → (T a).2.1 ≠ (T b).2.1) ∧ (T k).2.2.2 = false ∧ parseFieldDescriptor (T k).2.2.1 = some ty
theorem gm_N_eq {ci N : Nat} {C : String} {T : u_T} (h : vwCl[ci]? = some (C, T, N)) : gm_N ci = N := by simp [gm_N, h]
section GM
variable {p : Program} {l : Launch} {e : Env} {R : Room} {s : State} {m : MethodId} {args : Array Value} {below : List Frame} {meth : Method} {c : Code} {H : Heap} {locs : List Loc} {cells slots : Nat} {Q : State → Prop}
variable {cc : ByteArray} {nL : Nat} {own : String} {ret : Option FieldType} {pc : Nat} {ls : Array Slot} {rest : List Value} {G : gm_G} {Z : gm_Z} {u : gm_M} {A : Nat → Prop} {H0 : Heap}
theorem gm_get (C : gm_C p s m meth c args Z A cc nL own ret) (hw : wd G Z u A H0 H locs) {r ci k idx : Nat} (hs : gm_sh G r = some (.inl ci)) (hf : gm_fl own idx ci k) (hdg : decode cc pc = .ok (.getfield idx, 3))
    {v : Value} (hv : gm_fv G Z u r ci k = v) (kk : W p l e R s m args below meth c H locs cells slots Q (F0 m (pc + 3) ls (v :: rest))) : W p l e R s m args below meth c H locs cells slots Q (F0 m pc ls (rv Z r :: rest)) := by
  obtain ⟨hx, hb, hml, hown, hts, hK, -, -, hV⟩ := C
  obtain ⟨C, T, N, hc, hk, hl, hu⟩ := hf
  cases r with
  | zero => cases hs
  | succ r =>
    have hN := gm_N_eq hc
    rcases hl with hl | ⟨host, hl⟩
    · exact va_get (D := Z.1) hx hb hts hu hown hK hw.1 r (gm_at hs) hc k hk (hts _ hl) (fun _ h9 => h9) (by rw [gm_fs_at (by rw [hN]; exact hk), hv]) hdg kk
    · exact va_getN (D := Z.1) hx hb hts hu hown hK hw.1 r (gm_at hs) hc k hk (va_Nw.use rfl (hV.1 _ hl)) (fun _ h9 => h9) (by rw [gm_fs_at (by rw [hN]; exact hk), hv]) hdg kk
theorem gm_getI (C : gm_C p s m meth c args Z A cc nL own ret) (hw : wd G Z u A H0 H locs) {r ci k idx : Nat} (hs : gm_sh G r = some (.inl ci)) (hf : gm_fl own idx ci k) (hdg : decode cc pc = .ok (.getfield idx, 3))
    (hk : G.1 ci k = 0) (kk : W p l e R s m args below meth c H locs cells slots Q (F0 m (pc + 3) ls (.int (gI u r k) :: rest))) : W p l e R s m args below meth c H locs cells slots Q (F0 m pc ls (rv Z r :: rest)) :=
  gm_get C hw hs hf hdg (by simp [gm_fv, hk]) kk
theorem gm_getJ (C : gm_C p s m meth c args Z A cc nL own ret) (hw : wd G Z u A H0 H locs) {r ci k idx : Nat} (hs : gm_sh G r = some (.inl ci)) (hf : gm_fl own idx ci k) (hdg : decode cc pc = .ok (.getfield idx, 3))
    (hk : G.1 ci k = 1) (kk : W p l e R s m args below meth c H locs cells slots Q (F0 m (pc + 3) ls (.long (gJ u r k) :: rest))) : W p l e R s m args below meth c H locs cells slots Q (F0 m pc ls (rv Z r :: rest)) :=
  gm_get C hw hs hf hdg (by simp [gm_fv, hk]) kk
theorem gm_getR (C : gm_C p s m meth c args Z A cc nL own ret) (hw : wd G Z u A H0 H locs) {r ci k idx : Nat} (hs : gm_sh G r = some (.inl ci)) (hf : gm_fl own idx ci k) (hdg : decode cc pc = .ok (.getfield idx, 3))
    (hk : G.1 ci k = 2) (kk : W p l e R s m args below meth c H locs cells slots Q (F0 m (pc + 3) ls (rv Z (gR u r k) :: rest))) : W p l e R s m args below meth c H locs cells slots Q (F0 m pc ls (rv Z r :: rest)) :=
  gm_get C hw hs hf hdg (by simp [gm_fv, hk]) kk
theorem gm_getS (C : gm_C p s m meth c args Z A cc nL own ret) (hw : wd G Z u A H0 H locs) {r ci k idx q : Nat} (hs : gm_sh G r = some (.inl ci)) (hf : gm_fl own idx ci k) (hdg : decode cc pc = .ok (.getfield idx, 3))
    (hk : G.1 ci k = 3) (hq : G.2.1 r k = q) (kk : W p l e R s m args below meth c H locs cells slots Q (F0 m (pc + 3) ls (rv Z q :: rest))) : W p l e R s m args below meth c H locs cells slots Q (F0 m pc ls (rv Z r :: rest)) :=
  gm_get C hw hs hf hdg (by simp [gm_fv, hk, hq]) kk
theorem gm_D {u v : gm_M} {A : Nat → Prop} (h : va_D A (gm_ws G Z u)) : va_D A (gm_ws G Z v) := by
  have key : ∀ (k : Nat) (q : Nat × va_E), (gm_ws G Z v)[k]? = some q → ∃ x, (gm_ws G Z u)[k]? = some (q.1, x) := by
    intro k q hk
    simp only [gm_ws, List.getElem?_mapIdx] at hk ⊢
    cases hg : G.2.2[k]? with
    | none => rw [hg] at hk; cases hk
    | some y => rw [hg] at hk; cases hk; exact ⟨_, rfl⟩
  refine ⟨fun i j x y hi hj hxy => ?_, fun k q hk => ?_⟩
  · obtain ⟨a, ha⟩ := key i x hi
    obtain ⟨b, hb⟩ := key j y hj
    exact h.1 i j _ _ ha hb hxy
  · obtain ⟨a, ha⟩ := key k q hk
    exact h.2 k (q.1, a) ha
theorem gm_put (C : gm_C p s m meth c args Z A cc nL own ret) (hw : wd G Z u A H0 H locs) {r ci k idx : Nat} (hs : gm_sh G r = some (.inl ci)) (hf : gm_fl own idx ci k) {ty : FieldType} (hp : gm_fp ci k ty) (hdg : decode cc pc = .ok (.putfield idx, 3))
    {v : Value} (hn : narrow ty v = v) (hfit : fits ty v = true) {u' : gm_M} (hx' : gm_fv G Z u' r ci k = v) (ho : ∀ j, j ≠ k → gm_fv G Z u' r ci j = gm_fv G Z u r ci j) (hb' : ∀ b, b ≠ r → gI u' b = gI u b ∧ gJ u' b = gJ u b ∧ gR u' b = gR u b)
    (kk : ∀ (H1 : Heap) (locs1 : List Loc), wd G Z u' A H0 H1 locs1 → W p l e R s m args below meth c H1 locs1 cells slots Q (F0 m (pc + 3) ls rest)) : W p l e R s m args below meth c H locs cells slots Q (F0 m pc ls (v :: rv Z r :: rest)) := by
  obtain ⟨hx, hb, hml, hown, hts, hK, -, -, hV⟩ := C
  obtain ⟨C, T, N, hc, hk, hl, hu⟩ := hf
  obtain ⟨C', T', N', ty0, hc', hty, hnm, hfin, hd⟩ := hp
  cases hc.symm.trans hc'
  cases r with
  | zero => cases hs
  | succ r =>
    have hN := gm_N_eq hc
    obtain ⟨hP, hD, hS, hA⟩ := hw
    have he : (gm_ws G Z u).set r (Z.2.2 (r + 1), .inr (ci, (gm_fs G Z u (r + 1) ci).set k v)) = gm_ws G Z u' :=
      gm_set hs (by show gm_ce G Z u' (r + 1) (.inl ci) = _; simp only [gm_ce, gm_fs_set hx' ho]) hb'
    rcases hl with hl | ⟨host, hl⟩
    · refine va_put (D := Z.1) (fs := gm_fs G Z u (r + 1) ci) hx hb hts hu ty0 hty hnm hown hK hP hD hS r (gm_at hs) hc k hk (hts _ hl) (fun _ h9 => h9) hfin hd hn hfit (by simpa [gm_fs, hN] using hk) hdg (fun H1 locs1 h1 h2 h3 => ?_)
      rw [he] at h1 h2
      exact kk H1 locs1 ⟨h1, h2, h3, hA⟩
    · refine va_putN (D := Z.1) (fs := gm_fs G Z u (r + 1) ci) hx hb hts hu ty0 hty hnm hown hK hP hD hS r (gm_at hs) hc k hk (va_Nw.use rfl (hV.1 _ hl)) (fun _ h9 => h9) hfin hd hn hfit (by simpa [gm_fs, hN] using hk) hdg (fun H1 locs1 h1 h2 h3 => ?_)
      rw [he] at h1 h2
      exact kk H1 locs1 ⟨h1, h2, h3, hA⟩
end GM
