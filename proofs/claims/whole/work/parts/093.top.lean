def gm_u0 : gm_M := (fun _ _ => 0, fun _ _ => 0, fun _ _ => 0)
theorem gm_z0 (n : Nat) : gm_z n gm_u0 := fun _ _ _ => ⟨rfl, rfl, rfl⟩
def gm_PT (S : List (Nat ⊕ (Nat × Nat))) (Z : gm_Z) (u : gm_M) (sz : Nat) : State → Prop := fun U => gm_PN S Z 1 u sz U ∧ va_AO RX1 U ∧ va_AO RX4 U
def gm_QT (G : gm_G) (S : List (Nat ⊕ (Nat × Nat))) (Z : gm_Z) (u u' : gm_M) (sz : Nat) : Array Value → State → Outcome → State → Prop := fun _ st oc t => (oc = .returned none ∧ va_P Z.1 vwCl (gm_ws G Z u') t.heap) ∧ va_F (va_A (gm_ws (gm_T S 1) Z u) sz) st t
def gm_MetT (l : Launch) (G : gm_G) (S : List (Nat ⊕ (Nat × Nat))) (Z : gm_Z) (B : Nat) (y : MethodName) (cc : ByteArray) (maxL : Nat) (rm : Room) (u u' : gm_M) : Prop :=
  Met l y (.code y cc maxL none :: gm_tb) rm (va_Pc [rv Z 1] (gm_PT S Z u (B + 1))) (gm_QT G S Z u u' (B + 1)) rm.cells rm.slots (va_A (gm_ws (gm_T S 1) Z u) (B + 1))
def gm_ET (G : gm_G) (S : List (Nat ⊕ (Nat × Nat))) (Z : gm_Z) (u u' : gm_M) (mc ms : Nat) (A : Nat → Prop) (below : List Frame) (args : Array Value) (s : State) (Q : State → Prop) : Prop :=
  Q = MQ below (gm_QT G S Z u u' s.heap.size) args s mc ms (va_A (gm_ws (gm_T S 1) Z u) s.heap.size) ∧ A = va_A (gm_ws (gm_T S 1) Z u) s.heap.size
theorem gm_ofWT {l : Launch} {G : gm_G} {S : List (Nat ⊕ (Nat × Nat))} {Z : gm_Z} {B : Nat} {y : MethodName} {cc : ByteArray} {maxL : Nat} {rm : Room} {u u' : gm_M} (hy : plainName y.cls = true) (hin : y.name = "<init>") (hav : (lg_sl [rv Z 1]).length ≤ maxL)
    (body : ∀ (p : Program) (e : Env) (s : State) (m : MethodId) (args : Array Value) (below : List Frame) (meth : Method) (c : Code) (A : Nat → Prop) (ls : Array Slot) (Q : State → Prop) (R : Room), rm.frames ≤ R.frames → rm.locals ≤ R.locals → rm.cells ≤ R.cells → rm.slots ≤ R.slots → meth.name = "<init>" → gm_U s → va_AO RX1 s → va_AO RX4 s → s.heap.size = B + 1 → gm_C p s m meth c args Z A cc maxL y.cls none → gm_ET G S Z u u' rm.cells rm.slots A below args s Q → lv_has ls maxL (lv_args 0 [rv Z 1]) → wd (gm_T S 1) Z u A s.heap s.heap [] →
      W p l e R s m args below meth c s.heap [] 0 0 Q (F0 m 0 ls [])) : gm_MetT l G S Z B y cc maxL rm u u' := by
  refine Met.ofW (cc := cc) (maxL := maxL) (ret := none) hy rfl ?_
  intro p e s m args below meth c s₁ B0 hml hv
  obtain ⟨rfl, ⟨⟨hsz, hP, hK, hD0, hV⟩, hU⟩, ho4, ho5⟩ := hv
  have hts := atoms_spec (ws := .code y cc maxL none :: gm_tb) B0.pre
  have hown : s.vm.findClass y.cls = some m.cls := findClass_of_methodNamed B0.named
  have hin2 : meth.name = "<init>" := (name_of_methodNamed B0.named B0.method).1.trans hin
  have hl := lv_entry [rv Z 1] (n := maxL) hav
  rw [lg_entry_eq]
  generalize (lg_sl [rv Z 1] ++ List.replicate (maxL - (lg_sl [rv Z 1]).length) Slot.unset).toArray = ls at hl ⊢
  rw [← hsz] at hV ⊢
  exact body p e s m [rv Z 1].toArray below meth c (va_A (gm_ws (gm_T S 1) Z u) s.heap.size) ls _ rm (Nat.le_refl _) (Nat.le_refl _) (Nat.le_refl _) (Nat.le_refl _) hin2 hU ho4 ho5 hsz ⟨B0.exec, B0.bytes, hml, hown, fun w h => hts w (List.mem_cons_of_mem _ h), hK, B0.returns, B0.notSynchronized, hV⟩ ⟨rfl, rfl⟩ hl ⟨hP, hD0.self, va_S.rf, fun q h => Or.inr h⟩
theorem gm_vretT {p : Program} {l : Launch} {e : Env} {R : Room} {s : State} {m : MethodId} {args : Array Value} {below : List Frame} {meth : Method} {c : Code} {H : Heap} {locs : List Loc} {cells slots : Nat} {Q : State → Prop} {cc : ByteArray} {nL : Nat} {own : String} {ret : Option FieldType} {pc : Nat} {ls : Array Slot} {G : gm_G} {S : List (Nat ⊕ (Nat × Nat))} {Z : gm_Z} {u u' u0 : gm_M} {A : Nat → Prop} (C : gm_C p s m meth c args Z A cc nL own ret) {mc ms : Nat} (E : gm_ET G S Z u0 u' mc ms A below args s Q) (hw : wd G Z u A s.heap H locs) (hr : ret = none) (hu : u' = u) (h1 : cells ≤ mc) (h2 : slots ≤ ms) (hdg : decode cc pc = .ok (.return_, 1)) : W p l e R s m args below meth c H locs cells slots Q (F0 m pc ls []) := by
  obtain ⟨rfl, rfl⟩ := E
  subst hu; subst hr
  refine W.widen (k := mc) (n := ms) h1 h2 ?_
  exact W.vret C.1 C.2.1 C.2.2.2.2.2.2.1 (fun t ht _ => ⟨⟨rfl, by rw [ht]; exact hw.1⟩, hw.2.2.1.F ht⟩) hw.2.2.1.2.2 hdg (hlocks := C.2.2.2.2.2.2.2.1)
/-- the grown world is the whole one, if the fixed references stand -/
def gm_okR (G : gm_G) (u : gm_M) : Bool := (List.range G.2.2.length).all (fun i => match G.2.2[i]? with
  | some (.inl ci) => (List.range (gm_N ci)).all (fun k => gm_kd ci k != 3 || gR u (i + 1) k == G.2.1 (i + 1) k)
  | _ => true)
theorem gm_conv {G : gm_G} {Z : gm_Z} {u : gm_M} {n : Nat} (hn : n = G.2.2.length) (hk : G.1 = gm_kd) (hk3 : ∀ ci k, gm_kd ci k < 4) (h : gm_okR G u = true) : gm_ws (gm_T G.2.2 n) Z u = gm_ws G Z u := by
  subst hn
  have hS : (gm_T G.2.2 G.2.2.length).2.2 = G.2.2 := List.take_length
  apply List.ext_getElem?
  intro i
  show ((gm_T G.2.2 G.2.2.length).2.2.mapIdx _)[i]? = _
  rw [hS]
  simp only [gm_ws, List.getElem?_mapIdx]
  cases hg : G.2.2[i]? with
  | none => rfl
  | some x =>
    simp only [Option.map_some]
    congr 2
    cases x with
    | inr q => rfl
    | inl ci =>
      have hi : i < G.2.2.length := (List.getElem?_eq_some_iff.mp hg).1
      have h1 := List.all_eq_true.mp h i (List.mem_range.mpr hi)
      rw [hg] at h1
      have h2 := List.all_eq_true.mp h1
      have hfs : gm_fs (gm_T G.2.2 G.2.2.length) Z u (i + 1) ci = gm_fs G Z u (i + 1) ci := by
        apply List.map_congr_left
        intro k hkk
        have h3 := h2 k hkk
        show (match gm_kd0 ci k with | 0 => Value.int (gI u (i + 1) k) | 1 => .long (gJ u (i + 1) k) | 2 => rv Z (gR u (i + 1) k) | _ => rv Z 0) = (match G.1 ci k with | 0 => Value.int (gI u (i + 1) k) | 1 => .long (gJ u (i + 1) k) | 2 => rv Z (gR u (i + 1) k) | _ => rv Z (G.2.1 (i + 1) k))
        rw [hk]
        have hlt := hk3 ci k
        unfold gm_kd0
        revert h3 hlt
        generalize gm_kd ci k = d
        intro h3 hlt
        match d, hlt with
        | 0, _ => rfl
        | 1, _ => rfl
        | 2, _ => rfl
        | 3, _ =>
          have h4 : gR u (i + 1) k = G.2.1 (i + 1) k := by simpa using h3
          simp only [if_true]
          show rv Z _ = rv Z _
          rw [h4]
      show (Sum.inr (ci, gm_fs (gm_T G.2.2 G.2.2.length) Z u (i + 1) ci) : va_E) = Sum.inr (ci, gm_fs G Z u (i + 1) ci)
      rw [hfs]
