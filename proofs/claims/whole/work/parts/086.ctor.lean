/-! CONSTRUCTORS: worlds that grow, cell by cell, in the order of the plan; every reference lies in the memory -/
def gm_mb : List (String × Nat × MethodName × String) := [("LeapCapital", 9, ⟨"LeapCapital$Scribe", "<init>", "()V"⟩, "LeapCapital"), ("LeapCapital$Scribe", 11, ⟨"LeapCapital$Tape", "<init>", "()V"⟩, "LeapCapital"), ("LeapCapital$Realm", 40, ⟨"LeapCapital$Law", "<init>", "()V"⟩, "LeapCapital"), ("LeapCapital", 28, ⟨"LeapCapital$Reign", "<init>", "()V"⟩, "LeapCapital"), ("LeapCapital", 38, ⟨"LeapCapital$Court", "<init>", "()V"⟩, "LeapCapital"), ("LeapCapital", 45, ⟨"LeapCapital$Sayings", "<init>", "()V"⟩, "LeapCapital"), ("LeapCapital", 52, ⟨"LeapCapital$Hearing", "<init>", "()V"⟩, "LeapCapital"), ("LeapCapital", 85, ⟨"LeapCapital$Mark", "<init>", "()V"⟩, "LeapCapital"), ("LeapCapital$Mark", 15, ⟨"LeapCapital$Court", "<init>", "()V"⟩, "LeapCapital"), ("LeapCapital$Mark", 22, ⟨"LeapCapital$Reign", "<init>", "()V"⟩, "LeapCapital"), ("LeapCapital$Mark", 29, ⟨"LeapCapital$Sayings", "<init>", "()V"⟩, "LeapCapital")]
def gm_U (U : State) : Prop := ∀ q ∈ gm_mb, va_Nw (.methodLinkNest q.1 q.2.1 q.2.2.1 q.2.2.2) U
def gm_kd0 : Nat → Nat → Nat := fun ci k => if gm_kd ci k = 3 then 2 else gm_kd ci k
def gm_T (S : List (Nat ⊕ (Nat × Nat))) (n : Nat) : gm_G := (gm_kd0, fun _ _ => 0, S.take n)
/-- nothing is written beyond the cells that are there -/
def gm_z (n : Nat) (u : gm_M) : Prop := ∀ r, n < r → ∀ j, gI u r j = 0 ∧ gJ u r j = 0 ∧ gR u r j = 0
theorem gm_z.up {n k : Nat} {u : gm_M} (h : gm_z n u) (hk : n ≤ k) : gm_z k u := fun r hr => h r (by omega)
theorem gm_zI {n a k : Nat} {u : gm_M} {v : Int32} (h : gm_z n u) (ha : a ≤ n) : gm_z n (sI u a k v) := fun r hr j => by
  obtain ⟨h1, h2, h3⟩ := h r hr j
  refine ⟨?_, h2, h3⟩
  have hne : r ≠ a := by omega
  simp only [gI, sI] at h1 ⊢
  rw [if_neg (fun q => hne q.1)]; exact h1
theorem gm_zJ {n a k : Nat} {u : gm_M} {v : Int64} (h : gm_z n u) (ha : a ≤ n) : gm_z n (sJ u a k v) := fun r hr j => by
  obtain ⟨h1, h2, h3⟩ := h r hr j
  refine ⟨h1, ?_, h3⟩
  have hne : r ≠ a := by omega
  simp only [gJ, sJ] at h2 ⊢
  rw [if_neg (fun q => hne q.1)]; exact h2
theorem gm_zR {n a k : Nat} {u : gm_M} {v : Nat} (h : gm_z n u) (ha : a ≤ n) : gm_z n (sR u a k v) := fun r hr j => by
  obtain ⟨h1, h2, h3⟩ := h r hr j
  refine ⟨h1, h2, ?_⟩
  have hne : r ≠ a := by omega
  simp only [gR, sR] at h3 ⊢
  rw [if_neg (fun q => hne q.1)]; exact h3
theorem gm_Tsh {S : List (Nat ⊕ (Nat × Nat))} {n r : Nat} {x : Nat ⊕ (Nat × Nat)} (h : S[r]? = some x) (hr : r < n) : gm_sh (gm_T S n) (r + 1) = some x := by
  show (S.take n)[r]? = some x
  rw [List.getElem?_take, if_pos hr, h]
theorem gm_Tws {S : List (Nat ⊕ (Nat × Nat))} {Z : gm_Z} {u : gm_M} {n : Nat} {x : Nat ⊕ (Nat × Nat)} (h : S[n]? = some x) : gm_ws (gm_T S (n + 1)) Z u = gm_ws (gm_T S n) Z u ++ [(Z.2.2 (n + 1), gm_ce (gm_T S n) Z u (n + 1) x)] := by
  have hl : n < S.length := (List.getElem?_eq_some_iff.mp h).1
  have h1 : S.take (n + 1) = S.take n ++ [x] := by rw [List.take_add_one, h]; rfl
  show (S.take (n + 1)).mapIdx _ = (S.take n).mapIdx _ ++ _
  rw [h1, List.mapIdx_append]
  have h2 : (S.take n).length = n := by rw [List.length_take]; omega
  simp only [List.mapIdx_cons, List.mapIdx_nil, h2, Nat.zero_add]
  rfl
def gm_PN (S : List (Nat ⊕ (Nat × Nat))) (Z : gm_Z) (n : Nat) (u : gm_M) (sz : Nat) : State → Prop := fun U => gm_P (gm_T S n) Z u sz U ∧ gm_U U
def gm_QN (S : List (Nat ⊕ (Nat × Nat))) (Z : gm_Z) (n : Nat) (u : gm_M) (n' : Nat) (u' : gm_M) (sz : Nat) : Array Value → State → Outcome → State → Prop := fun _ st oc t => (oc = .returned none ∧ va_P Z.1 vwCl (gm_ws (gm_T S n') Z u') t.heap) ∧ va_F (va_A (gm_ws (gm_T S n) Z u) sz) st t
/-- a constructor's contract: from n cells with memory u to n' cells with memory u' -/
def gm_MetN (l : Launch) (S : List (Nat ⊕ (Nat × Nat))) (Z : gm_Z) (B : Nat) (y : MethodName) (cc : ByteArray) (maxL : Nat) (rm : Room) (av : List Value) (n : Nat) (u : gm_M) (n' : Nat) (u' : gm_M) : Prop :=
  Met l y (.code y cc maxL none :: gm_tb) rm (va_Pc av (gm_PN S Z n u (B + n))) (gm_QN S Z n u n' u' (B + n)) rm.cells rm.slots (va_A (gm_ws (gm_T S n) Z u) (B + n))
def gm_EN (S : List (Nat ⊕ (Nat × Nat))) (Z : gm_Z) (n : Nat) (u : gm_M) (n' : Nat) (u' : gm_M) (mc ms : Nat) (A : Nat → Prop) (below : List Frame) (args : Array Value) (s : State) (Q : State → Prop) : Prop :=
  Q = MQ below (gm_QN S Z n u n' u' s.heap.size) args s mc ms (va_A (gm_ws (gm_T S n) Z u) s.heap.size) ∧ A = va_A (gm_ws (gm_T S n) Z u) s.heap.size
theorem gm_ofWN {l : Launch} {S : List (Nat ⊕ (Nat × Nat))} {Z : gm_Z} {B : Nat} {y : MethodName} {cc : ByteArray} {maxL : Nat} {rm : Room} {av : List Value} {n n' : Nat} {u u' : gm_M} (hy : plainName y.cls = true) (hin : y.name = "<init>") (hav : (lg_sl av).length ≤ maxL)
    (body : ∀ (p : Program) (e : Env) (s : State) (m : MethodId) (args : Array Value) (below : List Frame) (meth : Method) (c : Code) (A : Nat → Prop) (ls : Array Slot) (Q : State → Prop) (R : Room), rm.frames ≤ R.frames → rm.locals ≤ R.locals → rm.cells ≤ R.cells → rm.slots ≤ R.slots → meth.name = "<init>" → gm_U s → s.heap.size = B + n → gm_C p s m meth c args Z A cc maxL y.cls none → gm_EN S Z n u n' u' rm.cells rm.slots A below args s Q → lv_has ls maxL (lv_args 0 av) → wd (gm_T S n) Z u A s.heap s.heap [] →
      W p l e R s m args below meth c s.heap [] 0 0 Q (F0 m 0 ls [])) : gm_MetN l S Z B y cc maxL rm av n u n' u' := by
  refine Met.ofW (cc := cc) (maxL := maxL) (ret := none) hy rfl ?_
  intro p e s m args below meth c s₁ B0 hml hv
  obtain ⟨rfl, ⟨hsz, hP, hK, hD0, hV⟩, hU⟩ := hv
  have hts := atoms_spec (ws := .code y cc maxL none :: gm_tb) B0.pre
  have hown : s.vm.findClass y.cls = some m.cls := findClass_of_methodNamed B0.named
  have hin2 : meth.name = "<init>" := (name_of_methodNamed B0.named B0.method).1.trans hin
  have hl := lv_entry av (n := maxL) hav
  rw [lg_entry_eq]
  generalize (lg_sl av ++ List.replicate (maxL - (lg_sl av).length) Slot.unset).toArray = ls at hl ⊢
  rw [← hsz] at hV ⊢
  exact body p e s m av.toArray below meth c (va_A (gm_ws (gm_T S n) Z u) s.heap.size) ls _ rm (Nat.le_refl _) (Nat.le_refl _) (Nat.le_refl _) (Nat.le_refl _) hin2 hU hsz ⟨B0.exec, B0.bytes, hml, hown, fun w h => hts w (List.mem_cons_of_mem _ h), hK, B0.returns, B0.notSynchronized, hV⟩ ⟨rfl, rfl⟩ hl ⟨hP, hD0.self, va_S.rf, fun q h => Or.inr h⟩
section GN
variable {p : Program} {l : Launch} {e : Env} {R : Room} {s : State} {m : MethodId} {args : Array Value} {below : List Frame} {meth : Method} {c : Code} {H : Heap} {locs : List Loc} {cells slots : Nat} {Q : State → Prop}
variable {cc : ByteArray} {nL : Nat} {own : String} {ret : Option FieldType} {pc : Nat} {ls : Array Slot} {rest st0 : List Value} {S : List (Nat ⊕ (Nat × Nat))} {Z : gm_Z} {u u' : gm_M} {A : Nat → Prop} {B n : Nat}
/-- how large the heap is, by the room's book -/
theorem gm_size (hw : wd (gm_T S (n + 1)) Z u A s.heap H locs) (hn : n < S.length) (hB : ∀ r, Z.2.2 (r + 1) = B + r) (hc : s.heap.size + cells = B + (n + 1)) {g : JFrame} (k : H.size = B + (n + 1) → W p l e R s m args below meth c H locs cells slots Q g) : W p l e R s m args below meth c H locs cells slots Q g := by
  intro T hT X
  have h1 : T.heap.size ≤ s.heap.size + cells := X.same.2.2.1
  rw [hT] at h1
  obtain ⟨x, hx⟩ : ∃ x, S[n]? = some x := ⟨_, List.getElem?_eq_getElem hn⟩
  have h2 : Z.2.2 (n + 1) < H.size := (hw.1 n _ (gm_at (gm_Tsh hx (Nat.lt_succ_self n)))).lt
  rw [hB n] at h2
  exact k (by omega) T hT X
theorem gm_newS (C : gm_C p s m meth c args Z A cc nL own ret) (hw : wd (gm_T S n) Z u A s.heap H locs) (hz : gm_z n u) (hB : ∀ r, Z.2.2 (r + 1) = B + r) (hsz : H.size = B + n) {ci idx N : Nat} {Cn : String} {T : u_T} {ty : Nat → FieldType} (hS : S[n]? = some (.inl ci)) (hc : vwCl[ci]? = some (Cn, T, N)) (hcl : Cond.classLink own idx Cn ∈ gm_tb) (hins : Cond.instantiable Cn N ∈ gm_tb) (hini : Cond.initialized Cn ∈ gm_tb) (hu : ∀ w ∈ u_ws Cn T N, w ∈ gm_tb) (hty : ∀ k, k < N → parseFieldDescriptor (T k).2.2.1 = some (ty k))
    (hdef : ∀ j, j < N → defaultValue (ty j) = match gm_kd0 ci j with | 0 => .int 0 | 1 => .long 0 | _ => .null) (hcells : cells + 1 ≤ R.cells) (hslots : slots + N ≤ R.slots) (hdg : decode cc pc = .ok (.new idx, 3))
    (kk : ∀ H1 : Heap, wd (gm_T S (n + 1)) Z u A s.heap H1 locs → W p l e R s m args below meth c H1 locs (cells + 1) (slots + N) Q (F0 m (pc + 3) ls (rv Z (n + 1) :: rest))) : W p l e R s m args below meth c H locs cells slots Q (F0 m pc ls rest) := by
  obtain ⟨hx, hb, hml, hown, hts, hK, -, -, -⟩ := C
  obtain ⟨hP, hD, hSS, hA⟩ := hw
  have hKn := hK.1 ci _ hc
  have had : Z.2.2 (n + 1) = H.size := by rw [hB n, hsz]
  refine W.newcK hx hb hown (hts _ hcl) (hts _ hins) (hts _ hini) rfl hdg hcells hslots hKn.2.1 rfl fun H1 kC hkC e1 z1 o1 => ?_
  have hk : ∀ (k : Nat) (x : Nat × va_E), (gm_ws (gm_T S n) Z u)[k]? = some x → H1[x.1]? = H[x.1]? := fun k x hx => o1 x.1 ((hP k x hx).lt)
  have hfv : ∀ j, gm_fv (gm_T S n) Z u (n + 1) ci j = match gm_kd0 ci j with | 0 => .int 0 | 1 => .long 0 | _ => .null := fun j => by
    obtain ⟨q1, q2, q3⟩ := hz (n + 1) (Nat.lt_succ_self n) j
    show (match gm_kd0 ci j with | 0 => Value.int (gI u (n + 1) j) | 1 => .long (gJ u (n + 1) j) | 2 => rv Z (gR u (n + 1) j) | _ => rv Z 0) = _
    rw [q1, q2, q3]
    match gm_kd0 ci j with
    | 0 => rfl
    | 1 => rfl
    | 2 => rfl
    | (_ + 3) => rfl
  have hcell : va_at Z.1 vwCl (Z.2.2 (n + 1), gm_ce (gm_T S n) Z u (n + 1) (.inl ci)) H1 := by
    rw [had]
    refine ⟨_, hc, (u_born ty hts hu hKn hkC e1 hty).to (fun j hj => ?_)⟩
    rw [hdef j hj, ← hfv j]
    have := gm_fs_at (G := gm_T S n) (Z := Z) (u := u) (r := n + 1) (ci := ci) (k := j) (by rw [gm_N_eq hc]; exact hj)
    simp [vp_V, this]
  have hws := gm_Tws (Z := Z) (u := u) hS
  rw [show (Value.ref H.size :: (F0 m pc ls rest).stack) = rv Z (n + 1) :: rest from by rw [← had]; rfl]
  refine kk H1 ⟨?_, ?_, ⟨Nat.le_trans hSS.1 (by omega), fun x h1 h2 => (o1 x (Nat.lt_of_lt_of_le h1 hSS.1)).trans (hSS.2.1 x h1 h2), hSS.2.2⟩, hA⟩
  · rw [hws]
    refine (hP.kept hk).app (fun k x hx => ?_)
    have hz : k < 1 := (List.getElem?_eq_some_iff.mp hx).1
    rw [show k = 0 by omega] at hx
    cases hx
    exact hcell
  · rw [hws]
    exact hD.push hP had (by rw [had]; exact hA _ hSS.1)
end GN
