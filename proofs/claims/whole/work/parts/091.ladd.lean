theorem gm_ofWV {l : Launch} {S : List (Nat ⊕ (Nat × Nat))} {Z : gm_Z} {B : Nat} {y : MethodName} {cc : ByteArray} {maxL : Nat} {rm : Room} {av : List Value} {n n' : Nat} {u u' : gm_M} (hy : plainName y.cls = true) (hav : (lg_sl av).length ≤ maxL)
    (body : ∀ (p : Program) (e : Env) (s : State) (m : MethodId) (args : Array Value) (below : List Frame) (meth : Method) (c : Code) (A : Nat → Prop) (ls : Array Slot) (Q : State → Prop) (R : Room), gm_C p s m meth c args Z A cc maxL y.cls none → gm_EN S Z n u n' u' rm.cells rm.slots A below args s Q → lv_has ls maxL (lv_args 0 av) → wd (gm_T S n) Z u A s.heap s.heap [] →
      W p l e R s m args below meth c s.heap [] 0 0 Q (F0 m 0 ls [])) : gm_MetN l S Z B y cc maxL rm av n u n' u' := by
  refine Met.ofW (cc := cc) (maxL := maxL) (ret := none) hy rfl ?_
  intro p e s m args below meth c s₁ B0 hml hv
  obtain ⟨rfl, ⟨hsz, hP, hK, hD0, hV⟩, hU⟩ := hv
  have hts := atoms_spec (ws := .code y cc maxL none :: gm_tb) B0.pre
  have hown : s.vm.findClass y.cls = some m.cls := findClass_of_methodNamed B0.named
  have hl := lv_entry av (n := maxL) hav
  rw [lg_entry_eq]
  generalize (lg_sl av ++ List.replicate (maxL - (lg_sl av).length) Slot.unset).toArray = ls at hl ⊢
  rw [← hsz] at hV ⊢
  exact body p e s m av.toArray below meth c (va_A (gm_ws (gm_T S n) Z u) s.heap.size) ls _ rm ⟨B0.exec, B0.bytes, hml, hown, fun w h => hts w (List.mem_cons_of_mem _ h), hK, B0.returns, B0.notSynchronized, hV⟩ ⟨rfl, rfl⟩ hl ⟨hP, hD0.self, va_S.rf, fun q h => Or.inr h⟩
set_option maxRecDepth 100000 in
set_option maxHeartbeats 4000000 in
theorem ct_ladd (l : Launch) (Z : gm_Z) (B n k j : Nat) (u : gm_M) (hS1 : gm_SC[k]? = some (.inl 2)) (hS2 : gm_SC[j]? = some (.inr (0, 1000))) (hk : k < n) (hj : j < n) (hR : gR u (k + 1) 0 = j + 1) (hI : gI u (k + 1) 1 = 0) : gm_MetN l gm_SC Z B yX3_add cX3_add 2 ({ frames := 0, cells := 0, slots := 0, locals := 0 }) [rv Z (k + 1), .int (-1)] n u n (cu_ladd k j u) := by
  refine gm_ofWV (by decide +kernel) (Nat.le_of_ble_eq_true rfl) ?_
  intro p e s m args below meth c A ls Q R C E hl hw
  obtain ⟨hx, hb, -⟩ := id C
  have hl : lv_has ls 2 [(0, rv Z (k + 1)), (1, .int (-1))] := hl
  have hs1 := gm_Tsh (n := n) hS1 hk
  have hs2 := gm_Tsh (n := n) hS2 hj
  refine gm_aload_nS C dX3_add_0 rfl (lv_at hl 0 rfl) ?_
  refine gm_getI (G := gm_T gm_SC n) (u := u) (r := k + 1) (ci := 2) (k := 1) C hw hs1 fl_X3_15 dX3_add_1 rfl ?_
  refine gm_topI hI.symm ?_
  refine lv_if_lt (tgt := 39) hx hb dX3_add_4 (by decide) (fun hc => absurd hc (by decide)) (fun hc => ?_)
  refine gm_aload_nS C dX3_add_7 rfl (lv_at hl 0 rfl) ?_
  refine gm_getI (G := gm_T gm_SC n) (u := u) (r := k + 1) (ci := 2) (k := 1) C hw hs1 fl_X3_15 dX3_add_8 rfl ?_
  refine gm_topI hI.symm ?_
  refine gm_aload_nS C dX3_add_11 rfl (lv_at hl 0 rfl) ?_
  refine gm_getR (G := gm_T gm_SC n) (u := u) (r := k + 1) (ci := 2) (k := 0) C hw hs1 fl_X3_9 dX3_add_12 rfl ?_
  refine gm_topRS hR.symm ?_
  refine gm_alen (G := gm_T gm_SC n) (u := u) (r := j + 1) (t := 0) (n := 1000) (v := 1000) C hw hs2 (by decide) (by decide) dX3_add_15 ?_
  refine lv_icmp_ge (tgt := 39) hx hb dX3_add_16 (by decide) (fun hc => absurd hc (by decide)) (fun hc => ?_)
  refine gm_aload_nS C dX3_add_19 rfl (lv_at hl 0 rfl) ?_
  refine gm_getR (G := gm_T gm_SC n) (u := u) (r := k + 1) (ci := 2) (k := 0) C hw hs1 fl_X3_9 dX3_add_20 rfl ?_
  refine gm_topRS hR.symm ?_
  refine gm_aload_nS C dX3_add_23 rfl (lv_at hl 0 rfl) ?_
  refine gm_getI (G := gm_T gm_SC n) (u := u) (r := k + 1) (ci := 2) (k := 1) C hw hs1 fl_X3_15 dX3_add_24 rfl ?_
  refine gm_topI hI.symm ?_
  refine lv_iload_n hx hb dX3_add_27 rfl (lv_at hl 1 rfl) ?_
  refine gm_iast (G := gm_T gm_SC n) (u := u) (r := j + 1) (n := 1000) (i := 0) (x := -1) C hw hs2 (by decide) (j := 0) (by decide) dX3_add_28 (fun H locs hw => ?_)
  have hI2 : gI (sI u (j + 1) 0 (-1)) (k + 1) 1 = 0 := by
    have : gI (sI u (j + 1) 0 (-1)) (k + 1) 1 = gI u (k + 1) 1 := by simp [gI, sI]
    rw [this, hI]
  refine gm_aload_nS C dX3_add_29 rfl (lv_at hl 0 rfl) ?_
  refine lv_dup hx hb dX3_add_30 (gm_cat _ _) ?_
  refine gm_getI (G := gm_T gm_SC n) (u := sI u (j + 1) 0 (-1)) (r := k + 1) (ci := 2) (k := 1) C hw hs1 fl_X3_15 dX3_add_31 rfl ?_
  refine gm_topI hI2.symm ?_
  refine lv_iconst (v := 1) hx hb dX3_add_34 (by decide) ?_
  refine lv_iadd hx hb dX3_add_35 ?_
  refine gm_putI (G := gm_T gm_SC n) (u := sI u (j + 1) 0 (-1)) (r := k + 1) (ci := 2) (k := 1) (v := 0 + 1) C hw hs1 fl_X3_15 fp_2_1 dX3_add_36 rfl (fun H locs hw => ?_)
  exact gm_vretN C E hw rfl rfl (Nat.le_refl _) (Nat.le_refl _) dX3_add_39
