/-! what a throw of NoSuchElementException needs of the machine, besides good words -/
def gm_tx : (Nat → Prop) → State → Heap → Prop := fun A U H => vx_Zq Bundle.tN "UNASSIGNED_STACK" Bundle.steD A U H ∧ vx_Zq Bundle.tN "SUPPRESSED_SENTINEL" Bundle.listD A U H ∧ va_Nw (.castable "java/util/NoSuchElementException" "java/util/NoSuchElementException") U ∧ va_Nw (.declares ⟨"java/lang/RuntimeException", "<init>", "()V"⟩) U ∧ va_Nw (.declares ⟨"java/lang/Exception", "<init>", "()V"⟩) U ∧ va_Nw (.declares ⟨"java/lang/Throwable", "<init>", "()V"⟩) U
theorem gm_tx_cl : gm_cl gm_tx := by
  refine ⟨fun A B s U H locs h hS hAB hW hU => ?_, fun A U V H hv h => ?_⟩
  · obtain ⟨h1, h2, h3, h4, h5, h6⟩ := h
    subst hU
    exact ⟨((h1.kept hS.2.1).narrow hAB).moved hW.alike, ((h2.kept hS.2.1).narrow hAB).moved hW.alike, va_Nw.warmC hW h3, va_Nw.warmD hW h4, va_Nw.warmD hW h5, va_Nw.warmD hW h6⟩
  · obtain ⟨h1, h2, h3, h4, h5, h6⟩ := h
    have ha : U.vm.Alike V.vm := by rw [hv]; exact Vm.Alike.refl _
    exact ⟨h1.moved ha, h2.moved ha, va_Nw.same rfl hv.symm h3, va_Nw.same rfl hv.symm h4, va_Nw.same rfl hv.symm h5, va_Nw.same rfl hv.symm h6⟩
theorem gm_at_in : ∀ w ∈ (vx_at0 RX10 301 "java/util/NoSuchElementException" ["java/lang/RuntimeException", "java/lang/Exception"]).filter goodWord, w ∈ lw_tbl := by decide +kernel
theorem gm_tx_at {args : Array Value} {s : State} {A : Nat → Prop} (hts : ∀ w ∈ gm_tb, w.before args s = true) (h : gm_tx A s s.heap) : ∀ w ∈ vx_at0 RX10 301 "java/util/NoSuchElementException" ["java/lang/RuntimeException", "java/lang/Exception"], w.before args s = true :=
  vx_hat (L := vx_at0 RX10 301 "java/util/NoSuchElementException" ["java/lang/RuntimeException", "java/lang/Exception"]) (B := [.castable "java/util/NoSuchElementException" "java/util/NoSuchElementException", .declares ⟨"java/lang/RuntimeException", "<init>", "()V"⟩, .declares ⟨"java/lang/Exception", "<init>", "()V"⟩, .declares ⟨"java/lang/Throwable", "<init>", "()V"⟩])
    (fun w hw => hts w (List.mem_filter.mpr ⟨gm_at_in w hw, (List.mem_filter.mp hw).2⟩)) (by decide +kernel) (vx_c (va_Nw.use rfl h.2.2.1) (vx_c (va_Nw.use rfl h.2.2.2.1) (vx_c (va_Nw.use rfl h.2.2.2.2.1) (vx_c (va_Nw.use rfl h.2.2.2.2.2) vx_n))))
theorem gm_tl1 : Cond.laysStatic Bundle.tN "UNASSIGNED_STACK" Bundle.steD ∈ lw_tbl := by decide +kernel
theorem gm_tl2 : Cond.laysStatic Bundle.tN "SUPPRESSED_SENTINEL" Bundle.listD ∈ lw_tbl := by decide +kernel
theorem gm_tl3 : Cond.initialized Bundle.tN ∈ lw_tbl := by decide +kernel
theorem gm_tl4 : Cond.castable "java/util/NoSuchElementException" "java/util/NoSuchElementException" ∈ lw_tbl := by decide +kernel
theorem gm_tl5 : Cond.declares ⟨"java/lang/RuntimeException", "<init>", "()V"⟩ ∈ lw_tbl ∧ Cond.declares ⟨"java/lang/Exception", "<init>", "()V"⟩ ∈ lw_tbl ∧ Cond.declares ⟨"java/lang/Throwable", "<init>", "()V"⟩ ∈ lw_tbl := by decide +kernel
theorem gm_tr1 : Cond.isRef (.static Bundle.tN "UNASSIGNED_STACK" Bundle.steD) ∈ flatC (Cond.and given_1 narrow_1) := by decide +kernel
theorem gm_tr2 : Cond.isRef (.static Bundle.tN "SUPPRESSED_SENTINEL" Bundle.listD) ∈ flatC (Cond.and given_1 narrow_1) := by decide +kernel
/-- the law's start has it -/
theorem lw_tx {s : State} {b : Nat} (hts : ∀ w ∈ lw_tbl, w.before #[Value.ref b] s = true) (hgv : (Jvm.Cond.and given_1 narrow_1).before #[Value.ref b] s = true) : gm_tx (fun q : Nat => s.heap.size ≤ q) s s.heap := by
  have hfl := flat_of_before _ hgv
  have hA : ∀ a : Nat, a < s.heap.size → ¬ (fun q : Nat => s.heap.size ≤ q) a := fun a h => Nat.not_le.mpr h
  exact ⟨vx_Zqof (hts _ gm_tl1) (hts _ gm_tl3) (hfl _ gm_tr1) hA, vx_Zqof (hts _ gm_tl2) (hts _ gm_tl3) (hfl _ gm_tr2) hA, va_Nw.of rfl (hts _ gm_tl4), va_Nw.of rfl (hts _ gm_tl5.1), va_Nw.of rfl (hts _ gm_tl5.2.1), va_Nw.of rfl (hts _ gm_tl5.2.2)⟩
