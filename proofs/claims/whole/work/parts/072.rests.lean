theorem cw_X10_296 : gm_cw RX10 296 yX10_isStake cX10_isStake 1 (some .boolean) 1 := ⟨gm_ix 1054 (by decide +kernel) rfl, gm_ix 89 (by decide +kernel) rfl, gm_ix 1056 (by decide +kernel) rfl, by decide +kernel⟩
theorem st_X10_isStake : Cond.static yX10_isStake ∈ gm_tb := gm_ix 1055 (by decide +kernel) rfl
theorem cw_X10_302 : gm_cw RX10 302 yX10_gain cX10_gain 5 (some .int) 5 := ⟨gm_ix 1118 (by decide +kernel) rfl, gm_ix 89 (by decide +kernel) rfl, gm_ix 1120 (by decide +kernel) rfl, by decide +kernel⟩
theorem st_X10_gain : Cond.static yX10_gain ∈ gm_tb := gm_ix 1119 (by decide +kernel) rfl
/-! a method that returns, or throws NoSuchElementException: its contract -/
def gx_Qc (Z : gm_Z) (u : gm_M) (sz : Nat) (o : Option Int32) : Array Value → State → Outcome → State → Prop := fun a st oc t => ∃ r, o = some r ∧ gm_Q GC Z u u sz (some (.int r)) a st oc t
def gx_XC (Z : gm_Z) (u : gm_M) (sz : Nat) (o : Option Int32) : String → State → State → Prop := fun E st t => o = none ∧ E = "java/util/NoSuchElementException" ∧ va_P Z.1 vwCl (gm_ws GC Z u) t.heap ∧ va_F (va_A (gm_ws GC Z u) sz) st t
def gx_Met (l : Launch) (Z : gm_Z) (rm : Room) (av : List Value) (u : gm_M) (o : Option Int32) : Prop :=
  ∀ sz : Nat, vx_Met l yX10_rests (.code yX10_rests cX10_rests 10 (some .int) :: gm_tb) rm (va_Pc av (fun U => gm_P GC Z u sz U ∧ gm_tx (va_A (gm_ws GC Z u) sz) U U.heap)) (gx_Qc Z u sz o) (gx_XC Z u sz o) 1 6 (va_A (gm_ws GC Z u) sz)
def gx_E (Z : gm_Z) (u : gm_M) (o : Option Int32) (A : Nat → Prop) (below : List Frame) (args : Array Value) (s : State) (Q : State → Prop) : Prop :=
  Q = vx_MQ below (gx_Qc Z u s.heap.size o) (gx_XC Z u s.heap.size o) args s 1 6 (va_A (gm_ws GC Z u) s.heap.size) ∧ A = va_A (gm_ws GC Z u) s.heap.size
theorem gx_ofW {l : Launch} {Z : gm_Z} {rm : Room} {av : List Value} {u : gm_M} {o : Option Int32} (hav : (lg_sl av).length ≤ 10) (hrc : rm.cells = 1) (hrs : rm.slots = 6)
    (body : ∀ (p : Program) (e : Env) (s : State) (m : MethodId) (args : Array Value) (below : List Frame) (meth : Method) (c : Code) (A : Nat → Prop) (ls : Array Slot) (Q : State → Prop) (R : Room), rm.frames ≤ R.frames → rm.locals ≤ R.locals → 1 ≤ R.cells → 6 ≤ R.slots → gm_tx A s s.heap → gm_C p s m meth c args Z A cX10_rests 10 RX10 (some .int) → gx_E Z u o A below args s Q → (∀ x ∈ c.exceptionTable.toList, False) → lv_has ls 10 (lv_args 0 av) → wd GC Z u A s.heap s.heap [] →
      W p l e R s m args below meth c s.heap [] 0 0 Q (F0 m 0 ls [])) : gx_Met l Z rm av u o := by
  intro sz
  refine vx_ofW (cc := cX10_rests) (maxL := 10) (ret := some .int) (by decide +kernel) rfl ?_
  intro p e s m args below meth c s₁ B hml ht hv
  obtain ⟨rfl, ⟨hsz, hP, hK, hD0, hV⟩, hX⟩ := hv
  have hts := atoms_spec (ws := .code yX10_rests cX10_rests 10 (some .int) :: gm_tb) B.pre
  have hown : s.vm.findClass RX10 = some m.cls := findClass_of_methodNamed B.named
  subst hsz
  have hl := lv_entry av (n := 10) hav
  rw [lg_entry_eq]
  generalize (lg_sl av ++ List.replicate (10 - (lg_sl av).length) Slot.unset).toArray = ls at hl ⊢
  exact body p e s m av.toArray below meth c (va_A (gm_ws GC Z u) s.heap.size) ls _ rm (Nat.le_refl _) (Nat.le_refl _) (Nat.le_of_eq hrc.symm) (Nat.le_of_eq hrs.symm) hX ⟨B.exec, B.bytes, hml, hown, fun w h => hts w (List.mem_cons_of_mem _ h), hK, B.returns, B.notSynchronized, hV⟩ ⟨rfl, rfl⟩ ht hl ⟨hP, hD0.self, va_S.rf, fun q h => Or.inr h⟩
section GXR
variable {p : Program} {l : Launch} {e : Env} {R : Room} {s : State} {m : MethodId} {args : Array Value} {below : List Frame} {meth : Method} {c : Code} {H : Heap} {locs : List Loc} {Q : State → Prop} {pc : Nat} {ls : Array Slot} {Z : gm_Z} {u : gm_M} {o : Option Int32} {A : Nat → Prop}
theorem gx_iret (C : gm_C p s m meth c args Z A cX10_rests 10 RX10 (some .int)) (E : gx_E Z u o A below args s Q) (hw : wd GC Z u A s.heap H locs) {v : Int32} (ho : o = some v) (hdg : decode cX10_rests pc = .ok (.ireturn, 1)) : W p l e R s m args below meth c H locs 0 0 Q (F0 m pc ls [.int v]) := by
  obtain ⟨rfl, rfl⟩ := E
  refine vx_ret ?_
  intro T hT X
  refine W.iret (cells := 1) (slots := 6) C.1 C.2.1 C.2.2.2.2.2.2.1 (fun t ht _ => ⟨v, ho, ⟨rfl, by rw [ht]; exact hw.1⟩, hw.2.2.1.F ht⟩) hw.2.2.1.2.2 hdg (hlocks := C.2.2.2.2.2.2.2.1) T hT (stand_widen X (Nat.zero_le _) (Nat.zero_le _))
theorem gx_link : Cond.classLink RX10 299 "java/util/NoSuchElementException" ∈ gm_tb := List.mem_filter.mpr ⟨by decide +kernel, rfl⟩
theorem gx_ini : Cond.initialized "java/util/NoSuchElementException" ∈ gm_tb := List.mem_filter.mpr ⟨by decide +kernel, rfl⟩
theorem gx_good : ∀ w ∈ Cond.classLink RX10 299 "java/util/NoSuchElementException" :: Cond.initialized "java/util/NoSuchElementException" :: vx_at0 RX10 301 "java/util/NoSuchElementException" ["java/lang/RuntimeException", "java/lang/Exception"], vx_ot w = true := List.all_eq_true.mp (by decide +kernel)
theorem gx_throw (C : gm_C p s m meth c args Z A cX10_rests 10 RX10 (some .int)) (E : gx_E Z u o A below args s Q) (hX : gm_tx A s s.heap) (hls : l.stackTraces = false) (ht : ∀ x ∈ c.exceptionTable.toList, False) (hRf : 6 ≤ R.frames) (hRl : 81 ≤ R.locals) (hRc : 1 ≤ R.cells) (hRs : 6 ≤ R.slots) (hl : ls.size = 10) (hw : wd GC Z u A s.heap H locs) (ho : o = none) (d0 : decode cX10_rests pc = .ok (.new 299, 3)) (d3 : decode cX10_rests (pc + 3) = .ok (.dup, 1)) (d4 : decode cX10_rests (pc + 4) = .ok (.invokespecial 301, 3)) (d7 : decode cX10_rests (pc + 7) = .ok (.athrow, 1)) : W p l e R s m args below meth c H locs 0 0 Q (F0 m pc ls []) := by
  obtain ⟨rfl, rfl⟩ := E
  refine vx_throw0 (own := RX10) (cls := "java/util/NoSuchElementException") (names := ["java/lang/RuntimeException", "java/lang/Exception"]) (ik := 299) (ic := 301) C.1 C.2.1 hls C.2.2.2.1 (by decide +kernel) (by decide +kernel) (C.2.2.2.2.1 _ gx_link) (C.2.2.2.2.1 _ gx_ini) (gm_tx_at C.2.2.2.2.1 hX) gx_good hX.1 hX.2.1 hw.2.2.1 (hl.trans C.2.2.1.symm) d0 d3 d4 d7 (fun x hx => (ht x hx).elim) (Nat.lt_of_lt_of_le (by decide) hRf) (Nat.le_trans (by decide) hRl) (by omega) (by omega) C.2.2.2.2.2.2.2.1 (fun t _ h1 h2 => ?_) hw.2.2.1.2.2 (by omega) (by omega)
  refine ⟨ho, rfl, hw.1.kept (fun k q hq => h2 q.1 (hw.1 k q hq).lt), Nat.le_trans hw.2.2.1.1 h1, fun q a1 a2 => ?_⟩
  rw [h2 q (Nat.lt_of_lt_of_le a1 hw.2.2.1.1)]
  exact hw.2.2.1.2.1 q a1 a2
end GXR
def j_X10_rests_131 (a1 : Int32) (a2 : Int32) (a3 : Int32) (a4 : Int32) (v5_6 : Int32) (v6_7 : Int32) (v9_8 : Int32) : Option ((Int32 × Int32) ⊕ (Int32 ⊕ Int32)) := if v9_8 = 0 then some (.inl (v5_6, v6_7 + (1 : Int32))) else some (.inl (v5_6 + (1 : Int32), v6_7 + (1 : Int32)))
def j_X10_rests_114 (a1 : Int32) (a2 : Int32) (a3 : Int32) (a4 : Int32) (v5_9 : Int32) (v6_10 : Int32) (t_11 : Int32) : Option ((Int32 × Int32) ⊕ (Int32 ⊕ Int32)) := if t_11 = 0 then j_X10_rests_131 a1 a2 a3 a4 v5_9 v6_10 t_11 else if v5_9 = a4 then some (.inr (.inl v6_10)) else j_X10_rests_131 a1 a2 a3 a4 v5_9 v6_10 t_11
def j_X10_rests_113 (a1 : Int32) (a2 : Int32) (a3 : Int32) (a4 : Int32) (v5_12 : Int32) (v6_13 : Int32) : Option ((Int32 × Int32) ⊕ (Int32 ⊕ Int32)) := j_X10_rests_114 a1 a2 a3 a4 v5_12 v6_13 (0 : Int32)
def b_X10_rests_41 (a1 : Int32) (a2 : Int32) (a3 : Int32) (a4 : Int32) : (Int32 × Int32) → Option ((Int32 × Int32) ⊕ (Int32 ⊕ Int32)) := fun x => match x with | (v5_4, v6_5) => if (4 : Int32) ≤ v6_5 then some (.inr (.inr v5_4)) else gm_let (v6_5 >>> ((1 : Int32) &&& 31)) fun v7_14 => gm_let (v6_5 &&& (1 : Int32)) fun v8_15 => gm_let (f_X10_gain v7_14 v8_15 a1 a2 a3) fun r_16 => gm_let (f_X10_gain ((1 : Int32) - v7_14) v8_15 a1 a2 a3) fun r_17 => if r_16 < r_17 then j_X10_rests_113 a1 a2 a3 a4 v5_4 v6_5 else gm_let (f_X10_gain v8_15 v7_14 a1 a2 a3) fun r_18 => gm_let (f_X10_gain ((1 : Int32) - v8_15) v7_14 a1 a2 a3) fun r_19 => if r_18 < r_19 then j_X10_rests_113 a1 a2 a3 a4 v5_4 v6_5 else j_X10_rests_114 a1 a2 a3 a4 v5_4 v6_5 (1 : Int32)
def f_X10_rests (a1 : Int32) (a2 : Int32) (a3 : Int32) (a4 : Int32) : Option (Option Int32) := gm_let (f_X10_isStake a1) fun r_1 => if r_1 = 0 then some none else gm_let (f_X10_isStake a2) fun r_2 => if r_2 = 0 then some none else gm_let (f_X10_isStake a3) fun r_3 => if r_3 = 0 then some none else if (-1 : Int32) ≤ a4 then ((gm_lp (b_X10_rests_41 a1 a2 a3 a4) gm_FU ((0 : Int32), (0 : Int32))).bind fun o => match o with | .inl w6_20 => (some (some w6_20)) | .inr (w5_21) => (if a4 = (-1 : Int32) then some (some w5_21) else some none)) else some none
set_option maxRecDepth 100000 in
set_option maxHeartbeats 4000000 in
theorem ok_X10_rests (l : Launch) (hls : l.stackTraces = false) (Z : gm_Z) (a1 : Int32) (a2 : Int32) (a3 : Int32) (a4 : Int32) (u : gm_M) (o : Option Int32) (hf : f_X10_rests a1 a2 a3 a4 = some o) : gx_Met l Z ({ frames := 6, cells := 1, slots := 6, locals := 81 }) [rv Z 1, .int a1, .int a2, .int a3, .int a4] u o := by
  unfold f_X10_rests at hf
  refine gx_ofW (Nat.le_of_ble_eq_true rfl) rfl rfl ?_
  intro p e s m args below meth c A ls Q R hRf hRl hRc hRs hX C E ht hl hw
  obtain ⟨hx, hb, -⟩ := id C
  have hl : lv_has ls 10 [(0, rv Z 1), (1, .int a1), (2, .int a2), (3, .int a3), (4, .int a4)] := hl
  refine lv_iload_n hx hb dX10_rests_0 rfl (lv_at hl 1 rfl) ?_
  obtain ⟨r_1, e_r_1, hf⟩ := gm_le hf
  refine gm_callS (G := GC) (u := u) (u' := u) (As := [.int a1]) (rest := []) (res := (some (.int (f_X10_isStake a1)))) C hw hl (ok_X10_isStake l Z a1 u) cw_X10_296 st_X10_isStake rfl rfl ⟨Nat.le_trans (Nat.le_of_ble_eq_true rfl) hRf, Nat.le_trans (Nat.le_of_ble_eq_true rfl) hRl⟩ rfl rfl (Nat.le_of_ble_eq_true rfl) dX10_rests_1 (fun H locs hw => ?_)
  refine gm_topI e_r_1 ?_
  refine lv_if_eq (tgt := 27) hx hb dX10_rests_4 (by decide) (fun hc => ?_) (fun hc => ?_)
  · replace hf := (if_pos hc).symm.trans hf
    exact gx_throw C E hX hls ht hRf hRl hRc hRs hl.1 hw (Option.some.inj hf).symm dX10_rests_27 dX10_rests_30 dX10_rests_31 dX10_rests_34
  · replace hf := (if_neg hc).symm.trans hf
    refine lv_iload_n hx hb dX10_rests_7 rfl (lv_at hl 2 rfl) ?_
    obtain ⟨r_2, e_r_2, hf⟩ := gm_le hf
    refine gm_callS (G := GC) (u := u) (u' := u) (As := [.int a2]) (rest := []) (res := (some (.int (f_X10_isStake a2)))) C hw hl (ok_X10_isStake l Z a2 u) cw_X10_296 st_X10_isStake rfl rfl ⟨Nat.le_trans (Nat.le_of_ble_eq_true rfl) hRf, Nat.le_trans (Nat.le_of_ble_eq_true rfl) hRl⟩ rfl rfl (Nat.le_of_ble_eq_true rfl) dX10_rests_8 (fun H locs hw => ?_)
    refine gm_topI e_r_2 ?_
    refine lv_if_eq (tgt := 27) hx hb dX10_rests_11 (by decide) (fun hc => ?_) (fun hc => ?_)
    · replace hf := (if_pos hc).symm.trans hf
      exact gx_throw C E hX hls ht hRf hRl hRc hRs hl.1 hw (Option.some.inj hf).symm dX10_rests_27 dX10_rests_30 dX10_rests_31 dX10_rests_34
    · replace hf := (if_neg hc).symm.trans hf
      refine lv_iload_n hx hb dX10_rests_14 rfl (lv_at hl 3 rfl) ?_
      obtain ⟨r_3, e_r_3, hf⟩ := gm_le hf
      refine gm_callS (G := GC) (u := u) (u' := u) (As := [.int a3]) (rest := []) (res := (some (.int (f_X10_isStake a3)))) C hw hl (ok_X10_isStake l Z a3 u) cw_X10_296 st_X10_isStake rfl rfl ⟨Nat.le_trans (Nat.le_of_ble_eq_true rfl) hRf, Nat.le_trans (Nat.le_of_ble_eq_true rfl) hRl⟩ rfl rfl (Nat.le_of_ble_eq_true rfl) dX10_rests_15 (fun H locs hw => ?_)
      refine gm_topI e_r_3 ?_
      refine lv_if_eq (tgt := 27) hx hb dX10_rests_18 (by decide) (fun hc => ?_) (fun hc => ?_)
      · replace hf := (if_pos hc).symm.trans hf
        exact gx_throw C E hX hls ht hRf hRl hRc hRs hl.1 hw (Option.some.inj hf).symm dX10_rests_27 dX10_rests_30 dX10_rests_31 dX10_rests_34
      · replace hf := (if_neg hc).symm.trans hf
        refine lv_iload hx hb dX10_rests_21 (lv_at hl 4 rfl) ?_
        refine lv_iconst (v := -1) hx hb dX10_rests_23 (by decide) ?_
        refine lv_icmp_ge (tgt := 35) hx hb dX10_rests_24 (by decide) (fun hc => ?_) (fun hc => ?_)
        · replace hf := (if_pos hc).symm.trans hf
          refine lv_iconst (v := 0) hx hb dX10_rests_35 (by decide) ?_
          refine lv_istore (i := 5) (lv' := [(5, .int (0 : Int32)), (0, rv Z 1), (1, .int a1), (2, .int a2), (3, .int a3), (4, .int a4)]) hx hb dX10_rests_36 hl (by decide) rfl (fun ls hl => ?_)
          refine lv_iconst (v := 0) hx hb dX10_rests_38 (by decide) ?_
          refine lv_istore (i := 6) (lv' := [(6, .int (0 : Int32)), (5, .int (0 : Int32)), (0, rv Z 1), (1, .int a1), (2, .int a2), (3, .int a3), (4, .int a4)]) hx hb dX10_rests_39 hl (by decide) rfl (fun ls hl => ?_)
          obtain ⟨o1, hlp, hf⟩ := gm_bnd hf
          have L41_1 := gm_loop (b_X10_rests_41 a1 a2 a3 a4) (fun x : (Int32 × Int32) => ∀ (H : Heap) (locs : List Loc) (ls : Array Slot), lv_has ls 10 [(1, .int a1), (2, .int a2), (3, .int a3), (4, .int a4), (5, .int x.1), (6, .int x.2)] → wd GC Z u A s.heap H locs → W p l e R s m args below meth c H locs 0 0 Q (F0 m 41 ls [])) (fun z : (Int32 ⊕ Int32) => match z with | .inl q0 => ∀ (H : Heap) (locs : List Loc) (ls : Array Slot), lv_has ls 10 [(6, .int q0)] → wd GC Z u A s.heap H locs → W p l e R s m args below meth c H locs 0 0 Q (F0 m 128 ls []) | .inr p0 => ∀ (H : Heap) (locs : List Loc) (ls : Array Slot), lv_has ls 10 [(4, .int a4), (5, .int p0)] → wd GC Z u A s.heap H locs → W p l e R s m args below meth c H locs 0 0 Q (F0 m 145 ls [])) (by
            intro x o1 hf Kc Kx
            obtain ⟨v5_4, v6_5⟩ := x
            intro H locs ls hl hw
            unfold b_X10_rests_41 at hf
            try dsimp only at hf
            have J131 : ∀ (v5_6 : Int32) (v6_7 : Int32) (v9_8 : Int32) (H : Heap) (locs : List Loc) (ls : Array Slot), j_X10_rests_131 a1 a2 a3 a4 v5_6 v6_7 v9_8 = some o1 → lv_has ls 10 [(1, .int a1), (2, .int a2), (3, .int a3), (4, .int a4), (5, .int v5_6), (6, .int v6_7), (9, .int v9_8)] → wd GC Z u A s.heap H locs → W p l e R s m args below meth c H locs 0 0 Q (F0 m 131 ls []) := by
              intro v5_6 v6_7 v9_8 H locs ls hf  hl hw
              unfold j_X10_rests_131 at hf
              refine lv_iload hx hb dX10_rests_131 (lv_at hl 6 rfl) ?_
              refine lv_if_eq (tgt := 139) hx hb dX10_rests_133 (by decide) (fun hc => ?_) (fun hc => ?_)
              · replace hf := (if_pos hc).symm.trans hf
                refine lv_iinc (v := v6_7 + (1 : Int32)) (lv' := [(6, .int (v6_7 + (1 : Int32))), (1, .int a1), (2, .int a2), (3, .int a3), (4, .int a4), (5, .int v5_6), (9, .int v9_8)]) hx hb dX10_rests_139 hl (k := 5) rfl rfl (by decide) rfl (fun ls hl => ?_)
                refine lv_goto (tgt := 41) hx hb dX10_rests_142 (by decide) ?_
                exact Kc _ (gm_si hf) _ _ _ (lv_sub hl [1, 2, 3, 4, 5, 0] rfl) hw
              · replace hf := (if_neg hc).symm.trans hf
                refine lv_iinc (v := v5_6 + (1 : Int32)) (lv' := [(5, .int (v5_6 + (1 : Int32))), (1, .int a1), (2, .int a2), (3, .int a3), (4, .int a4), (6, .int v6_7), (9, .int v9_8)]) hx hb dX10_rests_136 hl (k := 4) rfl rfl (by decide) rfl (fun ls hl => ?_)
                refine lv_iinc (v := v6_7 + (1 : Int32)) (lv' := [(6, .int (v6_7 + (1 : Int32))), (5, .int (v5_6 + (1 : Int32))), (1, .int a1), (2, .int a2), (3, .int a3), (4, .int a4), (9, .int v9_8)]) hx hb dX10_rests_139 hl (k := 5) rfl rfl (by decide) rfl (fun ls hl => ?_)
                refine lv_goto (tgt := 41) hx hb dX10_rests_142 (by decide) ?_
                exact Kc _ (gm_si hf) _ _ _ (lv_sub hl [2, 3, 4, 5, 1, 0] rfl) hw
            have J114 : ∀ (v5_9 : Int32) (v6_10 : Int32) (t_11 : Int32) (H : Heap) (locs : List Loc) (ls : Array Slot), j_X10_rests_114 a1 a2 a3 a4 v5_9 v6_10 t_11 = some o1 → lv_has ls 10 [(1, .int a1), (2, .int a2), (3, .int a3), (4, .int a4), (5, .int v5_9), (6, .int v6_10)] → wd GC Z u A s.heap H locs → W p l e R s m args below meth c H locs 0 0 Q (F0 m 114 ls [.int t_11]) := by
              intro v5_9 v6_10 t_11 H locs ls hf  hl hw
              unfold j_X10_rests_114 at hf
              refine lv_istore (i := 9) (lv' := [(9, .int t_11), (1, .int a1), (2, .int a2), (3, .int a3), (4, .int a4), (5, .int v5_9), (6, .int v6_10)]) hx hb dX10_rests_114 hl (by decide) rfl (fun ls hl => ?_)
              refine lv_iload hx hb dX10_rests_116 (lv_at hl 0 rfl) ?_
              refine lv_if_eq (tgt := 131) hx hb dX10_rests_118 (by decide) (fun hc => ?_) (fun hc => ?_)
              · replace hf := (if_pos hc).symm.trans hf
                exact J131 v5_9 v6_10 t_11 _ _ _ hf  (lv_sub hl [1, 2, 3, 4, 5, 6, 0] rfl) hw
              · replace hf := (if_neg hc).symm.trans hf
                refine lv_iload hx hb dX10_rests_121 (lv_at hl 5 rfl) ?_
                refine lv_iload hx hb dX10_rests_123 (lv_at hl 4 rfl) ?_
                refine lv_icmp_ne (tgt := 131) hx hb dX10_rests_125 (by decide) (fun hc => ?_) (fun hc => ?_)
                · replace hf := (if_neg hc).symm.trans hf
                  exact J131 v5_9 v6_10 t_11 _ _ _ hf  (lv_sub hl [1, 2, 3, 4, 5, 6, 0] rfl) hw
                · replace hf := (if_pos hc).symm.trans hf
                  exact Kx _ (gm_si hf) _ _ _ (lv_sub hl [6] rfl) hw
            have J113 : ∀ (v5_12 : Int32) (v6_13 : Int32) (H : Heap) (locs : List Loc) (ls : Array Slot), j_X10_rests_113 a1 a2 a3 a4 v5_12 v6_13 = some o1 → lv_has ls 10 [(1, .int a1), (2, .int a2), (3, .int a3), (4, .int a4), (5, .int v5_12), (6, .int v6_13)] → wd GC Z u A s.heap H locs → W p l e R s m args below meth c H locs 0 0 Q (F0 m 113 ls []) := by
              intro v5_12 v6_13 H locs ls hf  hl hw
              unfold j_X10_rests_113 at hf
              refine lv_iconst (v := 0) hx hb dX10_rests_113 (by decide) ?_
              exact J114 v5_12 v6_13 (0 : Int32) _ _ _ hf  (lv_sub hl [0, 1, 2, 3, 4, 5] rfl) hw
            refine lv_iload hx hb dX10_rests_41 (lv_at hl 5 rfl) ?_
            refine lv_iconst (v := 4) hx hb dX10_rests_43 (by decide) ?_
            refine lv_icmp_ge (tgt := 145) hx hb dX10_rests_44 (by decide) (fun hc => ?_) (fun hc => ?_)
            · replace hf := (if_pos hc).symm.trans hf
              exact Kx _ (gm_si hf) _ _ _ (lv_sub hl [3, 4] rfl) hw
            · replace hf := (if_neg hc).symm.trans hf
              refine lv_iload hx hb dX10_rests_47 (lv_at hl 5 rfl) ?_
              refine lv_iconst (v := 1) hx hb dX10_rests_49 (by decide) ?_
              refine lv_ishr hx hb dX10_rests_50 ?_
              obtain ⟨v7_14, e_v7_14, hf⟩ := gm_le hf
              refine gm_topI e_v7_14 ?_
              refine lv_istore (i := 7) (lv' := [(7, .int v7_14), (1, .int a1), (2, .int a2), (3, .int a3), (4, .int a4), (5, .int v5_4), (6, .int v6_5)]) hx hb dX10_rests_51 hl (by decide) rfl (fun ls hl => ?_)
              refine lv_iload hx hb dX10_rests_53 (lv_at hl 6 rfl) ?_
              refine lv_iconst (v := 1) hx hb dX10_rests_55 (by decide) ?_
              refine lv_iand hx hb dX10_rests_56 ?_
              obtain ⟨v8_15, e_v8_15, hf⟩ := gm_le hf
              refine gm_topI e_v8_15 ?_
              refine lv_istore (i := 8) (lv' := [(8, .int v8_15), (7, .int v7_14), (1, .int a1), (2, .int a2), (3, .int a3), (4, .int a4), (5, .int v5_4), (6, .int v6_5)]) hx hb dX10_rests_57 hl (by decide) rfl (fun ls hl => ?_)
              refine lv_iload hx hb dX10_rests_59 (lv_at hl 1 rfl) ?_
              refine lv_iload hx hb dX10_rests_61 (lv_at hl 0 rfl) ?_
              refine lv_iload_n hx hb dX10_rests_63 rfl (lv_at hl 2 rfl) ?_
              refine lv_iload_n hx hb dX10_rests_64 rfl (lv_at hl 3 rfl) ?_
              refine lv_iload_n hx hb dX10_rests_65 rfl (lv_at hl 4 rfl) ?_
              obtain ⟨r_16, e_r_16, hf⟩ := gm_le hf
              refine gm_callS (G := GC) (u := u) (u' := u) (As := [.int v7_14, .int v8_15, .int a1, .int a2, .int a3]) (rest := []) (res := (some (.int (f_X10_gain v7_14 v8_15 a1 a2 a3)))) C hw hl (ok_X10_gain l Z v7_14 v8_15 a1 a2 a3 u) cw_X10_302 st_X10_gain rfl rfl ⟨Nat.le_trans (Nat.le_of_ble_eq_true rfl) hRf, Nat.le_trans (Nat.le_of_ble_eq_true rfl) hRl⟩ rfl rfl (Nat.le_of_ble_eq_true rfl) dX10_rests_66 (fun H locs hw => ?_)
              refine gm_topI e_r_16 ?_
              refine lv_iconst (v := 1) hx hb dX10_rests_69 (by decide) ?_
              refine lv_iload hx hb dX10_rests_70 (lv_at hl 1 rfl) ?_
              refine lv_isub hx hb dX10_rests_72 ?_
              refine lv_iload hx hb dX10_rests_73 (lv_at hl 0 rfl) ?_
              refine lv_iload_n hx hb dX10_rests_75 rfl (lv_at hl 2 rfl) ?_
              refine lv_iload_n hx hb dX10_rests_76 rfl (lv_at hl 3 rfl) ?_
              refine lv_iload_n hx hb dX10_rests_77 rfl (lv_at hl 4 rfl) ?_
              obtain ⟨r_17, e_r_17, hf⟩ := gm_le hf
              refine gm_callS (G := GC) (u := u) (u' := u) (As := [.int ((1 : Int32) - v7_14), .int v8_15, .int a1, .int a2, .int a3]) (rest := [.int r_16]) (res := (some (.int (f_X10_gain ((1 : Int32) - v7_14) v8_15 a1 a2 a3)))) C hw hl (ok_X10_gain l Z ((1 : Int32) - v7_14) v8_15 a1 a2 a3 u) cw_X10_302 st_X10_gain rfl rfl ⟨Nat.le_trans (Nat.le_of_ble_eq_true rfl) hRf, Nat.le_trans (Nat.le_of_ble_eq_true rfl) hRl⟩ rfl rfl (Nat.le_of_ble_eq_true rfl) dX10_rests_78 (fun H locs hw => ?_)
              refine gm_topI e_r_17 ?_
              refine lv_icmp_lt (tgt := 113) hx hb dX10_rests_81 (by decide) (fun hc => ?_) (fun hc => ?_)
              · replace hf := (if_pos hc).symm.trans hf
                exact J113 v5_4 v6_5 _ _ _ hf  (lv_sub hl [2, 3, 4, 5, 6, 7] rfl) hw
              · replace hf := (if_neg hc).symm.trans hf
                refine lv_iload hx hb dX10_rests_84 (lv_at hl 0 rfl) ?_
                refine lv_iload hx hb dX10_rests_86 (lv_at hl 1 rfl) ?_
                refine lv_iload_n hx hb dX10_rests_88 rfl (lv_at hl 2 rfl) ?_
                refine lv_iload_n hx hb dX10_rests_89 rfl (lv_at hl 3 rfl) ?_
                refine lv_iload_n hx hb dX10_rests_90 rfl (lv_at hl 4 rfl) ?_
                obtain ⟨r_18, e_r_18, hf⟩ := gm_le hf
                refine gm_callS (G := GC) (u := u) (u' := u) (As := [.int v8_15, .int v7_14, .int a1, .int a2, .int a3]) (rest := []) (res := (some (.int (f_X10_gain v8_15 v7_14 a1 a2 a3)))) C hw hl (ok_X10_gain l Z v8_15 v7_14 a1 a2 a3 u) cw_X10_302 st_X10_gain rfl rfl ⟨Nat.le_trans (Nat.le_of_ble_eq_true rfl) hRf, Nat.le_trans (Nat.le_of_ble_eq_true rfl) hRl⟩ rfl rfl (Nat.le_of_ble_eq_true rfl) dX10_rests_91 (fun H locs hw => ?_)
                refine gm_topI e_r_18 ?_
                refine lv_iconst (v := 1) hx hb dX10_rests_94 (by decide) ?_
                refine lv_iload hx hb dX10_rests_95 (lv_at hl 0 rfl) ?_
                refine lv_isub hx hb dX10_rests_97 ?_
                refine lv_iload hx hb dX10_rests_98 (lv_at hl 1 rfl) ?_
                refine lv_iload_n hx hb dX10_rests_100 rfl (lv_at hl 2 rfl) ?_
                refine lv_iload_n hx hb dX10_rests_101 rfl (lv_at hl 3 rfl) ?_
                refine lv_iload_n hx hb dX10_rests_102 rfl (lv_at hl 4 rfl) ?_
                obtain ⟨r_19, e_r_19, hf⟩ := gm_le hf
                refine gm_callS (G := GC) (u := u) (u' := u) (As := [.int ((1 : Int32) - v8_15), .int v7_14, .int a1, .int a2, .int a3]) (rest := [.int r_18]) (res := (some (.int (f_X10_gain ((1 : Int32) - v8_15) v7_14 a1 a2 a3)))) C hw hl (ok_X10_gain l Z ((1 : Int32) - v8_15) v7_14 a1 a2 a3 u) cw_X10_302 st_X10_gain rfl rfl ⟨Nat.le_trans (Nat.le_of_ble_eq_true rfl) hRf, Nat.le_trans (Nat.le_of_ble_eq_true rfl) hRl⟩ rfl rfl (Nat.le_of_ble_eq_true rfl) dX10_rests_103 (fun H locs hw => ?_)
                refine gm_topI e_r_19 ?_
                refine lv_icmp_lt (tgt := 113) hx hb dX10_rests_106 (by decide) (fun hc => ?_) (fun hc => ?_)
                · replace hf := (if_pos hc).symm.trans hf
                  exact J113 v5_4 v6_5 _ _ _ hf  (lv_sub hl [2, 3, 4, 5, 6, 7] rfl) hw
                · replace hf := (if_neg hc).symm.trans hf
                  refine lv_iconst (v := 1) hx hb dX10_rests_109 (by decide) ?_
                  refine lv_goto (tgt := 114) hx hb dX10_rests_110 (by decide) ?_
                  exact J114 v5_4 v6_5 (1 : Int32) _ _ _ hf  (lv_sub hl [2, 3, 4, 5, 6, 7] rfl) hw)
          refine L41_1 _ _ _ hlp ?_ _ _ _ (lv_sub hl [3, 4, 5, 6, 1, 0] rfl) hw
          cases o1 with
          | inl q0_z_22 =>
            obtain ⟨w6_20, rfl⟩ : ∃ y, y = q0_z_22 := ⟨_, rfl⟩
            intro H locs ls hl hw
            try dsimp only at hf
            refine lv_iload hx hb dX10_rests_128 (lv_at hl 0 rfl) ?_
            exact gx_iret C E hw (Option.some.inj hf).symm dX10_rests_130
          | inr p0_z_22 =>
            obtain ⟨w5_21, rfl⟩ : ∃ y, y = p0_z_22 := ⟨_, rfl⟩
            intro H locs ls hl hw
            try dsimp only at hf
            refine lv_iload hx hb dX10_rests_145 (lv_at hl 0 rfl) ?_
            refine lv_iconst (v := -1) hx hb dX10_rests_147 (by decide) ?_
            refine lv_icmp_eq (tgt := 159) hx hb dX10_rests_148 (by decide) (fun hc => ?_) (fun hc => ?_)
            · replace hf := (if_pos hc).symm.trans hf
              refine lv_iload hx hb dX10_rests_159 (lv_at hl 1 rfl) ?_
              exact gx_iret C E hw (Option.some.inj hf).symm dX10_rests_161
            · replace hf := (if_neg hc).symm.trans hf
              exact gx_throw C E hX hls ht hRf hRl hRc hRs hl.1 hw (Option.some.inj hf).symm dX10_rests_151 dX10_rests_154 dX10_rests_155 dX10_rests_158
        · replace hf := (if_neg hc).symm.trans hf
          exact gx_throw C E hX hls ht hRf hRl hRc hRs hl.1 hw (Option.some.inj hf).symm dX10_rests_27 dX10_rests_30 dX10_rests_31 dX10_rests_34
