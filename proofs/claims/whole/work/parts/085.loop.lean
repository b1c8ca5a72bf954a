/-! THE CLAIM OUT OF ONE WALK OF THE LAW'S BODY. Your part is whole_start (and what it stands on); all else here is the same for every law, but numbers. -/
def lw_P (b : Addr) (xs : List Int32) (args : Array Value) (s : State) : Prop := args = #[.ref b] ∧ s.IntsAt b xs ∧ xs.length ≤ 3584 ∧ (Jvm.Cond.and given_1 narrow_1).before args s = true
def lw_Q (_ : Array Value) (s : State) (o : Outcome) (t : State) : Prop := o = .returned (some (.int 1)) ∧ Framed s o t [] 601024 7293034
def lw_Z (below : List Frame) (a : Array Value) (s : State) : State → Prop := fun t => ∃ o, t.status = .running ∧ Ended t below o ∧ lw_Q a s o t
/-- the law's own end, with 1 on the stack, nothing written that was there before, its room as the claim has it -/
theorem lw_ret {p : Program} {l : Launch} {e : Env} {s : State} {m : MethodId} {below : List Frame} {meth : Method} {c : Code} {b : Nat} (hx : p.tables.exec = Jvm.exec) (hb : c.code = code) (hr : meth.sig.returnType = ret) (hlocks : meth.locks = false) {pc : Nat} {H : Heap} {ls : Array Slot} (hdg : decode code pc = .ok (.ireturn, 1)) : W p l e room_1 s m #[Value.ref b] below meth c H [] 601024 7293034 (lw_Z below #[Value.ref b] s) (F0 m pc ls [.int 1]) := by
  intro T hT X
  obtain ⟨fs, hret, hrun, hended, hW, hframe⟩ := X.leave (v := some (.int 1)) (hlocks := hlocks) (fun h => by rw [hr] at h; cases h)
  have hmeth' : T.vm.method? m = some meth := X.method'
  refine ⟨T.setFrames fs, ?_, .returned (some (.int 1)), hrun, hended, rfl, ⟨_, rfl⟩, hW, hframe⟩
  jvm_step X.here [X.here.top, hx, hb, hdg, hmeth', hr, ret, narrow_b1]
  (try refine ⟨rfl, ?_⟩); (try refine ⟨rfl, ?_⟩)
  first | (intro acts; rw [hret _ acts rfl rfl rfl]) | rw [hret _ _ rfl rfl rfl]
  exact Steps.refl _
/-- what holds at the law's entry: the machine, the code, the tables' words (any of lw_tbl by 'hts w (by decide +kernel)'), the script of L ints xs at the cell b, what the Statement gives of the start (any of its parts by flat_of_before) -/
def lw_At (p : Program) (s : State) (m : MethodId) (meth : Method) (c : Code) (b L : Nat) (xs : Nat → Int32) : Prop :=
  p.tables.exec = Jvm.exec ∧ c.code = code ∧ meth.sig.returnType = ret ∧ c.maxLocals = 7 ∧ s.vm.findClass R_law = some m.cls ∧ (∀ w ∈ lw_tbl, w.before #[Value.ref b] s = true) ∧ va_X b L xs s s.heap ∧ b < s.heap.size ∧ meth.locks = false ∧ (Jvm.Cond.and given_1 narrow_1).before #[Value.ref b] s = true

/-- every step of the law but rests -/
def St_all (Rel Rel' : gm_M → gm_M → Prop) : Prop := St_feed Rel Rel' ∧ St_realm Rel Rel' ∧ St_reign Rel Rel' ∧ St_person Rel Rel' ∧ St_come Rel Rel' ∧ St_leave Rel Rel' ∧ St_lamp Rel Rel' ∧ St_waits Rel Rel' ∧ St_ride Rel Rel' ∧ St_undo Rel Rel' ∧ St_judged Rel Rel' ∧ St_leap Rel Rel' ∧ St_between Rel Rel' ∧ St_next Rel Rel' ∧ St_weekday Rel Rel' ∧ St_gate Rel Rel' ∧ St_call Rel Rel' ∧ St_when Rel Rel' ∧ St_audience Rel Rel' ∧ St_burnt Rel Rel' ∧ St_crowd Rel Rel' ∧ St_exchange Rel Rel' ∧ St_lastday Rel Rel' ∧ St_cycle Rel Rel' ∧ St_need Rel Rel' ∧ St_coming Rel Rel' ∧ St_old Rel Rel' ∧ St_julian Rel Rel' ∧ St_stale Rel Rel' ∧ St_say Rel Rel' ∧ St_fits Rel Rel' ∧ St_ask Rel Rel' ∧ St_chance Rel Rel' ∧ St_ages Rel Rel' ∧ St_mark Rel Rel' ∧ St_count Rel Rel'
set_option maxRecDepth 100000 in
set_option maxHeartbeats 4000000 in
theorem law_loop {p : Program} {l : Launch} {e : Env} {s : State} {m : MethodId} {below : List Frame} {meth : Method} {c : Code} {b L : Nat} {xs : Nat → Int32} {D : va_G} {tc : Nat → ClassId} {aC aM aO : Nat → Nat} (Rel : Nat → gm_M → gm_M → Prop) (SS : ∀ n, St_all (Rel (n + 1)) (Rel n)) (S33 : ∀ n, St_rests (Rel (n + 1)) (Rel n)) (mono : ∀ n uC uM, Rel (n + 1) uC uM → Rel n uC uM) (hls : l.stackTraces = false) (hT : gm_tx (fun q : Nat => s.heap.size ≤ q) s s.heap) (hL : L ≤ 3584) (C : gm_C p s m meth c #[.ref b] (D, tc, aC) (fun q : Nat => s.heap.size ≤ q) code 7 RL ret) (hX : va_X b L xs s s.heap) (hbl : b < s.heap.size) (hd1 : gm_dj GC (D, tc, aC) GM (D, tc, aM)) (hd2 : gm_dj GM (D, tc, aM) GC (D, tc, aC)) (hd3 : gm_dj GC (D, tc, aC) GO (D, tc, aO)) (hd4 : gm_dj GM (D, tc, aM) GO (D, tc, aO)) :
    ∀ (n i : Nat), i ≤ L → L < i + 7 * n → ∀ (uC uM uO : gm_M) (H : Heap) (locs : List Loc) (ls : Array Slot) (cells slots : Nat), cells ≤ 300 + i → slots ≤ 30000 + i → wd GC (D, tc, aC) uC (fun q : Nat => s.heap.size ≤ q) s.heap H locs → wd GM (D, tc, aM) uM (fun q : Nat => s.heap.size ≤ q) s.heap H locs → wd GO (D, tc, aO) uO (fun q : Nat => s.heap.size ≤ q) s.heap H locs → Rel n uC uM → lv_has ls 7 [(0, .ref b), (1, .ref (aC 1)), (2, .ref (aM 1)), (3, .ref (aO 1)), (4, .int (nI i))] →
      W p l e room_1 s m #[.ref b] below meth c H locs cells slots (lw_Z below #[.ref b] s) (F0 m 23 ls []) := by
  obtain ⟨hx, hb, -, -, -, -, hr, hlocks, -⟩ := id C
  have hbA : ¬ (fun q : Nat => s.heap.size ≤ q) b := Nat.not_le.mpr hbl
  intro n
  induction n with
  | zero => intro i h1 h2; exact absurd h2 (by omega)
  | succ n ih =>
    intro i hi hin uC uM uO H locs ls cells slots hc1 hc2 hC hM hO hR hl
    obtain ⟨S0, S1, S2, S3, S4, S5, S6, S7, S8, S9, S10, S11, S12, S13, S14, S15, S16, S17, S18, S19, S20, S21, S22, S23, S24, S25, S26, S27, S28, S29, S30, S31, S32, S34, S35, S36⟩ := SS n
    refine lv_iload hx hb dL_law_23 (lv_at hl 4 rfl) ?_
    refine lv_aload_n hx hb dL_law_25 rfl (lv_at hl 0 rfl) ?_
    refine va_slen hx hb hX hbl hbA hC.2.2.1 dL_law_26 ?_
    refine lv_bipush (v := 7) hx hb dL_law_27 (by decide) ?_
    refine lv_isub hx hb dL_law_29 ?_
    refine lv_icmp_gt (tgt := 1392) hx hb dL_law_30 (by decide) (fun hc => ?_) (fun hc => ?_)
    · refine lv_iconst (v := 1) hx hb dL_law_1392 (by decide) ?_
      refine va_forget (fun q hq => hC.2.2.1.2.2 q hq) ?_
      refine W.widen (k := 601024) (n := 7293034) (by omega) (by omega) ?_
      exact lw_ret hx hb hr hlocks dL_law_1393
    · have hi7 : i + 7 ≤ L := by
        rcases Nat.lt_or_ge L (i + 7) with q | q
        · exact absurd ((lw_gt (by omega) hL).mpr q) hc
        · exact q
      have hcs : cells ≤ room_1.cells ∧ slots ≤ room_1.slots := ⟨(by omega : cells ≤ 601024), (by omega : slots ≤ 7293034)⟩
      have hcs1 : cells + 1 ≤ room_1.cells ∧ slots + 6 ≤ room_1.slots := ⟨(by omega : cells + 1 ≤ 601024), (by omega : slots + 6 ≤ 7293034)⟩
      refine lv_aload_n hx hb dL_law_33 rfl (lv_at hl 0 rfl) ?_
      refine lv_iload hx hb dL_law_34 (lv_at hl 4 rfl) ?_
      refine va_sld hx hb hX hbl hbA hC.2.2.1 (vp_in_nI (by omega) (by omega)) dL_law_36 ?_
      refine lv_bipush (v := 63) hx hb dL_law_37 (by decide) ?_
      refine lv_iand hx hb dL_law_39 ?_
      have J : ∀ (uC uM uO : gm_M) (H : Heap) (locs : List Loc) (ls : Array Slot) (cells' slots' : Nat), cells' ≤ cells + 1 → slots' ≤ slots + 6 → wd GC (D, tc, aC) uC (fun q : Nat => s.heap.size ≤ q) s.heap H locs → wd GM (D, tc, aM) uM (fun q : Nat => s.heap.size ≤ q) s.heap H locs → wd GO (D, tc, aO) uO (fun q : Nat => s.heap.size ≤ q) s.heap H locs → Rel n uC uM → lv_has ls 7 [(0, .ref b), (1, .ref (aC 1)), (2, .ref (aM 1)), (3, .ref (aO 1)), (4, .int (nI i))] → W p l e room_1 s m #[.ref b] below meth c H locs cells' slots' (lw_Z below #[.ref b] s) (F0 m 1386 ls []) := by
        intro uC uM uO H locs ls cells' slots' q1 q2 hC hM hO hR hl
        refine lv_iinc (v := nI (i + 7)) (lv' := [(4, .int (nI (i + 7))), (0, .ref b), (1, .ref (aC 1)), (2, .ref (aM 1)), (3, .ref (aO 1))]) hx hb dL_law_1386 hl (k := 4) rfl (nI_add i 7) (by decide) rfl (fun ls hl => ?_)
        refine lv_goto (tgt := 23) hx hb dL_law_1389 (by decide) ?_
        exact ih (i + 7) hi7 (by omega) uC uM uO H locs ls cells' slots' (by omega) (by omega) hC hM hO hR (lv_sub hl [1, 2, 3, 4, 0] rfl)
      have K : ∀ (uC uM : gm_M) (H : Heap) (locs : List Loc), wd GC (D, tc, aC) uC (fun q : Nat => s.heap.size ≤ q) s.heap H locs → wd GM (D, tc, aM) uM (fun q : Nat => s.heap.size ≤ q) s.heap H locs → wd GO (D, tc, aO) uO (fun q : Nat => s.heap.size ≤ q) s.heap H locs → Rel n uC uM → W p l e room_1 s m #[.ref b] below meth c H locs cells slots (lw_Z below #[.ref b] s) (F0 m 1386 ls []) := fun uC uM H locs hC hM hO hR => J uC uM uO H locs ls cells slots (by omega) (by omega) hC hM hO hR hl
      by_cases q0 : xs (nI i).toNatClampNeg &&& 63 = (0 : Int32)
      · refine lv_tableIn (off := 164) (tgt := 204) hx hb dL_law_40 (by rw [q0]; decide) (by rw [q0]; decide) (by rw [q0]; rfl) (by decide) ?_
        exact lc_0 (Rel (n + 1)) (Rel n) hL C hX hbl hbA hd1 hd2 hd3 hd4 S0 hC hM hO hR hcs hi7 hl K
      by_cases q1 : xs (nI i).toNatClampNeg &&& 63 = (1 : Int32)
      · refine lv_tableIn (off := 311) (tgt := 351) hx hb dL_law_40 (by rw [q1]; decide) (by rw [q1]; decide) (by rw [q1]; rfl) (by decide) ?_
        exact lc_1 (Rel (n + 1)) (Rel n) hL C hX hbl hbA hd1 hd2 hd3 hd4 S1 hC hM hO hR hcs hi7 hl K
      by_cases q2 : xs (nI i).toNatClampNeg &&& 63 = (2 : Int32)
      · refine lv_tableIn (off := 324) (tgt := 364) hx hb dL_law_40 (by rw [q2]; decide) (by rw [q2]; decide) (by rw [q2]; rfl) (by decide) ?_
        exact lc_2 (Rel (n + 1)) (Rel n) hL C hX hbl hbA hd1 hd2 hd3 hd4 S2 hC hM hO hR hcs hi7 hl K
      by_cases q3 : xs (nI i).toNatClampNeg &&& 63 = (3 : Int32)
      · refine lv_tableIn (off := 337) (tgt := 377) hx hb dL_law_40 (by rw [q3]; decide) (by rw [q3]; decide) (by rw [q3]; rfl) (by decide) ?_
        exact lc_3 (Rel (n + 1)) (Rel n) hL C hX hbl hbA hd1 hd2 hd3 hd4 S3 hC hM hO hR hcs hi7 hl K
      by_cases q4 : xs (nI i).toNatClampNeg &&& 63 = (4 : Int32)
      · refine lv_tableIn (off := 374) (tgt := 414) hx hb dL_law_40 (by rw [q4]; decide) (by rw [q4]; decide) (by rw [q4]; rfl) (by decide) ?_
        exact lc_4 (Rel (n + 1)) (Rel n) hL C hX hbl hbA hd1 hd2 hd3 hd4 S4 hC hM hO hR hcs hi7 hl K
      by_cases q5 : xs (nI i).toNatClampNeg &&& 63 = (5 : Int32)
      · refine lv_tableIn (off := 399) (tgt := 439) hx hb dL_law_40 (by rw [q5]; decide) (by rw [q5]; decide) (by rw [q5]; rfl) (by decide) ?_
        exact lc_5 (Rel (n + 1)) (Rel n) hL C hX hbl hbA hd1 hd2 hd3 hd4 S5 hC hM hO hR hcs hi7 hl K
      by_cases q6 : xs (nI i).toNatClampNeg &&& 63 = (6 : Int32)
      · refine lv_tableIn (off := 424) (tgt := 464) hx hb dL_law_40 (by rw [q6]; decide) (by rw [q6]; decide) (by rw [q6]; rfl) (by decide) ?_
        exact lc_6 (Rel (n + 1)) (Rel n) hL C hX hbl hbA hd1 hd2 hd3 hd4 S6 hC hM hO hR hcs hi7 hl K
      by_cases q7 : xs (nI i).toNatClampNeg &&& 63 = (7 : Int32)
      · refine lv_tableIn (off := 449) (tgt := 489) hx hb dL_law_40 (by rw [q7]; decide) (by rw [q7]; decide) (by rw [q7]; rfl) (by decide) ?_
        exact lc_7 (Rel (n + 1)) (Rel n) hL C hX hbl hbA hd1 hd2 hd3 hd4 S7 hC hM hO hR hcs hi7 hl K
      by_cases q8 : xs (nI i).toNatClampNeg &&& 63 = (8 : Int32)
      · refine lv_tableIn (off := 462) (tgt := 502) hx hb dL_law_40 (by rw [q8]; decide) (by rw [q8]; decide) (by rw [q8]; rfl) (by decide) ?_
        exact lc_8 (Rel (n + 1)) (Rel n) hL C hX hbl hbA hd1 hd2 hd3 hd4 S8 hC hM hO hR hcs hi7 hl K
      by_cases q9 : xs (nI i).toNatClampNeg &&& 63 = (9 : Int32)
      · refine lv_tableIn (off := 475) (tgt := 515) hx hb dL_law_40 (by rw [q9]; decide) (by rw [q9]; decide) (by rw [q9]; rfl) (by decide) ?_
        exact lc_9 (Rel (n + 1)) (Rel n) hL C hX hbl hbA hd1 hd2 hd3 hd4 S9 hC hM hO hR hcs hi7 hl K
      by_cases q10 : xs (nI i).toNatClampNeg &&& 63 = (10 : Int32)
      · refine lv_tableIn (off := 488) (tgt := 528) hx hb dL_law_40 (by rw [q10]; decide) (by rw [q10]; decide) (by rw [q10]; rfl) (by decide) ?_
        exact lc_10 (Rel (n + 1)) (Rel n) hL C hX hbl hbA hd1 hd2 hd3 hd4 S10 hC hM hO hR hcs hi7 hl K
      by_cases q11 : xs (nI i).toNatClampNeg &&& 63 = (11 : Int32)
      · refine lv_tableIn (off := 513) (tgt := 553) hx hb dL_law_40 (by rw [q11]; decide) (by rw [q11]; decide) (by rw [q11]; rfl) (by decide) ?_
        exact lc_11 (Rel (n + 1)) (Rel n) hL C hX hbl hbA hd1 hd2 hd3 hd4 S11 hC hM hO hR hcs hi7 hl K
      by_cases q12 : xs (nI i).toNatClampNeg &&& 63 = (12 : Int32)
      · refine lv_tableIn (off := 538) (tgt := 578) hx hb dL_law_40 (by rw [q12]; decide) (by rw [q12]; decide) (by rw [q12]; rfl) (by decide) ?_
        exact lc_12 (Rel (n + 1)) (Rel n) hL C hX hbl hbA hd1 hd2 hd3 hd4 S12 hC hM hO hR hcs hi7 hl K
      by_cases q13 : xs (nI i).toNatClampNeg &&& 63 = (13 : Int32)
      · refine lv_tableIn (off := 575) (tgt := 615) hx hb dL_law_40 (by rw [q13]; decide) (by rw [q13]; decide) (by rw [q13]; rfl) (by decide) ?_
        exact lc_13 (Rel (n + 1)) (Rel n) hL C hX hbl hbA hd1 hd2 hd3 hd4 S13 hC hM hO hR hcs hi7 hl K
      by_cases q14 : xs (nI i).toNatClampNeg &&& 63 = (14 : Int32)
      · refine lv_tableIn (off := 600) (tgt := 640) hx hb dL_law_40 (by rw [q14]; decide) (by rw [q14]; decide) (by rw [q14]; rfl) (by decide) ?_
        exact lc_14 (Rel (n + 1)) (Rel n) hL C hX hbl hbA hd1 hd2 hd3 hd4 S14 hC hM hO hR hcs hi7 hl K
      by_cases q15 : xs (nI i).toNatClampNeg &&& 63 = (15 : Int32)
      · refine lv_tableIn (off := 625) (tgt := 665) hx hb dL_law_40 (by rw [q15]; decide) (by rw [q15]; decide) (by rw [q15]; rfl) (by decide) ?_
        exact lc_15 (Rel (n + 1)) (Rel n) hL C hX hbl hbA hd1 hd2 hd3 hd4 S15 hC hM hO hR hcs hi7 hl K
      by_cases q16 : xs (nI i).toNatClampNeg &&& 63 = (16 : Int32)
      · refine lv_tableIn (off := 662) (tgt := 702) hx hb dL_law_40 (by rw [q16]; decide) (by rw [q16]; decide) (by rw [q16]; rfl) (by decide) ?_
        exact lc_16 (Rel (n + 1)) (Rel n) hL C hX hbl hbA hd1 hd2 hd3 hd4 S16 hC hM hO hR hcs hi7 hl K
      by_cases q17 : xs (nI i).toNatClampNeg &&& 63 = (17 : Int32)
      · refine lv_tableIn (off := 687) (tgt := 727) hx hb dL_law_40 (by rw [q17]; decide) (by rw [q17]; decide) (by rw [q17]; rfl) (by decide) ?_
        exact lc_17 (Rel (n + 1)) (Rel n) hL C hX hbl hbA hd1 hd2 hd3 hd4 S17 hC hM hO hR hcs hi7 hl K
      by_cases q18 : xs (nI i).toNatClampNeg &&& 63 = (18 : Int32)
      · refine lv_tableIn (off := 712) (tgt := 752) hx hb dL_law_40 (by rw [q18]; decide) (by rw [q18]; decide) (by rw [q18]; rfl) (by decide) ?_
        exact lc_18 (Rel (n + 1)) (Rel n) hL C hX hbl hbA hd1 hd2 hd3 hd4 S18 hC hM hO hR hcs hi7 hl K
      by_cases q19 : xs (nI i).toNatClampNeg &&& 63 = (19 : Int32)
      · refine lv_tableIn (off := 737) (tgt := 777) hx hb dL_law_40 (by rw [q19]; decide) (by rw [q19]; decide) (by rw [q19]; rfl) (by decide) ?_
        exact lc_19 (Rel (n + 1)) (Rel n) hL C hX hbl hbA hd1 hd2 hd3 hd4 S19 hC hM hO hR hcs hi7 hl K
      by_cases q20 : xs (nI i).toNatClampNeg &&& 63 = (20 : Int32)
      · refine lv_tableIn (off := 762) (tgt := 802) hx hb dL_law_40 (by rw [q20]; decide) (by rw [q20]; decide) (by rw [q20]; rfl) (by decide) ?_
        exact lc_20 (Rel (n + 1)) (Rel n) hL C hX hbl hbA hd1 hd2 hd3 hd4 S20 hC hM hO hR hcs hi7 hl K
      by_cases q21 : xs (nI i).toNatClampNeg &&& 63 = (21 : Int32)
      · refine lv_tableIn (off := 787) (tgt := 827) hx hb dL_law_40 (by rw [q21]; decide) (by rw [q21]; decide) (by rw [q21]; rfl) (by decide) ?_
        exact lc_21 (Rel (n + 1)) (Rel n) hL C hX hbl hbA hd1 hd2 hd3 hd4 S21 hC hM hO hR hcs hi7 hl K
      by_cases q22 : xs (nI i).toNatClampNeg &&& 63 = (22 : Int32)
      · refine lv_tableIn (off := 824) (tgt := 864) hx hb dL_law_40 (by rw [q22]; decide) (by rw [q22]; decide) (by rw [q22]; rfl) (by decide) ?_
        exact lc_22 (Rel (n + 1)) (Rel n) hL C hX hbl hbA hd1 hd2 hd3 hd4 S22 hC hM hO hR hcs hi7 hl K
      by_cases q23 : xs (nI i).toNatClampNeg &&& 63 = (23 : Int32)
      · refine lv_tableIn (off := 849) (tgt := 889) hx hb dL_law_40 (by rw [q23]; decide) (by rw [q23]; decide) (by rw [q23]; rfl) (by decide) ?_
        exact lc_23 (Rel (n + 1)) (Rel n) hL C hX hbl hbA hd1 hd2 hd3 hd4 S23 hC hM hO hR hcs hi7 hl K
      by_cases q24 : xs (nI i).toNatClampNeg &&& 63 = (24 : Int32)
      · refine lv_tableIn (off := 874) (tgt := 914) hx hb dL_law_40 (by rw [q24]; decide) (by rw [q24]; decide) (by rw [q24]; rfl) (by decide) ?_
        exact lc_24 (Rel (n + 1)) (Rel n) hL C hX hbl hbA hd1 hd2 hd3 hd4 S24 hC hM hO hR hcs hi7 hl K
      by_cases q25 : xs (nI i).toNatClampNeg &&& 63 = (25 : Int32)
      · refine lv_tableIn (off := 899) (tgt := 939) hx hb dL_law_40 (by rw [q25]; decide) (by rw [q25]; decide) (by rw [q25]; rfl) (by decide) ?_
        exact lc_25 (Rel (n + 1)) (Rel n) hL C hX hbl hbA hd1 hd2 hd3 hd4 S25 hC hM hO hR hcs hi7 hl K
      by_cases q26 : xs (nI i).toNatClampNeg &&& 63 = (26 : Int32)
      · refine lv_tableIn (off := 936) (tgt := 976) hx hb dL_law_40 (by rw [q26]; decide) (by rw [q26]; decide) (by rw [q26]; rfl) (by decide) ?_
        exact lc_26 (Rel (n + 1)) (Rel n) hL C hX hbl hbA hd1 hd2 hd3 hd4 S26 hC hM hO hR hcs hi7 hl K
      by_cases q27 : xs (nI i).toNatClampNeg &&& 63 = (27 : Int32)
      · refine lv_tableIn (off := 961) (tgt := 1001) hx hb dL_law_40 (by rw [q27]; decide) (by rw [q27]; decide) (by rw [q27]; rfl) (by decide) ?_
        exact lc_27 (Rel (n + 1)) (Rel n) hL C hX hbl hbA hd1 hd2 hd3 hd4 S27 hC hM hO hR hcs hi7 hl K
      by_cases q28 : xs (nI i).toNatClampNeg &&& 63 = (28 : Int32)
      · refine lv_tableIn (off := 986) (tgt := 1026) hx hb dL_law_40 (by rw [q28]; decide) (by rw [q28]; decide) (by rw [q28]; rfl) (by decide) ?_
        exact lc_28 (Rel (n + 1)) (Rel n) hL C hX hbl hbA hd1 hd2 hd3 hd4 S28 hC hM hO hR hcs hi7 hl K
      by_cases q29 : xs (nI i).toNatClampNeg &&& 63 = (29 : Int32)
      · refine lv_tableIn (off := 999) (tgt := 1039) hx hb dL_law_40 (by rw [q29]; decide) (by rw [q29]; decide) (by rw [q29]; rfl) (by decide) ?_
        exact lc_29 (Rel (n + 1)) (Rel n) hL C hX hbl hbA hd1 hd2 hd3 hd4 S29 hC hM hO hR hcs hi7 hl K
      by_cases q30 : xs (nI i).toNatClampNeg &&& 63 = (30 : Int32)
      · refine lv_tableIn (off := 1052) (tgt := 1092) hx hb dL_law_40 (by rw [q30]; decide) (by rw [q30]; decide) (by rw [q30]; rfl) (by decide) ?_
        exact lc_30 (Rel (n + 1)) (Rel n) hL C hX hbl hbA hd1 hd2 hd3 hd4 S30 hC hM hO hR hcs hi7 hl K
      by_cases q31 : xs (nI i).toNatClampNeg &&& 63 = (31 : Int32)
      · refine lv_tableIn (off := 1077) (tgt := 1117) hx hb dL_law_40 (by rw [q31]; decide) (by rw [q31]; decide) (by rw [q31]; rfl) (by decide) ?_
        exact lc_31 (Rel (n + 1)) (Rel n) hL C hX hbl hbA hd1 hd2 hd3 hd4 S31 hC hM hO hR hcs hi7 hl K
      by_cases q32 : xs (nI i).toNatClampNeg &&& 63 = (32 : Int32)
      · refine lv_tableIn (off := 1090) (tgt := 1130) hx hb dL_law_40 (by rw [q32]; decide) (by rw [q32]; decide) (by rw [q32]; rfl) (by decide) ?_
        exact lc_32 (Rel (n + 1)) (Rel n) hL C hX hbl hbA hd1 hd2 hd3 hd4 S32 hC hM hO hR hcs hi7 hl K
      by_cases q33 : xs (nI i).toNatClampNeg &&& 63 = (33 : Int32)
      · refine lv_tableIn (off := 1127) (tgt := 1167) hx hb dL_law_40 (by rw [q33]; decide) (by rw [q33]; decide) (by rw [q33]; rfl) (by decide) ?_
        exact lc_33 (Rel (n + 1)) (Rel n) (S33 n) hls hT hL C hX hbl hbA hd1 hd2 hd3 hd4 hC hM hO hR hcs1 hi7 hl J
      by_cases q34 : xs (nI i).toNatClampNeg &&& 63 = (34 : Int32)
      · refine lv_tableIn (off := 1219) (tgt := 1259) hx hb dL_law_40 (by rw [q34]; decide) (by rw [q34]; decide) (by rw [q34]; rfl) (by decide) ?_
        exact lc_34 (Rel (n + 1)) (Rel n) hL C hX hbl hbA hd1 hd2 hd3 hd4 S34 hC hM hO hR hcs hi7 hl K
      by_cases q35 : xs (nI i).toNatClampNeg &&& 63 = (35 : Int32)
      · refine lv_tableIn (off := 1268) (tgt := 1308) hx hb dL_law_40 (by rw [q35]; decide) (by rw [q35]; decide) (by rw [q35]; rfl) (by decide) ?_
        exact lc_35 (Rel (n + 1)) (Rel n) hL C hX hbl hbA hd1 hd2 hd3 hd4 S35 hC hM hO hR hcs hi7 hl K
      by_cases q36 : xs (nI i).toNatClampNeg &&& 63 = (36 : Int32)
      · refine lv_tableIn (off := 1321) (tgt := 1361) hx hb dL_law_40 (by rw [q36]; decide) (by rw [q36]; decide) (by rw [q36]; rfl) (by decide) ?_
        exact lc_36 (Rel (n + 1)) (Rel n) hL C hX hbl hbA hd1 hd2 hd3 hd4 S36 hC hM hO hR hcs hi7 hl K
      refine lv_tableOut (tgt := 1386) hx hb dL_law_40 (Classical.byContradiction (fun hq => by
        obtain ⟨j, hj, e⟩ := gm_rng hq
        match j, hj with
        | 0, _ => exact q0 (e.trans (by decide))
        | 1, _ => exact q1 (e.trans (by decide))
        | 2, _ => exact q2 (e.trans (by decide))
        | 3, _ => exact q3 (e.trans (by decide))
        | 4, _ => exact q4 (e.trans (by decide))
        | 5, _ => exact q5 (e.trans (by decide))
        | 6, _ => exact q6 (e.trans (by decide))
        | 7, _ => exact q7 (e.trans (by decide))
        | 8, _ => exact q8 (e.trans (by decide))
        | 9, _ => exact q9 (e.trans (by decide))
        | 10, _ => exact q10 (e.trans (by decide))
        | 11, _ => exact q11 (e.trans (by decide))
        | 12, _ => exact q12 (e.trans (by decide))
        | 13, _ => exact q13 (e.trans (by decide))
        | 14, _ => exact q14 (e.trans (by decide))
        | 15, _ => exact q15 (e.trans (by decide))
        | 16, _ => exact q16 (e.trans (by decide))
        | 17, _ => exact q17 (e.trans (by decide))
        | 18, _ => exact q18 (e.trans (by decide))
        | 19, _ => exact q19 (e.trans (by decide))
        | 20, _ => exact q20 (e.trans (by decide))
        | 21, _ => exact q21 (e.trans (by decide))
        | 22, _ => exact q22 (e.trans (by decide))
        | 23, _ => exact q23 (e.trans (by decide))
        | 24, _ => exact q24 (e.trans (by decide))
        | 25, _ => exact q25 (e.trans (by decide))
        | 26, _ => exact q26 (e.trans (by decide))
        | 27, _ => exact q27 (e.trans (by decide))
        | 28, _ => exact q28 (e.trans (by decide))
        | 29, _ => exact q29 (e.trans (by decide))
        | 30, _ => exact q30 (e.trans (by decide))
        | 31, _ => exact q31 (e.trans (by decide))
        | 32, _ => exact q32 (e.trans (by decide))
        | 33, _ => exact q33 (e.trans (by decide))
        | 34, _ => exact q34 (e.trans (by decide))
        | 35, _ => exact q35 (e.trans (by decide))
        | 36, _ => exact q36 (e.trans (by decide))
        | (j + 37), h => exact absurd h (by simp only [Int.reduceSub, Int.reduceAdd, Int.reduceToNat, Int.sub_zero]; omega))) (by decide) ?_
      exact K uC uM H locs hC hM hO (mono n uC uM hR)
