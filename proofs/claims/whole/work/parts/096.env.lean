theorem wq_112 : Cond.instantiable RX10 15 ∈ gm_tb := gm_ix 112 (by decide +kernel) rfl
theorem wq_1122 : Cond.instantiable RX11 57 ∈ gm_tb := gm_ix 1122 (by decide +kernel) rfl
theorem gm_nb_in : ∀ q ∈ gm_nb, Cond.fieldLinkNest q.1 q.2.1 q.2.2.1 q.2.2.2.1 q.2.2.2.2.1 q.2.2.2.2.2 ∈ lw_tbl := by
  have h : gm_nb.map (fun q => some (Cond.fieldLinkNest q.1 q.2.1 q.2.2.1 q.2.2.2.1 q.2.2.2.2.1 q.2.2.2.2.2)) = ([133, 135, 138, 140, 142, 160, 199, 200, 206, 207, 209, 210, 211, 213, 214, 216, 217, 246, 247, 262, 263, 265, 266, 268, 269, 271, 272, 300, 321, 323, 325, 352, 354, 356, 358] : List Nat).map (fun i => lw_tbl[i]?) := by decide +kernel
  intro q hq
  have h1 : some (Cond.fieldLinkNest q.1 q.2.1 q.2.2.1 q.2.2.2.1 q.2.2.2.2.1 q.2.2.2.2.2) ∈ gm_nb.map (fun q => some (Cond.fieldLinkNest q.1 q.2.1 q.2.2.1 q.2.2.2.1 q.2.2.2.2.1 q.2.2.2.2.2)) := List.mem_map.mpr ⟨q, hq, rfl⟩
  rw [h] at h1
  obtain ⟨i, -, hi⟩ := List.mem_map.mp h1
  exact List.mem_of_getElem? hi
theorem gm_mb_in : ∀ q ∈ gm_mb, Cond.methodLinkNest q.1 q.2.1 q.2.2.1 q.2.2.2 ∈ lw_tbl := by
  have h : gm_mb.map (fun q => some (Cond.methodLinkNest q.1 q.2.1 q.2.2.1 q.2.2.2)) = ([121, 127, 178, 239, 257, 293, 314, 341, 346, 348, 350] : List Nat).map (fun i => lw_tbl[i]?) := by decide +kernel
  intro q hq
  have h1 : some (Cond.methodLinkNest q.1 q.2.1 q.2.2.1 q.2.2.2) ∈ gm_mb.map (fun q => some (Cond.methodLinkNest q.1 q.2.1 q.2.2.1 q.2.2.2)) := List.mem_map.mpr ⟨q, hq, rfl⟩
  rw [h] at h1
  obtain ⟨i, -, hi⟩ := List.mem_map.mp h1
  exact List.mem_of_getElem? hi
theorem gm_ao1 : Cond.arrayOver (.object RX1) ∈ lw_tbl := List.mem_of_getElem? (i := 337) (by decide +kernel)
theorem gm_ao4 : Cond.arrayOver (.object RX4) ∈ lw_tbl := List.mem_of_getElem? (i := 339) (by decide +kernel)
theorem gm_sr : Cond.stringRef RX9 71 gm_txt ∈ lw_tbl := List.mem_of_getElem? (i := 470) (by decide +kernel)
theorem gm_ls : Cond.laysStatic "java/lang/String" "COMPACT_STRINGS" "Z" ∈ lw_tbl := List.mem_of_getElem? (i := 480) (by decide +kernel)
theorem gm_is : Cond.initialized "java/lang/String" ∈ lw_tbl := List.mem_of_getElem? (i := 100) (by decide +kernel)
theorem gm_lq : Cond.laysStatic "jdk/internal/util/Preconditions" "SIOOBE_FORMATTER" "Ljava/util/function/BiFunction;" ∈ lw_tbl := List.mem_of_getElem? (i := 496) (by decide +kernel)
theorem gm_iq : Cond.initialized "jdk/internal/util/Preconditions" ∈ lw_tbl := List.mem_of_getElem? (i := 102) (by decide +kernel)
theorem gm_rq : Cond.isRef (.static "jdk/internal/util/Preconditions" "SIOOBE_FORMATTER" "Ljava/util/function/BiFunction;") ∈ flatC (Cond.and given_1 narrow_1) := by decide +kernel
theorem gm_el : ∀ j, j < 120 → (Cond.eq (.elem (.field (Term.string "LeapCapital$Tape" 71) "java/lang/String" "value" "[B") (.int (Int32.ofNat j))) (.int (gm_byt.getD j 0))) ∈ flatC (Cond.and given_1 narrow_1) := by decide +kernel
theorem gm_ex : Cond.exactly (Term.string "LeapCapital$Tape" 71) "java/lang/String" ∈ flatC (Cond.and given_1 narrow_1) := by decide +kernel
theorem gm_co : Cond.eq (.field (Term.string "LeapCapital$Tape" 71) "java/lang/String" "coder" "B") (.int 0) ∈ flatC (Cond.and given_1 narrow_1) := by decide +kernel
theorem gm_ar_ : Cond.arrayOf (.field (Term.string "LeapCapital$Tape" 71) "java/lang/String" "value" "[B") .byte ∈ flatC (Cond.and given_1 narrow_1) := by decide +kernel
theorem gm_le_ : Cond.eq (.length (.field (Term.string "LeapCapital$Tape" 71) "java/lang/String" "value" "[B")) (.int 120) ∈ flatC (Cond.and given_1 narrow_1) := by decide +kernel
theorem gm_cs : Cond.eq (.static "java/lang/String" "COMPACT_STRINGS" "Z") (.int 1) ∈ flatC (Cond.and given_1 narrow_1) := by decide +kernel
/-- what the law's start gives: class numbers, array classes, the text of the words -/
theorem lw_env {s : State} {b : Nat} (hts : ∀ w ∈ lw_tbl, w.before #[Value.ref b] s = true) (hgv : (Jvm.Cond.and given_1 narrow_1).before #[Value.ref b] s = true) : ∃ (D : va_G) (tc : Nat → ClassId), va_K D vwCl (gm_tys (D, tc, fun _ => 0)) s ∧ gm_V (fun q : Nat => s.heap.size ≤ q) s s.heap ∧ gm_U s ∧ va_AO RX1 s ∧ va_AO RX4 s := by
  have htg : ∀ w ∈ gm_tb, w.before #[Value.ref b] s = true := fun w h => hts w (List.mem_filter.mp h).1
  have hfl := flat_of_before _ hgv
  have hA : ∀ a : Nat, a < s.heap.size → ¬ (fun q : Nat => s.heap.size ≤ q) a := fun a h => Nat.not_le.mpr h
  obtain ⟨c0, i0, k0⟩ := u_known (C := RX1) (T := TX1) (N := 7) (n := 7) htg us_X1 (htg _ wq_256)
  obtain ⟨c1, i1, k1⟩ := u_known (C := RX2) (T := TX2) (N := 5) (n := 5) htg us_X2 (htg _ wq_313)
  obtain ⟨c2, i2, k2⟩ := u_known (C := RX3) (T := TX3) (N := 3) (n := 3) htg us_X3 (htg _ wq_177)
  obtain ⟨c3, i3, k3⟩ := u_known (C := RX4) (T := TX4) (N := 4) (n := 4) htg us_X4 (htg _ wq_340)
  obtain ⟨c4, i4, k4⟩ := u_known (C := RX5) (T := TX5) (N := 9) (n := 9) htg us_X5 (htg _ wq_171)
  obtain ⟨c5, i5, k5⟩ := u_known (C := RX6) (T := TX6) (N := 3) (n := 3) htg us_X6 (htg _ wq_238)
  obtain ⟨c6, i6, k6⟩ := u_known (C := RX7) (T := TX7) (N := 4) (n := 4) htg us_X7 (htg _ wq_292)
  obtain ⟨c7, i7, k7⟩ := u_known (C := RX8) (T := TX8) (N := 3) (n := 3) htg us_X8 (htg _ wq_120)
  obtain ⟨c8, i8, k8⟩ := u_known (C := RX9) (T := TX9) (N := 7) (n := 7) htg us_X9 (htg _ wq_126)
  obtain ⟨c9, i9, k9⟩ := u_known (C := RX10) (T := TX10) (N := 15) (n := 15) htg us_X10 (htg _ wq_112)
  obtain ⟨c10, i10, k10⟩ := u_known (C := RX11) (T := TX11) (N := 57) (n := 57) htg us_X11 (htg _ wq_1122)
  obtain ⟨dC, dI, hKc⟩ : ∃ (dC : Nat → ClassId) (dI : Nat → Nat → Nat), ∀ (k : Nat) (q : vw_C), vwCl[k]? = some q → u_Kn s q.1 q.2.1 q.2.2 (dC k) (dI k) := by
    refine ⟨fun k => match k with | 0 => c0 | 1 => c1 | 2 => c2 | 3 => c3 | 4 => c4 | 5 => c5 | 6 => c6 | 7 => c7 | 8 => c8 | 9 => c9 | _ => c10, fun k => match k with | 0 => i0 | 1 => i1 | 2 => i2 | 3 => i3 | 4 => i4 | 5 => i5 | 6 => i6 | 7 => i7 | 8 => i8 | 9 => i9 | _ => i10, ?_⟩
    intro k q hq
    match k, hq with
    | 0, hq => cases hq; exact k0
    | 1, hq => cases hq; exact k1
    | 2, hq => cases hq; exact k2
    | 3, hq => cases hq; exact k3
    | 4, hq => cases hq; exact k4
    | 5, hq => cases hq; exact k5
    | 6, hq => cases hq; exact k6
    | 7, hq => cases hq; exact k7
    | 8, hq => cases hq; exact k8
    | 9, hq => cases hq; exact k9
    | 10, hq => cases hq; exact k10
    | k + 11, hq => cases hq
  obtain ⟨a0, x0, y0, f0, g0, h0⟩ := Cond.arrayClass_spec (htg _ wq_arr_int)
  obtain ⟨a1, x1, y1, f1, g1, h1⟩ := Cond.arrayClass_spec (htg _ wq_arr_long)
  obtain ⟨a2, x2, y2, f2, g2, h2⟩ := Cond.arrayClass_spec (htg _ wq_arr_boolean)
  obtain ⟨a3, x3, y3, f3, g3, h3⟩ := Cond.arrayClass_spec (htg _ wq_arr_char)
  obtain ⟨y4, a4, x4, p4, -, g4, h4, f4⟩ := Cond.arrayOver_spec (hts _ gm_ao1)
  obtain ⟨y5, a5, x5, p5, -, g5, h5, f5⟩ := Cond.arrayOver_spec (hts _ gm_ao4)
  refine ⟨(dC, dI), (fun t => match t with | 0 => a0 | 1 => a1 | 2 => a2 | 3 => a3 | 4 => a4 | _ => a5), ⟨hKc, ?_⟩, ⟨fun q hq => va_Nw.of rfl (hts _ (gm_nb_in q hq)), ?_⟩, fun q hq => va_Nw.of rfl (hts _ (gm_mb_in q hq)), va_AO.of (hts _ gm_ao1), va_AO.of (hts _ gm_ao4)⟩
  · intro k q hk
    match k, hk with
    | 0, hk => cases hk; exact ⟨fun n z => ⟨fun k h => (by cases h), x0, g0, y0, h0⟩, f0⟩
    | 1, hk => cases hk; exact ⟨fun n z => ⟨fun k h => (by cases h), x1, g1, y1, h1⟩, f1⟩
    | 2, hk => cases hk; exact ⟨fun n z => ⟨fun k h => (by cases h), x2, g2, y2, h2⟩, f2⟩
    | 3, hk => cases hk; exact ⟨fun n z => ⟨fun k h => (by cases h), x3, g3, y3, h3⟩, f3⟩
    | 4, hk => cases hk; exact ⟨fun n z => ⟨fun k h => (by cases h), x4, g4, y4, h4⟩, x4, y4, g4, h4, p4, f4⟩
    | 5, hk => cases hk; exact ⟨fun n z => ⟨fun k h => (by cases h), x5, g5, y5, h5⟩, x5, y5, g5, h5, p5, f5⟩
    | k + 6, hk => cases hk
  · obtain ⟨adK, adV, hS, hT⟩ := vk_Sof (args := #[Value.ref b]) (s := s) (N := 1) (tm := fun _ => (Term.string "LeapCapital$Tape" 71)) (len := [120]) (byt := [gm_byt]) (A := fun q : Nat => s.heap.size ≤ q) (fun i hi => by match i, hi with | 0, _ => decide) (fun i hi => hfl _ gm_ex) (fun i hi => hfl _ gm_co) (fun i hi => hfl _ gm_ar_)
      (fun i hi => by match i, hi with | 0, _ => exact hfl _ gm_le_) (fun i hi j hj => by match i, hi, hj with | 0, _, hj => exact hfl _ (gm_el j hj)) (fun i j hi hj hne => absurd (by omega : i = j) hne) hA
    exact ⟨adK, adV, vk_R.of (A := #[Value.ref b]) (hts _ gm_sr) (hT 0 (by omega)), hS, va_Zof (hts _ gm_ls) (hts _ gm_is) (va_eqt (hfl _ gm_cs)) hA, va_Zqof (hts _ gm_lq) (hts _ gm_iq) (hfl _ gm_rq) hA⟩
