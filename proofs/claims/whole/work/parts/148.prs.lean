/-! the E: a part -/
section
variable {t : List Nat} {a : Nat}
def canP (t : List Nat) (p : Nat) : Prop := kS t p = 2 ∨ tSg t p = 40 ∨ tWd t p = 16 ∨ (19 ≤ tWd t p ∧ tWd t p ≤ 22)
/-- the class before a part -/
theorem c_part0 {rp : Nat → Int32 → gm_M → Option gm_M} {u : gm_M} {d : Int32} {p n : Nat} (gt : gT t) (h : eC t a u p n) (hc : ¬ canP t p) : f_X8_readPartO rp a d u = some (sI u 2 1 (nI (flt 1 t p))) := by
  obtain ⟨h1, h2, h3, h4, h5⟩ := h
  have hb := flt_b (k := 1) (by omega) (by omega) h5 gt
  unfold canP at hc
  have hs := kS_le t p
  have e40 : f_X9_isSignOf (40 : Int32) u = nI (decide (tSg t p = 40)).toNat := c_isSignOf (c := 40) h1 gt (by omega) (by omega)
  have e16 : f_X9_isWord (16 : Int32) u = nI (decide (tWd t p = 16)).toNat := c_isWord (k := 16) h1 (by omega)
  have er : f_X8_refuse (1 : Int32) u = some (sI u 2 1 (nI (flt 1 t p))) := co_refuse h1 h2 1
  unfold f_X8_readPartO
  rw [h1.2.2.1, if_neg (show ¬ nI (kS t p) = (2 : Int32) from fun z => by have := (nI_eq (b := 2) (by omega) (by omega)).mp z; omega), j_X8_readPart_16, gm_letE, gm_letE, gm_letE, if_pos rfl, e40, e16, c_isFact h1, decide_eq_false (show ¬ tSg t p = 40 by omega), decide_eq_false (show ¬ tWd t p = 16 by omega), decide_eq_false (show ¬ (19 ≤ tWd t p ∧ tWd t p ≤ 22) by omega), er]
  show (if nI 0 = 0 then if nI 0 = 0 then if nI 0 = 0 then _ else _ else _ else _) = _
  rw [if0, if0, if0]
  simp only [Option.bind_some]
  rw [j_X8_readPart_81, if_neg (by rw [gI_eq rfl rfl]; exact flt_ne hb.1 hb.2)]
theorem c_part1 {rp : Nat → Int32 → gm_M → Option gm_M} {u : gm_M} {d : Int32} {p n : Nat} (gt : gT t) (h : eC t a u p n) (hc : canP t p) : f_X8_readPartO rp a d u = j_X8_readPart_71 rp a d (nI (decide (kS t p = 2)).toNat) (nI (decide (tSg t p = 40)).toNat) (nI (decide (tWd t p = 16)).toNat) u := by
  obtain ⟨h1, h2, h3, h4, h5⟩ := h
  have hs := kS_le t p
  have e40 : f_X9_isSignOf (40 : Int32) u = nI (decide (tSg t p = 40)).toNat := c_isSignOf (c := 40) h1 gt (by omega) (by omega)
  have e16 : f_X9_isWord (16 : Int32) u = nI (decide (tWd t p = 16)).toNat := c_isWord (k := 16) h1 (by omega)
  have e0 : f_X8_readPartO rp a d u = j_X8_readPart_16 rp a d (nI (decide (kS t p = 2)).toNat) u := by
    unfold f_X8_readPartO
    rw [h1.2.2.1]
    by_cases q : kS t p = 2
    · rw [if_pos (show nI (kS t p) = (2 : Int32) from by rw [q]; rfl), decide_eq_true q]; rfl
    · rw [if_neg (show ¬ nI (kS t p) = (2 : Int32) from fun z => q ((nI_eq (b := 2) (by omega) (by omega)).mp z)), decide_eq_false q]; rfl
  rw [e0, j_X8_readPart_16, gm_letE, gm_letE, gm_letE, e40, e16, c_isFact h1]
  by_cases q : kS t p = 2
  · rw [decide_eq_true q]; exact if1
  · rw [decide_eq_false q]
    refine Eq.trans if0 ?_
    by_cases q2 : tSg t p = 40
    · rw [decide_eq_true q2]; exact if1
    · rw [decide_eq_false q2]
      refine Eq.trans if0 ?_
      by_cases q3 : tWd t p = 16
      · rw [decide_eq_true q3]; exact if1
      · rw [decide_eq_false q3]
        refine Eq.trans if0 ?_
        have q4 : 19 ≤ tWd t p ∧ tWd t p ≤ 22 := by
          rcases hc with z | z | z | z
          · exact absurd z q
          · exact absurd z q2
          · exact absurd z q3
          · exact z
        rw [decide_eq_true q4]; exact if1
/-- the reference before a part -/
theorem m_part {u : gm_M} {d : Int32} {p : Nat} (h : cuM u t p) (gt : gT t) (hp : p ≤ t.length) : b_X11_reads_11 (d, nI 1, u) = if ¬ (kS t p = 2 ∨ tSg t p = 40 ∨ tWd t p = 16 ∨ (19 ≤ tWd t p ∧ tWd t p ≤ 22)) then some (.inr (.inl u)) else j_X11_reads_65 d (nI 1) (nI (if 19 ≤ tWd t p ∧ tWd t p ≤ 22 then tWd t p - 18 else 0)) (nI (decide (tWd t p = 16)).toNat) (nI (decide (tSg t p = 40)).toNat) u := by
  have hs := kS_le t p
  have e40 : f_X11_isSign (40 : Int32) u = some (nI (decide (tSg t p = 40)).toNat) := m_isSign (c := 40) h gt hp (by omega) (by omega)
  have e16 := m_isWord h wx16 (by omega)
  rw [b_X11_reads_11]
  rw [if1, gm_letE, gm_letE, m_fact h, e16, e40]
  simp only [Option.bind_some]
  by_cases q4 : 19 ≤ tWd t p ∧ tWd t p ≤ 22
  · rw [if_pos q4, if_neg (show ¬ ¬ (kS t p = 2 ∨ tSg t p = 40 ∨ tWd t p = 16 ∨ (19 ≤ tWd t p ∧ tWd t p ≤ 22)) from fun z => z (.inr (.inr (.inr q4)))), if_neg (show ¬ nI (tWd t p - 18) = (0 : Int32) from fun z => by have := (nI_eq (b := 0) (by omega) (by omega)).mp z; omega)]
  · rw [if_neg q4, if_pos (show nI 0 = (0 : Int32) from rfl)]
    by_cases q3 : tWd t p = 16
    · rw [decide_eq_true q3, if_neg (show ¬ ¬ (kS t p = 2 ∨ tSg t p = 40 ∨ tWd t p = 16 ∨ (19 ≤ tWd t p ∧ tWd t p ≤ 22)) from fun z => z (.inr (.inr (.inl q3))))]
      exact if1
    · rw [decide_eq_false q3]
      refine Eq.trans if0 ?_
      by_cases q2 : tSg t p = 40
      · rw [decide_eq_true q2, if_neg (show ¬ ¬ (kS t p = 2 ∨ tSg t p = 40 ∨ tWd t p = 16 ∨ (19 ≤ tWd t p ∧ tWd t p ≤ 22)) from fun z => z (.inr (.inl q2)))]
        exact if1
      · rw [decide_eq_false q2]
        refine Eq.trans if0 ?_
        rw [h.2.2.1]
        by_cases q1 : kS t p = 2
        · rw [if_pos (show nI (kS t p) = (2 : Int32) from by rw [q1]; rfl), if_neg (show ¬ ¬ (kS t p = 2 ∨ tSg t p = 40 ∨ tWd t p = 16 ∨ (19 ≤ tWd t p ∧ tWd t p ≤ 22)) from fun z => z (.inl q1))]
        · rw [if_neg (show ¬ nI (kS t p) = (2 : Int32) from fun z => q1 ((nI_eq (b := 2) (by omega) (by omega)).mp z)), if_pos (by omega)]
theorem m_fail1 {u : gm_M} {p : Nat} (h : cuM u t p) : ok (finR (.inl u)) (fun o => o.1 = nI 0 ∧ gI o.2 1 9 = nI (flt 1 t p) ∧ fr emP u o.2) := by
  have e : f_X11_fails (1 : Int32) u = some (0, sI u 1 9 (nI (flt 1 t p))) := m_fails h 1
  show ok ((f_X11_fails (1 : Int32) u).bind fun o => some (o.1 &&& 1, o.2)) _
  rw [e]
  exact ok_some ⟨and0, gI_eq rfl rfl, emP_9⟩
theorem m_fail5 {u : gm_M} {p : Nat} (h : cuM u t p) : ok (finR (.inr (.inl u))) (fun o => o.1 = nI 0 ∧ gI o.2 1 9 = nI (flt 5 t p) ∧ fr emP u o.2) := by
  have e : f_X11_fails (5 : Int32) u = some (0, sI u 1 9 (nI (flt 5 t p))) := m_fails h 5
  show ok ((f_X11_fails (5 : Int32) u).bind fun o => some (o.1 &&& 1, o.2)) _
  rw [e]
  exact ok_some ⟨and0, gI_eq rfl rfl, emP_9⟩
theorem part_bad {rp : Nat → Int32 → gm_M → Option gm_M} {ro : List Nat} {d : Int32} {uC uM : gm_M} {p n m : Nat} (ha : a = 10 ∨ a = 18) (gt : gT t) (hC : eC t a uC p n) (hM : eM t uM p ro m) (hc : ¬ canP t p) : ok (f_X8_readPartO rp a d uC) (fun vC => fr (elP a) uC vC ∧ BD t a ro 1 uM p vC) := by
  have hp := hC.2.2.2.2
  have gl := gt.1
  have hb := flt_b (k := 1) (by omega) (by omega) hp gt
  rw [c_part0 gt hC hc]
  refine ok_some ⟨elP_4, flt 1 t p, 1, gI_eq rfl rfl, hb.1, hb.2, by omega, rFl_1 (r := .inl uM) ?_ (m_fail1 hM.1), ⟨n, (gI_ne (by omega)).trans hC.2.2.1, by have := hC.2.2.2.1; omega⟩⟩
  rw [m_part hM.1 gt hp, if_pos (show ¬ (kS t p = 2 ∨ tSg t p = 40 ∨ tWd t p = 16 ∨ (19 ≤ tWd t p ∧ tWd t p ≤ 22)) from hc)]
theorem part_5 {rp : Nat → Int32 → gm_M → Option gm_M} {ro : List Nat} {cl H : Nat} (ha : a = 10 ∨ a = 18) (gt : gT t) (hl : ro.length = 5) : PX t a (f_X8_readPartO rp a (nI ro.length)) ro cl H s_any (CPart ro) e_any := by
  intro uC uM p n m hC hM _
  have hp := hC.2.2.2.2
  have gl := gt.1
  by_cases hc : canP t p
  · have hb := flt_b (k := 5) (by omega) (by omega) hp gt
    have er : f_X8_refuse (5 : Int32) uC = some (sI uC 2 1 (nI (flt 5 t p))) := co_refuse hC.1 hC.2.1 5
    rw [c_part1 gt hC hc, j_X8_readPart_71, if_neg (by rw [hl]; decide), er]
    simp only [Option.bind_some]
    rw [j_X8_readPart_81, if_neg (by rw [gI_eq rfl rfl]; exact flt_ne hb.1 hb.2)]
    refine ok_some ⟨elP_4, .inl ⟨flt 5 t p, 1, gI_eq rfl rfl, hb.1, hb.2, by omega, rFl_1 (r := .inr (.inl uM)) ?_ (m_fail5 hM.1), ⟨n, (gI_ne (by omega)).trans hC.2.2.1, by have := hC.2.2.2.1; omega⟩⟩⟩
    rw [m_part hM.1 gt hp, if_neg (fun z => z hc), j_X11_reads_65, if_pos (by rw [hl]; rfl)]
  · refine ok_mono (part_bad ha gt hC hM hc) ?_
    rintro v ⟨v1, v2⟩
    exact ⟨v1, .inl v2⟩
/-- a number or a fact in the reference -/
theorem m_147 {u : gm_M} {ro : List Nat} {p m : Nat} (c : Int32) (h : eM t u p ro m) (gt : gT t) (hp : p ≤ t.length) (hs : kS t p ≠ 0) (hl : ro.length ≤ 5) : ok (j_X11_reads_147 (nI ro.length) c u) (fun o => ∃ v, o = .inl (nI (bs ro).length, nI 0, v) ∧ eM t v (kE t p) ro (m + 1) ∧ gI v 10 (1000 + m) = c ∧ (∀ i, i < m → gI v 10 (1000 + i) = gI u 10 (1000 + i)) ∧ fr emP u v ∧ (∀ i, gI v 12 i = gI u 12 i) ∧ (∀ i, gI v 11 i = gI u 11 i)) := by
  obtain ⟨h1, h2, h3, h4⟩ := h
  have gl := gt.1
  have hE := kE_le hp hs
  unfold j_X11_reads_147
  refine ok_bind (m_putsF c h2 (by omega)) ?_
  rintro x ⟨x1, x2, x3⟩
  have cx : cuM x t p := cuM_fr h1 x1 (fun j _ _ => by omega) (fun j => by omega)
  have ox : opM x ro := opM_eq ro h3 (fun i _ => fr_I x1 (by omega))
  rw [r_popF ox (by omega)]
  simp only [Option.bind_some]
  unfold j_X11_reads_172
  refine ok_bind (m_step cx gt hp hs) ?_
  rintro y ⟨y1, y2⟩
  exact ok_some ⟨y, rfl, ⟨y1, (fr_I y2 (by unfold tmP; omega)).trans x3, opM_eq ro ox (fun i _ => fr_I y2 (by unfold tmP; omega)), by omega⟩, (fr_I y2 (by unfold tmP; omega)).trans x2, fun i hi => (fr_I y2 (by unfold tmP; omega)).trans (fr_I x1 (by omega)), fr_trans (fr_mono x1 emP_put) (emP_tm y2), fun i => (fr_I y2 (by unfold tmP; omega)).trans (fr_I x1 (by omega)), fun i => (fr_I y2 (by unfold tmP; omega)).trans (fr_I x1 (by omega))⟩
/-- not, or ( -/
theorem m_86 {u : gm_M} {ro : List Nat} {p m : Nat} {b : Bool} (h : eM t u p ro m) (gt : gT t) (hp : p ≤ t.length) (hs : kS t p ≠ 0) (hl : ro.length ≤ 4) : ok (j_X11_reads_86 (nI ro.length) (nI 1) (nI b.toNat) u) (fun o => ∃ v, o = .inl (nI ((if b then 1 else 2) :: ro).length, nI 1, v) ∧ eM t v (kE t p) ((if b then 1 else 2) :: ro) (m + 1) ∧ gI v 10 (1000 + m) = (if b then (30 : Int32) else 28) ∧ (∀ i, i < m → gI v 10 (1000 + i) = gI u 10 (1000 + i)) ∧ fr emP u v ∧ gI v 12 (ro.length + 1) = 0 ∧ (∀ i, i ≤ ro.length → gI v 12 i = gI u 12 i) ∧ (∀ i, i ≤ ro.length → gI v 11 i = gI u 11 i)) := by
  obtain ⟨h1, h2, h3, h4⟩ := h
  have gl := gt.1
  have hE := kE_le hp hs
  have core : ∀ (c : Int32) (o : Nat) (oI : Int32), oI = nI (if o = 1 then 1 else 2) → ok ((f_X11_puts c u).bind fun u_94 => j_X11_reads_120 (nI ro.length + (1 : Int32)) (nI 1) (nI ro.length + (1 : Int32)) oI u_94) (fun r => ∃ v, r = .inl (nI (o :: ro).length, nI 1, v) ∧ eM t v (kE t p) (o :: ro) (m + 1) ∧ gI v 10 (1000 + m) = c ∧ (∀ i, i < m → gI v 10 (1000 + i) = gI u 10 (1000 + i)) ∧ fr emP u v ∧ gI v 12 (ro.length + 1) = 0 ∧ (∀ i, i ≤ ro.length → gI v 12 i = gI u 12 i) ∧ (∀ i, i ≤ ro.length → gI v 11 i = gI u 11 i)) := by
    intro c o oI ho
    refine ok_bind (m_putsF c h2 (by omega)) ?_
    rintro x ⟨x1, x2, x3⟩
    rw [show nI ro.length + (1 : Int32) = nI (ro.length + 1) from nI_add _ 1]
    unfold j_X11_reads_120
    rw [if_pos (show ib (nI (ro.length + 1)) 7 = true from (ib_nI (by omega)).mpr (by omega)), gm_letE, ix_nI (by omega), gm_letE]
    have f0 : fr (fun y j => (y = 11 ∨ y = 12) ∧ j = ro.length + 1) x (sI (sI x 11 (ro.length + 1) oI) 12 (ro.length + 1) ((0 : Int32) &&& 1)) := fr_sI (fr_sI (fr_refl _ _) ⟨.inl rfl, rfl⟩) ⟨.inr rfl, rfl⟩
    have e11 : gI (sI (sI x 11 (ro.length + 1) oI) 12 (ro.length + 1) ((0 : Int32) &&& 1)) 11 (ro.length + 1) = oI := (gI_ne (by omega)).trans (gI_eq rfl rfl)
    have e12 : gI (sI (sI x 11 (ro.length + 1) oI) 12 (ro.length + 1) ((0 : Int32) &&& 1)) 12 (ro.length + 1) = 0 := (gI_eq rfl rfl).trans and0
    rw [if_pos (show ib (nI (ro.length + 1)) 7 = true from (ib_nI (by omega)).mpr (by omega))]
    generalize sI (sI x 11 (ro.length + 1) oI) 12 (ro.length + 1) ((0 : Int32) &&& 1) = w at *
    have cw : cuM w t p := cuM_fr (cuM_fr h1 x1 (fun j _ _ => by omega) (fun j => by omega)) f0 (fun j _ _ => by omega) (fun j => by omega)
    unfold j_X11_reads_172
    refine ok_bind (m_step cw gt hp hs) ?_
    rintro y ⟨y1, y2⟩
    have fy : ∀ b j, ¬ tmP b j → gI y b j = gI w b j := fun b j z => fr_I y2 z
    have k11 : ∀ i, i ≤ ro.length → gI y 11 i = gI u 11 i := fun i hi => by
      rw [fy _ _ (by unfold tmP; omega), fr_I f0 (by omega), fr_I x1 (by omega)]
    refine ok_some ⟨y, rfl, ⟨y1, ?_, ⟨?_, opM_eq ro h3 k11⟩, by omega⟩, ?_, fun i hi => ?_, fr_trans (fr_mono x1 emP_put) (fr_trans (fr_mono f0 (fun b j z => by rcases z.1 with q | q; exact .inr (.inl q); exact .inr (.inr (.inl q)))) (emP_tm y2)), ?_, fun i hi => ?_, k11⟩
    · rw [fy _ _ (by unfold tmP; omega), fr_I f0 (by omega)]; exact x3
    · rw [fy _ _ (by unfold tmP; omega), e11, ho]
    · rw [fy _ _ (by unfold tmP; omega), fr_I f0 (by omega)]; exact x2
    · rw [fy _ _ (by unfold tmP; omega), fr_I f0 (by omega), fr_I x1 (by omega)]
    · rw [fy _ _ (by unfold tmP; omega)]; exact e12
    · rw [fy _ _ (by unfold tmP; omega), fr_I f0 (by omega), fr_I x1 (by omega)]
  unfold j_X11_reads_86 j_X11_reads_99
  cases b with
  | true =>
    simp only [Bool.toNat_true, if1]
    exact core 30 1 1 rfl
  | false =>
    simp only [Bool.toNat_false, if0]
    exact core 28 2 2 rfl
/-- one step of both: a part that is one token -/
theorem part_one {ro : List Nat} {cl H : Nat} {uC uM vC vM : gm_M} {p n m : Nat} {x c : Int32} {v : pEv} (ha : a = 10 ∨ a = 18) (gt : gT t) (hC : eC t a uC p n) (hM : eM t uM p ro m) (hs : kS t p ≠ 0) (e1 : ok ((f_X9_advance uC).bind fun u7 => (f_X3_add a x u7).bind fun z => some z) (fun z => z = vC)) (h1 : b_X11_reads_11 (nI ro.length, nI 1, uM) = some (.inl (nI (bs ro).length, nI 0, vM))) (h2 : eM t vM (kE t p) ro (m + 1)) (h3 : gI vM 10 (1000 + m) = c) (h4 : ∀ i, i < m → gI vM 10 (1000 + i) = gI uM 10 (1000 + i)) (h5 : fr emP uM vM) (h6 : ∀ i, gI vM 12 i = gI uM 12 i) (h7 : ∀ i, gI vM 11 i = gI uM 11 i) (hr : RP H [x] v) (hc : CPart ro [c] v) :
    fr (elP a) uC vC ∧ GD t a ro 1 cl H [] [] (CPart ro) e_any uC uM p n m vC := by
  have gl := gt.1
  obtain ⟨c1, c2, c3, c4, c5⟩ := hC
  have hE := kE_le c5 hs
  obtain ⟨w, ew, w1, w2⟩ := c_step c1 gt c5 hs
  obtain ⟨z, ez, z1, -, z2⟩ := c_ladd x ((fr_I w2 (by unfold tkP; omega)).trans c3) (show n ≤ 1000 by omega)
  obtain ⟨y1, y2, y3⟩ := z2 (by omega)
  obtain ⟨z', ez', hz'⟩ := e1
  rw [ew] at ez'
  simp only [Option.bind_some] at ez'
  rw [ez] at ez'
  simp only [Option.bind_some, Option.some.injEq] at ez'
  have hv : vC = z := by rw [← hz', ← ez']
  subst hv
  refine ⟨fr_trans (elP_tk w2) (fr_mono z1 (fun x j q => .inr (.inr q))), vM, kE t p, [x], [c], v, 1, hE.1, by omega, by simp only [List.length_singleton, List.length_nil]; omega, by simp only [List.length_singleton, List.length_nil]; omega, ⟨cuC_fr w1 z1 (fun j => by omega) (fun j => by omega), ?_, y1, by simp only [List.length_singleton, List.length_nil]; omega, hE.2.1⟩, fun i e he => ?_, fun i hi => ?_, h2, fun i e he => ?_, h4, rGo_1 h1, h5, fun i _ => h6 i, fun i _ => h7 i, trivial, hr, hc⟩
  · rw [fr_I z1 (by omega), fr_I w2 (by unfold tkP; omega)]; exact c2
  · rw [List.append_nil] at he
    cases i with
    | zero =>
      simp only [List.getElem?_cons_zero, Option.some.injEq] at he
      show gI vC (a + 1) n = e
      rw [y2, he]
    | succ i => simp at he
  · rw [y3 i hi]; exact fr_I w2 (by unfold tkP; omega)
  · rw [List.nil_append] at he
    cases i with
    | zero =>
      simp only [List.getElem?_cons_zero, Option.some.injEq] at he
      show gI vM 10 (1000 + m) = e
      rw [h3, he]
    | succ i => simp at he
end
