/-! the E: tests and the whole -/
section
variable {t : List Nat} {a : Nat}
theorem sg_wd {p : Nat} (h : tWd t p ≠ 24) : tSg t p = 0 := by
  have := wd_S h
  unfold tSg
  rw [if_neg (by omega)]
/-- an op that is put, and what it says of comparisons at this depth -/
theorem m_put2 {u : gm_M} {ro : List Nat} {p m : Nat} {c : Int32} {x : Int32} (h : eM t u p ro m) (gt : gT t) (hp : p ≤ t.length) (hs : kS t p ≠ 0) (hl : ro.length ≤ 6) : ok ((f_X11_puts c u).bind fun u_24 => if ib (nI ro.length) 7 = true then gm_let (sI u_24 12 (ix (nI ro.length)) (x &&& 1)) fun u_27 => j_X11_reads_424 (nI ro.length) (1 : Int32) u_27 else none) (fun o => ∃ v, o = .inl (nI ro.length, nI 1, v) ∧ eM t v (kE t p) ro (m + 1) ∧ gI v 10 (1000 + m) = c ∧ (∀ i, i < m → gI v 10 (1000 + i) = gI u 10 (1000 + i)) ∧ fr emP u v ∧ gI v 12 ro.length = (x &&& 1) ∧ (∀ i, i ≠ ro.length → gI v 12 i = gI u 12 i) ∧ (∀ i, gI v 11 i = gI u 11 i)) := by
  obtain ⟨h1, h2, h3, h4⟩ := h
  have gl := gt.1
  have hE := kE_le hp hs
  refine ok_bind (m_putsF c h2 (by omega)) ?_
  rintro w ⟨x1, x2, x3⟩
  rw [if_pos (show ib (nI ro.length) 7 = true from (ib_nI (by omega)).mpr (by omega)), gm_letE, ix_nI (by omega)]
  have f0 : fr (fun y j => y = 12 ∧ j = ro.length) w (sI w 12 ro.length (x &&& 1)) := fr_sI (fr_refl _ _) ⟨rfl, rfl⟩
  have e0 : gI (sI w 12 ro.length (x &&& 1)) 12 ro.length = (x &&& 1) := gI_eq rfl rfl
  generalize sI w 12 ro.length (x &&& 1) = w' at *
  have cx : cuM w' t p := cuM_fr (cuM_fr h1 x1 (fun j _ _ => by omega) (fun j => by omega)) f0 (fun j _ _ => by omega) (fun j => by omega)
  unfold j_X11_reads_424
  refine ok_bind (m_step cx gt hp hs) ?_
  rintro y ⟨y1, y2⟩
  have fy : ∀ b j, ¬ tmP b j → gI y b j = gI w' b j := fun b j z => fr_I y2 z
  refine ok_some ⟨y, rfl, ⟨y1, ?_, opM_eq ro h3 (fun i _ => ?_), by omega⟩, ?_, fun i hi => ?_, fr_trans (fr_mono x1 emP_put) (fr_trans (fr_mono f0 (fun b j z => .inr (.inr (.inl z.1)))) (emP_tm y2)), ?_, fun i hi => ?_, fun i => ?_⟩
  · rw [fy _ _ (by unfold tmP; omega), fr_I f0 (by omega)]; exact x3
  · rw [fy _ _ (by unfold tmP; omega), fr_I f0 (by omega), fr_I x1 (by omega)]
  · rw [fy _ _ (by unfold tmP; omega), fr_I f0 (by omega)]; exact x2
  · rw [fy _ _ (by unfold tmP; omega), fr_I f0 (by omega), fr_I x1 (by omega)]
  · rw [fy _ _ (by unfold tmP; omega)]; exact e0
  · rw [fy _ _ (by unfold tmP; omega), fr_I f0 (by omega), fr_I x1 (by omega)]
  · rw [fy _ _ (by unfold tmP; omega), fr_I f0 (by omega), fr_I x1 (by omega)]
theorem m_cmp {u : gm_M} {ro : List Nat} {p m : Nat} (h : eM t u p ro m) (gt : gT t) (hp : p ≤ t.length) (hl : ro.length ≤ 5) (h12 : gI u 12 ro.length = 0) (hs : tSg t p = 60 ∨ tSg t p = 61) : ∃ v, b_X11_reads_11 (nI ro.length, nI 0, u) = some (.inl (nI ro.length, nI 1, v)) ∧ eM t v (kE t p) ro (m + 1) ∧ gI v 10 (1000 + m) = (if tSg t p = 60 then (24 : Int32) else 25) ∧ (∀ i, i < m → gI v 10 (1000 + i) = gI u 10 (1000 + i)) ∧ fr emP u v ∧ gI v 12 ro.length = nI 1 ∧ (∀ i, i ≠ ro.length → gI v 12 i = gI u 12 i) ∧ (∀ i, gI v 11 i = gI u 11 i) := by
  have h1 := h.1
  have s60 : f_X11_isSign (60 : Int32) u = some (nI (decide (tSg t p = 60)).toNat) := m_isSign (c := 60) h1 gt hp (by omega) (by omega)
  have hS := sg_S (t := t) (p := p) (by omega)
  have e0 : b_X11_reads_11 (nI ro.length, nI 0, u) = if nI (decide (tSg t p = 60)).toNat = 0 then j_X11_reads_289 (nI ro.length) (25 : Int32) u else j_X11_reads_289 (nI ro.length) (24 : Int32) u := by
    rw [b0_sign h1 gt hp, if_neg (by omega), if_pos hs, j_X11_reads_263, if_pos (show ib (nI ro.length) 7 = true from (ib_nI (by omega)).mpr (by omega)), ix_nI (by omega), if_pos h12, s60]
    rfl
  have core : ∀ c : Int32, b_X11_reads_11 (nI ro.length, nI 0, u) = j_X11_reads_289 (nI ro.length) c u → ∃ v, b_X11_reads_11 (nI ro.length, nI 0, u) = some (.inl (nI ro.length, nI 1, v)) ∧ eM t v (kE t p) ro (m + 1) ∧ gI v 10 (1000 + m) = c ∧ (∀ i, i < m → gI v 10 (1000 + i) = gI u 10 (1000 + i)) ∧ fr emP u v ∧ gI v 12 ro.length = nI 1 ∧ (∀ i, i ≠ ro.length → gI v 12 i = gI u 12 i) ∧ (∀ i, gI v 11 i = gI u 11 i) := by
    intro c e
    obtain ⟨o, eo, v, rfl, w⟩ := m_put2 (c := c) (x := 1) h gt hp hS (by omega)
    have eo' : j_X11_reads_289 (nI ro.length) c u = some (.inl (nI ro.length, nI 1, v)) := eo
    exact ⟨v, by rw [e, eo'], w⟩
  by_cases q : tSg t p = 60
  · rw [if_pos q]
    refine core 24 ?_
    rw [e0, decide_eq_true q]
    exact if1
  · rw [if_neg q]
    refine core 25 ?_
    rw [e0, decide_eq_false q]
    exact if0
theorem m_bool {u : gm_M} {ro : List Nat} {p m : Nat} (h : eM t u p ro m) (gt : gT t) (hp : p ≤ t.length) (hl : ro.length ≤ 5) (hs : tWd t p = 17 ∨ tWd t p = 18) : ∃ v, b_X11_reads_11 (nI ro.length, nI 0, u) = some (.inl (nI ro.length, nI 1, v)) ∧ eM t v (kE t p) ro (m + 1) ∧ gI v 10 (1000 + m) = (if tWd t p = 17 then (26 : Int32) else 27) ∧ (∀ i, i < m → gI v 10 (1000 + i) = gI u 10 (1000 + i)) ∧ fr emP u v ∧ gI v 12 ro.length = 0 ∧ (∀ i, i ≠ ro.length → gI v 12 i = gI u 12 i) ∧ (∀ i, gI v 11 i = gI u 11 i) := by
  have h1 := h.1
  have hS := wd_S (t := t) (p := p) (by omega)
  have hG := sg_wd (t := t) (p := p) (by omega)
  have w17 := m_isWord h1 wx17 (by omega)
  have w18 := m_isWord h1 wx18 (by omega)
  have core : ∀ c : Int32, b_X11_reads_11 (nI ro.length, nI 0, u) = j_X11_reads_342 (nI ro.length) c u → ∃ v, b_X11_reads_11 (nI ro.length, nI 0, u) = some (.inl (nI ro.length, nI 1, v)) ∧ eM t v (kE t p) ro (m + 1) ∧ gI v 10 (1000 + m) = c ∧ (∀ i, i < m → gI v 10 (1000 + i) = gI u 10 (1000 + i)) ∧ fr emP u v ∧ gI v 12 ro.length = 0 ∧ (∀ i, i ≠ ro.length → gI v 12 i = gI u 12 i) ∧ (∀ i, gI v 11 i = gI u 11 i) := by
    intro c e
    obtain ⟨o, eo, v, rfl, w⟩ := m_put2 (c := c) (x := 0) h gt hp (by omega) (by omega)
    have eo' : j_X11_reads_342 (nI ro.length) c u = some (.inl (nI ro.length, nI 1, v)) := eo
    exact ⟨v, by rw [e, eo'], w⟩
  have e0 : b_X11_reads_11 (nI ro.length, nI 0, u) = j_X11_reads_324 (nI ro.length) u := by
    rw [b0_sign h1 gt hp, if_neg (by omega), if_neg (by omega), j_X11_reads_304, gm_letE, gm_letE, w17, w18]
    by_cases q : tWd t p = 17
    · rw [decide_eq_true q]; exact if1
    · rw [decide_eq_false q, decide_eq_true (show tWd t p = 18 by omega)]
      refine Eq.trans if0 ?_
      exact if1
  by_cases q : tWd t p = 17
  · rw [if_pos q]
    refine core 26 ?_
    rw [e0, j_X11_reads_324, gm_letE, w17, decide_eq_true q]
    exact if1
  · rw [if_neg q]
    refine core 27 ?_
    rw [e0, j_X11_reads_324, gm_letE, w17, decide_eq_false q]
    exact if0
theorem test_of {rp : Nat → Int32 → gm_M → Option gm_M} {ro : List Nat} (ha : a = 10 ∨ a = 18) (gt : gT t) (hbs : bs ro = ro) (hl : ro.length ≤ 5) (hP : PX t a (f_X8_readSumO rp a (nI ro.length)) ro (ro.length + 1) (4 * ro.length + 2) s_any (CSum ro) (e_sum t)) :
    PX t a (f_X8_readTestO rp a (nI ro.length)) ro ro.length (4 * ro.length + 1) (s_new ro.length) (CTest ro) (e_tst t ro.length) := by
  intro uC uM p n m hC hM hst
  have hst' : gI uM 12 ro.length = 0 := hst
  have gl := gt.1
  have hP2 : PX t a (f_X8_readSumO rp a (nI ro.length)) ro (ro.length + 1) (4 * ro.length + 2) (fun u => gI u 12 ro.length = nI 1) (CSum ro) (fun p v => e_sum t p v ∧ gI v 12 ro.length = nI 1) := by
    intro uC uM p n m h1 h2 h3
    refine ok_mono (hP uC uM p n m h1 h2 trivial) ?_
    rintro w ⟨w1, w2⟩
    refine ⟨w1, ?_⟩
    rcases w2 with w2 | w2
    · exact .inl w2
    · exact .inr (GD_ec w2 (Nat.le_refl _) (Nat.le_refl _) (fun _ _ h => h) (fun p' vM _ _ _ h k => ⟨h, (k _ (by omega)).trans h3⟩))
  unfold f_X8_readTestO
  refine ok_bind (hP uC uM p n m hC hM trivial) ?_
  rintro v ⟨h1, h2⟩
  simp only [gm_letE]
  rcases h2 with h2 | ⟨vM, p', rs, cs, ev, k, hw⟩
  · rw [if_neg (bd_ne h2)]
    exact ok_some ⟨h1, .inl h2⟩
  · obtain ⟨g1, g2, g3, g4, g5, g6, g7, g8, g9, g10, g11, g12, g13, g14, g15, g16, g17⟩ := id hw
    have g15' : tSg t p' ≠ 42 ∧ tSg t p' ≠ 43 ∧ tSg t p' ≠ 45 := g15
    have hp' := g5.2.2.2.2
    have e12 : gI vM 12 ro.length = 0 := (g13 _ (by omega)).trans hst'
    have es : f_X9_isSignOf (60 : Int32) v = nI (decide (tSg t p' = 60)).toNat := c_isSignOf (c := 60) g5.1 gt (by omega) (by omega)
    have es2 : f_X9_isSignOf (61 : Int32) v = nI (decide (tSg t p' = 61)).toNat := c_isSignOf (c := 61) g5.1 gt (by omega) (by omega)
    rw [if_pos g5.2.1, es, es2]
    simp only [List.length_nil, Nat.add_zero, Nat.zero_add] at g5 g8
    have core : ∀ (r : Int32) (c c' : Int32), (tSg t p' = 60 ∨ tSg t p' = 61) → (if tSg t p' = 60 then (24 : Int32) else 25) = c → (c = 24 ∨ c = 25) → (∀ x y : Int32, f_X3_joined c' x y = tvv c x y) → c' < (-5 : Int32) → (if r = 0 then (-10 : Int32) else (-9 : Int32)) = c' → ok (j_X8_readTest_39 rp a (nI ro.length) r v) (fun z => fr (elP a) uC z ∧ (BD t a ro 1 uM p z ∨ GD t a ro 1 ro.length (4 * ro.length + 1) [] [] (CTest ro) (e_tst t ro.length) uC uM p n m z)) := by
      intro r c c' hq hc hc2 hJ hlt hr
      obtain ⟨uM2, m1, m2, m3, m4, m5, m6, m7, m8⟩ := m_cmp g8 gt hp' hl e12 hq
      rw [hc] at m3
      have hch := chain (c' := c') (cl := ro.length) ha gt hbs hP2 (by omega) g5 g8 (sg_S (t := t) (p := p') (by omega)) m1 m2 m3 m4 m5 m6 (fun i hi => m7 i (by omega)) (fun i _ => m8 i)
      obtain ⟨y1, y2, z, e1, e2, e3, z1, z2⟩ := bind3 (β := Nat) hch
      unfold j_X8_readTest_39
      rw [e1]
      simp only [Option.bind_some]
      rw [e2]
      simp only [Option.bind_some]
      have ej : (if r = 0 then j_X8_readTest_64 rp a (nI ro.length) (-10 : Int32) y2 else j_X8_readTest_64 rp a (nI ro.length) (-9 : Int32) y2) = j_X8_readTest_64 rp a (nI ro.length) c' y2 := by
        rw [← hr]
        by_cases q : r = 0
        · rw [if_pos q, if_pos q]
        · rw [if_neg q, if_neg q]
      rw [ej, j_X8_readTest_64, e3]
      simp only [Option.bind_some]
      refine ok_some ⟨fr_trans h1 z1, ?_⟩
      have hw1 : GDw t a ro 1 (ro.length + 1) (4 * ro.length + 1) [] [] (CSum ro) (e_sum t) uC uM p n m v vM p' rs cs ev k := by
        obtain ⟨g1, g2, g3, g4, g5, g6, g7, g8, g9, g10, g11, g12, g13, g14, g15, g16, g17⟩ := hw
        exact ⟨g1, g2, g3, g4, g5, g6, g7, g8, g9, g10, g11, g12, g13, g14, g15, RP_mono g16 (by omega), g17⟩
      have z2' : BD t a ro 0 vM p' z ∨ GD t a ro 0 ro.length (4 * ro.length + 2) [c'] [c] (CSum ro) (e_tst t ro.length) v vM p' (n + rs.length) (m + cs.length) z := by
        rcases z2 with z2 | z2
        · exact .inl z2
        · exact .inr (GD_ec z2 (Nat.le_refl _) (Nat.le_refl _) (fun _ _ h => h) (fun p'' w _ _ _ h _ => ⟨h.1, fun z => by rw [h.2] at z; exact absurd z (by decide)⟩))
      exact GD_app hbs (by omega) (fun v w => fun s p g d => f_X3_joined c' (v s p g d) (w s p g d)) hw1 z2' (fun rs v rs' w h1 h2 => by rw [← List.append_assoc]; exact RP_bin hlt h1 h2) (SP' := CTest ro) (fun cs v cs' w h1 h2 => by simp only [hJ]; exact C_test2 hl hc2 h1 h2)
    by_cases q1 : tSg t p' = 60
    · rw [decide_eq_true q1]
      show ok (if nI 1 = 0 then _ else _) _
      rw [if1]
      exact core (nI 1) 24 (-9) (.inl q1) (if_pos q1) (.inl rfl) (fun x y => rfl) (by decide) rfl
    · rw [decide_eq_false q1]
      show ok (if nI 0 = 0 then _ else _) _
      rw [if0]
      by_cases q2 : tSg t p' = 61
      · rw [decide_eq_true q2]
        show ok (if nI 1 = 0 then _ else _) _
        rw [if1]
        exact core (nI 0) 25 (-10) (.inr q2) (if_neg q1) (.inr rfl) (fun x y => rfl) (by decide) rfl
      · rw [decide_eq_false q2]
        show ok (if nI 0 = 0 then _ else _) _
        rw [if0]
        refine ok_some ⟨h1, .inr ?_⟩
        obtain ⟨g1, g2, g3, g4, g5, g6, g7, g8, g9, g10, g11, g12, g13, g14, g15, g16, g17⟩ := hw
        exact ⟨vM, p', rs, cs, ev, k, g1, g2, g3, g4, g5, g6, g7, g8, g9, g10, g11, g12, fun i hi => g13 i (by omega), g14, ⟨g15, fun _ => ⟨q1, q2⟩⟩, RP_mono g16 (by omega), C_test1 g17⟩
theorem whole_of {rp : Nat → Int32 → gm_M → Option gm_M} {ro : List Nat} (ha : a = 10 ∨ a = 18) (gt : gT t) (hbs : bs ro = ro) (hl : ro.length ≤ 5) (hP : PX t a (f_X8_readTestO rp a (nI ro.length)) ro ro.length (4 * ro.length + 1) (s_new ro.length) (CTest ro) (e_tst t ro.length)) :
    PX t a (f_X8_readWholeO rp a (nI ro.length)) ro ro.length (4 * ro.length) (s_new ro.length) (CWhole ro) (e_who t ro.length) := by
  intro uC uM p n m hC hM hst
  have gl := gt.1
  unfold f_X8_readWholeO
  refine ok_bind (hP uC uM p n m hC hM hst) ?_
  rintro w ⟨w1, w2⟩
  refine ok_bind (Q := fun o => ∃ v, (o = .inl v ∨ o = .inr v) ∧ fr (elP a) uC v ∧ (BD t a ro 1 uM p v ∨ GD t a ro 1 ro.length (4 * ro.length) [] [] (CWhole ro) (e_who t ro.length) uC uM p n m v))
    (lp_ok 1001 (fun j x => x.1 = nI j ∧ fr (elP a) uC x.2 ∧ ((BD t a ro 1 uM p x.2 ∧ j ≤ 1000) ∨ GD t a ro 1 ro.length (4 * ro.length) [] [] (CWhole ro) (fun p' v => p + j < p' ∧ e_tst t ro.length p' v) uC uM p n m x.2)) (by omega) ⟨rfl, w1, ?_⟩ ?_ ?_) ?_
  · rcases w2 with w2 | w2
    · exact .inl ⟨w2, by omega⟩
    · exact .inr (GD_ec w2 (Nat.le_refl _) (by omega) (fun cs v h => C_whole1 h) (fun p' vM n' z _ h _ => ⟨by omega, h⟩))
  · rintro j ⟨x, v⟩ hj ⟨hx, h1, h2⟩
    simp only at hx h1 h2
    subst hx
    rw [b_X8_readWhole_8]
    rcases h2 with ⟨h2, hj2⟩ | ⟨vM, p', rs, cs, ev, k, hw⟩
    · rw [if_neg (bd_ne h2)]
      by_cases q : (1000 : Int32) ≤ nI j
      · rw [if_pos q]; exact ok_some ⟨v, .inr rfl, h1, .inl h2⟩
      · rw [if_neg q]; exact ok_some ⟨v, .inr rfl, h1, .inl h2⟩
    · obtain ⟨g1, g2, g3, g4, g5, g6, g7, g8, g9, g10, g11, g12, g13, g14, ⟨g15, g15b⟩, g16, g17⟩ := id hw
      have hp' := g5.2.2.2.2
      have es : f_X9_isWord (17 : Int32) v = nI (decide (tWd t p' = 17)).toNat := c_isWord (k := 17) g5.1 (by omega)
      have es2 : f_X9_isWord (18 : Int32) v = nI (decide (tWd t p' = 18)).toNat := c_isWord (k := 18) g5.1 (by omega)
      rw [if_neg (show ¬ (1000 : Int32) ≤ nI j from fun z => by rw [show (1000 : Int32) = nI 1000 from rfl, nI_leI (by omega) (by omega)] at z; omega), if_pos g5.2.1, gm_letE, es]
      simp only [List.length_nil, Nat.add_zero, Nat.zero_add] at g5 g8
      have core : ∀ (c c' : Int32), (tWd t p' = 17 ∨ tWd t p' = 18) → (if tWd t p' = 17 then (26 : Int32) else 27) = c → (c = 26 ∨ c = 27) → (∀ x y : Int32, f_X3_joined c' x y = wvv c x y) → c' < (-5 : Int32) → ok (j_X8_readWhole_63 rp a (nI ro.length) (nI j) c' v) (stp (fun x => x.1 = nI (j + 1) ∧ fr (elP a) uC x.2 ∧ ((BD t a ro 1 uM p x.2 ∧ j + 1 ≤ 1000) ∨ GD t a ro 1 ro.length (4 * ro.length) [] [] (CWhole ro) (fun p' v => p + (j + 1) < p' ∧ e_tst t ro.length p' v) uC uM p n m x.2)) (fun o => ∃ v, (o = .inl v ∨ o = .inr v) ∧ fr (elP a) uC v ∧ (BD t a ro 1 uM p v ∨ GD t a ro 1 ro.length (4 * ro.length) [] [] (CWhole ro) (e_who t ro.length) uC uM p n m v))) := by
        intro c c' hq hc hc2 hJ hlt
        obtain ⟨uM2, m1, m2, m3, m4, m5, m6, m7, m8⟩ := m_bool g8 gt hp' hl hq
        rw [hc] at m3
        have hch := chain (c' := c') (cl := ro.length) ha gt hbs hP (Nat.le_refl _) g5 g8 (by have := wd_S (t := t) (p := p') (by omega); omega) m1 m2 m3 m4 m5 m6 (fun i hi => m7 i (by omega)) (fun i _ => m8 i)
        obtain ⟨y1, y2, z, e1, e2, e3, z1, z2⟩ := bind3 (β := Nat) hch
        unfold j_X8_readWhole_63
        rw [e1]
        simp only [Option.bind_some]
        rw [e2]
        simp only [Option.bind_some]
        rw [e3]
        simp only [Option.bind_some]
        refine ok_some ⟨nI_add j 1, fr_trans h1 z1, ?_⟩
        have z2' : BD t a ro 0 vM p' z ∨ GD t a ro 0 ro.length (4 * ro.length + 1) [c'] [c] (CTest ro) (fun p'' v => p + (j + 1) < p'' ∧ e_tst t ro.length p'' v) v vM p' (n + rs.length) (m + cs.length) z := by
          rcases z2 with z2 | z2
          · exact .inl z2
          · exact .inr (GD_ec z2 (Nat.le_refl _) (Nat.le_refl _) (fun _ _ h => h) (fun p'' _ _ q _ h _ => ⟨by omega, h⟩))
        rcases GD_app hbs (Nat.le_refl _) (fun v w => fun s p g d => f_X3_joined c' (v s p g d) (w s p g d)) hw z2' (fun rs v rs' w h1 h2 => by rw [← List.append_assoc]; exact RP_bin hlt h1 h2) (SP' := CWhole ro) (fun cs v cs' w h1 h2 => by simp only [hJ]; exact C_whole2 hl hc2 h1 h2) with y | y
        · exact .inl ⟨y, by omega⟩
        · exact .inr y
      by_cases q1 : tWd t p' = 17
      · rw [decide_eq_true q1]
        show ok (if nI 1 = 0 then _ else _) _
        rw [if1, j_X8_readWhole_41, if_neg (by decide)]
        exact core 26 (-11) (.inl q1) (if_pos q1) (.inl rfl) (fun x y => rfl) (by decide)
      · rw [decide_eq_false q1]
        show ok (if nI 0 = 0 then _ else _) _
        rw [if0, j_X8_readWhole_41, if_pos rfl, gm_letE, es2]
        by_cases q2 : tWd t p' = 18
        · rw [decide_eq_true q2]
          show ok (if nI 1 = 0 then _ else _) _
          rw [if1]
          exact core 27 (-12) (.inr q2) (if_neg q1) (.inr rfl) (fun x y => rfl) (by decide)
        · rw [decide_eq_false q2]
          show ok (if nI 0 = 0 then _ else _) _
          rw [if0]
          refine ok_some ⟨v, .inl rfl, h1, .inr ?_⟩
          obtain ⟨g1, g2, g3, g4, g5, g6, g7, g8, g9, g10, g11, g12, g13, g14, g15, g16, g17⟩ := hw
          exact ⟨vM, p', rs, cs, ev, k, g1, g2, g3, g4, g5, g6, g7, g8, g9, g10, g11, g12, g13, g14, ⟨g15.2, q1, q2⟩, g16, g17⟩
  · rintro ⟨x, v⟩ ⟨hx, h1, h2⟩
    simp only at hx h1 h2
    rcases h2 with ⟨-, h2⟩ | ⟨vM, p', rs, cs, ev, k, g1, g2, g3, g4, g5, g6, g7, g8, g9, g10, g11, g12, g13, g14, ⟨g15, -⟩, g16, g17⟩
    · omega
    · have := g5.2.2.2.2
      omega
  · rintro o ⟨v, ho, h⟩
    rcases ho with rfl | rfl
    · exact ok_some h
    · exact ok_some h
end
