/-! the E: a part, and all of it -/
section
variable {t : List Nat} {a : Nat}
theorem add2 {u w z : gm_M} {x : Int32} (h1 : f_X9_advance u = some w) (h2 : f_X3_add a x w = some z) : ok ((f_X9_advance u).bind fun u7 => (f_X3_add a x u7).bind fun z => some z) (fun y => y = z) := by
  rw [h1]
  simp only [Option.bind_some]
  rw [h2]
  exact ok_some rfl
/-- the whole's end: what the reference does behind it -/
theorem m_end {u : gm_M} {d p : Nat} (h : cuM u t p) (gt : gT t) (hp : p ≤ t.length) (hd : d ≤ 6) (he : e_who t d p u) : b_X11_reads_11 (nI d, nI 0, u) = if nI (decide (tSg t p = 41)).toNat = 0 then some (.inr (.inr (.inr (nI d, u)))) else if nI d ≤ 0 then some (.inr (.inr (.inr (nI d, u)))) else (f_X11_puts (29 : Int32) u).bind fun u_38 => ((gm_lp (b_X11_reads_379 (nI 0) u_38) gm_FU (nI d + (-1 : Int32))).bind fun o => j_X11_reads_424 o (nI 0) u_38) := by
  obtain ⟨⟨⟨e1, e2, e3⟩, e4⟩, e5, e6⟩ := he
  have e41 : f_X11_isSign (41 : Int32) u = some (nI (decide (tSg t p = 41)).toNat) := m_isSign (c := 41) h gt hp (by omega) (by omega)
  have w17 := m_isWord h wx17 (by omega)
  have w18 := m_isWord h wx18 (by omega)
  have e304 : j_X11_reads_304 (nI d) (nI 0) u = if nI (decide (tSg t p = 41)).toNat = 0 then some (.inr (.inr (.inr (nI d, u)))) else if nI d ≤ 0 then some (.inr (.inr (.inr (nI d, u)))) else (f_X11_puts (29 : Int32) u).bind fun u_38 => ((gm_lp (b_X11_reads_379 (nI 0) u_38) gm_FU (nI d + (-1 : Int32))).bind fun o => j_X11_reads_424 o (nI 0) u_38) := by
    rw [j_X11_reads_304, gm_letE, gm_letE, w17, w18, decide_eq_false e5, decide_eq_false e6, e41]
    refine Eq.trans if0 ?_
    refine Eq.trans if0 ?_
    rfl
  rw [b0_sign h gt hp, if_neg (by omega)]
  by_cases q : tSg t p = 60 ∨ tSg t p = 61
  · rw [if_pos q, j_X11_reads_263, if_pos (show ib (nI d) 7 = true from (ib_nI (by omega)).mpr (by omega)), ix_nI (by omega), if_neg (fun z => by have := e4 z; omega), e304]
  · rw [if_neg q, e304]
theorem part_of {rp : Nat → Int32 → gm_M → Option gm_M} {ro : List Nat} (ha : a = 10 ∨ a = 18) (gt : gT t) (hl : ro.length ≤ 4) (hN : PX t a (rp a (nI (ro.length + 1))) (1 :: ro) (ro.length + 1 + 1) (4 * (ro.length + 1) + 4) s_any (CPart (1 :: ro)) e_any) (hW : PX t a (f_X8_readWholeO rp a (nI (ro.length + 1))) (2 :: ro) (ro.length + 1) (4 * (ro.length + 1)) (s_new (ro.length + 1)) (CWhole (2 :: ro)) (e_who t (ro.length + 1))) :
    PX t a (f_X8_readPartO rp a (nI ro.length)) ro (ro.length + 1) (4 * ro.length + 4) s_any (CPart ro) e_any := by
  intro uC uM p n m hC hM _
  have gl := gt.1
  by_cases hc : canP t p
  · obtain ⟨c1, c2, c3, c4, c5⟩ := id hC
    obtain ⟨d1, d2, d3, d4⟩ := id hM
    have hsl := kS_le t p
    have hs : kS t p ≠ 0 := by
      rcases hc with z | z | z | z
      · omega
      · exact sg_S (by omega)
      · have := wd_S (t := t) (p := p) (by omega); omega
      · have := wd_S (t := t) (p := p) (by omega); omega
    have hE := kE_le c5 hs
    have hbs := bs_le ro
    have em := m_part (d := nI ro.length) d1 gt c5
    rw [if_neg (show ¬ ¬ (kS t p = 2 ∨ tSg t p = 40 ∨ tWd t p = 16 ∨ (19 ≤ tWd t p ∧ tWd t p ≤ 22)) from fun z => z hc), j_X11_reads_65, if_neg (show ¬ nI ro.length = (5 : Int32) from fun z => by have := (nI_eq (b := 5) (by omega) (by omega)).mp z; omega)] at em
    rw [c_part1 gt hC hc, j_X8_readPart_71, if_pos (show nI ro.length < (5 : Int32) from (nI_ltI (b := 5) (by omega) (by omega)).mpr (by omega)), j_X8_readPart_81, if_pos c2, gm_letE]
    obtain ⟨w, ew, w1, w2⟩ := c_step c1 gt c5 hs
    have eCw : eC t a w (kE t p) n := ⟨w1, (fr_I w2 (by unfold tkP; omega)).trans c2, (fr_I w2 (by unfold tkP; omega)).trans c3, by omega, hE.2.1⟩
    rw [ew]
    simp only [Option.bind_some]
    by_cases q1 : kS t p = 2
    · -- a number
      have t1 : tWd t p = 24 := tWd_0 (by omega)
      have t2 : tSg t p = 0 := by unfold tSg; rw [if_neg (by omega)]
      have hv := kV_2 q1
      rw [decide_eq_true q1]
      show ok (if nI 1 = 0 then _ else _) _
      rw [if1, c1.2.2.2.2.2 (.inl q1)]
      rw [decide_eq_false (show ¬ tWd t p = 16 by omega), decide_eq_false (show ¬ tSg t p = 40 by omega), if_neg (show ¬ (19 ≤ tWd t p ∧ tWd t p ≤ 22) by omega), d1.2.2.2.2.2 q1] at em
      have em' : b_X11_reads_11 (nI ro.length, nI 1, uM) = j_X11_reads_147 (nI ro.length) (nI (100 + kV t p)) uM := by
        rw [em]
        refine Eq.trans if0 ?_
        refine Eq.trans if0 ?_
        rw [if_pos (show nI 0 ≤ (0 : Int32) by decide), show (100 : Int32) + nI (kV t p) = nI (100 + kV t p) from nI_add 100 _]
      obtain ⟨o, eo, vM, rfl, v1, v2, v3, v4, v5, v6⟩ := m_147 (nI (100 + kV t p)) hM gt c5 hs (by omega)
      obtain ⟨z, ez, z1⟩ := c_ladd (a := a) (nI (kV t p)) eCw.2.2.1 (by omega)
      rw [ez]
      simp only [Option.bind_some]
      obtain ⟨r1, r2⟩ := part_one (cl := ro.length + 1) (H := 4 * ro.length + 4) ha gt hC hM hs (add2 ew ez) (em'.trans eo) v1 v2 v3 v4 v5 v6 (RP_num (by omega) (by omega)) (C_num (by omega) (by omega))
      exact ok_some ⟨r1, .inr r2⟩
    · rw [decide_eq_false q1]
      show ok (if nI 0 = 0 then _ else _) _
      rw [if0]
      by_cases q2 : tSg t p = 40
      · -- ( E )
        have hk3 : kS t p = 3 := by
          by_cases z : kS t p = 3
          · exact z
          · unfold tSg at q2; rw [if_neg z] at q2; omega
        have t1 : tWd t p = 24 := tWd_0 (by omega)
        rw [decide_eq_true q2]
        show ok (if nI 1 = 0 then _ else _) _
        rw [if1]
        rw [decide_eq_false (show ¬ tWd t p = 16 by omega), decide_eq_true q2] at em
        have em' : b_X11_reads_11 (nI ro.length, nI 1, uM) = j_X11_reads_86 (nI ro.length) (nI 1) (nI false.toNat) uM := by
          rw [em]
          refine Eq.trans if0 ?_
          exact if1
        obtain ⟨o, eo, vM, rfl, v1, v2, v3, v4, v5, v6, v7⟩ := m_86 (b := false) hM gt c5 hs hl
        simp only [Bool.false_eq_true, if_false] at v1 v2 eo
        have est := em'.trans eo
        rw [show nI ro.length + (1 : Int32) = nI (ro.length + 1) from nI_add _ 1]
        obtain ⟨x, ex, x1, x2⟩ := hW w vM (kE t p) n (m + 1) eCw v1 v5
        rw [ex]
        simp only [Option.bind_some]
        have fx : fr (elP a) uC x := fr_trans (elP_tk w2) x1
        rcases x2 with ⟨F, k, b1, b2, b3, b4, b5, b6⟩ | ⟨xM, p', rs, cs, ev, k, g1, g2, g3, g4, g5, g6, g7, g8, g9, g10, g11, g12, g13, g14, g15, g16, g17⟩
        · have ht := cf_takeSign (u := x) (x := 41) (by rw [b1]; exact flt_ne b2 b3)
          rw [ht]
          exact ok_some ⟨fx, .inl ⟨F, 1 + k, b1, b2, b3, by omega, rFl_tr (rGo_1 est) v4 b5, b6⟩⟩
        · simp only [List.length_nil, Nat.add_zero, Nat.zero_add, List.append_nil, List.nil_append] at g3 g4 g5 g6 g8 g9
          have hp' := g5.2.2.2.2
          have b2r : bs (2 :: ro) = 2 :: ro := by simp [bs]
          rw [b2r] at g11
          have el : (2 :: ro).length = ro.length + 1 := rfl
          rw [el] at g11
          have me := m_end g8.1 gt hp' (by omega) g15
          rcases co_sign (c := 41) g5.1 gt hp' g5.2.1 (by omega) (by omega) with ⟨q3, hok⟩ | ⟨q3, en⟩
          · -- the )
            have hS3 := sg_S (t := t) (p := p') (by omega)
            have hE3 := kE_le hp' hS3
            have hok' : ok (f_X8_takeSign (41 : Int32) x) _ := hok
            obtain ⟨y, ey, y1, y2⟩ := hok'
            rw [ey]
            obtain ⟨f1, f2, f3, f4⟩ := id g8
            -- the reference's step
            have step : ok (b_X11_reads_11 (nI (ro.length + 1), nI 0, xM)) (fun o => ∃ v, o = .inl (nI (bs ro).length, nI 0, v) ∧ cuM v t (kE t p') ∧ gI v 1 18 = nI (1000 + (m + 1 + cs.length + 1)) ∧ opM v ro ∧ gI v 10 (1000 + (m + 1 + cs.length)) = (29 : Int32) ∧ (∀ i, i < m + 1 + cs.length → gI v 10 (1000 + i) = gI xM 10 (1000 + i)) ∧ fr emP xM v ∧ (∀ i, gI v 12 i = gI xM 12 i) ∧ ∀ i, gI v 11 i = gI xM 11 i) := by
              rw [me, decide_eq_true q3]
              show ok (if nI 1 = 0 then _ else _) _
              rw [if1, if_neg (show ¬ nI (ro.length + 1) ≤ (0 : Int32) from fun z => by rw [show (0 : Int32) = nI 0 from rfl, nI_leI (by omega) (by omega)] at z; omega)]
              refine ok_bind (m_putsF (29 : Int32) f2 (by omega)) ?_
              rintro z ⟨z1, z2, z3⟩
              have oz : opM z ro := opM_eq ro f3.2 (fun i _ => fr_I z1 (by omega))
              rw [show nI (ro.length + 1) + (-1 : Int32) = nI ro.length by rw [show (-1 : Int32) = -nI 1 from rfl, nI_m1 (by omega), Nat.add_sub_cancel], r_popF2 oz (by omega)]
              simp only [Option.bind_some]
              unfold j_X11_reads_424
              have cz : cuM z t p' := cuM_fr f1 z1 (fun j _ _ => by omega) (fun j => by omega)
              refine ok_bind (m_step cz gt hp' hS3) ?_
              rintro v ⟨i1, i2⟩
              exact ok_some ⟨v, rfl, i1, (fr_I i2 (by unfold tmP; omega)).trans z3, opM_eq ro oz (fun i _ => fr_I i2 (by unfold tmP; omega)), (fr_I i2 (by unfold tmP; omega)).trans z2, fun i hi => (fr_I i2 (by unfold tmP; omega)).trans (fr_I z1 (by omega)), fr_trans (fr_mono z1 emP_put) (emP_tm i2), fun i => (fr_I i2 (by unfold tmP; omega)).trans (fr_I z1 (by omega)), fun i => (fr_I i2 (by unfold tmP; omega)).trans (fr_I z1 (by omega))⟩
            obtain ⟨o, eo2, zM, rfl, i1, i2, i3, i4, i5, i6, i7, i8⟩ := step
            refine ok_some ⟨fr_trans fx (elP_tk y2), .inr ⟨zM, kE t p', rs, (28 : Int32) :: (cs ++ [(29 : Int32)]), ev, 1 + (k + 1), by omega, by omega, by simp only [List.length_nil]; omega, by simp only [List.length_cons, List.length_append, List.length_nil]; omega, ⟨y1, (fr_I y2 (by unfold tkP; omega)).trans g5.2.1, ?_, by simp only [List.length_nil]; omega, hE3.2.1⟩, fun i e he => ?_, fun i hi => ?_, ⟨i1, ?_, i3, by simp only [List.length_cons, List.length_append, List.length_nil]; omega⟩, fun i e he => ?_, fun i hi => ?_, rGo_tr (rGo_1 est) (rGo_tr g11 (rGo_1 eo2)), fr_trans v4 (fr_trans g12 i6), fun i hi => (i7 i).trans ((g13 i hi).trans (v6 i (by omega))), fun i hi => (i8 i).trans ((g14 i (by rw [el]; omega)).trans (v7 i hi)), trivial, RP_mono g16 (by omega), C_par hl g17⟩⟩
            · rw [fr_I y2 (by unfold tkP; omega), List.length_nil, Nat.add_zero]; exact g5.2.2.1
            · rw [List.append_nil] at he
              rw [fr_I y2 (by unfold tkP; omega)]; exact g6 i e he
            · rw [fr_I y2 (by unfold tkP; omega), g7 i hi]; exact fr_I w2 (by unfold tkP; omega)
            · rw [i2]
              congr 1
              simp only [List.length_cons, List.length_append, List.length_nil]; omega
            · rw [List.nil_append] at he
              cases i with
              | zero =>
                simp only [List.getElem?_cons_zero, Option.some.injEq] at he
                show gI zM 10 (1000 + m) = e
                rw [i5 m (by omega), g10 m (by omega), v2, he]
              | succ i =>
                rw [List.getElem?_cons_succ] at he
                rcases Nat.lt_or_ge i cs.length with z | z
                · rw [List.getElem?_append_left z] at he
                  have := g9 i e he
                  rw [show 1000 + m + (i + 1) = 1000 + (m + 1 + i) by omega, i5 _ (by omega), show 1000 + (m + 1 + i) = 1000 + (m + 1) + i by omega]; exact this
                · rw [List.getElem?_append_right z] at he
                  obtain ⟨z2, hz⟩ := List.getElem?_eq_some_iff.mp he
                  simp only [List.length_singleton] at z2
                  have z3 : i = cs.length := by omega
                  subst z3
                  simp only [Nat.sub_self, List.getElem_cons_zero] at hz
                  rw [show 1000 + m + (cs.length + 1) = 1000 + (m + 1 + cs.length) by omega, i4, hz]
            · rw [i5 i (by omega), g10 i (by omega), v3 i hi]
          · have hb := flt_b (k := 1) (by omega) (by omega) hp' gt
            have en' : f_X8_takeSign (41 : Int32) x = some (sI x 2 1 (nI (flt 1 t p'))) := en
            rw [en']
            refine ok_some ⟨fr_trans fx elP_4, .inl ⟨flt 1 t p', 1 + (k + 1), gI_eq rfl rfl, hb.1, hb.2, by omega, rFl_tr (rGo_1 est) v4 (rFl_tr g11 g12 (rFl_1 (r := .inr (.inr (nI (ro.length + 1), xM))) ?_ ?_)), ⟨n + rs.length, (gI_ne (by omega)).trans g5.2.2.1, by have := g5.2.2.2.1; omega⟩⟩⟩
            · rw [me, decide_eq_false q3]
              exact if0
            · show ok (j_X11_reads_399 (nI (ro.length + 1)) xM) _
              unfold j_X11_reads_399 j_X11_reads_418
              rw [if_neg (show ¬ nI (ro.length + 1) = (0 : Int32) from fun z => by have := (nI_eq (b := 0) (by omega) (by omega)).mp z; omega)]
              exact m_fail1 g8.1
      · rw [decide_eq_false q2]
        show ok (if nI 0 = 0 then _ else _) _
        rw [if0]
        by_cases q3 : tWd t p = 16
        · -- not
          rw [decide_eq_true q3]
          show ok (if nI 1 = 0 then _ else _) _
          rw [if1]
          rw [decide_eq_true q3] at em
          have em' : b_X11_reads_11 (nI ro.length, nI 1, uM) = j_X11_reads_86 (nI ro.length) (nI 1) (nI true.toNat) uM := by
            rw [em]
            exact if1
          obtain ⟨o, eo, vM, rfl, v1, v2, v3, v4, v5, v6, v7⟩ := m_86 (b := true) hM gt c5 hs hl
          simp only [if_true] at v1 v2 eo
          have est := em'.trans eo
          rw [show nI ro.length + (1 : Int32) = nI (ro.length + 1) from nI_add _ 1]
          obtain ⟨x, ex, x1, x2⟩ := hN w vM (kE t p) n (m + 1) eCw v1 trivial
          rw [ex]
          simp only [Option.bind_some]
          have fx : fr (elP a) uC x := fr_trans (elP_tk w2) x1
          have eb : bs (1 :: ro) = bs ro := by simp [bs]
          rcases x2 with ⟨F, k, b1, b2, b3, b4, b5, ⟨n', hn1, hn2⟩⟩ | ⟨xM, p', rs, cs, ev, k, g1, g2, g3, g4, g5, g6, g7, g8, g9, g10, g11, g12, g13, g14, g15, g16, g17⟩
          · refine ok_bind (c_ladd (-5 : Int32) hn1 hn2) ?_
            rintro z ⟨z1, z2, -⟩
            exact ok_some ⟨fr_trans fx (fr_mono z1 (fun x j q => .inr (.inr q))), .inl ⟨F, 1 + k, (fr_I z1 (by omega)).trans b1, b2, b3, by omega, rFl_tr (rGo_1 est) v4 b5, z2⟩⟩
          · simp only [List.length_nil, Nat.add_zero, Nat.zero_add, List.append_nil, List.nil_append] at g3 g4 g5 g6 g8 g9
            obtain ⟨a1, a2, a3, a4, a5⟩ := g5
            rw [eb] at g11
            refine ok_bind (c_ladd (-5 : Int32) a3 (by omega)) ?_
            rintro z ⟨z1, -, z2⟩
            obtain ⟨y1, y2, y3⟩ := z2 (by omega)
            obtain ⟨f1, f2, f3, f4⟩ := g8
            refine ok_some ⟨fr_trans fx (fr_mono z1 (fun x j q => .inr (.inr q))), .inr ⟨xM, p', rs ++ [(-5 : Int32)], (30 : Int32) :: cs, _, 1 + k, by omega, by omega, by simp only [List.length_nil, List.length_append, List.length_singleton]; omega, by simp only [List.length_cons, List.length_nil]; omega, ⟨cuC_fr a1 z1 (fun j => by omega) (fun j => by omega), (fr_I z1 (by omega)).trans a2, ?_, by simp only [List.length_nil, List.length_append, List.length_singleton]; omega, a5⟩, fun i e he => ?_, fun i hi => ?_, ⟨f1, ?_, f3.2, by simp only [List.length_cons, List.length_nil]; omega⟩, fun i e he => ?_, fun i hi => ?_, rGo_tr (rGo_1 est) g11, fr_trans v4 g12, fun i hi => (g13 i (by omega)).trans (v6 i (by omega)), fun i hi => (g14 i (by simp only [List.length_cons]; omega)).trans (v7 i hi), trivial, RP_not (RP_mono g16 (by omega)), C_not (by omega) g17⟩⟩
            · rw [y1]
              congr 1
              simp only [List.length_nil, List.length_append, List.length_singleton]; omega
            · rw [List.append_nil] at he
              rcases Nat.lt_or_ge i rs.length with q | q
              · rw [List.getElem?_append_left q] at he
                rw [y3 _ (by omega)]; exact g6 i e he
              · rw [List.getElem?_append_right q] at he
                obtain ⟨q4, hq⟩ := List.getElem?_eq_some_iff.mp he
                simp only [List.length_singleton] at q4
                have q5 : i = rs.length := by omega
                subst q5
                simp only [Nat.sub_self, List.getElem_cons_zero] at hq
                rw [y2, hq]
            · rw [y3 i (by omega), g7 i hi]; exact fr_I w2 (by unfold tkP; omega)
            · rw [f2]
              congr 1
              simp only [List.length_cons, List.length_nil]; omega
            · rw [List.nil_append] at he
              cases i with
              | zero =>
                simp only [List.getElem?_cons_zero, Option.some.injEq] at he
                show gI xM 10 (1000 + m) = e
                rw [g10 m (by omega), v2, he]
              | succ i =>
                rw [List.getElem?_cons_succ] at he
                have := g9 i e he
                rw [show 1000 + m + (i + 1) = 1000 + (m + 1) + i by omega]; exact this
            · rw [g10 i (by omega), v3 i hi]
        · -- a fact
          have q4 : 19 ≤ tWd t p ∧ tWd t p ≤ 22 := by
            rcases hc with z | z | z | z
            · exact absurd z q1
            · exact absurd z q2
            · exact absurd z q3
            · exact z
          have hk1 : kS t p = 1 := wd_S (by omega)
          have evl : gI uC 3 5 = nI (tWd t p) := by
            rw [c_val c1 hk1]
            unfold pv
            rw [if_neg (by omega)]
          rw [decide_eq_false q3]
          show ok (if nI 0 = 0 then _ else _) _
          rw [if0, evl]
          rw [decide_eq_false q3, decide_eq_false q2, if_pos q4] at em
          have em' : b_X11_reads_11 (nI ro.length, nI 1, uM) = j_X11_reads_147 (nI ro.length) (nI (tWd t p - 18)) uM := by
            rw [em]
            refine Eq.trans if0 ?_
            refine Eq.trans if0 ?_
            rw [if_neg (show ¬ nI (tWd t p - 18) ≤ (0 : Int32) from fun z => by rw [show (0 : Int32) = nI 0 from rfl, nI_leI (by omega) (by omega)] at z; omega)]
          obtain ⟨o, eo, vM, rfl, v1, v2, v3, v4, v5, v6⟩ := m_147 (nI (tWd t p - 18)) hM gt c5 hs (by omega)
          obtain ⟨z, ez, z1⟩ := c_ladd (a := a) ((-1 : Int32) - (nI (tWd t p) - (19 : Int32))) eCw.2.2.1 (by omega)
          rw [ez]
          simp only [Option.bind_some]
          have hrp := RP_fct (H := 4 * ro.length + 4) (k := tWd t p - 18) (by omega) (by omega) (by omega)
          rw [show tWd t p - 18 + 18 = tWd t p by omega] at hrp
          obtain ⟨r1, r2⟩ := part_one (cl := ro.length + 1) (H := 4 * ro.length + 4) ha gt hC hM hs (add2 ew ez) (em'.trans eo) v1 v2 v3 v4 v5 v6 hrp (C_fct (by omega) (by omega) (by omega))
          exact ok_some ⟨r1, .inr r2⟩
  · refine ok_mono (part_bad ha gt hC hM hc) ?_
    rintro v ⟨v1, v2⟩
    exact ⟨v1, .inl v2⟩
theorem whole_all {rp : Nat → Int32 → gm_M → Option gm_M} {ro : List Nat} (ha : a = 10 ∨ a = 18) (gt : gT t) (hbs : bs ro = ro) (hl : ro.length ≤ 5) (hP : PX t a (rp a (nI ro.length)) ro (ro.length + 1) (4 * ro.length + 4) s_any (CPart ro) e_any) : PX t a (f_X8_readWholeO rp a (nI ro.length)) ro ro.length (4 * ro.length) (s_new ro.length) (CWhole ro) (e_who t ro.length) :=
  whole_of ha gt hbs hl (test_of ha gt hbs hl (sum_of ha gt hbs hl (prod_of ha gt hbs hl hP)))
theorem part_all (ha : a = 10 ∨ a = 18) (gt : gT t) : ∀ (n : Nat) (ro : List Nat), ro.length ≤ 5 → 6 ≤ ro.length + n → PX t a (n_X8_readPart n a (nI ro.length)) ro (ro.length + 1) (4 * ro.length + 4) s_any (CPart ro) e_any := by
  intro n
  induction n with
  | zero => intro ro h1 h2; omega
  | succ n ih =>
    intro ro h1 h2
    show PX t a (f_X8_readPartO (n_X8_readPart n) a (nI ro.length)) ro (ro.length + 1) (4 * ro.length + 4) s_any (CPart ro) e_any
    by_cases q : ro.length = 5
    · exact part_5 ha gt q
    · have i1 := ih (1 :: ro) (by simp only [List.length_cons]; omega) (by simp only [List.length_cons]; omega)
      have i2 := ih (2 :: ro) (by simp only [List.length_cons]; omega) (by simp only [List.length_cons]; omega)
      exact part_of ha gt (by omega) i1 (whole_all ha gt (by simp [bs]) (by simp only [List.length_cons]; omega) i2)
theorem E_all (ha : a = 10 ∨ a = 18) (gt : gT t) : PX t a (f_X8_readWhole a (nI 0)) [] 0 0 (s_new 0) (CWhole []) (e_who t 0) := whole_all (rp := n_X8_readPart 8) (ro := []) ha gt rfl (by simp) (part_all ha gt 8 [] (by simp) (by simp))
end
