/-! the E: products, sums, tests, the whole -/
section
variable {t : List Nat} {a : Nat}
theorem elP_no {x j : Nat} (ha : a = 10 ∨ a = 18) (h1 : x ≠ 3) (h2 : x ≠ 2) (h3 : x ≠ a) (h4 : x ≠ a + 1) : ¬ elP a x j := fun z => by
  rcases z with z | z | z | z
  · unfold tkP at z; omega
  · omega
  · omega
  · omega
/-- good so far, then good -/
theorem GD_app {ro : List Nat} {cl H cl1 : Nat} {rt ct : List Int32} {SP1 SP SP' : List Int32 → pEv → Prop} {ec1 ec : Nat → gm_M → Prop} {uC uM vC wC : gm_M} {p n m : Nat} (hbs : bs ro = ro) (hcl : cl ≤ cl1) {H1 : Nat} (J : pEv → pEv → pEv) {vM : gm_M} {p' : Nat} {rs cs : List Int32} {ev : pEv} {k : Nat}
    (hG : GDw t a ro 1 cl1 H1 [] [] SP1 ec1 uC uM p n m vC vM p' rs cs ev k) (hQ : BD t a ro 0 vM p' wC ∨ GD t a ro 0 cl H rt ct SP ec vC vM p' (n + rs.length) (m + cs.length) wC)
    (hR : ∀ rs v rs' w, RP H1 rs v → RP H rs' w → RP H1 (rs ++ (rs' ++ rt)) (J v w)) (hS : ∀ cs v cs' w, SP1 cs v → SP cs' w → SP' (cs ++ (ct ++ cs')) (J v w)) :
    BD t a ro 1 uM p wC ∨ GD t a ro 1 cl H1 [] [] SP' ec uC uM p n m wC := by
  obtain ⟨g1, g2, g3, g4, g5, g6, g7, g8, g9, g10, g11, g12, g13, g14, g15, g16, g17⟩ := hG
  simp only [List.length_nil, Nat.add_zero, Nat.zero_add, List.append_nil, List.nil_append] at g3 g4 g5 g6 g8 g9
  have hp' := g5.2.2.2.2
  rw [hbs] at g11
  rcases hQ with ⟨F, k2, b1, b2, b3, b4, b5, b6⟩ | ⟨wM, q, rs', cs', ew, k2, i1, i2, i3, i4, i5, i6, i7, i8, i9, i10, i11, i12, i13, i14, i15, i16, i17⟩
  · exact .inl ⟨F, k + k2, b1, b2, b3, by omega, rFl_tr g11 g12 b5, b6⟩
  · refine .inr ⟨wM, q, rs ++ (rs' ++ rt), cs ++ (ct ++ cs'), J ev ew, k + k2, by omega, by omega, ?_, ?_, ?_, fun i x hx => ?_, fun i hi => ?_, ?_, fun i x hx => ?_, fun i hi => ?_, ?_, fr_trans g12 i12, fun i hi => (i13 i hi).trans (g13 i (by omega)), fun i hi => (i14 i hi).trans (g14 i hi), i15, hR _ _ _ _ g16 i16, hS _ _ _ _ g17 i17⟩
    · simp only [List.length_append, List.length_nil]; omega
    · simp only [List.length_append, List.length_nil]; omega
    · simp only [List.length_append, List.length_nil, Nat.add_zero]
      rw [← Nat.add_assoc]; exact i5
    · rw [List.append_nil] at hx
      rcases Nat.lt_or_ge i rs.length with z | z
      · rw [List.getElem?_append_left z] at hx
        rw [i7 _ (by omega)]; exact g6 i x hx
      · rw [List.getElem?_append_right z] at hx
        have := i6 (i - rs.length) x hx
        rw [show n + rs.length + (i - rs.length) = n + i by omega] at this
        exact this
    · rw [i7 i (by omega), g7 i hi]
    · simp only [List.length_append, List.length_nil, Nat.zero_add]
      rw [← Nat.add_assoc]; exact i8
    · rw [List.nil_append] at hx
      rcases Nat.lt_or_ge i cs.length with z | z
      · rw [List.getElem?_append_left z] at hx
        have := g9 i x hx
        rw [show 1000 + m + i = 1000 + (m + i) by omega] at this ⊢
        rw [i10 _ (by omega)]; exact this
      · rw [List.getElem?_append_right z] at hx
        have := i9 (i - cs.length) x hx
        rw [show 1000 + (m + cs.length) + (i - cs.length) = 1000 + m + i by omega] at this
        exact this
    · rw [i10 i (by omega), g10 i hi]
    · rw [hbs] at i11 ⊢; exact rGo_tr g11 i11
theorem GD_ec {ro : List Nat} {y cl cl' H H' : Nat} {rt ct : List Int32} {SP SP' : List Int32 → pEv → Prop} {ec ec' : Nat → gm_M → Prop} {uC uM vC : gm_M} {p n m : Nat} (h : GD t a ro y cl' H rt ct SP ec uC uM p n m vC) (hcl : cl ≤ cl') (hH : H' ≤ H) (hS : ∀ cs v, SP cs v → SP' cs v) (he : ∀ p' vM n', p < p' → eC t a vC p' n' → ec p' vM → (∀ i, i < cl' → gI vM 12 i = gI uM 12 i) → ec' p' vM) : GD t a ro y cl H' rt ct SP' ec' uC uM p n m vC := by
  obtain ⟨vM, p', rs, cs, ev, k, g1, g2, g3, g4, g5, g6, g7, g8, g9, g10, g11, g12, g13, g14, g15, g16, g17⟩ := h
  exact ⟨vM, p', rs, cs, ev, k, g1, g2, g3, g4, g5, g6, g7, g8, g9, g10, g11, g12, fun i hi => g13 i (by omega), g14, he p' vM _ g1 g5 g15 g13, RP_mono g16 hH, hS _ _ g17⟩
theorem bind3 {α β : Type} {x : Option α} {g : α → Option α} {h : α → Option α} {P : α → Prop} (e : ok (x.bind fun a => (g a).bind fun b => (h b).bind fun z => some z) P) : ∃ a b z, x = some a ∧ g a = some b ∧ h b = some z ∧ P z := by
  cases x with
  | none => obtain ⟨_, z, _⟩ := e; cases z
  | some a =>
    cases q1 : g a with
    | none => obtain ⟨_, z, _⟩ := e; simp only [Option.bind_some, q1] at z; cases z
    | some b =>
      cases q2 : h b with
      | none => obtain ⟨_, z, _⟩ := e; simp only [Option.bind_some, q1, q2] at z; cases z
      | some z =>
        obtain ⟨w, ew, hw⟩ := e
        simp only [Option.bind_some, q1, q2, Option.some.injEq] at ew
        exact ⟨a, b, z, rfl, q1, q2, by rw [ew]; exact hw⟩
/-- the reference's op at the depth where wants is false -/
theorem b0_sign {u : gm_M} {d p : Nat} (h : cuM u t p) (gt : gT t) (hp : p ≤ t.length) : b_X11_reads_11 (nI d, nI 0, u) = if tSg t p = 43 ∨ tSg t p = 45 ∨ tSg t p = 42 then j_X11_reads_206 (nI d) u else if tSg t p = 60 ∨ tSg t p = 61 then j_X11_reads_263 (nI d) (nI 0) u else j_X11_reads_304 (nI d) (nI 0) u := by
  have s43 : f_X11_isSign (43 : Int32) u = some (nI (decide (tSg t p = 43)).toNat) := m_isSign (c := 43) h gt hp (by omega) (by omega)
  have s45 : f_X11_isSign (45 : Int32) u = some (nI (decide (tSg t p = 45)).toNat) := m_isSign (c := 45) h gt hp (by omega) (by omega)
  have s42 : f_X11_isSign (42 : Int32) u = some (nI (decide (tSg t p = 42)).toNat) := m_isSign (c := 42) h gt hp (by omega) (by omega)
  have s60 : f_X11_isSign (60 : Int32) u = some (nI (decide (tSg t p = 60)).toNat) := m_isSign (c := 60) h gt hp (by omega) (by omega)
  have s61 : f_X11_isSign (61 : Int32) u = some (nI (decide (tSg t p = 61)).toNat) := m_isSign (c := 61) h gt hp (by omega) (by omega)
  rw [b_X11_reads_11]
  rw [if0, s43, s45, s42, s60, s61]
  simp only [Option.bind_some]
  by_cases q1 : tSg t p = 43
  · rw [decide_eq_true q1, if_pos (show tSg t p = 43 ∨ tSg t p = 45 ∨ tSg t p = 42 from .inl q1)]
    exact if1
  · rw [decide_eq_false q1]
    refine Eq.trans if0 ?_
    by_cases q2 : tSg t p = 45
    · rw [decide_eq_true q2, if_pos (show tSg t p = 43 ∨ tSg t p = 45 ∨ tSg t p = 42 from .inr (.inl q2))]
      exact if1
    · rw [decide_eq_false q2]
      refine Eq.trans if0 ?_
      by_cases q3 : tSg t p = 42
      · rw [decide_eq_true q3, if_pos (show tSg t p = 43 ∨ tSg t p = 45 ∨ tSg t p = 42 from .inr (.inr q3))]
        exact if1
      · rw [decide_eq_false q3, if_neg (show ¬ (tSg t p = 43 ∨ tSg t p = 45 ∨ tSg t p = 42) by omega)]
        refine Eq.trans if0 ?_
        by_cases q4 : tSg t p = 60
        · rw [decide_eq_true q4, if_pos (show tSg t p = 60 ∨ tSg t p = 61 from .inl q4)]
          exact if1
        · rw [decide_eq_false q4]
          refine Eq.trans if0 ?_
          by_cases q5 : tSg t p = 61
          · rw [decide_eq_true q5, if_pos (show tSg t p = 60 ∨ tSg t p = 61 from .inr q5)]
            exact if1
          · rw [decide_eq_false q5, if_neg (show ¬ (tSg t p = 60 ∨ tSg t p = 61) by omega)]
            exact if0
/-- an op of products and sums -/
theorem m_op {u : gm_M} {ro : List Nat} {p m : Nat} (h : eM t u p ro m) (gt : gT t) (hp : p ≤ t.length) (hs : tSg t p = 43 ∨ tSg t p = 45 ∨ tSg t p = 42) : ∃ v, b_X11_reads_11 (nI ro.length, nI 0, u) = some (.inl (nI ro.length, nI 1, v)) ∧ eM t v (kE t p) ro (m + 1) ∧ gI v 10 (1000 + m) = (if tSg t p = 43 then (20 : Int32) else if tSg t p = 45 then 21 else 22) ∧ (∀ i, i < m → gI v 10 (1000 + i) = gI u 10 (1000 + i)) ∧ fr emP u v ∧ (∀ i, gI v 12 i = gI u 12 i) ∧ (∀ i, gI v 11 i = gI u 11 i) := by
  obtain ⟨h1, h2, h3, h4⟩ := h
  have gl := gt.1
  have hE := kE_le hp (sg_S (t := t) (p := p) (by omega))
  rw [b0_sign h1 gt hp, if_pos hs]
  have core : ∀ c : Int32, ok (j_X11_reads_237 (nI ro.length) c u) (fun o => ∃ v, o = .inl (nI ro.length, nI 1, v) ∧ eM t v (kE t p) ro (m + 1) ∧ gI v 10 (1000 + m) = c ∧ (∀ i, i < m → gI v 10 (1000 + i) = gI u 10 (1000 + i)) ∧ fr emP u v ∧ (∀ i, gI v 12 i = gI u 12 i) ∧ (∀ i, gI v 11 i = gI u 11 i)) := by
    intro c
    unfold j_X11_reads_237 j_X11_reads_424
    refine ok_bind (m_putsF c h2 (by omega)) ?_
    rintro x ⟨x1, x2, x3⟩
    have cx : cuM x t p := cuM_fr h1 x1 (fun j _ _ => by omega) (fun j => by omega)
    refine ok_bind (m_step cx gt hp (sg_S (t := t) (p := p) (by omega))) ?_
    rintro y ⟨y1, y2⟩
    exact ok_some ⟨y, rfl, ⟨y1, (fr_I y2 (by unfold tmP; omega)).trans x3, opM_eq ro h3 (fun i _ => (fr_I y2 (by unfold tmP; omega)).trans (fr_I x1 (by omega))), by omega⟩, (fr_I y2 (by unfold tmP; omega)).trans x2, fun i hi => (fr_I y2 (by unfold tmP; omega)).trans (fr_I x1 (by omega)), fr_trans (fr_mono x1 emP_put) (emP_tm y2), fun i => (fr_I y2 (by unfold tmP; omega)).trans (fr_I x1 (by omega)), fun i => (fr_I y2 (by unfold tmP; omega)).trans (fr_I x1 (by omega))⟩
  have s43 : f_X11_isSign (43 : Int32) u = some (nI (decide (tSg t p = 43)).toNat) := m_isSign (c := 43) h1 gt hp (by omega) (by omega)
  have s45 : f_X11_isSign (45 : Int32) u = some (nI (decide (tSg t p = 45)).toNat) := m_isSign (c := 45) h1 gt hp (by omega) (by omega)
  have fin : ∀ c : Int32, j_X11_reads_206 (nI ro.length) u = j_X11_reads_237 (nI ro.length) c u → ∃ v, j_X11_reads_206 (nI ro.length) u = some (.inl (nI ro.length, nI 1, v)) ∧ eM t v (kE t p) ro (m + 1) ∧ gI v 10 (1000 + m) = c ∧ (∀ i, i < m → gI v 10 (1000 + i) = gI u 10 (1000 + i)) ∧ fr emP u v ∧ (∀ i, gI v 12 i = gI u 12 i) ∧ (∀ i, gI v 11 i = gI u 11 i) := by
    intro c e
    obtain ⟨o, eo, v, rfl, w⟩ := core c
    exact ⟨v, by rw [e, eo], w⟩
  by_cases q1 : tSg t p = 43
  · rw [if_pos q1]
    refine fin 20 ?_
    rw [j_X11_reads_206, s43, decide_eq_true q1]
    simp only [Option.bind_some]
    exact if1
  · rw [if_neg q1]
    by_cases q2 : tSg t p = 45
    · rw [if_pos q2]
      refine fin 21 ?_
      rw [j_X11_reads_206, s43, s45, decide_eq_false q1, decide_eq_true q2]
      simp only [Option.bind_some]
      refine Eq.trans if0 ?_
      exact if1
    · rw [if_neg q2]
      refine fin 22 ?_
      rw [j_X11_reads_206, s43, s45, decide_eq_false q1, decide_eq_false q2]
      simp only [Option.bind_some]
      refine Eq.trans if0 ?_
      exact if0
end
