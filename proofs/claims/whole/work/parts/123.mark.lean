/-! mark -/
def gcP (a : Nat) : Nat → Nat → Prop := fun b _ => a ≤ b ∧ b ≤ a + 2
theorem c_gcopy {u : gm_M} {a b : Nat} {G : pG} (h : gC u b G) (hG : G.length ≤ 40) (hab : a + 2 < b ∨ b + 2 < a) : ok (f_X6_copyFrom a b u) (fun v => gC v a G ∧ fr (gcP a) u v) := by
  obtain ⟨h1, h2⟩ := h
  simp only [f_X6_copyFrom, gm_let]
  refine ok_bind (Q := fun v => fr (gcP a) u v ∧ gI v a 2 = nI G.length ∧ ∀ i, i < G.length → gI v (a + 1) i = gI u (b + 1) i ∧ gI v (a + 2) i = gI u (b + 2) i)
    (lp_ok G.length (fun j x => x.1 = nI j ∧ fr (gcP a) u x.2 ∧ gI x.2 a 2 = nI j ∧ ∀ i, i < j → gI x.2 (a + 1) i = gI u (b + 1) i ∧ gI x.2 (a + 2) i = gI u (b + 2) i) (by omega) ⟨rfl, fr_sI (fr_refl _ _) ⟨by omega, by omega⟩, gI_eq rfl rfl, fun i hi => absurd hi (by omega)⟩ ?_ ?_) ?_
  · rintro j ⟨x, v⟩ hj ⟨hx, hf, hn, hi⟩
    simp only at hx hf hn hi
    subst hx
    have no : ∀ c k, c < a ∨ a + 2 < c → gI v c k = gI u c k := fun c k q => fr_I hf (fun z => by have := z.1; have := z.2; omega)
    have e1 := (no b 2 (by omega)).trans h1
    have e2 := no (b + 1) j (by omega)
    have e3 := no (b + 2) j (by omega)
    simp (disch := omega) only [b_X6_copyFrom_7, f_X6_actOf, f_X6_partOf, f_X6_add, litI, nI_leI, nI_ltI, if_neg, ib_nI, ix_nI, if_pos, Option.bind_some, e1, e2, e3, hn, gm_let, gI_eq, gI_ne, gI_sJ, gI_sR, gJ_sI, gJ_sR, gR_sI, gR_sJ, nI_add]
    refine ok_some ⟨rfl, fr_sI (fr_sI (fr_sI hf ⟨by omega, by omega⟩) ⟨by omega, by omega⟩) ⟨by omega, by omega⟩, gI_eq rfl rfl, fun i hij => ?_⟩
    by_cases z : i = j
    · subst z
      simp (disch := omega) only [gI_eq, gI_ne, gI_sJ, gI_sR, gJ_sI, gJ_sR, gR_sI, gR_sJ, and_self]
    · simp (disch := omega) only [gI_eq, gI_ne, gI_sJ, gI_sR, gJ_sI, gJ_sR, gR_sI, gR_sJ]
      exact hi i (by omega)
  · rintro ⟨x, v⟩ ⟨hx, hf, hn, hi⟩
    simp only at hx hf hn hi
    subst hx
    have e1 : gI v b 2 = nI G.length := (fr_I hf (fun z => by have := z.1; have := z.2; omega)).trans h1
    simp (disch := omega) only [b_X6_copyFrom_7, nI_leI, if_pos, e1]
    exact ok_some ⟨hf, hn, hi⟩
  · rintro v ⟨hf, hn, hi⟩
    refine ok_some ⟨⟨hn, fun i l hl => ?_⟩, hf⟩
    have z := (List.getElem?_eq_some_iff.mp hl).1
    obtain ⟨a1, a2⟩ := h2 i l hl
    exact ⟨(hi i z).1.trans a1, fun w => (hi i z).2.trans (a2 w)⟩
theorem c_scopy {u : gm_M} {a b : Nat} {S : pS} (h : sC u b S) (hS : S.length ≤ 8) (hab : a + 2 < b ∨ b + 2 < a) : ok (f_X7_copyFrom a b u) (fun v => sC v a S ∧ fr (gcP a) u v) := by
  obtain ⟨h1, h2⟩ := h
  simp only [f_X7_copyFrom, gm_let]
  refine ok_bind (Q := fun v => fr (gcP a) u v ∧ gI v a 2 = gI u b 2 ∧ ∀ i, i < 8 → gI v (a + 1) i = gI u (b + 1) i ∧ gI v (a + 2) i = gI u (b + 2) i &&& 1)
    (lp_ok 8 (fun j x => x.1 = nI j ∧ fr (gcP a) u x.2 ∧ gI x.2 a 2 = gI u b 2 ∧ ∀ i, i < j → gI x.2 (a + 1) i = gI u (b + 1) i ∧ gI x.2 (a + 2) i = gI u (b + 2) i &&& 1) (by omega) ⟨rfl, fr_sI (fr_refl _ _) ⟨by omega, by omega⟩, gI_eq rfl rfl, fun i hi => absurd hi (by omega)⟩ ?_ ?_) ?_
  · rintro j ⟨x, v⟩ hj ⟨hx, hf, hn, hi⟩
    simp only at hx hf hn hi
    subst hx
    have no : ∀ c k, c < a ∨ a + 2 < c → gI v c k = gI u c k := fun c k q => fr_I hf (fun z => by have := z.1; have := z.2; omega)
    have e2 := no (b + 1) j (by omega)
    have e3 := no (b + 2) j (by omega)
    simp (disch := omega) only [b_X7_copyFrom_10, litI, nI_leI, if_neg, ib_nI, ix_nI, if_pos, e2, e3, gm_let, gI_eq, gI_ne, gI_sJ, gI_sR, gJ_sI, gJ_sR, gR_sI, gR_sJ, nI_add]
    refine ok_some ⟨rfl, fr_sI (fr_sI hf ⟨by omega, by omega⟩) ⟨by omega, by omega⟩, ?_, fun i hij => ?_⟩
    · simp (disch := omega) only [gI_eq, gI_ne, gI_sJ, gI_sR, gJ_sI, gJ_sR, gR_sI, gR_sJ]; exact hn
    · by_cases z : i = j
      · subst z
        simp (disch := omega) only [gI_eq, gI_ne, gI_sJ, gI_sR, gJ_sI, gJ_sR, gR_sI, gR_sJ, true_and]
      · simp (disch := omega) only [gI_eq, gI_ne, gI_sJ, gI_sR, gJ_sI, gJ_sR, gR_sI, gR_sJ]
        exact hi i (by omega)
  · rintro ⟨x, v⟩ ⟨hx, hf, hn, hi⟩
    simp only at hx hf hn hi
    subst hx
    simp (disch := omega) only [b_X7_copyFrom_10, litI, nI_leI, if_pos]
    exact ok_some ⟨hf, hn, hi⟩
  · rintro v ⟨hf, hn, hi⟩
    refine ok_some ⟨⟨hn.trans h1, fun i l hl => ?_⟩, hf⟩
    have z := (List.getElem?_eq_some_iff.mp hl).1
    obtain ⟨a1, a2⟩ := h2 i l hl
    refine ⟨(hi i (by omega)).1.trans a1, (hi i (by omega)).2.trans ?_⟩
    rw [a2]
    cases l.2 <;> decide
theorem m_glays {u : gm_M} {f t : Nat} {G : pG} (h : gMm u f G) (hG : G.length ≤ 40) (hf : f < 6) (ht : t < 6) (hft : f ≠ t) : ok (f_X11_laysLines (nI f) (nI t) u) (fun v => gMm v t G ∧ fr (fun a j => (a = 23 ∧ j = t) ∨ ((a = 24 ∨ a = 25) ∧ 40 * t ≤ j ∧ j < 40 * t + 40)) u v) := by
  obtain ⟨h1, h2⟩ := h
  simp (disch := omega) only [f_X11_laysLines, ib_nI, ix_nI, if_pos, gm_let]
  refine ok_bind (Q := fun v => fr (fun a j => (a = 23 ∧ j = t) ∨ ((a = 24 ∨ a = 25) ∧ 40 * t ≤ j ∧ j < 40 * t + 40)) u v ∧ gI v 23 t = gI u 23 f ∧ ∀ i, i < 40 → gI v 24 (40 * t + i) = gI u 24 (40 * f + i) ∧ gI v 25 (40 * t + i) = gI u 25 (40 * f + i))
    (lp_ok 40 (fun j x => x.1 = nI j ∧ fr (fun a j => (a = 23 ∧ j = t) ∨ ((a = 24 ∨ a = 25) ∧ 40 * t ≤ j ∧ j < 40 * t + 40)) u x.2 ∧ gI x.2 23 t = gI u 23 f ∧ ∀ i, i < j → gI x.2 24 (40 * t + i) = gI u 24 (40 * f + i) ∧ gI x.2 25 (40 * t + i) = gI u 25 (40 * f + i)) (by omega) ⟨rfl, fr_sI (fr_refl _ _) (.inl ⟨rfl, rfl⟩), gI_eq rfl rfl, fun i hi => absurd hi (by omega)⟩ ?_ ?_) ?_
  · rintro j ⟨x, v⟩ hj ⟨hx, hf2, hn, hi⟩
    simp only at hx hf2 hn hi
    subst hx
    have e2 : gI v 24 (40 * f + j) = gI u 24 (40 * f + j) := fr_I hf2 (by omega)
    have e3 : gI v 25 (40 * f + j) = gI u 25 (40 * f + j) := fr_I hf2 (by omega)
    simp (disch := omega) only [b_X11_laysLines_14, litI, nI_leI, if_neg, nI_mul, nI_add, ib_nI, ix_nI, if_pos, e2, e3, gm_let, gI_eq, gI_ne, gI_sJ, gI_sR, gJ_sI, gJ_sR, gR_sI, gR_sJ]
    refine ok_some ⟨rfl, fr_sI (fr_sI hf2 (.inr ⟨by omega, by omega, by omega⟩)) (.inr ⟨by omega, by omega, by omega⟩), ?_, fun i hij => ?_⟩
    · simp (disch := omega) only [gI_eq, gI_ne, gI_sJ, gI_sR, gJ_sI, gJ_sR, gR_sI, gR_sJ]; exact hn
    · by_cases z : i = j
      · subst z
        simp (disch := omega) only [gI_eq, gI_ne, gI_sJ, gI_sR, gJ_sI, gJ_sR, gR_sI, gR_sJ, and_self]
      · simp (disch := omega) only [gI_eq, gI_ne, gI_sJ, gI_sR, gJ_sI, gJ_sR, gR_sI, gR_sJ]
        exact hi i (by omega)
  · rintro ⟨x, v⟩ ⟨hx, hf2, hn, hi⟩
    simp only at hx hf2 hn hi
    subst hx
    simp (disch := omega) only [b_X11_laysLines_14, litI, nI_leI, if_pos]
    exact ok_some ⟨hf2, hn, hi⟩
  · rintro v ⟨hf2, hn, hi⟩
    refine ok_some ⟨⟨hn.trans h1, fun i l hl => ?_⟩, hf2⟩
    have z := (List.getElem?_eq_some_iff.mp hl).1
    obtain ⟨a1, a2⟩ := h2 i l hl
    exact ⟨(hi i (by omega)).1.trans a1, fun w => (hi i (by omega)).2.trans (a2 w)⟩
theorem m_slays {u : gm_M} {f t : Nat} {S : pS} (h : sMm u f S) (hS : S.length ≤ 8) (hf : f < 5) (ht : t < 5) (hft : f ≠ t) : ok (f_X11_laysSaid (nI f) (nI t) u) (fun v => sMm v t S ∧ fr (fun a j => (a = 26 ∧ j = t) ∨ ((a = 27 ∨ a = 28) ∧ 8 * t ≤ j ∧ j < 8 * t + 8)) u v) := by
  obtain ⟨h1, h2⟩ := h
  simp (disch := omega) only [f_X11_laysSaid, ib_nI, ix_nI, if_pos, gm_let]
  refine ok_bind (Q := fun v => fr (fun a j => (a = 26 ∧ j = t) ∨ ((a = 27 ∨ a = 28) ∧ 8 * t ≤ j ∧ j < 8 * t + 8)) u v ∧ gI v 26 t = gI u 26 f ∧ ∀ i, i < 8 → gI v 27 (8 * t + i) = gI u 27 (8 * f + i) ∧ gI v 28 (8 * t + i) = gI u 28 (8 * f + i) &&& 1)
    (lp_ok 8 (fun j x => x.1 = nI j ∧ fr (fun a j => (a = 26 ∧ j = t) ∨ ((a = 27 ∨ a = 28) ∧ 8 * t ≤ j ∧ j < 8 * t + 8)) u x.2 ∧ gI x.2 26 t = gI u 26 f ∧ ∀ i, i < j → gI x.2 27 (8 * t + i) = gI u 27 (8 * f + i) ∧ gI x.2 28 (8 * t + i) = gI u 28 (8 * f + i) &&& 1) (by omega) ⟨rfl, fr_sI (fr_refl _ _) (.inl ⟨rfl, rfl⟩), gI_eq rfl rfl, fun i hi => absurd hi (by omega)⟩ ?_ ?_) ?_
  · rintro j ⟨x, v⟩ hj ⟨hx, hf2, hn, hi⟩
    simp only at hx hf2 hn hi
    subst hx
    have e2 : gI v 27 (8 * f + j) = gI u 27 (8 * f + j) := fr_I hf2 (by omega)
    have e3 : gI v 28 (8 * f + j) = gI u 28 (8 * f + j) := fr_I hf2 (by omega)
    simp (disch := omega) only [b_X11_laysSaid_14, litI, nI_leI, if_neg, nI_mul, nI_add, ib_nI, ix_nI, if_pos, e2, e3, gm_let, gI_eq, gI_ne, gI_sJ, gI_sR, gJ_sI, gJ_sR, gR_sI, gR_sJ]
    refine ok_some ⟨rfl, fr_sI (fr_sI hf2 (.inr ⟨by omega, by omega, by omega⟩)) (.inr ⟨by omega, by omega, by omega⟩), ?_, fun i hij => ?_⟩
    · simp (disch := omega) only [gI_eq, gI_ne, gI_sJ, gI_sR, gJ_sI, gJ_sR, gR_sI, gR_sJ]; exact hn
    · by_cases z : i = j
      · subst z
        simp (disch := omega) only [gI_eq, gI_ne, gI_sJ, gI_sR, gJ_sI, gJ_sR, gR_sI, gR_sJ, true_and]
      · simp (disch := omega) only [gI_eq, gI_ne, gI_sJ, gI_sR, gJ_sI, gJ_sR, gR_sI, gR_sJ]
        exact hi i (by omega)
  · rintro ⟨x, v⟩ ⟨hx, hf2, hn, hi⟩
    simp only at hx hf2 hn hi
    subst hx
    simp (disch := omega) only [b_X11_laysSaid_14, litI, nI_leI, if_pos]
    exact ok_some ⟨hf2, hn, hi⟩
  · rintro v ⟨hf2, hn, hi⟩
    refine ok_some ⟨⟨hn.trans h1, fun i l hl => ?_⟩, hf2⟩
    have z := (List.getElem?_eq_some_iff.mp hl).1
    obtain ⟨a1, a2⟩ := h2 i l hl
    refine ⟨(hi i (by omega)).1.trans a1, (hi i (by omega)).2.trans ?_⟩
    rw [a2]
    cases l.2 <;> decide
theorem isM_ok : ∀ i : Fin 4, isMark (110 + 12 * i.1) = true := by decide +kernel
theorem st_mark (n : Nat) : St_mark (RelN (n + 1)) (RelN n) := by
  intro uC uM h a b hb
  obtain ⟨h0, t, R, G, S, K, B, M, g, hC, hM⟩ := RelN_mono n uC uM h
  have hM1 := RM_t (x := 0) hM g
  obtain ⟨g1, g2, g3, g4, g5, g6, g7, g8⟩ := id g
  have gq := gK_gQ g6 g2
  unfold f_X10_mark f_X11_mark
  simp only [gm_letE]
  generalize sI uM 1 0 (0 : Int32) = u1 at *
  obtain ⟨c1, ⟨r, hr, hrC⟩, ⟨gg, hgg, hgC⟩, c4, c5, c6, c7⟩ := id hC
  obtain ⟨j1, j2, j3⟩ := isG_ok hgg
  obtain ⟨m1, m2, m3, m4, m5, m6, m7, m8⟩ := id hM1
  rcases wi_cases a 3 (by omega) with ⟨i, hi, rfl, e⟩ | ⟨e, e3⟩
  · have e' : f_X11_within (nI i) 0 3 = nI 1 := e
    obtain ⟨q1, q2⟩ := c7 i (by omega)
    have im : isMark (gR uC 39 i) = true := by rw [q1]; exact isM_ok ⟨i, by omega⟩
    rw [e', if1]
    simp (disch := omega) only [litI, nI_ltI, if_neg, if_pos, ib_nI, ix_nI, im, if_true]
    rw [q1, j3]
    rw [j3] at j1
    rcases hb with rfl | rfl
    · simp only [litI, if0n, j1, if_true]
      have mk' : gMk R (Yn n) (fun j => if j = i then some (K, G, S) else M j) := fun i' k G' S' e => by
        simp only at e
        by_cases z : i' = i
        · rw [if_pos z] at e; cases e; exact ⟨g6, g4, g5⟩
        · rw [if_neg z] at e; exact g8 i' k G' S' e
      refine two_ok (nI 1) (fun v => RC v t R G S K B (fun j => if j = i then some (K, G, S) else M j)) (fun v => RM v t R G S K B (fun j => if j = i then some (K, G, S) else M j)) ?_ ?_ (fun x y hx hy => ⟨by omega, t, R, G, S, K, B, _, ⟨g1, g2, g3, g4, g5, g6, g7, mk'⟩, hx, hy⟩)
      · simp only [f_X4_lay]
        refine ok_bind (ok_bind (c_copy (c := 110 + 12 * i + 1) c5 gq (by omega)) (fun v hv => ?_)) (P := fun (o : Int32 × gm_M) => o.1 = nI 1 ∧ RC o.2 t R G S K B (fun j => if j = i then some (K, G, S) else M j)) (Q := fun v => fr (fun a _ => 110 + 12 * i ≤ a ∧ a ≤ 110 + 12 * i + 10) uC v ∧ gI v (110 + 12 * i) 0 = nI 1 ∧ kC v (110 + 12 * i + 1) K ∧ gC v (110 + 12 * i + 5) G ∧ sC v (110 + 12 * i + 8) S) (fun v hv => ?_)
        · obtain ⟨v1, v2⟩ := hv
          have gv : gC v gg G := gC_fr hgC v2 (fun a j p1 p2 => crt_no (by omega))
          refine ok_bind (c_gcopy (a := 110 + 12 * i + 5) gv g4.1 (by omega)) ?_
          rintro w ⟨w1, w2⟩
          have F2 : fr (fun a _ => 110 + 12 * i ≤ a ∧ a ≤ 110 + 12 * i + 10) uC w := fr_trans (fr_mono v2 (fun a j z => ⟨by have := z.1; omega, by have := z.2; omega⟩)) (fr_mono w2 (fun a j z => ⟨by have := z.1; omega, by have := z.2; omega⟩))
          have sw : sC w 31 S := sC_fr c4 F2 (fun a j p1 p2 => by omega)
          refine ok_bind (c_scopy (a := 110 + 12 * i + 8) sw g5.1 (by omega)) ?_
          rintro x ⟨x1, x2⟩
          have F3 : fr (fun a _ => a = 110 + 12 * i) x (sI x (110 + 12 * i) 0 1) := fr_sI (fr_refl _ _) rfl
          refine ok_some ⟨fr_sI (fr_trans F2 (fr_mono x2 (fun a j z => ⟨by have := z.1; omega, by have := z.2; omega⟩))) ⟨by omega, by omega⟩, gI_eq rfl rfl, ?_, ?_, ?_⟩
          · exact kC_fr (kC_fr (kC_fr v1 w2 (fun a j p1 p2 z => by have := z.1; omega)) x2 (fun a j p1 p2 z => by have := z.1; omega)) F3 (fun a j p1 p2 => by omega)
          · exact gC_fr (gC_fr w1 x2 (fun a j p1 p2 z => by have := z.1; omega)) F3 (fun a j p1 p2 => by omega)
          · exact sC_fr x1 F3 (fun a j p1 p2 => by omega)
        · obtain ⟨F, v0, v1, v2, v3⟩ := hv
          obtain ⟨hr1, hr2⟩ := hr
          obtain ⟨hg1, hg2⟩ := hgg
          refine ok_some ⟨rfl, tC_fr c1 F (by omega) (fun j => by omega), ⟨r, ⟨(fr_R F (by omega)).trans hr1, ?_⟩, rC_fr hrC F (fun a j p1 p2 => by omega)⟩, ⟨gg, ⟨(fr_R F (by omega)).trans hg1, ?_⟩, gC_fr hgC F (fun a j p1 p2 => by omega)⟩, sC_fr c4 F (fun a j p1 p2 => by omega), kC_fr c5 F (fun a j p1 p2 => by omega), pC_fr c6 g7.1 F (by omega) (fun j => by omega) (fun a j p1 p2 => by omega), fun i' hi' => ?_⟩
          · rw [fr_R F (a := 1) (k := 3) (by omega)]; exact hr2
          · rw [fr_R F (a := 1) (k := 5) (by omega)]; exact hg2
          · obtain ⟨s1, s2⟩ := c7 i' hi'
            refine ⟨(fr_R F (by omega)).trans s1, ?_⟩
            by_cases z : i' = i
            · subst z
              exact .inr ⟨K, G, S, if_pos rfl, v0, v1, v2, v3⟩
            · rcases s2 with ⟨a, b⟩ | ⟨k, G', S', a, b, c, d, e⟩
              · exact .inl ⟨(if_neg z).trans a, (fr_I F (by omega)).trans b⟩
              · exact .inr ⟨k, G', S', (if_neg z).trans a, (fr_I F (by omega)).trans b, kC_fr c F (fun a j p1 p2 => by omega), gC_fr d F (fun a j p1 p2 => by omega), sC_fr e F (fun a j p1 p2 => by omega)⟩
      · simp (disch := omega) only [j_X11_mark_29, j_X11_mark_47, j_X11_mark_59, litI, if0n, ib_nI, ix_nI, if_pos, gm_let, nI_add, nI_mul, nI_b1]
        have F1 : fr (fun a j => a = 34 ∧ j = i) u1 (sI u1 34 i (nI 1)) := fr_sI (fr_refl _ _) ⟨rfl, rfl⟩
        have e34 : gI (sI u1 34 i (nI 1)) 34 i = nI 1 := gI_eq rfl rfl
        generalize sI u1 34 i (nI 1) = u2 at *
        refine ok_bind (m_glays (f := 0) (t := 1 + i) (gMm_eq m3 g4.1 (fr_I F1 (by omega)) (fun k hk => ⟨fr_I F1 (by omega), fr_I F1 (by omega)⟩)) g4.1 (by omega) (by omega) (by omega)) ?_
        rintro v ⟨v1, v2⟩
        refine ok_bind (m_slays (f := 0) (t := 1 + i) (sMm_eq (sMm_eq m4 g5.1 (fr_I F1 (by omega)) (fun k hk => ⟨fr_I F1 (by omega), fr_I F1 (by omega)⟩)) g5.1 (fr_I v2 (by omega)) (fun k hk => ⟨fr_I v2 (by omega), fr_I v2 (by omega)⟩)) g5.1 (by omega) (by omega) (by omega)) ?_
        rintro w ⟨w1, w2⟩
        refine ok_bind (m_copies (A := 29) (n1 := 22) (o1 := 0) (B := 32) (n2 := 88) (o2 := 22 * i) (by omega) (by omega) (by omega) (by omega) (by omega)) ?_
        rintro x ⟨x1, x2⟩
        have kw : kM w 29 0 K := kM_fr (kM_fr (kM_fr m5 gq F1 (fun j _ _ z => by omega)) gq v2 (fun j _ _ z => by omega)) gq w2 (fun j _ _ z => by omega)
        have F : fr (fun a j => (a = 34 ∧ j = i) ∨ (a = 23 ∧ j = 1 + i) ∨ ((a = 24 ∨ a = 25) ∧ 40 * (1 + i) ≤ j ∧ j < 40 * (1 + i) + 40) ∨ (a = 26 ∧ j = 1 + i) ∨ ((a = 27 ∨ a = 28) ∧ 8 * (1 + i) ≤ j ∧ j < 8 * (1 + i) + 8) ∨ (a = 32 ∧ 22 * i ≤ j ∧ j < 22 * i + 22)) u1 x := fr_trans (fr_mono F1 (fun a j z => by omega)) (fr_trans (fr_mono v2 (fun a j z => by omega)) (fr_trans (fr_mono w2 (fun a j z => by omega)) (fr_mono x2 (fun a j z => by omega))))
        refine ok_some ⟨rfl, ⟨(fr_I F (by omega)).trans m1.1, fun k s hs => (fr_I F (by omega)).trans (m1.2 k s hs)⟩, rM_fr m2 g2.1 F (fun a j q z => by rcases q with q | q | q | q <;> omega), gMm_eq m3 g4.1 (fr_I F (by omega)) (fun k hk => ⟨fr_I F (by omega), fr_I F (by omega)⟩), sMm_eq m4 g5.1 (fr_I F (by omega)) (fun k hk => ⟨fr_I F (by omega), fr_I F (by omega)⟩), kM_fr m5 gq F (fun j _ _ z => by omega), pM_eq m6 g2 g7 (fr_I F (by omega)) (fun j hj => fr_I F (by omega)), fun i' hi' => ?_, (fr_I F (by omega)).trans m8⟩
        by_cases z : i' = i
        · subst z
          refine .inr ⟨K, G, S, if_pos rfl, ?_, kM_copied kw gq x1, ?_, ?_⟩
          · rw [fr_I x2 (by omega), fr_I w2 (by omega), fr_I v2 (by omega)]; exact e34
          · exact gMm_eq (gMm_eq v1 g4.1 (fr_I w2 (by omega)) (fun k hk => ⟨fr_I w2 (by omega), fr_I w2 (by omega)⟩)) g4.1 (fr_I x2 (by omega)) (fun k hk => ⟨fr_I x2 (by omega), fr_I x2 (by omega)⟩)
          · exact sMm_eq w1 g5.1 (fr_I x2 (by omega)) (fun k hk => ⟨fr_I x2 (by omega), fr_I x2 (by omega)⟩)
        · rcases m7 i' hi' with ⟨a, b⟩ | ⟨k, G', S', a, b, c, d, e⟩
          · exact .inl ⟨(if_neg z).trans a, (fr_I F (by omega)).trans b⟩
          · obtain ⟨k1, k2, k3⟩ := g8 i' k G' S' a
            exact .inr ⟨k, G', S', (if_neg z).trans a, (fr_I F (by omega)).trans b, kM_fr c (gK_gQ k1 g2) F (fun j _ _ z => by omega), gMm_eq d k2.1 (fr_I F (by omega)) (fun k hk => ⟨fr_I F (by omega), fr_I F (by omega)⟩), sMm_eq e k3.1 (fr_I F (by omega)) (fun k hk => ⟨fr_I F (by omega), fr_I F (by omega)⟩)⟩
    · simp only [litI, if1n]
      have l1 := m7 i (by omega)
      rcases q2 with ⟨a, b⟩ | ⟨k, G', S', a, b, c, d, e⟩
      · have b' : gI u1 34 i = nI 0 := by
          rcases l1 with ⟨-, b'⟩ | ⟨k, G', S', a', -⟩
          · exact b'
          · rw [a] at a'; cases a'
        rw [b, b', if0n, if0n]
        exact two_q _ h0 g (ok_some ⟨rfl, hC⟩) (ok_some ⟨rfl, hM1⟩)
      · obtain ⟨k1, k2, k3⟩ := g8 i k G' S' a
        have gqk := gK_gQ k1 g2
        have l2 : gI u1 34 i = nI 1 ∧ kM u1 32 (22 * i) k ∧ gMm u1 (1 + i) G' ∧ sMm u1 (1 + i) S' := by
          rcases l1 with ⟨a', -⟩ | ⟨k', G'', S'', a', b', c', d', e'⟩
          · rw [a] at a'; cases a'
          · rw [a] at a'; cases a'; exact ⟨b', c', d', e'⟩
        obtain ⟨b', c', d', e'⟩ := l2
        rw [b, b', if1n, if1n]
        refine two_ok (nI 1) (fun v => RC v t R G' S' k [] M) (fun v => RM v t R G' S' k [] M) ?_ ?_ (fun x y hx hy => ⟨by omega, t, R, G', S', k, [], M, ⟨g1, g2, g3, k2, k3, k1, ⟨Nat.zero_le _, fun x hx => (by cases hx)⟩, g8⟩, hx, hy⟩)
        · refine ok_bind (c_copy (c := 27) c gqk (by omega)) ?_
          rintro v ⟨v1, v2⟩
          have rv : gR v 1 4 = gg := (fr_R v2 (crt_no (by omega))).trans j3
          rw [rv]
          simp only [j1, if_true]
          refine ok_bind (c_gcopy (a := gg) (gC_fr d v2 (fun a j p1 p2 => crt_no (by omega))) k2.1 (by omega)) ?_
          rintro w ⟨w1, w2⟩
          refine ok_bind (c_scopy (a := 31) (sC_fr (sC_fr e v2 (fun a j p1 p2 => crt_no (by omega))) w2 (fun a j p1 p2 z => by have := z.1; have := z.2; omega)) k3.1 (by omega)) ?_
          rintro x ⟨x1, x2⟩
          have F3 : fr (fun a j => a = 1 ∧ j = 10) x (sI x 1 10 (nI 0)) := fr_sI (fr_refl _ _) ⟨rfl, rfl⟩
          have F : fr (fun a j => (27 ≤ a ∧ a ≤ 30) ∨ (gg ≤ a ∧ a ≤ gg + 2) ∨ (31 ≤ a ∧ a ≤ 33) ∨ (a = 1 ∧ j = 10)) uC (sI x 1 10 (nI 0)) := fr_trans (fr_mono v2 (fun a j z => .inl ⟨z.1, z.2⟩)) (fr_trans (fr_mono w2 (fun a j z => .inr (.inl ⟨z.1, z.2⟩))) (fr_trans (fr_mono x2 (fun a j z => .inr (.inr (.inl ⟨z.1, z.2⟩)))) (fr_mono F3 (fun a j z => .inr (.inr (.inr z))))))
          obtain ⟨hr1, hr2⟩ := hr
          obtain ⟨hg1, hg2⟩ := hgg
          refine ok_some ⟨rfl, tC_fr c1 F (by omega) (fun j => by omega), ⟨r, ⟨(fr_R F (by omega)).trans hr1, ?_⟩, rC_fr hrC F (fun a j p1 p2 => by omega)⟩, ⟨gg, ⟨(fr_R F (by omega)).trans hg1, ?_⟩, ?_⟩, ?_, ?_, ⟨gI_eq rfl rfl, fun i hi => ?_, fun a b ha hb e => ?_, fun i k hk => by simp at hk⟩, mkC_fr c7 F (fun j => by omega) (fun a j p1 => by omega)⟩
          · rw [fr_R F (a := 1) (k := 3) (by omega)]; exact hr2
          · rw [fr_R F (a := 1) (k := 5) (by omega)]; exact hg2
          · exact gC_fr (gC_fr w1 x2 (fun a j p1 p2 z => by have := z.1; have := z.2; omega)) F3 (fun a j p1 p2 => by omega)
          · exact sC_fr x1 F3 (fun a j p1 p2 => by omega)
          · exact kC_fr (kC_fr (kC_fr v1 w2 (fun a j p1 p2 z => by have := z.1; have := z.2; omega)) x2 (fun a j p1 p2 z => by have := z.1; have := z.2; omega)) F3 (fun a j p1 p2 => by omega)
          · rw [fr_R F (by omega)]; exact c6.2.1 i hi
          · rw [fr_R F (by omega), fr_R F (by omega)] at e; exact c6.2.2.1 a b ha hb e
        · simp (disch := omega) only [j_X11_mark_29, j_X11_mark_47, j_X11_mark_59, litI, if1n, ib_nI, ix_nI, if_pos, gm_let, nI_add, nI_mul, nI_b1]
          have F1 : fr (fun a j => a = 34 ∧ j = i) u1 (sI u1 34 i (nI 1)) := fr_sI (fr_refl _ _) ⟨rfl, rfl⟩
          have e34 : gI (sI u1 34 i (nI 1)) 34 i = nI 1 := gI_eq rfl rfl
          generalize sI u1 34 i (nI 1) = u2 at *
          refine ok_bind (m_glays (f := 1 + i) (t := 0) (gMm_eq d' k2.1 (fr_I F1 (by omega)) (fun k hk => ⟨fr_I F1 (by omega), fr_I F1 (by omega)⟩)) k2.1 (by omega) (by omega) (by omega)) ?_
          rintro v ⟨v1, v2⟩
          refine ok_bind (m_slays (f := 1 + i) (t := 0) (sMm_eq (sMm_eq e' k3.1 (fr_I F1 (by omega)) (fun k hk => ⟨fr_I F1 (by omega), fr_I F1 (by omega)⟩)) k3.1 (fr_I v2 (by omega)) (fun k hk => ⟨fr_I v2 (by omega), fr_I v2 (by omega)⟩)) k3.1 (by omega) (by omega) (by omega)) ?_
          rintro w ⟨w1, w2⟩
          refine ok_bind (m_copies (A := 32) (n1 := 88) (o1 := 22 * i) (B := 29) (n2 := 22) (o2 := 0) (by omega) (by omega) (by omega) (by omega) (by omega)) ?_
          rintro x ⟨x1, x2⟩
          have kw : kM w 32 (22 * i) k := kM_fr (kM_fr (kM_fr c' gqk F1 (fun j _ _ z => by omega)) gqk v2 (fun j _ _ z => by omega)) gqk w2 (fun j _ _ z => by omega)
          have F3 : fr (fun a j => a = 1 ∧ j = 45) x (sI x 1 45 (nI 0)) := fr_sI (fr_refl _ _) ⟨rfl, rfl⟩
          have F : fr (fun a j => (a = 34 ∧ j = i) ∨ (a = 23 ∧ j = 0) ∨ ((a = 24 ∨ a = 25) ∧ j < 40) ∨ (a = 26 ∧ j = 0) ∨ ((a = 27 ∨ a = 28) ∧ j < 8) ∨ (a = 29 ∧ j < 22) ∨ (a = 1 ∧ j = 45)) u1 (sI x 1 45 (nI 0)) := fr_trans (fr_mono F1 (fun a j z => by omega)) (fr_trans (fr_mono v2 (fun a j z => by omega)) (fr_trans (fr_mono w2 (fun a j z => by omega)) (fr_trans (fr_mono x2 (fun a j z => by omega)) (fr_mono F3 (fun a j z => by omega)))))
          refine ok_some ⟨rfl, ⟨(fr_I F (by omega)).trans m1.1, fun k s hs => (fr_I F (by omega)).trans (m1.2 k s hs)⟩, rM_fr m2 g2.1 F (fun a j q z => by rcases q with q | q | q | q <;> omega), ?_, ?_, kM_fr (kM_copied kw gqk x1) gqk F3 (fun j _ _ z => by omega), ⟨gI_eq rfl rfl, fun i k hk => by simp at hk⟩, fun i' hi' => ?_, (fr_I F (by omega)).trans m8⟩
          · exact gMm_eq (gMm_eq (gMm_eq v1 k2.1 (fr_I w2 (by omega)) (fun k hk => ⟨fr_I w2 (by omega), fr_I w2 (by omega)⟩)) k2.1 (fr_I x2 (by omega)) (fun k hk => ⟨fr_I x2 (by omega), fr_I x2 (by omega)⟩)) k2.1 (fr_I F3 (by omega)) (fun k hk => ⟨fr_I F3 (by omega), fr_I F3 (by omega)⟩)
          · exact sMm_eq (sMm_eq w1 k3.1 (fr_I x2 (by omega)) (fun k hk => ⟨fr_I x2 (by omega), fr_I x2 (by omega)⟩)) k3.1 (fr_I F3 (by omega)) (fun k hk => ⟨fr_I F3 (by omega), fr_I F3 (by omega)⟩)
          · by_cases z : i' = i
            · subst z
              refine .inr ⟨k, G', S', a, ?_, kM_fr c' gqk F (fun j _ _ z => by omega), gMm_eq d' k2.1 (fr_I F (by omega)) (fun k hk => ⟨fr_I F (by omega), fr_I F (by omega)⟩), sMm_eq e' k3.1 (fr_I F (by omega)) (fun k hk => ⟨fr_I F (by omega), fr_I F (by omega)⟩)⟩
              rw [fr_I F3 (by omega), fr_I x2 (by omega), fr_I w2 (by omega), fr_I v2 (by omega)]; exact e34
            · rcases m7 i' hi' with ⟨a, b⟩ | ⟨k, G', S', a, b, c, d, e⟩
              · exact .inl ⟨a, (fr_I F (by omega)).trans b⟩
              · obtain ⟨k1, k2, k3⟩ := g8 i' k G' S' a
                exact .inr ⟨k, G', S', a, (fr_I F (by omega)).trans b, kM_fr c (gK_gQ k1 g2) F (fun j _ _ z => by omega), gMm_eq d k2.1 (fr_I F (by omega)) (fun k hk => ⟨fr_I F (by omega), fr_I F (by omega)⟩), sMm_eq e k3.1 (fr_I F (by omega)) (fun k hk => ⟨fr_I F (by omega), fr_I F (by omega)⟩)⟩
  · have e' : f_X11_within a 0 3 = nI 0 := e
    rw [e', if0]
    refine two_q (nI 0) h0 g ?_ (ok_some ⟨rfl, hM1⟩)
    rcases nI_cases a 4 (by omega) with ⟨j, hj, rfl⟩ | w | ⟨j, hj, hj2, rfl⟩
    · exact absurd rfl (e3 j (by omega))
    · rw [if_pos (show a < (0 : Int32) from w)]
      exact ok_some ⟨rfl, hC⟩
    · simp (disch := omega) only [litI, nI_ltI, if_neg]
      exact ok_some ⟨rfl, hC⟩
