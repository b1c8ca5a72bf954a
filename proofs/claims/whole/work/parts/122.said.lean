/-! say, fits, ask -/
def asd (S : pS) (y : Nat) : Bool := S.all (fun s => lpy (y + s.1) == s.2)
theorem tn_inj {a b : Bool} : (nI a.toNat = nI b.toNat) ↔ a = b := by
  cases a <;> cases b <;> decide
theorem c_allow {u : gm_M} {c y : Nat} {S : pS} (h : sC u c S) (hS : gS S) (hy : y ≤ 2000) : f_X7_allowYear c (nI y) u = some (nI (asd S y).toNat) := by
  obtain ⟨h1, h2⟩ := h
  have hl := hS.1
  have key : ok (gm_lp (b_X7_allowYear_2 c (nI y) u) gm_FU (nI 0)) (fun o => (asd S y = false ∧ o = .inl ()) ∨ (asd S y = true ∧ o = .inr ())) := by
    refine lp_ok S.length (fun j x => x = nI j ∧ ∀ i s, i < j → S[i]? = some s → lpy (y + s.1) = s.2) (by omega) ⟨rfl, fun i s hi => absurd hi (by omega)⟩ ?_ ?_
    · rintro j x hj ⟨rfl, hi⟩
      obtain ⟨s, hs⟩ : ∃ s, S[j]? = some s := ⟨_, List.getElem?_eq_getElem hj⟩
      obtain ⟨a1, a2⟩ := h2 j s hs
      have s40 := hS.2 s (List.mem_of_getElem? hs)
      simp (disch := omega) only [b_X7_allowYear_2, gm_let, litI, ib_nI, ix_nI, nI_leI, nI_ltI, nI_eq, nI_add, nI_sub, nI_mul, nI_div, nI_rem, nI_m1, nI_eqm, nI_gem, nI_ltm, nI_mlt, nI_lem, Option.bind_some, Option.bind_none, h1, if_neg, if_pos, a1, a2, leap_n, tn_inj]
      by_cases q : lpy (y + s.1) = s.2
      · rw [if_pos q]
        refine ok_some ⟨rfl, fun i s' hij hs' => ?_⟩
        rcases Nat.lt_or_ge i j with p | p
        · exact hi i s' p hs'
        · have : i = j := by omega
          subst this
          rw [hs] at hs'
          cases hs'
          exact q
      · rw [if_neg q]
        refine ok_some (.inl ⟨?_, rfl⟩)
        unfold asd
        rw [List.all_eq_false]
        exact ⟨s, List.mem_of_getElem? hs, by simpa using q⟩
    · rintro x ⟨rfl, hi⟩
      simp (disch := omega) only [b_X7_allowYear_2, gm_let, litI, ib_nI, ix_nI, nI_leI, nI_ltI, nI_eq, nI_add, nI_sub, nI_mul, nI_div, nI_rem, nI_m1, nI_eqm, nI_gem, nI_ltm, nI_mlt, nI_lem, Option.bind_some, Option.bind_none, h1, if_pos]
      refine ok_some (.inr ⟨?_, rfl⟩)
      unfold asd
      rw [List.all_eq_true]
      intro s hs
      obtain ⟨i, hi1, hi2⟩ := List.mem_iff_getElem.mp hs
      have := hi i s hi1 (List.getElem?_eq_some_iff.mpr ⟨hi1, hi2⟩)
      simpa using this
  obtain ⟨o, e, q | q⟩ := key
  · simp only [f_X7_allowYear, litI, e, Option.bind_some, q.1, q.2, Bool.toNat_false]
  · simp only [f_X7_allowYear, litI, e, Option.bind_some, q.1, q.2, Bool.toNat_true]
theorem m_allow {u : gm_M} {y : Nat} {S : pS} (h : sMm u 0 S) (hS : gS S) (hy : y ≤ 2000) : f_X11_isAsSaid (nI y) u = some (nI (asd S y).toNat) := by
  obtain ⟨h1, h2⟩ := h
  simp only [Nat.mul_zero, Nat.zero_add] at h2
  have hl := hS.1
  have key : ok (gm_lp (b_X11_isAsSaid_2 (nI y) u) gm_FU (nI 0)) (fun o => (asd S y = false ∧ o = .inl ()) ∨ (asd S y = true ∧ o = .inr ())) := by
    refine lp_ok S.length (fun j x => x = nI j ∧ ∀ i s, i < j → S[i]? = some s → lpy (y + s.1) = s.2) (by omega) ⟨rfl, fun i s hi => absurd hi (by omega)⟩ ?_ ?_
    · rintro j x hj ⟨rfl, hi⟩
      obtain ⟨s, hs⟩ : ∃ s, S[j]? = some s := ⟨_, List.getElem?_eq_getElem hj⟩
      obtain ⟨a1, a2⟩ := h2 j s hs
      have s40 := hS.2 s (List.mem_of_getElem? hs)
      simp (disch := omega) only [b_X11_isAsSaid_2, gm_let, litI, ib_nI, ix_nI, nI_leI, nI_ltI, nI_eq, nI_add, nI_sub, nI_mul, nI_div, nI_rem, nI_m1, nI_eqm, nI_gem, nI_ltm, nI_mlt, nI_lem, Option.bind_some, Option.bind_none, h1, if_neg, if_pos, a1, a2, leap_m, leap_n, tn_inj]
      by_cases q : lpy (y + s.1) = s.2
      · rw [if_pos q]
        refine ok_some ⟨rfl, fun i s' hij hs' => ?_⟩
        rcases Nat.lt_or_ge i j with p | p
        · exact hi i s' p hs'
        · have : i = j := by omega
          subst this
          rw [hs] at hs'
          cases hs'
          exact q
      · rw [if_neg q]
        refine ok_some (.inl ⟨?_, rfl⟩)
        unfold asd
        rw [List.all_eq_false]
        exact ⟨s, List.mem_of_getElem? hs, by simpa using q⟩
    · rintro x ⟨rfl, hi⟩
      simp (disch := omega) only [b_X11_isAsSaid_2, gm_let, litI, ib_nI, ix_nI, nI_leI, nI_ltI, nI_eq, nI_add, nI_sub, nI_mul, nI_div, nI_rem, nI_m1, nI_eqm, nI_gem, nI_ltm, nI_mlt, nI_lem, Option.bind_some, Option.bind_none, h1, if_pos]
      refine ok_some (.inr ⟨?_, rfl⟩)
      unfold asd
      rw [List.all_eq_true]
      intro s hs
      obtain ⟨i, hi1, hi2⟩ := List.mem_iff_getElem.mp hs
      have := hi i s hi1 (List.getElem?_eq_some_iff.mpr ⟨hi1, hi2⟩)
      simpa using this
  obtain ⟨o, e, q | q⟩ := key
  · simp only [f_X11_isAsSaid, litI, e, Option.bind_some, q.1, q.2, Bool.toNat_false]
  · simp only [f_X11_isAsSaid, litI, e, Option.bind_some, q.1, q.2, Bool.toNat_true]
theorem st_fits (n : Nat) : St_fits (RelN (n + 1)) (RelN n) := by
  intro uC uM h a
  have hq := relQ (x := 0) h
  obtain ⟨h0, t, R, G, S, K, B, M, g, hC, hM⟩ := RelN_mono n uC uM h
  have hM1 := RM_t (x := 0) hM g
  have gSS := g.2.2.2.2.1
  have sC1 := hC.2.2.2.1
  unfold f_X10_fits f_X11_fits
  simp only [gm_letE]
  generalize sI uM 1 0 (0 : Int32) = u1 at *
  have sM1 := hM1.2.2.2.1
  obtain ⟨x, x', e1, e2, hx⟩ := lp_two0 (b := b_X10_fits_10 a uC) (b' := b_X11_fits_26 a u1) 2000 (fun k x x' => x = x' ∧ x.2.2.2 = nI (k + 1) ∧ (x.2.1 = -nI 1 ∨ ∃ z, z < 3000 ∧ x.2.1 = nI z)) (fun r r' => r = r') ((0 : Int32), (-1 : Int32), (-1 : Int32), (1 : Int32)) ((0 : Int32), (-1 : Int32), (-1 : Int32), (1 : Int32)) (by omega) ⟨rfl, rfl, .inl rfl⟩ (by
    rintro k ⟨v2, v3, v4, v5⟩ x' hk ⟨rfl, hy, hz⟩
    simp only at hy hz
    subst hy
    simp (disch := omega) only [b_X10_fits_10, b_X11_fits_26, litI, nI_ltI, nI_leI, if_neg, c_allow sC1 gSS (show k + 1 ≤ 2000 by omega), m_allow sM1 gSS (show k + 1 ≤ 2000 by omega), Option.bind_some]
    cases asd S (k + 1)
    · simp only [Bool.toNat_false, if0n]
      exact .inl ⟨_, _, rfl, rfl, rfl, nI_add _ _, hz⟩
    · simp only [Bool.toNat_true, if1n]
      rcases hz with rfl | ⟨z, z1, rfl⟩
      · have ng : ¬ nI 0 ≤ -nI 1 := by decide
        simp only [if_neg ng, if_true]
        exact .inl ⟨_, _, rfl, rfl, rfl, nI_add _ _, .inr ⟨k + 1, by omega, rfl⟩⟩
      · simp (disch := omega) only [nI_eqm, if_false, nI_leI, if_pos]
        exact .inl ⟨_, _, rfl, rfl, rfl, nI_add _ _, .inr ⟨z, z1, rfl⟩⟩) (by
    rintro ⟨v2, v3, v4, v5⟩ x' ⟨rfl, hy, hz⟩
    simp only at hy hz
    subst hy
    simp (disch := omega) only [b_X10_fits_10, b_X11_fits_26, litI, nI_ltI, nI_leI, if_pos]
    exact ⟨_, _, rfl, rfl, rfl⟩)
  subst hx
  rw [e1, e2]
  simp only [Option.bind_some]
  obtain ⟨w2, w3, w4⟩ := x
  simp only [litI]
  rcases wi_cases a 2 (by omega) with ⟨j, hj, rfl, e⟩ | ⟨e, e3⟩
  · simp only [e, if1n]
    rcases (by omega : j = 0 ∨ j = 1 ∨ j = 2) with rfl | rfl | rfl <;> simp (disch := omega) only [nI_eq, if_pos, if_neg] <;> exact ⟨_, _, rfl, rfl, hq⟩
  · simp only [e, if0n, e3 0 (by omega), e3 1 (by omega), e3 2 (by omega), if_false]
    exact ⟨_, _, rfl, rfl, hq⟩
theorem st_say (n : Nat) : St_say (RelN (n + 1)) (RelN n) := by
  intro uC uM h a b hb
  have hq := relQ (x := 0) h
  obtain ⟨h0, t, R, G, S, K, B, M, g, hC, hM⟩ := RelN_mono n uC uM h
  have hM1 := RM_t (x := 0) hM g
  have gSS := g.2.2.2.2.1
  have sC1 := hC.2.2.2.1
  have hl := gSS.1
  unfold f_X10_say f_X11_say
  simp only [gm_letE]
  generalize sI uM 1 0 (0 : Int32) = u1 at *
  have sM1 := hM1.2.2.2.1
  have z1 : nI 0 &&& nI 1 = nI 0 := by decide
  have z2 : nI 1 &&& nI 1 = nI 1 := by decide
  obtain ⟨bb, hbb⟩ : ∃ bb : Bool, b &&& nI 1 = nI bb.toNat := by
    rcases hb with rfl | rfl
    · exact ⟨false, by decide⟩
    · exact ⟨true, by decide⟩
  rcases wi_cases a 40 (by omega) with ⟨j, hj, rfl, e⟩ | ⟨e, e3⟩
  · have e' : f_X11_within (nI j) 0 40 = nI 1 := e
    rw [e', if1, sM1.1]
    by_cases q : S.length = 8
    · simp (disch := omega) only [f_X7_add, litI, nI_ltI, if_neg, sC1.1, Option.bind_some, nI_eq, q, if_pos, z1]
      exact ⟨_, _, _, rfl, rfl, hq⟩
    · refine two_ok (nI 1) (fun v => RC v t R G (S ++ [(j, bb)]) K B M) (fun v => RM v t R G (S ++ [(j, bb)]) K B M) ?_ ?_ (fun x y hx hy => ⟨by omega, t, R, G, _, K, B, M, ⟨g.1, g.2.1, g.2.2.1, g.2.2.2.1, ⟨by rw [List.length_append]; simp only [List.length_singleton]; omega, fun s hs => ?_⟩, g.2.2.2.2.2⟩, hx, hy⟩)
      · simp (disch := omega) only [f_X7_add, litI, nI_ltI, if_neg, sC1.1, if_pos, gm_let, ib_nI, ix_nI, gI_eq, gI_ne, gI_sJ, gI_sR, gJ_sI, gJ_sR, gR_sI, gR_sJ, Option.bind_some, hbb, nI_add, z2]
        refine ok_some ⟨rfl, ?_⟩
        obtain ⟨h1, h2, h3, h4, h5, h6, h7⟩ := id hC
        have ff : fr (fun a _ => 31 ≤ a ∧ a ≤ 33) uC (sI (sI (sI uC (31 + 1) S.length (nI j)) (31 + 2) S.length (nI bb.toNat)) 31 2 (nI (S.length + 1))) := fr_sI (fr_sI (fr_sI (fr_refl _ _) ⟨by omega, by omega⟩) ⟨by omega, by omega⟩) ⟨by omega, by omega⟩
        obtain ⟨r, ⟨hr1, hr2⟩, hr3⟩ := h2
        obtain ⟨gg, ⟨hg1, hg2⟩, hg3⟩ := h3
        refine ⟨tC_fr h1 ff (by omega) (fun j => by omega), ⟨r, ⟨(fr_R ff (by omega)).trans hr1, ?_⟩, rC_fr hr3 ff (fun a j q1 q2 => by omega)⟩, ⟨gg, ⟨(fr_R ff (by omega)).trans hg1, ?_⟩, gC_fr hg3 ff (fun a j q1 q2 => by omega)⟩, ⟨?_, fun i s hs => ?_⟩, kC_fr h5 ff (fun a j q1 q2 => by omega), pC_fr h6 g.2.2.2.2.2.2.1.1 ff (by omega) (fun j => by omega) (fun a j q1 q2 => by omega), mkC_fr h7 ff (fun j => by omega) (fun a j q1 => by omega)⟩
        · rw [fr_R ff (a := 1) (k := 3) (by omega)]; exact hr2
        · rw [fr_R ff (a := 1) (k := 5) (by omega)]; exact hg2
        · rw [gI_eq rfl rfl, List.length_append]; rfl
        · rcases Nat.lt_or_ge i S.length with w | w
          · rw [List.getElem?_append_left w] at hs
            simp (disch := omega) only [gI_eq, gI_ne, gI_sJ, gI_sR, gJ_sI, gJ_sR, gR_sI, gR_sJ]
            exact h4.2 i s hs
          · rw [List.getElem?_append_right w] at hs
            obtain ⟨w1, w2⟩ := List.getElem?_eq_some_iff.mp hs
            simp only [List.length_singleton] at w1
            have w3 : i = S.length := by omega
            subst w3
            simp only [Nat.sub_self, List.getElem_cons_zero] at w2
            subst w2
            simp (disch := omega) only [gI_eq, gI_ne, gI_sJ, gI_sR, gJ_sI, gJ_sR, gR_sI, gR_sJ, and_self]
      · simp (disch := omega) only [litI, nI_eq, if_neg, ib_nI, ix_nI, if_pos, gI_eq, gI_ne, gI_sJ, gI_sR, gJ_sI, gJ_sR, gR_sI, gR_sJ, sM1.1, hbb, nI_add]
        refine ok_some ⟨rfl, ?_⟩
        obtain ⟨h1, h2, h3, h4, h5, h6, h7, h8⟩ := id hM1
        obtain ⟨g1, g2, g3, g4, g5, g6, g7, g8⟩ := id g
        have ff : fr (fun a j => (a = 27 ∧ j < 8) ∨ (a = 28 ∧ j < 8) ∨ (a = 26 ∧ j = 0)) u1 (sI (sI (sI u1 27 S.length (nI j)) 28 S.length (nI bb.toNat)) 26 0 (nI (S.length + 1))) := fr_sI (fr_sI (fr_sI (fr_refl _ _) (.inl ⟨rfl, by omega⟩)) (.inr (.inl ⟨rfl, by omega⟩))) (.inr (.inr ⟨rfl, rfl⟩))
        refine ⟨⟨(fr_I ff (by omega)).trans h1.1, fun i s hs => (fr_I ff (by omega)).trans (h1.2 i s hs)⟩, rM_fr h2 g2.1 ff (fun a j q z => by rcases q with q | q | q | q <;> omega), gMm_eq h3 g4.1 (fr_I ff (by omega)) (fun i hi => ⟨fr_I ff (by omega), fr_I ff (by omega)⟩), ⟨?_, fun i s hs => ?_⟩, kM_fr h5 (gK_gQ g6 g2) ff (fun j _ _ z => by omega), pM_eq h6 g2 g7 (fr_I ff (by omega)) (fun j hj => fr_I ff (by omega)), ?_, (fr_I ff (by omega)).trans h8⟩
        · rw [gI_eq rfl rfl, List.length_append]; rfl
        · simp only [Nat.mul_zero, Nat.zero_add]
          have h42 := h4.2
          simp only [Nat.mul_zero, Nat.zero_add] at h42
          rcases Nat.lt_or_ge i S.length with w | w
          · rw [List.getElem?_append_left w] at hs
            simp (disch := omega) only [gI_eq, gI_ne, gI_sJ, gI_sR, gJ_sI, gJ_sR, gR_sI, gR_sJ]
            exact h42 i s hs
          · rw [List.getElem?_append_right w] at hs
            obtain ⟨w1, w2⟩ := List.getElem?_eq_some_iff.mp hs
            simp only [List.length_singleton] at w1
            have w3 : i = S.length := by omega
            subst w3
            simp only [Nat.sub_self, List.getElem_cons_zero] at w2
            subst w2
            simp (disch := omega) only [gI_eq, gI_ne, gI_sJ, gI_sR, gJ_sI, gJ_sR, gR_sI, gR_sJ, and_self]
        · intro i hi
          rcases h7 i hi with ⟨a, b⟩ | ⟨k, G', S', a, b, c, d, e⟩
          · exact .inl ⟨a, (fr_I ff (by omega)).trans b⟩
          · obtain ⟨k1, k2, k3⟩ := g8 i k G' S' a
            exact .inr ⟨k, G', S', a, (fr_I ff (by omega)).trans b, kM_fr c (gK_gQ k1 g2) ff (fun j _ _ z => by omega), gMm_eq d k2.1 (fr_I ff (by omega)) (fun i hi => ⟨fr_I ff (by omega), fr_I ff (by omega)⟩), sMm_eq e k3.1 (fr_I ff (by omega)) (fun i hi => ⟨fr_I ff (by omega), fr_I ff (by omega)⟩)⟩
      · rcases List.mem_append.mp hs with w | w
        · exact gSS.2 s w
        · rw [List.mem_singleton.mp w]; exact hj
  · have e' : f_X11_within a 0 40 = nI 0 := e
    rw [e', if0]
    have : f_X7_add 31 a b uC = some (nI 0, uC) := by
      rcases nI_cases a 41 (by omega) with ⟨j, hj, rfl⟩ | w | ⟨j, hj, hj2, rfl⟩
      · exact absurd rfl (e3 j (by omega))
      · exact if_pos w
      · simp (disch := omega) only [f_X7_add, litI, nI_ltI, if_neg, if_pos]
    rw [this]
    simp only [Option.bind_some]
    exact ⟨_, _, _, rfl, rfl, hq⟩
theorem st_ask (n : Nat) : St_ask (RelN (n + 1)) (RelN n) := by
  intro uC uM h _
  obtain ⟨h0, t, R, G, S, K, B, M, g, hC, hM⟩ := RelN_mono n uC uM h
  have hM1 := RM_t (x := 0) hM g
  have gSS := g.2.2.2.2.1
  unfold f_X10_ask f_X11_ask
  simp only [gm_letE]
  generalize sI uM 1 0 (0 : Int32) = u1 at *
  unfold f_X7_bestQuestion f_X7_countLeapsThen
  have st1 := lp_two0 (b := b_X7_countLeapsThen_4 31) (b' := b_X11_ask_7) 41 (fun k x x' => x.1 = nI k ∧ x'.1 = nI k ∧ fr (fun a _ => a = 34) uC x.2 ∧ fr (fun a _ => a = 39) u1 x'.2 ∧ ∀ j, j < k → gI x.2 34 j = gI x'.2 39 j) (fun r r' => fr (fun a _ => a = 34) uC r ∧ fr (fun a _ => a = 39) u1 r' ∧ ∀ j, j < 41 → gI r 34 j = gI r' 39 j) ((0 : Int32), uC) ((0 : Int32), u1) (by omega) ⟨rfl, rfl, fr_refl _ _, fr_refl _ _, fun j hj => absurd hj (by omega)⟩ (by
    rintro k ⟨x, v⟩ ⟨x', v'⟩ hk ⟨hx, hx', f1, f2, hj⟩
    simp only at hx hx' f1 f2 hj
    subst hx hx'
    simp (disch := omega) only [b_X7_countLeapsThen_4, b_X11_ask_7, litI, nI_leI, if_neg, ib_nI, ix_nI, if_pos, gm_let, nI_add]
    refine .inl ⟨_, _, rfl, rfl, rfl, rfl, fr_sI f1 rfl, fr_sI f2 rfl, fun j hj2 => ?_⟩
    by_cases z : j = k
    · subst z
      rw [gI_eq rfl rfl, gI_eq rfl rfl]
    · rw [gI_ne (by omega), gI_ne (by omega)]
      exact hj j (by omega)) (by
    rintro ⟨x, v⟩ ⟨x', v'⟩ ⟨hx, hx', f1, f2, hj⟩
    simp only at hx hx' f1 f2 hj
    subst hx hx'
    simp (disch := omega) only [b_X7_countLeapsThen_4, b_X11_ask_7, litI, nI_leI, if_pos]
    exact ⟨_, _, rfl, rfl, f1, f2, hj⟩)
  obtain ⟨v1, v1', c1, c1', f1, f1', j1⟩ := st1
  rw [c1, c1']
  simp only [Option.bind_some]
  have st2 := lp_two0 (b := b_X7_countLeapsThen_28 31) (b' := b_X11_ask_30) 2000 (fun k x x' => x.1 = x'.1 ∧ x.2.1 = nI (k + 1) ∧ x'.2.1 = nI (k + 1) ∧ fr (fun a _ => a = 34) uC x.2.2 ∧ fr (fun a _ => a = 39) u1 x'.2.2 ∧ ∀ j, j < 41 → gI x.2.2 34 j = gI x'.2.2 39 j) (fun r r' => r.1 = r'.1 ∧ fr (fun a _ => a = 34) uC r.2 ∧ fr (fun a _ => a = 39) u1 r'.2 ∧ ∀ j, j < 41 → gI r.2 34 j = gI r'.2 39 j) ((0 : Int32), (1 : Int32), v1) ((0 : Int32), (1 : Int32), v1') (by omega) ⟨rfl, rfl, rfl, f1, f1', j1⟩ (by
    rintro k ⟨y, x, v⟩ ⟨y', x', v'⟩ hk ⟨hyy, hx, hx', f1, f2, hj⟩
    simp only at hyy hx hx' f1 f2 hj
    subst hyy hx hx'
    have sC1 : sC v 31 S := sC_fr hC.2.2.2.1 f1 (fun a j q1 q2 => by omega)
    have sM1 : sMm v' 0 S := sMm_eq hM1.2.2.2.1 gSS.1 (fr_I f2 (by omega)) (fun i hi => ⟨fr_I f2 (by omega), fr_I f2 (by omega)⟩)
    simp (disch := omega) only [b_X7_countLeapsThen_28, b_X11_ask_30, litI, nI_ltI, nI_leI, if_neg, c_allow sC1 gSS (show k + 1 ≤ 2000 by omega), m_allow sM1 gSS (show k + 1 ≤ 2000 by omega), Option.bind_some, gm_let]
    cases asd S (k + 1)
    · simp only [Bool.toNat_false, if0n]
      exact .inl ⟨_, _, rfl, rfl, rfl, nI_add _ _, nI_add _ _, f1, f2, hj⟩
    · simp only [Bool.toNat_true, if1n]
      have st3 := lp_two0 (b := b_X7_countLeapsThen_48 31 (y + nI 1) (nI (k + 1))) (b' := b_X11_ask_53 (y + nI 1) (nI (k + 1))) 41 (fun i x x' => x.1 = nI i ∧ x'.1 = nI i ∧ fr (fun a _ => a = 34) uC x.2 ∧ fr (fun a _ => a = 39) u1 x'.2 ∧ ∀ j, j < 41 → gI x.2 34 j = gI x'.2 39 j) (fun r r' => fr (fun a _ => a = 34) uC r ∧ fr (fun a _ => a = 39) u1 r' ∧ ∀ j, j < 41 → gI r 34 j = gI r' 39 j) (nI 0, v) (nI 0, v') (by omega) ⟨rfl, rfl, f1, f2, hj⟩ (by
        rintro i ⟨x, w⟩ ⟨x', w'⟩ hi ⟨hx, hx', g1, g2, hj⟩
        simp only at hx hx' g1 g2 hj
        subst hx hx'
        have e := hj i hi
        simp (disch := omega) only [b_X7_countLeapsThen_48, b_X11_ask_53, leap_m, leap_n, litI, nI_leI, if_neg, ib_nI, ix_nI, if_pos, gm_let, nI_add, j_X7_countLeapsThen_78, j_X11_ask_80]
        cases lpy (k + 1 + i)
        · simp only [Bool.toNat_false, if0n]
          refine .inl ⟨_, _, rfl, rfl, rfl, rfl, fr_sI g1 rfl, fr_sI g2 rfl, fun j hj2 => ?_⟩
          by_cases z : j = i
          · subst z
            rw [gI_eq rfl rfl, gI_eq rfl rfl, e]
          · rw [gI_ne (by omega), gI_ne (by omega)]
            exact hj j (by omega)
        · simp only [Bool.toNat_true, if1n]
          refine .inl ⟨_, _, rfl, rfl, rfl, rfl, fr_sI g1 rfl, fr_sI g2 rfl, fun j hj2 => ?_⟩
          by_cases z : j = i
          · subst z
            rw [gI_eq rfl rfl, gI_eq rfl rfl, e]
          · rw [gI_ne (by omega), gI_ne (by omega)]
            exact hj j (by omega)) (by
        rintro ⟨x, w⟩ ⟨x', w'⟩ ⟨hx, hx', g1, g2, hj⟩
        simp only at hx hx' g1 g2 hj
        subst hx hx'
        simp (disch := omega) only [b_X7_countLeapsThen_48, b_X11_ask_53, litI, nI_leI, if_pos]
        exact ⟨_, _, rfl, rfl, g1, g2, hj⟩)
      obtain ⟨w, w', d1, d1', g1, g1', k1⟩ := st3
      rw [d1, d1']
      exact .inl ⟨_, _, rfl, rfl, rfl, nI_add _ _, nI_add _ _, g1, g1', k1⟩) (by
    rintro ⟨y, x, v⟩ ⟨y', x', v'⟩ ⟨hyy, hx, hx', f1, f2, hj⟩
    simp only at hyy hx hx' f1 f2 hj
    subst hyy hx hx'
    simp (disch := omega) only [b_X7_countLeapsThen_28, b_X11_ask_30, litI, nI_ltI, nI_leI, if_pos]
    exact ⟨_, _, rfl, rfl, rfl, f1, f2, hj⟩)
  obtain ⟨⟨al, v2⟩, ⟨al', v2'⟩, c2, c2', rfl, f2, f2', j2⟩ := st2
  rw [c2, c2']
  simp only [Option.bind_some]
  have st4 := lp_two0 (b := b_X7_bestQuestion_12 31 al v2) (b' := b_X11_ask_101 al v2') 41 (fun k x x' => x.2.2 = nI k ∧ x'.2.2 = nI k ∧ x.1 = x'.2.1 ∧ x.2.1 = x'.1) (fun r r' => r = r') ((-1 : Int32), al, (0 : Int32)) (al, (-1 : Int32), (0 : Int32)) (by omega) ⟨rfl, rfl, rfl, rfl⟩ (by
    rintro k ⟨x1, x2, x3⟩ ⟨y1, y2, y3⟩ hk ⟨h1, h2, h3, h4⟩
    simp only at h1 h2 h3 h4
    subst h1 h2 h3 h4
    have e : gI v2 (31 + 3) k = gI v2' 39 k := j2 k hk
    have cmp : ∀ x y : Int32, (x ≤ y) ↔ ¬ y < x := fun x y => by
      rw [Int32.le_iff_toInt_le, Int32.lt_iff_toInt_lt]; omega
    simp (disch := omega) only [b_X7_bestQuestion_12, b_X11_ask_101, litI, nI_leI, if_neg, ib_nI, ix_nI, if_pos, gm_let, e, nI_add]
    generalize (if gI v2' 39 k < al - gI v2' 39 k then al - gI v2' 39 k else gI v2' 39 k) = Z
    by_cases z : Z < x2
    · rw [if_neg (by rw [cmp]; exact fun w => w z), if_pos z]
      exact .inl ⟨_, _, rfl, rfl, rfl, rfl, rfl, rfl⟩
    · rw [if_pos ((cmp _ _).mpr z), if_neg z]
      exact .inl ⟨_, _, rfl, rfl, rfl, rfl, rfl, rfl⟩) (by
    rintro ⟨x1, x2, x3⟩ ⟨y1, y2, y3⟩ ⟨h1, h2, h3, h4⟩
    simp only at h1 h2 h3 h4
    subst h1 h2 h3 h4
    simp (disch := omega) only [b_X7_bestQuestion_12, b_X11_ask_101, litI, nI_leI, if_pos]
    exact ⟨_, _, rfl, rfl, rfl⟩)
  obtain ⟨r, r', c4, c4', rfl⟩ := st4
  rw [c4, c4']
  simp only [Option.bind_some]
  exact ⟨_, _, _, rfl, rfl, h0, t, R, G, S, K, B, M, g, RC_fr hC g.2.2.2.2.2.2.1.1 f2 (fun a j z => .inr (.inr (.inr (.inl ⟨by omega, by omega⟩)))), RM_q hM1 g f2' (fun a j z => .inl (.inr (.inr (.inr (.inr (.inl (by omega))))))) (fun j hj => fr_I f2' (by omega))⟩
