/-! person, count -/
theorem m_deads {u : gm_M} {R : pR} {k : pK} (h : rM u R) (hg : gR1 R) (hk : kM u 29 0 k) (hy : k.1 < 2 ^ 30) : f_X11_deads u = some (nI (dB R k.1 (rN R))) := by
  have g1 := hg.1
  have h0 := h.1.1
  have g : gm_lp (b_X11_deads_4 u) gm_FU ((fun j => (nI (dB R k.1 j), nI j)) 0) = some (nI (dB R k.1 (rN R))) := by
    refine lp_for (rN R) (fun j => (nI (dB R k.1 j), nI j)) _ (by omega) (fun j hj => ?_) ?_
    · have b1 := dB_lt R k.1 j (by omega)
      have b2 := lt_two (p := j) (by omega)
      simp (disch := omega) only [b_X11_deads_4, gm_let, litI, ib_nI, ix_nI, nI_leI, nI_ltI, nI_eq, nI_add, nI_sub, nI_mul, nI_div, nI_rem, nI_m1, nI_eqm, nI_gem, nI_ltm, nI_mlt, nI_lem, Option.bind_some, Option.bind_none, h0, if_pos, if_neg, m_isDead h hg hk hj hy, nI_one, nI_or, dB_succ]
      cases q : dead R k.1 j
      · simp only [Bool.toNat_false, if_false, Bool.false_eq_true, Nat.or_zero]
        rw [if_pos (by decide)]
      · simp only [Bool.toNat_true, if_true]
        rw [if_neg (by decide)]
    · simp (disch := omega) only [b_X11_deads_4, gm_let, litI, ib_nI, ix_nI, nI_leI, nI_ltI, nI_eq, nI_add, nI_sub, nI_mul, nI_div, nI_rem, nI_m1, nI_eqm, nI_gem, nI_ltm, nI_mlt, nI_lem, Option.bind_some, Option.bind_none, h0, if_pos, if_neg]
  simp only [f_X11_deads]
  have g2 : ((0 : Int32), (0 : Int32)) = (fun j => (nI (dB R k.1 j), nI j)) 0 := by simp [dB]; rfl
  rw [g2, g]
  rfl
theorem wi_cases (a : Int32) (m : Nat) (hm : m < 2 ^ 31) : (∃ j, j ≤ m ∧ a = nI j ∧ f_X11_within a (nI 0) (nI m) = nI 1) ∨ (f_X11_within a (nI 0) (nI m) = nI 0 ∧ ∀ j, j ≤ m → ¬ a = nI j) := by
  rcases nI_cases a (m + 1) (by omega) with ⟨j, hj, rfl⟩ | h | ⟨j, hj, hj2, rfl⟩
  · left
    refine ⟨j, by omega, rfl, ?_⟩
    simp (disch := omega) only [f_X11_within, gm_let, litI, ib_nI, ix_nI, nI_leI, nI_ltI, nI_eq, nI_add, nI_sub, nI_mul, nI_div, nI_rem, nI_m1, nI_eqm, nI_gem, nI_ltm, nI_mlt, nI_lem, Option.bind_some, Option.bind_none, if_neg]
  · right
    exact ⟨if_pos h, fun j hj e => neg_ne h (by omega) e.symm⟩
  · right
    refine ⟨?_, fun i hi e => by rw [nI_eq (by omega) (by omega)] at e; omega⟩
    simp (disch := omega) only [f_X11_within, gm_let, litI, ib_nI, ix_nI, nI_leI, nI_ltI, nI_eq, nI_add, nI_sub, nI_mul, nI_div, nI_rem, nI_m1, nI_eqm, nI_gem, nI_ltm, nI_mlt, nI_lem, Option.bind_some, Option.bind_none, if_neg, if_pos]
theorem st_count (n : Nat) : St_count (RelN (n + 1)) (RelN n) := by
  intro uC uM h a
  have hq := relQ (x := 0) h
  obtain ⟨h0, t, R, G, S, K, B, M, g, hC, hM⟩ := RelN_mono n uC uM h
  obtain ⟨hT, ⟨r, hr, hrC⟩, ⟨gg, hgg, hgC⟩, hsC, hkC, hpC, hmC⟩ := id hC
  obtain ⟨i1, i2, i3⟩ := isR_ok hr
  obtain ⟨j1, j2, j3⟩ := isG_ok hgg
  obtain ⟨mT, mR, mG, mS, mK, mP, mMk, m46⟩ := RM_t (x := 0) hM g
  obtain ⟨gT1, gR, gN, gGG, gSS, gKK, gBB, gMM⟩ := g
  have gq := gK_gQ gKK gR
  have hy : K.1 < 2 ^ 30 := by
    have := gKK.1
    have := Yn_lt n
    omega
  unfold f_X10_count f_X11_count
  simp only [gm_letE]
  generalize sI uM 1 0 (0 : Int32) = u1 at *
  rw [i3] at i1 ⊢
  rw [j3] at j1 ⊢
  simp only [i1, j1, if_true, litI]
  rcases wi_cases a 12 (by omega) with ⟨j, hj, rfl, e⟩ | ⟨e, e2⟩
  · have b1 := mK.1.2.1
    have b2 := mK.1.2.2.1
    have b3 := mK.1.2.2.2
    simp only [Nat.zero_add] at b1 b2 b3
    have c1 := c_queueBits hkC gq
    have c2 := m_inQueue mK gq
    have d1 := c_deadBits hrC gR hy
    have d2 := m_deads mR gR mK hy
    simp only [e, if1n]
    rcases (by omega : j = 0 ∨ j = 1 ∨ j = 2 ∨ j = 3 ∨ j = 4 ∨ j = 5 ∨ j = 6 ∨ j = 7 ∨ j = 8 ∨ j = 9 ∨ j = 10 ∨ j = 11 ∨ j = 12) with rfl | rfl | rfl | rfl | rfl | rfl | rfl | rfl | rfl | rfl | rfl | rfl | rfl <;>
      simp (disch := omega) only [nI_eq, nI_leI, if_pos, if_neg, ib_nI, ix_nI, hrC.1.1, hkC.1.1, hrC.1.2.2.1, hrC.1.2.2.2, hkC.1.2.1, hkC.1.2.2.2, hkC.1.2.2.1, hgC.1, hsC.1, hpC.1, hT.1, mR.1.1, mK.1.1, mR.1.2.2.1, mR.1.2.2.2, b1, b2, b3, c1, c2, d1, d2, mG.1, mS.1, mP.1, mT.1, Option.bind_some] <;> exact ⟨_, _, rfl, rfl, hq⟩
  · simp only [e, if0n, e2 0 (by omega), e2 1 (by omega), e2 2 (by omega), e2 3 (by omega), e2 4 (by omega), e2 5 (by omega), e2 6 (by omega), e2 7 (by omega), e2 8 (by omega), e2 9 (by omega), e2 10 (by omega), e2 11 (by omega), e2 12 (by omega), if_false]
    exact ⟨_, _, rfl, rfl, hq⟩
theorem st_person (n : Nat) : St_person (RelN (n + 1)) (RelN n) := by
  intro uC uM h a b
  have hq := relQ (x := 0) h
  obtain ⟨h0, t, R, G, S, K, B, M, g, hC, hM⟩ := RelN_mono n uC uM h
  obtain ⟨hT, ⟨r, hr, hrC⟩, ⟨gg, hgg, hgC⟩, hsC, hkC, hpC, hmC⟩ := id hC
  obtain ⟨i1, i2, i3⟩ := isR_ok hr
  have hw := who g hrC hM a
  obtain ⟨mT, mR, mG, mS, mK, mP, mMk, m46⟩ := RM_t (x := 0) hM g
  obtain ⟨gT1, gR, gN, gGG, gSS, gKK, gBB, gMM⟩ := g
  have gq := gK_gQ gKK gR
  have g1 := gR.1
  have hy : K.1 < 2 ^ 30 := by
    have := gKK.1
    have := Yn_lt n
    omega
  unfold f_X10_person f_X11_person
  simp only [gm_letE]
  generalize sI uM 1 0 (0 : Int32) = u1 at *
  rw [i3] at i1 ⊢
  simp only [i1, if_true, litI]
  rcases hw with ⟨p, hp, rfl, e1, e2⟩ | ⟨hp, e1, e2⟩
  · simp only [e1, e2, if1n]
    have k0 := c_kindOf hrC g1 hp
    have k1 := c_bornOf hrC g1 hp
    have k2 := c_pleaOf hrC g1 hp
    obtain ⟨-, l0, l1, l2⟩ := mR.2.1 p hp
    have b3 := mK.1.2.2.2
    have b0 := mK.1.1
    simp only [Nat.zero_add] at b3 b0
    have d1 := c_isDead hrC gR hp hy
    have d2 := m_isDead mR gR mK hp hy
    have h64 := gKK.2.2.1
    obtain ⟨r1, pr1, pc1⟩ := c_placeOf hkC gq (nI p)
    obtain ⟨r2, pr2, pc2⟩ := m_placeOf mK gq (nI p)
    obtain ⟨r3, pr3, pc3⟩ := c_isQueued hkC gq (nI p)
    have bb : K.2.2.1.testBit p = true ∨ K.2.2.1.testBit p = false := by cases K.2.2.1.testBit p <;> simp
    rcases wi_cases b 7 (by omega) with ⟨j, hj, rfl, e⟩ | ⟨e, e3⟩
    · simp only [e, if1n]
      have hl := gQ_len gq
      rcases pc1 with ⟨i, f, hf, w, rfl⟩ | ⟨w, rfl⟩
      · have hf6 := gQ_at gq hf
        have hfp : f.1 = p := by rwa [nI_eq (by omega) (by omega)] at w
        have hfi := (List.getElem?_eq_some_iff.mp hf).1
        have er2 : r2 = nI i := by
          rcases pc2 with ⟨i', f', hf', w', rfl⟩ | ⟨w', -⟩
          · have hf6' := gQ_at gq hf'
            rw [nI_eq (by omega) (by omega)] at w'
            rw [gQ_inj gq hf' hf (w'.trans hfp.symm)]
          · exact absurd w (w' f (List.mem_of_getElem? hf))
        have er3 : r3 = nI 1 := by
          rcases pc3 with ⟨i', f', hf', w', rfl⟩ | ⟨w', -⟩
          · rfl
          · exact absurd w (w' f (List.mem_of_getElem? hf))
        subst er2 er3
        obtain ⟨c1, c2, c3⟩ := hkC.2 i f hf
        obtain ⟨m1, m2, m3⟩ := mK.2 i f hf
        simp only [Nat.zero_add] at m1 m2 m3
        rw [hfp] at c2 c3 m2 m3
        have s1 : f_X1_stoodOf 27 (nI p) uC = some (nI K.1 - nI f.2.1) := by simp (disch := omega) only [f_X1_stoodOf, gm_let, litI, ib_nI, ix_nI, nI_leI, nI_ltI, hkC.1.1, c2, if_pos, if_neg]
        have s2 : f_X1_daysOf 27 (nI p) uC = some (nI f.2.2) := by simp (disch := omega) only [f_X1_daysOf, gm_let, litI, ib_nI, ix_nI, nI_leI, nI_ltI, c3, if_pos, if_neg]
        rcases (by omega : j = 0 ∨ j = 1 ∨ j = 2 ∨ j = 3 ∨ j = 4 ∨ j = 5 ∨ j = 6 ∨ j = 7) with rfl | rfl | rfl | rfl | rfl | rfl | rfl | rfl
        · simp (disch := omega) only [nI_eq, nI_leI, if_pos, if_neg, ib_nI, ix_nI, k0, l0, Option.bind_some]; exact ⟨_, _, rfl, rfl, hq⟩
        · simp (disch := omega) only [nI_eq, nI_leI, if_pos, if_neg, ib_nI, ix_nI, k1, l1, Option.bind_some]; exact ⟨_, _, rfl, rfl, hq⟩
        · simp (disch := omega) only [nI_eq, nI_leI, if_pos, if_neg, ib_nI, ix_nI, k2, l2, Option.bind_some]; exact ⟨_, _, rfl, rfl, hq⟩
        · simp (disch := omega) only [nI_eq, nI_leI, if_pos, if_neg, pr1, pr2, Option.bind_some]; exact ⟨_, _, rfl, rfl, hq⟩
        · simp (disch := omega) only [nI_eq, nI_leI, if_pos, if_neg, pr2, Option.bind_some, hkC.1.2.2.1, b3]; exact ⟨_, _, rfl, rfl, hq⟩
        · simp (disch := omega) only [nI_eq, nI_leI, if_pos, if_neg, pr2, Option.bind_some, hkC.1.1, d1, d2]
          cases dead R K.1 p
          · simp only [Bool.toNat_false, if0n]; exact ⟨_, _, rfl, rfl, hq⟩
          · simp only [Bool.toNat_true, if1n]; exact ⟨_, _, rfl, rfl, hq⟩
        · simp (disch := omega) only [nI_eq, nI_leI, if_pos, if_neg, pr2, pr3, Option.bind_some, if1n, s1, nI_add, ib_nI, ix_nI, b0, m2]; exact ⟨_, _, rfl, rfl, hq⟩
        · simp (disch := omega) only [nI_eq, nI_leI, if_pos, if_neg, pr2, pr3, Option.bind_some, if1n, s2, nI_add, ib_nI, ix_nI, m3]; exact ⟨_, _, rfl, rfl, hq⟩
      · have er2 : r2 = -nI 1 := by
          rcases pc2 with ⟨i', f', hf', w', rfl⟩ | ⟨w', rfl⟩
          · exact absurd w' (w f' (List.mem_of_getElem? hf'))
          · rfl
        have er3 : r3 = nI 0 := by
          rcases pc3 with ⟨i', f', hf', w', rfl⟩ | ⟨w', rfl⟩
          · exact absurd w' (w f' (List.mem_of_getElem? hf'))
          · rfl
        subst er2 er3
        have ng : ¬ nI 0 ≤ -nI 1 := by decide
        rcases (by omega : j = 0 ∨ j = 1 ∨ j = 2 ∨ j = 3 ∨ j = 4 ∨ j = 5 ∨ j = 6 ∨ j = 7) with rfl | rfl | rfl | rfl | rfl | rfl | rfl | rfl
        · simp (disch := omega) only [nI_eq, nI_leI, if_pos, if_neg, ib_nI, ix_nI, k0, l0, Option.bind_some]; exact ⟨_, _, rfl, rfl, hq⟩
        · simp (disch := omega) only [nI_eq, nI_leI, if_pos, if_neg, ib_nI, ix_nI, k1, l1, Option.bind_some]; exact ⟨_, _, rfl, rfl, hq⟩
        · simp (disch := omega) only [nI_eq, nI_leI, if_pos, if_neg, ib_nI, ix_nI, k2, l2, Option.bind_some]; exact ⟨_, _, rfl, rfl, hq⟩
        · simp (disch := omega) only [nI_eq, nI_leI, if_pos, if_neg, pr1, pr2, Option.bind_some]; exact ⟨_, _, rfl, rfl, hq⟩
        · simp (disch := omega) only [nI_eq, nI_leI, if_pos, if_neg, pr2, Option.bind_some, hkC.1.2.2.1, b3]; exact ⟨_, _, rfl, rfl, hq⟩
        · simp (disch := omega) only [nI_eq, nI_leI, if_pos, if_neg, pr2, Option.bind_some, hkC.1.1, d1, d2]
          cases dead R K.1 p
          · simp only [Bool.toNat_false, if0n]; exact ⟨_, _, rfl, rfl, hq⟩
          · simp only [Bool.toNat_true, if1n]; exact ⟨_, _, rfl, rfl, hq⟩
        · simp (disch := omega) only [nI_eq, nI_leI, if_pos, if_neg, pr2, pr3, Option.bind_some, if0n]
          exact ⟨nI 0, _, if_pos trivial, rfl, hq⟩
        · simp (disch := omega) only [nI_eq, nI_leI, if_pos, if_neg, pr2, pr3, Option.bind_some, if0n]
          exact ⟨nI 0, _, if_pos trivial, rfl, hq⟩
    · simp only [e, if0n, e3 0 (by omega), e3 1 (by omega), e3 2 (by omega), e3 3 (by omega), e3 4 (by omega), e3 5 (by omega), e3 6 (by omega), e3 7 (by omega), if_false]
      exact ⟨_, _, rfl, rfl, hq⟩
  · simp only [e1, e2, if0n]
    exact ⟨_, _, rfl, rfl, hq⟩
