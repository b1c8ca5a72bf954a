/-! when, need, julian, stale -/
theorem leastN (P : Nat → Prop) (N : Nat) : ∃ D, D ≤ N ∧ (∀ i, i < D → ¬ P i) ∧ (D < N → P D) := by
  by_cases q : ∃ i, i < N ∧ P i
  · obtain ⟨i, hi, hp⟩ := q
    obtain ⟨D, h1, h2⟩ := least i hp
    refine ⟨D, ?_, h2, fun _ => h1⟩
    rcases Nat.lt_or_ge N D with z | z
    · exact absurd hp (h2 i (by omega))
    · exact z
  · exact ⟨N, Nat.le_refl _, fun i hi hp => q ⟨i, hi, hp⟩, fun z => absurd z (by omega)⟩
/-- one who is in the queue, on both sides -/
theorem inq {uC u1 : gm_M} {n : Nat} {t : List Nat} {R : pR} {G : pG} {S : pS} {K : pK} {B : List pK} {M : pMk} (g : gA n t R G S K B M) (hC : RC uC t R G S K B M) (hM : RM u1 t R G S K B M) (a : Int32) :
    (∃ (p i : Nat) (e : pQ), p < rN R ∧ a = nI p ∧ K.2.2.2[i]? = some e ∧ e.1 = p ∧ K.2.2.1.testBit p = false ∧ f_X1_isQueued 27 a uC = some (nI 1) ∧ f_X11_isPerson a u1 = nI 1 ∧ f_X11_placeOf a u1 = some (nI i) ∧ i < 6) ∨
    (f_X1_isQueued 27 a uC = some (nI 0) ∧ (f_X11_isPerson a u1 = nI 0 ∨ (f_X11_isPerson a u1 = nI 1 ∧ f_X11_placeOf a u1 = some (-nI 1)))) := by
  obtain ⟨-, gRr, -, -, -, gKK, -, -⟩ := id g
  have gq := gK_gQ gKK gRr
  have g1 := gRr.1
  have hl := gQ_len gq
  obtain ⟨o, eo, co⟩ := c_isQueued hC.2.2.2.2.1 gq a
  have hp := m_isPerson hM.2.1 g1 a
  obtain ⟨r2, pr2, pc2⟩ := m_placeOf hM.2.2.2.2.1 gq a
  rcases co with ⟨i, e, he, w, rfl⟩ | ⟨w, rfl⟩
  · left
    have hep := (gKK.2.2.2.2 e (List.mem_of_getElem? he))
    have hi := (List.getElem?_eq_some_iff.mp he).1
    refine ⟨e.1, i, e, hep.1, w.symm, he, rfl, hep.2, eo, ?_, ?_, by omega⟩
    · rcases hp with ⟨p, -, -, z⟩ | ⟨z, -⟩
      · exact z
      · exact absurd w (z e.1 hep.1)
    · rcases pc2 with ⟨i', f', hf', w', rfl⟩ | ⟨w', -⟩
      · have hf6 := gQ_at gq hf'
        have he6 := gQ_at gq he
        have : f'.1 = e.1 := by
          rw [← w, nI_eq (by omega) (by omega)] at w'
          exact w'
        rw [pr2, gQ_inj gq hf' he this]
      · exact absurd w (w' e (List.mem_of_getElem? he))
  · right
    refine ⟨eo, ?_⟩
    rcases hp with ⟨p, -, -, z⟩ | ⟨-, z⟩
    · refine .inr ⟨z, ?_⟩
      rcases pc2 with ⟨i', f', hf', w', rfl⟩ | ⟨w', rfl⟩
      · exact absurd w' (w f' (List.mem_of_getElem? hf'))
      · exact pr2
    · exact .inl z
theorem ifge {α : Type} {x y : α} {i : Nat} (h : i < 6) : (if (0 : Int32) ≤ nI i then x else y) = x := if_pos (nI_pos' (by omega))
theorem ifgm {α : Type} {x y : α} : (if (0 : Int32) ≤ -nI 1 then x else y) = y := if_neg (by decide)
theorem st_when (n : Nat) : St_when (RelN (n + 1)) (RelN n) := by
  intro uC uM h a
  obtain ⟨h0, t, R, G, S, K, B, M, g, hC, hM⟩ := RelN_mono n uC uM h
  have hM1 := RM_t (x := 0) hM g
  obtain ⟨-, gRr, -, -, -, gKK, gBB, -⟩ := id g
  have gq := gK_gQ gKK gRr
  have g1 := gRr.1
  have h40 := gRr.2.2.1.2
  have hyn := Yn_lt n
  have gK2 := gK_up (Z := 8000) gKK (by omega)
  have hk1 := gKK.1
  unfold f_X10_when f_X11_when
  simp only [gm_letE]
  generalize sI uM 1 0 (0 : Int32) = u1 at *
  obtain ⟨hM2, c49⟩ := m_cand hM1 g
  generalize sI u1 1 49 (gI u1 3 2) = u2 at *
  rcases inq g hC hM1 a with ⟨p, i, e, hp, rfl, he, hep, hbit, e1, e2, e3, hi6⟩ | ⟨e1, e2⟩
  · rw [e1, e2, e3]
    simp only [Option.bind_some, if1, ifge hi6]
    obtain ⟨D, d1, d2, d3⟩ := leastN (fun i => (itP R false K i).2.2.1.testBit p = true) 100
    have d0 : 1 ≤ D := by
      rcases Nat.eq_or_lt_of_le (Nat.zero_le D) with z | z
      · have := d3 (by omega)
        rw [← z] at this
        simp only [itP] at this
        rw [hbit] at this
        cases this
      · exact z
    have bitf : ∀ i, i < D → (itP R false K i).2.2.1.testBit p = false := fun i hi => by
      have := d2 i hi
      cases z : (itP R false K i).2.2.1.testBit p
      · rfl
      · exact absurd z this
    refine two_q (if D < 100 then nI D else -nI 1) h0 g ?_ ?_
    · refine ok_bind (c_copy (c := 40) (d := 27) hC.2.2.2.2.1 gq (by omega)) ?_
      rintro v ⟨v1, v2⟩
      have hCv := RC_fr hC gBB.1 v2 crt_ir
      refine ok_bind (Q := fun o => (∃ w, D < 100 ∧ o = .inl (nI D, w) ∧ RC w t R G S K B M) ∨ (∃ w, D = 100 ∧ o = .inr w ∧ RC w t R G S K B M))
        (lp_ok (D - 1) (fun j x => x.1 = nI (j + 1) ∧ RC x.2 t R G S K B M ∧ kC x.2 40 (itP R false K j)) (by omega) ⟨rfl, hCv, v1⟩ ?_ ?_) ?_
      · rintro j ⟨x, w⟩ hj ⟨hx, hw1, hw2⟩
        simp only at hx hw1 hw2
        subst hx
        obtain ⟨-, ⟨r, hr, hrC⟩, -⟩ := id hw1
        obtain ⟨i1, i2, i3⟩ := isR_ok hr
        have iy := itP_y R false K j
        have ig := itP_g false gK2 gRr j (by omega)
        have ig1 := itP_g false gK2 gRr (j + 1) (by omega)
        rw [b_X10_when_26]
        simp only
        rw [i3] at i1 ⊢
        simp (disch := omega) only [litI, nI_ltI, if_neg, i1, if_true]
        refine ok_bind (c_pass (jul := false) hrC gRr hw2 ig i2 (.inr rfl) (by omega) (by omega)) ?_
        rintro ⟨o, w2⟩ ⟨z1, z2⟩
        have z2' : kC w2 40 (itP R false K (j + 1)) := z2
        have e5 : gI w2 40 2 = nI (itP R false K (j + 1)).2.2.1 := z2'.1.2.2.1
        simp only [e5, nI_sh ig1.2.2.1 (show p < 6 by omega), bitf (j + 1) (by omega), Bool.toNat_false, if0n]
        exact ok_some ⟨by rw [nI_add], RC_fr hw1 gBB.1 z1 (dayP_ir i2), z2'⟩
      · rintro ⟨x, w⟩ ⟨hx, hw1, hw2⟩
        simp only at hx hw1 hw2
        subst hx
        rcases Nat.lt_or_ge D 100 with z | z
        · obtain ⟨-, ⟨r, hr, hrC⟩, -⟩ := id hw1
          obtain ⟨i1, i2, i3⟩ := isR_ok hr
          have iy := itP_y R false K (D - 1)
          have ig := itP_g false gK2 gRr (D - 1) (by omega)
          have ig1 := itP_g false gK2 gRr D (by omega)
          rw [b_X10_when_26]
          simp only
          rw [i3] at i1 ⊢
          simp (disch := omega) only [litI, nI_ltI, if_neg, i1, if_true]
          refine ok_bind (c_pass (jul := false) hrC gRr hw2 ig i2 (.inr rfl) (by omega) (by omega)) ?_
          rintro ⟨o, w2⟩ ⟨z1, z2⟩
          have dd : D - 1 + 1 = D := by omega
          have z2' : kC w2 40 (itP R false K D) := by
            have : kC w2 40 (itP R false K (D - 1 + 1)) := z2
            rwa [dd] at this
          have e5 : gI w2 40 2 = nI (itP R false K D).2.2.1 := z2'.1.2.2.1
          simp only [e5, nI_sh ig1.2.2.1 (show p < 6 by omega), d3 z, Bool.toNat_true, if1n, dd]
          exact ok_some (.inl ⟨w2, z, rfl, RC_fr hw1 gBB.1 z1 (dayP_ir i2)⟩)
        · rw [b_X10_when_26]
          simp (disch := omega) only [litI, nI_ltI, if_pos]
          exact ok_some (.inr ⟨w, by omega, rfl, hw1⟩)
      · rintro o (⟨w, z, rfl, hw⟩ | ⟨w, z, rfl, hw⟩)
        · exact ok_some ⟨by rw [if_pos z], hw⟩
        · exact ok_some ⟨by rw [if_neg (by omega)]; rfl, hw⟩
    · refine ok_bind (m_save hM2.2.2.2.2.1 gq) ?_
      rintro v ⟨v1, v2, v3⟩
      refine ok_bind (Q := fun o => o.1 = nI D ∧ jM u2 o.2)
        (lp_ok D (fun j x => x.1 = nI j ∧ jM u2 x.2 ∧ kM x.2 29 0 (itP R false K j) ∧ gI x.2 1 49 = nI (rCandle R)) (by omega) ⟨rfl, v1, v2, (fr_I v3 (by omega)).trans c49⟩ ?_ ?_) ?_
      · rintro j ⟨x, w⟩ hj ⟨hx, hw1, hw2, hw3⟩
        simp only at hx hw1 hw2 hw3
        subst hx
        have iy := itP_y R false K j
        have ig := itP_g false gK2 gRr j (by omega)
        simp (disch := omega) only [b_X11_when_48, litI, nI_ltI, if_neg, gm_let, m_isHeard hw2 (show p < 6 by omega) ig.2.2.1, bitf j hj, Bool.toNat_false, if0n]
        refine ok_bind (j_pass (old := false) hw1 hM2.2.1 gRr hw2 ig (by omega) (show (8000 : Nat) < 2 ^ 30 by omega) (by omega) hw3 hM2.2.2.2.2.2.2.2) ?_
        rintro ⟨o, w2⟩ ⟨z1, z2, z3⟩
        exact ok_some ⟨by rw [nI_add], z1, z2, z3⟩
      · rintro ⟨x, w⟩ ⟨hx, hw1, hw2, hw3⟩
        simp only at hx hw1 hw2 hw3
        subst hx
        rcases Nat.lt_or_ge D 100 with z | z
        · have ig := itP_g false gK2 gRr D (by omega)
          simp (disch := omega) only [b_X11_when_48, litI, nI_ltI, if_neg, gm_let, m_isHeard hw2 (show p < 6 by omega) ig.2.2.1, d3 z, Bool.toNat_true, if1n]
          exact ok_some ⟨rfl, hw1⟩
        · simp (disch := omega) only [b_X11_when_48, litI, nI_ltI, if_pos]
          exact ok_some ⟨rfl, hw1⟩
      · rintro ⟨o, w⟩ ⟨w1, w2⟩
        simp only at w1 w2
        subst w1
        simp only [j_X11_when_73]
        refine ok_bind (m_back hM2 g w2) ?_
        rintro w2' ⟨z1, -⟩
        rcases Nat.lt_or_ge D 100 with z | z
        · rw [if_pos (show nI D ≤ (99 : Int32) from (nI_leI (a := D) (b := 99) (by omega) (by omega)).mpr (by omega)), if_pos z]
          exact ok_some ⟨rfl, z1⟩
        · have : ¬ nI D ≤ (99 : Int32) := by
            have := nI_leI (a := D) (b := 99) (by omega) (by omega)
            intro w
            have := this.mp w
            omega
          rw [if_neg this, if_neg (by omega)]
          exact ok_some ⟨rfl, z1⟩
  · rw [e1]
    simp only [Option.bind_some, if0]
    rcases e2 with e2 | ⟨e2, e3⟩
    · rw [e2, if0]
      exact two_q _ h0 g (ok_some ⟨rfl, hC⟩) (ok_some ⟨rfl, hM1⟩)
    · rw [e2, if1, e3]
      simp only [Option.bind_some, ifgm]
      exact two_q _ h0 g (ok_some ⟨rfl, hC⟩) (ok_some ⟨rfl, hM1⟩)
theorem st_need (n : Nat) : St_need (RelN (n + 1)) (RelN n) := by
  intro uC uM h a
  obtain ⟨h0, t, R, G, S, K, B, M, g, hC, hM⟩ := RelN_mono n uC uM h
  have hM1 := RM_t (x := 0) hM g
  obtain ⟨-, gRr, -, -, -, gKK, gBB, -⟩ := id g
  have gq := gK_gQ gKK gRr
  have g1 := gRr.1
  have hyn := Yn_lt n
  have gK2 := gK_up (Z := 8000) gKK (by omega)
  have hk1 := gKK.1
  have g8 := gap_le K.1
  have gKl := gK_kill (R := R) (y := nxt K.1) gK2 (by unfold nxt; omega)
  unfold f_X10_need f_X11_need
  simp only [gm_letE]
  generalize sI uM 1 0 (0 : Int32) = u1 at *
  rcases inq g hC hM1 a with ⟨p, i, e, hp, rfl, he, hep, hbit, e1, e2, e3, hi6⟩ | ⟨e1, e2⟩
  · rw [e1, e2, e3]
    simp only [Option.bind_some, if1, ifge hi6]
    obtain ⟨D, d1, d2, d3⟩ := leastN (fun i => (dayH R (i + 1) (killK R (nxt K.1) K)).2.testBit p = true) 99
    have bitf : ∀ i, i < D → (dayH R (i + 1) (killK R (nxt K.1) K)).2.testBit p = false := fun i hi => by
      have := d2 i hi
      cases z : (dayH R (i + 1) (killK R (nxt K.1) K)).2.testBit p
      · rfl
      · exact absurd z this
    refine two_q (if D < 99 then nI (D + 1) else -nI 1) h0 g ?_ ?_
    · refine ok_bind (Q := fun o => (∃ w, D < 99 ∧ o = .inl (nI (D + 1), w) ∧ RC w t R G S K B M) ∨ (∃ w, D = 99 ∧ o = .inr w ∧ RC w t R G S K B M))
        (lp_ok D (fun j x => x.1 = nI (j + 1) ∧ RC x.2 t R G S K B M) (by omega) ⟨rfl, hC⟩ ?_ ?_) ?_
      · rintro j ⟨x, w⟩ hj ⟨hx, hw1⟩
        simp only at hx hw1
        subst hx
        rw [b_X10_need_15]
        simp (disch := omega) only [litI, nI_ltI, if_neg]
        refine ok_bind (c_copy (c := 40) (d := 27) hw1.2.2.2.2.1 gq (by omega)) ?_
        rintro v ⟨v1, v2⟩
        have hCv := RC_fr hw1 gBB.1 v2 crt_ir
        obtain ⟨-, ⟨r, hr, hrC⟩, -⟩ := id hCv
        obtain ⟨i1, i2, i3⟩ := isR_ok hr
        rw [i3] at i1 ⊢
        simp only [i1, if_true]
        refine ok_bind (c_passToDay hrC gRr v1 gK2 i2 (.inr rfl) (by omega) (by omega) (by omega)) ?_
        rintro ⟨o, w2⟩ ⟨z1, z2, z3, -⟩
        simp only at z2
        subst z2
        simp only [nI_sh (dayH_lt gKl gRr) (show p < 6 by omega), bitf j hj, Bool.toNat_false, if0n]
        exact ok_some ⟨by rw [nI_add], RC_fr hCv gBB.1 z1 (dayP_ir i2)⟩
      · rintro ⟨x, w⟩ ⟨hx, hw1⟩
        simp only at hx hw1
        subst hx
        rcases Nat.lt_or_ge D 99 with z | z
        · rw [b_X10_need_15]
          simp (disch := omega) only [litI, nI_ltI, if_neg]
          refine ok_bind (c_copy (c := 40) (d := 27) hw1.2.2.2.2.1 gq (by omega)) ?_
          rintro v ⟨v1, v2⟩
          have hCv := RC_fr hw1 gBB.1 v2 crt_ir
          obtain ⟨-, ⟨r, hr, hrC⟩, -⟩ := id hCv
          obtain ⟨i1, i2, i3⟩ := isR_ok hr
          rw [i3] at i1 ⊢
          simp only [i1, if_true]
          refine ok_bind (c_passToDay hrC gRr v1 gK2 i2 (.inr rfl) (by omega) (by omega) (by omega)) ?_
          rintro ⟨o, w2⟩ ⟨z1, z2, z3, -⟩
          simp only at z2
          subst z2
          simp only [nI_sh (dayH_lt gKl gRr) (show p < 6 by omega), d3 z, Bool.toNat_true, if1n]
          exact ok_some (.inl ⟨w2, z, rfl, RC_fr hCv gBB.1 z1 (dayP_ir i2)⟩)
        · rw [b_X10_need_15]
          simp (disch := omega) only [litI, nI_ltI, if_pos]
          exact ok_some (.inr ⟨w, by omega, rfl, hw1⟩)
      · rintro o (⟨w, z, rfl, hw⟩ | ⟨w, z, rfl, hw⟩)
        · exact ok_some ⟨by rw [if_pos z], hw⟩
        · exact ok_some ⟨by rw [if_neg (by omega)]; rfl, hw⟩
    · refine ok_bind (m_save hM1.2.2.2.2.1 gq) ?_
      rintro v ⟨v1, v2, v3⟩
      have hRv : RM v t R G S K B M := RM_q hM1 g v3 (fun a j z => .inl (.inr (.inr (.inr (.inl z.1))))) (fun j hj => fr_I v3 (by omega))
      refine ok_bind (Q := fun o => o.1 = (if D < 99 then nI (D + 1) else -nI 1) ∧ RM o.2 t R G S K B M)
        (lp_ok (if D < 99 then D + 1 else D) (fun j x => x.2.1 = nI (j + 1) ∧ jM u1 x.2.2 ∧ kM x.2.2 29 0 K ∧ RM x.2.2 t R G S K B M ∧ ((j ≤ D ∧ x.1 = -nI 1) ∨ (D < 99 ∧ j = D + 1 ∧ x.1 = nI (D + 1)))) (by split <;> omega) ⟨rfl, v1, v2, hRv, .inl ⟨by omega, rfl⟩⟩ ?_ ?_) ?_
      · rintro j ⟨y, x, w⟩ hj ⟨hx, hw1, hw2, hwR, hw3⟩
        simp only at hx hw1 hw2 hw3 hwR
        subst hx
        have hj2 : j ≤ D ∧ j + 1 ≤ 99 := by
          by_cases z : D < 99
          · rw [if_pos z] at hj; omega
          · rw [if_neg z] at hj; omega
        rcases hw3 with ⟨z1, z2⟩ | ⟨z1, z2, z3⟩
        · subst z2
          have ng : ¬ nI 0 ≤ -nI 1 := by decide
          simp (disch := omega) only [b_X11_need_40, litI, nI_leI, if_neg, gm_let, nI_gem]
          have hw49 := jM_49 (x := nI (j + 1)) hw1
          have k49 : kM (sI w 1 49 (nI (j + 1))) 29 0 K := kM_fr hw2 gq (P := fun a j => a = 1) (fr_sI (fr_refl _ _) rfl) (fun j _ _ z => by omega)
          refine ok_bind (j_ride hw49 hM1.2.1 gRr k49 gK2 (by omega) (by omega) (show j + 1 ≤ 900 by omega) (gI_eq rfl rfl) hM1.2.2.2.2.2.2.2) ?_
          rintro w2 ⟨q1, q2, q3, -⟩
          have igr := gK_ride (C := j + 1) gK2 gRr (by omega)
          have hb : (rideK R (j + 1) K).2.2.1.testBit p = (dayH R (j + 1) (killK R (nxt K.1) K)).2.testBit p := by
            show (K.2.2.1 ||| (dayH R (j + 1) (killK R (nxt K.1) K)).2).testBit p = _
            rw [Nat.testBit_or, hbit, Bool.false_or]
          simp only [m_isHeard q2 (show p < 6 by omega) igr.2.2.1, hb]
          rcases Nat.lt_or_ge j D with z | z
          · simp only [bitf j z, Bool.toNat_false, if0n, if_true, j_X11_need_69]
            refine ok_bind (m_back hM1 g q1) ?_
            rintro w3 ⟨s1, s2, s3, -⟩
            exact ok_some ⟨by rw [litI, nI_add], s2, s3, s1, .inl ⟨by omega, rfl⟩⟩
          · have jd : j = D := by omega
            subst jd
            simp only [d3 (by omega), Bool.toNat_true, if1n, j_X11_need_69]
            refine ok_bind (m_back hM1 g q1) ?_
            rintro w3 ⟨s1, s2, s3, -⟩
            exact ok_some ⟨by rw [litI, nI_add], s2, s3, s1, .inr ⟨by omega, trivial, rfl⟩⟩
        · omega
      · rintro ⟨y, x, w⟩ ⟨hx, hw1, hw2, hwR, hw3⟩
        simp only at hx hw1 hw2 hw3 hwR
        subst hx
        by_cases z : D < 99
        · rw [if_pos z] at hw3 ⊢
          rcases hw3 with ⟨z1, -⟩ | ⟨-, -, z3⟩
          · omega
          · subst z3
            simp (disch := omega) only [b_X11_need_40, litI, nI_leI]
            by_cases z4 : 100 ≤ D + 1 + 1
            · rw [if_pos z4]
              exact ok_some ⟨by rw [if_pos z], hwR⟩
            · rw [if_neg z4, if_pos (Nat.zero_le _)]
              exact ok_some ⟨by rw [if_pos z], hwR⟩
        · rw [if_neg z] at hw3 ⊢
          rcases hw3 with ⟨-, z2⟩ | ⟨z1, -⟩
          · subst z2
            simp (disch := omega) only [b_X11_need_40, litI, nI_leI, if_pos]
            exact ok_some ⟨by rw [if_neg z], hwR⟩
          · omega
      · rintro ⟨o, w⟩ ⟨w1, w2⟩
        exact ok_some ⟨w1, w2⟩
  · rw [e1]
    simp only [Option.bind_some, if0]
    rcases e2 with e2 | ⟨e2, e3⟩
    · rw [e2, if0]
      exact two_q _ h0 g (ok_some ⟨rfl, hC⟩) (ok_some ⟨rfl, hM1⟩)
    · rw [e2, if1, e3]
      simp only [Option.bind_some, ifgm]
      exact two_q _ h0 g (ok_some ⟨rfl, hC⟩) (ok_some ⟨rfl, hM1⟩)
