theorem gLn_at {R : pR} {G : pG} {i : Nat} {l : Nat × Nat} (h : gG R G) (hl : G[i]? = some l) : gLn R l := h.2 l (List.mem_of_getElem? hl)
theorem st_judged (n : Nat) : St_judged (RelN (n + 1)) (RelN n) := by
  intro uC uM h a
  obtain ⟨h0, t, R, G, S, K, B, M, g, hC, hM⟩ := RelN_mono n uC uM h
  have hM1 := RM_t (x := 0) hM g
  obtain ⟨-, gRr, -, gGG, -, gKK, gBB, -⟩ := id g
  have gq := gK_gQ gKK gRr
  have hGl := gGG.1
  unfold f_X10_judged f_X11_judged
  simp only [gm_letE]
  generalize sI uM 1 0 (0 : Int32) = u1 at *
  rcases wi_cases a 2 (by omega) with ⟨w, hw, rfl, e⟩ | ⟨e, e3⟩
  · have e' : f_X11_within (nI w) 0 2 = nI 1 := e
    rw [e', if1]
    obtain ⟨-, ⟨r, hr, hrC⟩, -⟩ := id hC
    obtain ⟨i1, i2, i3⟩ := isR_ok hr
    rw [i3] at i1 ⊢
    simp (disch := omega) only [litI, nI_ltI, nI_leI, if_neg, if_pos, i1, if_true]
    obtain ⟨v, ev, v1, v2⟩ := c_begin (c := 40) (r := r) hrC.1.2.1 (by omega)
    rw [ev]
    simp only [Option.bind_some]
    have hCv := RC_fr hC gBB.1 v2 crt_ir
    obtain ⟨x1, ex1, jx1, kx1, fx1⟩ := m_saveA hM1.2.2.2.2.1 gq
    have ex1' : f_X11_copies 29 22 (nI 0) 30 22 (nI 0) u1 = some x1 := ex1
    rw [ex1']
    simp only [Option.bind_some]
    obtain ⟨x2, ex2, kx2, fx2⟩ := m_fresh0 (jA_r jx1 hM1.2.1 gRr.1)
    rw [ex2]
    simp only [Option.bind_some]
    have jx2 := jA_s jx1 fx2
    have e32 : gI x2 3 2 = nI (rCandle R) := (fr_I jx2.2 (fun z => by rcases z with z | z | z | z | z <;> omega)).trans hM1.2.1.1.2.2.1
    rw [e32]
    have f49 : fr (fun a j => a = 1 ∧ j = 49) x2 (sI x2 1 49 (nI (rCandle R))) := fr_sI (fr_refl _ _) ⟨rfl, rfl⟩
    have jx3 : jA u1 (sI x2 1 49 (nI (rCandle R))) := ⟨fun j hj => (fr_I f49 (by omega)).trans (jx2.1 j hj), fr_trans jx2.2 (fr_mono f49 (fun a j z => .inr (.inl ⟨z.1, .inl z.2⟩)))⟩
    have kx3 : kM (sI x2 1 49 (nI (rCandle R))) 29 0 (rYear R, 0, 0, []) := kM_fr kx2 ⟨by simp, fun e he => (by cases he)⟩ f49 (fun j _ _ z => by omega)
    have c49 : gI (sI x2 1 49 (nI (rCandle R))) 1 49 = nI (rCandle R) := gI_eq rfl rfl
    generalize sI x2 1 49 (nI (rCandle R)) = x3 at *
    have gk0 : gK R 4000 (rYear R, 0, 0, []) := ⟨by have := gRr.2.1.2; show rYear R ≤ 4000; omega, by show 0 ≤ 60; omega, by show 0 < 64; omega, by simp, fun e he => (by cases he)⟩
    have two := lp_two0 (b := b_X10_judged_30 (nI w)) (b' := b_X11_judged_51 (nI w)) G.length
      (fun i x x' => ∃ (k : pK) (bad hat : Int32), x.1 = bad ∧ x.2.1 = hat ∧ x.2.2.1 = nI i ∧ x'.1 = bad ∧ x'.2.1 = hat ∧ x'.2.2.1 = nI i ∧ RC x.2.2.2 t R G S K B M ∧ kC x.2.2.2 40 k ∧ jA u1 x'.2.2.2 ∧ kM x'.2.2.2 29 0 k ∧ gI x'.2.2.2 1 49 = nI (rCandle R) ∧ gK R 4000 k ∧ k.1 ≤ 3000 + 8 * i ∧ (bad = -nI 1 ∨ ∃ z, z < 100 ∧ bad = nI z) ∧ ((k.2.2.1 = 0 ∧ hat = -nI 1) ∨ (k.2.2.1 ≠ 0 ∧ ∃ z, z < 100 ∧ hat = nI z)))
      (fun o o' => ∃ (k : pK) (bad hat : Int32), o.1 = bad ∧ o.2.1 = hat ∧ o'.1 = bad ∧ o'.2.1 = hat ∧ RC o.2.2 t R G S K B M ∧ kC o.2.2 40 k ∧ jA u1 o'.2.2 ∧ kM o'.2.2 29 0 k ∧ gK R 4000 k)
      (-nI 1, -nI 1, nI 0, v) (-nI 1, -nI 1, nI 0, x3) (by omega) ⟨(rYear R, 0, 0, []), -nI 1, -nI 1, rfl, rfl, rfl, rfl, rfl, rfl, hCv, v1, jx3, kx3, c49, gk0, gRr.2.1.2, .inl rfl, .inl ⟨rfl, rfl⟩⟩ ?_ ?_
    · obtain ⟨⟨o1, o2, vC⟩, ⟨o1', o2', vM⟩, eC, eM, k, bad, hat, q1, q2, q3, q4, q5, q6, q7, q8, q9⟩ := two
      simp only at q1 q2 q3 q4 q5 q6 q7 q8
      subst q1 q2 q3 q4
      rw [eC, eM]
      simp only [Option.bind_some]
      have eh : gI vC 40 2 = nI k.2.2.1 := q6.1.2.2.1
      have eh2 : gI vM 29 3 = nI k.2.2.1 := q8.1.2.2.2
      rw [eh, eh2, bits_n ⟨_, q9.2.2.1⟩]
      simp only [Option.bind_some]
      obtain ⟨y, ey, hy⟩ := m_backA hM1 g q7
      have ey' : f_X11_copies 30 22 (nI 0) 29 22 (nI 0) vM = some y := ey
      rw [ey']
      simp only [Option.bind_some]
      rcases (by omega : w = 0 ∨ w = 1 ∨ w = 2) with rfl | rfl | rfl <;> simp (disch := omega) only [nI_eq, if_pos, if_neg] <;> exact two_q _ h0 g (ok_some ⟨rfl, q5⟩) (ok_some ⟨rfl, hy⟩)
    · rintro i ⟨b1, b2, b3, vC⟩ ⟨m1, m2, m3, vM⟩ hi ⟨k, bad, hat, p1, p2, p3, p4, p5, p6, hCC, kC1, jM1, kM1, c491, gk, hyk, hbad, hhat⟩
      simp only at p1 p2 p3 p4 p5 p6 hCC kC1 jM1 kM1 c491
      subst p1 p2 p3 p4 p5 p6
      obtain ⟨l, hl⟩ : ∃ l, G[i]? = some l := ⟨_, List.getElem?_eq_getElem hi⟩
      have hln := gLn_at gGG hl
      obtain ⟨-, -, ⟨gg, hgg, hgC⟩, -⟩ := id hCC
      obtain ⟨j1, j2, j3⟩ := isG_ok hgg
      obtain ⟨a1, a2⟩ := hgC.2 i l hl
      have e23 : gI vM 23 0 = nI G.length := (fr_I jM1.2 (fun z => by rcases z with z | z | z | z | z <;> omega)).trans hM1.2.2.1.1
      have mg := hM1.2.2.1.2 i l hl
      simp only [Nat.mul_zero, Nat.zero_add] at mg
      have e24 : gI vM 24 i = nI l.1 := (fr_I jM1.2 (fun z => by rcases z with z | z | z | z | z <;> omega)).trans mg.1
      have e25 : l.1 < 3 → gI vM 25 i = nI l.2 := fun z => (fr_I jM1.2 (fun z => by rcases z with z | z | z | z | z <;> omega)).trans (mg.2 z)
      obtain ⟨⟨f1, f2⟩, ef, ff1, ff2, ff3⟩ := c_follow (part := gI vC (gg + 2) i) hCC g kC1 gk (by omega) (by omega) hln a2
      obtain ⟨⟨d1, d2⟩, ed, dd1, dd2, dd3, dd4⟩ := m_goes jM1 hM1.2.1 gRr kM1 gk (by omega) (by omega) c491 hM1.2.2.2.2.2.2.2 (by omega) hln e24 e25
      simp only at ff1 ff2 ff3 dd1 dd2 dd3 dd4
      subst ff1 dd1
      obtain ⟨gk', hyk', ⟨d, hd⟩⟩ := gK_go gk gRr (by omega) hln
      have eh : gI f2 40 2 = nI (goK R k l).2.2.2.1 := ff3.1.2.2.1
      have eh2 : gI d2 29 3 = nI (goK R k l).2.2.2.1 := dd3.1.2.2.2
      have ew : gI vM 29 3 = nI k.2.2.1 := kM1.1.2.2.2
      have h64 := gk.2.2.1
      have h64' := gk'.2.2.1
      left
      rw [b_X10_judged_30, b_X11_judged_51]
      simp only
      rw [j3] at j1 ⊢
      simp (disch := omega) only [j1, if_true, hgC.1, nI_leI, if_neg, f_X6_actOf, f_X6_partOf, litI, nI_ltI, ib_nI, ix_nI, if_pos, Option.bind_some, a1, ef, e23, gm_let, ed, ew]
      generalize hk' : (goK R k l).2 = k' at *
      generalize hb' : (goK R k l).1 = b' at *
      have nb : ∃ m1' : Int32, (m1' = -nI 1 ∨ ∃ z, z < 100 ∧ m1' = nI z) ∧ (if nI b'.toNat = nI 0 then if m1 = -nI 1 then j_X10_judged_79 (nI w) (nI i) m2 (nI i) f2 else j_X10_judged_79 (nI w) m1 m2 (nI i) f2 else j_X10_judged_79 (nI w) m1 m2 (nI i) f2) = j_X10_judged_79 (nI w) m1' m2 (nI i) f2 ∧ (if nI b'.toNat = nI 0 then if nI 0 ≤ m1 then j_X11_judged_86 (nI w) m1 m2 (nI i) (nI k.2.2.1) d2 else j_X11_judged_86 (nI w) (nI i) m2 (nI i) (nI k.2.2.1) d2 else j_X11_judged_86 (nI w) m1 m2 (nI i) (nI k.2.2.1) d2) = j_X11_judged_86 (nI w) m1' m2 (nI i) (nI k.2.2.1) d2 := by
        cases b' with
        | true => exact ⟨m1, hbad, by simp only [Bool.toNat_true, if1n], by simp only [Bool.toNat_true, if1n]⟩
        | false =>
          simp only [Bool.toNat_false, if0n, if_true]
          rcases hbad with rfl | ⟨z, z1, rfl⟩
          · exact ⟨nI i, .inr ⟨i, by omega, rfl⟩, if_pos rfl, if_neg (show ¬ nI 0 ≤ -nI 1 by decide)⟩
          · exact ⟨nI z, .inr ⟨z, z1, rfl⟩, if_neg (fun w => (nI_eqm (by omega)).mp w), if_pos (nI_pos' (by omega))⟩
      obtain ⟨m1', hbad', eb1, eb2⟩ := nb
      rw [eb1, eb2]
      simp (disch := omega) only [j_X10_judged_79, j_X11_judged_86, litI, eh, eh2, nI_eq]
      rcases hhat with ⟨z1, rfl⟩ | ⟨z1, z, z2, rfl⟩
      · rw [z1]
        by_cases q : k'.2.2.1 = 0
        · rw [if_pos q, if_pos q]
          exact ⟨_, _, rfl, rfl, k', m1', -nI 1, rfl, rfl, nI_add _ _, rfl, rfl, nI_add _ _, ff2, ff3, dd2, dd3, dd4, gk', by omega, hbad', .inl ⟨q, rfl⟩⟩
        · rw [if_neg q, if_neg q, if_neg (show ¬ nI 0 ≤ -nI 1 by decide)]
          simp only [if_true]
          exact ⟨_, _, rfl, rfl, k', m1', nI i, rfl, rfl, nI_add _ _, rfl, rfl, nI_add _ _, ff2, ff3, dd2, dd3, dd4, gk', by omega, hbad', .inr ⟨q, i, by omega, rfl⟩⟩
      · have q : k'.2.2.1 ≠ 0 := fun w => by
          rw [hd] at w
          exact z1 (Nat.or_eq_zero_iff.mp w).1
        rw [if_neg q]
        simp (disch := omega) only [nI_eqm, if_false, nI_leI, if_pos]
        by_cases q2 : k'.2.2.1 = k.2.2.1
        · rw [if_pos q2]
          exact ⟨_, _, rfl, rfl, k', m1', nI z, rfl, rfl, nI_add _ _, rfl, rfl, nI_add _ _, ff2, ff3, dd2, dd3, dd4, gk', by omega, hbad', .inr ⟨q, z, z2, rfl⟩⟩
        · rw [if_neg q2]
          exact ⟨_, _, rfl, rfl, k', m1', nI z, rfl, rfl, nI_add _ _, rfl, rfl, nI_add _ _, ff2, ff3, dd2, dd3, dd4, gk', by omega, hbad', .inr ⟨q, z, z2, rfl⟩⟩
    · rintro ⟨b1, b2, b3, vC⟩ ⟨m1, m2, m3, vM⟩ ⟨k, bad, hat, p1, p2, p3, p4, p5, p6, hCC, kC1, jM1, kM1, c491, gk, hyk, hbad, hhat⟩
      simp only at p1 p2 p3 p4 p5 p6 hCC kC1 jM1 kM1 c491
      subst p1 p2 p3 p4 p5 p6
      obtain ⟨-, -, ⟨gg, hgg, hgC⟩, -⟩ := id hCC
      obtain ⟨j1, j2, j3⟩ := isG_ok hgg
      have e23 : gI vM 23 0 = nI G.length := (fr_I jM1.2 (fun z => by rcases z with z | z | z | z | z <;> omega)).trans hM1.2.2.1.1
      rw [b_X10_judged_30, b_X11_judged_51]
      simp only
      rw [j3] at j1 ⊢
      simp (disch := omega) only [j1, if_true, hgC.1, nI_leI, if_pos, e23]
      exact ⟨_, _, rfl, rfl, k, m1, m2, rfl, rfl, rfl, rfl, hCC, kC1, jM1, kM1, gk⟩
  · have e' : f_X11_within a 0 2 = nI 0 := e
    rw [e', if0]
    refine two_q (-2) h0 g ?_ (ok_some ⟨rfl, hM1⟩)
    rcases nI_cases a 3 (by omega) with ⟨j, hj, rfl⟩ | w | ⟨j, hj, hj2, rfl⟩
    · exact absurd rfl (e3 j (by omega))
    · rw [if_pos (show a < (0 : Int32) from w)]
      exact ok_some ⟨rfl, hC⟩
    · rw [if_neg (show ¬ nI j < (0 : Int32) from nI_pos hj2), if_neg (show ¬ nI j ≤ (2 : Int32) from fun z => by rw [show (2 : Int32) = nI 2 from rfl, nI_leI hj2 (by omega)] at z; omega)]
      exact ok_some ⟨rfl, hC⟩
