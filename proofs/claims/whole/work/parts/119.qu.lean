/-! when, audience, burnt, crowd, need, julian, stale -/
theorem c_foresee {u : gm_M} {n i : Nat} {t : List Nat} {R : pR} {G : pG} {S : pS} {K : pK} {B : List pK} {M : pMk} (hC : RC u t R G S K B M) (g : gA n t R G S K B M) (h1 : 1 ≤ i) (h2 : i ≤ 12) :
    ok (f_X10_foreseeDay (nI i) u) (fun o => o.1 = nI 1 ∧ RC o.2 t R G S K B M ∧ gI o.2 35 2 = nI (killK R (nxt (itR R K (i - 1)).1) (itR R K (i - 1))).2.2.2.length ∧ gI o.2 35 3 = nI (dayH R (rCandle R) (killK R (nxt (itR R K (i - 1)).1) (itR R K (i - 1)))).2 ∧ gI o.2 35 4 = nI (rCandle R + (itR R K (i - 1)).2.1 - (dayH R (rCandle R) (killK R (nxt (itR R K (i - 1)).1) (itR R K (i - 1)))).1)) := by
  obtain ⟨-, gRr, -, -, -, gKK, gBB, -⟩ := id g
  have gq := gK_gQ gKK gRr
  have h40 := gRr.2.2.1.2
  have hyn := Yn_lt n
  have gK2 := gK_up (Z := 8000) gKK (by omega)
  have hk1 := gKK.1
  simp (disch := omega) only [f_X10_foreseeDay, litI, nI_ltI, nI_leI, if_neg, if_pos]
  refine ok_bind (c_copy (c := 40) (d := 27) hC.2.2.2.2.1 gq (by omega)) ?_
  rintro v ⟨v1, v2⟩
  have hCv := RC_fr hC gBB.1 v2 crt_ir
  refine ok_bind (Q := fun v => RC v t R G S K B M ∧ gI v 35 2 = nI (killK R (nxt (itR R K (i - 1)).1) (itR R K (i - 1))).2.2.2.length ∧ gI v 35 3 = nI (dayH R (rCandle R) (killK R (nxt (itR R K (i - 1)).1) (itR R K (i - 1)))).2 ∧ gI v 35 4 = nI (rCandle R + (itR R K (i - 1)).2.1 - (dayH R (rCandle R) (killK R (nxt (itR R K (i - 1)).1) (itR R K (i - 1)))).1))
    (lp_ok i (fun m x => x.1 = nI (m + 1) ∧ RC x.2 t R G S K B M ∧ kC x.2 40 (itR R K m) ∧ (m = 0 ∨ (gI x.2 35 2 = nI (killK R (nxt (itR R K (m - 1)).1) (itR R K (m - 1))).2.2.2.length ∧ gI x.2 35 3 = nI (dayH R (rCandle R) (killK R (nxt (itR R K (m - 1)).1) (itR R K (m - 1)))).2 ∧ gI x.2 35 4 = nI (rCandle R + (itR R K (m - 1)).2.1 - (dayH R (rCandle R) (killK R (nxt (itR R K (m - 1)).1) (itR R K (m - 1)))).1)))) (by omega) ⟨rfl, hCv, v1, .inl rfl⟩ ?_ ?_) ?_
  · rintro m ⟨x, w⟩ hm ⟨hx, hw1, hw2, hw3⟩
    simp only at hx hw1 hw2 hw3
    subst hx
    obtain ⟨-, ⟨r, hr, hrC⟩, -⟩ := id hw1
    obtain ⟨i1, i2, i3⟩ := isR_ok hr
    have iy := itR_y R K m
    have ig := itR_g gK2 gRr m (by omega)
    rw [b_X10_foreseeDay_26]
    simp only
    rw [i3] at i1 ⊢
    simp (disch := omega) only [nI_ltI, if_neg, i1, if_true, hrC.1.2.2.1]
    refine ok_bind (c_passToDay hrC gRr hw2 ig i2 (.inr rfl) (by omega) (by omega) (by omega)) ?_
    rintro ⟨o, w2⟩ ⟨z1, z2, z3, z4, z5, z6⟩
    exact ok_some ⟨by rw [litI, nI_add], RC_fr hw1 gBB.1 z1 (dayP_ir i2), z3, .inr ⟨z4, z5, z6⟩⟩
  · rintro ⟨x, w⟩ ⟨hx, hw1, hw2, hw3⟩
    simp only at hx hw1 hw2 hw3
    subst hx
    rw [b_X10_foreseeDay_26]
    simp (disch := omega) only [nI_ltI, if_pos]
    rcases hw3 with z | z
    · omega
    · exact ok_some ⟨hw1, z⟩
  · rintro w ⟨w1, w2⟩
    exact ok_some ⟨rfl, w1, w2⟩
theorem m_cand {u1 : gm_M} {n : Nat} {t : List Nat} {R : pR} {G : pG} {S : pS} {K : pK} {B : List pK} {M : pMk} (hM : RM u1 t R G S K B M) (g : gA n t R G S K B M) : RM (sI u1 1 49 (gI u1 3 2)) t R G S K B M ∧ gI (sI u1 1 49 (gI u1 3 2)) 1 49 = nI (rCandle R) :=
  ⟨RM_q hM g (P := fun a j => a = 1 ∧ j = 49) (fr_sI (fr_refl _ _) ⟨rfl, rfl⟩) (fun a j z => .inl (.inl ⟨z.1, by omega, by omega, by omega⟩)) (fun j hj => gI_ne (by omega)), (gI_eq rfl rfl).trans hM.2.1.1.2.2.1⟩
/-- a ride within the bracket -/
theorem j_ride {u v : gm_M} {R : pR} {k : pK} {C Y : Nat} (j : jM u v) (hr : rM u R) (hg : gR1 R) (hk : kM v 29 0 k) (hgk : gK R Y k) (hy : k.1 + 8 ≤ Y) (hY : Y < 2 ^ 30) (hC : C ≤ 900) (hcan : gI v 1 49 = nI C) (hold : gI u 1 46 = nI 0) :
    ok (f_X11_rides v) (fun w => jM u w ∧ kM w 29 0 (rideK R C k) ∧ gI w 1 49 = nI C ∧ gI w 1 50 = nI (killK R (nxt k.1) k).2.2.2.length ∧ gI w 1 51 = nI (C + k.2.1 - (dayH R C (killK R (nxt k.1) k)).1)) := by
  refine ok_mono (m_rides (jM_r j hr hg.1) hg hk hgk hy hY hC hcan ((jM_46 j).trans hold)) ?_
  rintro w ⟨w1, w2, w3, w4⟩
  exact ⟨jM_step j w1, w2, (fr_I w1 (fun z => by rcases z with z | z | z | z <;> omega)).trans hcan, w3, w4⟩
theorem j_pass {u v : gm_M} {R : pR} {k : pK} {C Y : Nat} {old : Bool} (j : jM u v) (hr : rM u R) (hg : gR1 R) (hk : kM v 29 0 k) (hgk : gK R Y k) (hy : k.1 + 1 ≤ Y) (hY : Y < 2 ^ 30) (hC : C ≤ 900) (hcan : gI v 1 49 = nI C) (hold : gI u 1 46 = nI old.toNat) :
    ok (f_X11_passes v) (fun o => jM u o.2 ∧ kM o.2 29 0 (passK R old C k) ∧ gI o.2 1 49 = nI C) := by
  refine ok_mono (m_pass (jM_r j hr hg.1) hg hk hgk hy hY hC hcan ((jM_46 j).trans hold)) ?_
  rintro w ⟨w1, w2⟩
  exact ⟨jM_step j w1, w2, (fr_I w1 (fun z => by rcases z with z | z | z | z <;> omega)).trans hcan⟩
theorem m_holds {u : gm_M} {n i : Nat} {t : List Nat} {R : pR} {G : pG} {S : pS} {K : pK} {B : List pK} {M : pMk} (hM : RM u t R G S K B M) (g : gA n t R G S K B M) (h1 : 1 ≤ i) (h2 : i ≤ 12) :
    ok (f_X11_holds (nI i) u) (fun v => RM v t R G S K B M ∧ gI v 1 50 = nI (killK R (nxt (itR R K (i - 1)).1) (itR R K (i - 1))).2.2.2.length ∧ gI v 1 51 = nI (rCandle R + (itR R K (i - 1)).2.1 - (dayH R (rCandle R) (killK R (nxt (itR R K (i - 1)).1) (itR R K (i - 1)))).1)) := by
  obtain ⟨-, gRr, -, -, -, gKK, gBB, -⟩ := id g
  have gq := gK_gQ gKK gRr
  have h40 := gRr.2.2.1.2
  have hyn := Yn_lt n
  have gK2 := gK_up (Z := 8000) gKK (by omega)
  have hk1 := gKK.1
  obtain ⟨hM2, c49⟩ := m_cand hM g
  simp only [f_X11_holds, gm_letE]
  generalize sI u 1 49 (gI u 3 2) = u2 at *
  refine ok_bind (m_save hM2.2.2.2.2.1 gq) ?_
  rintro v ⟨v1, v2, v3⟩
  refine ok_bind (Q := fun v => jM u2 v ∧ gI v 1 50 = nI (killK R (nxt (itR R K (i - 1)).1) (itR R K (i - 1))).2.2.2.length ∧ gI v 1 51 = nI (rCandle R + (itR R K (i - 1)).2.1 - (dayH R (rCandle R) (killK R (nxt (itR R K (i - 1)).1) (itR R K (i - 1)))).1))
    (lp_ok i (fun m x => x.1 = nI m ∧ jM u2 x.2 ∧ kM x.2 29 0 (itR R K m) ∧ gI x.2 1 49 = nI (rCandle R) ∧ (m = 0 ∨ (gI x.2 1 50 = nI (killK R (nxt (itR R K (m - 1)).1) (itR R K (m - 1))).2.2.2.length ∧ gI x.2 1 51 = nI (rCandle R + (itR R K (m - 1)).2.1 - (dayH R (rCandle R) (killK R (nxt (itR R K (m - 1)).1) (itR R K (m - 1)))).1)))) (by omega) ⟨rfl, v1, v2, (fr_I v3 (by omega)).trans c49, .inl rfl⟩ ?_ ?_) ?_
  · rintro m ⟨x, w⟩ hm ⟨hx, hw1, hw2, hw3, hw4⟩
    simp only at hx hw1 hw2 hw3 hw4
    subst hx
    have iy := itR_y R K m
    have ig := itR_g gK2 gRr m (by omega)
    simp (disch := omega) only [b_X11_holds_25, litI, nI_leI, if_neg]
    refine ok_bind (j_ride hw1 hM2.2.1 gRr hw2 ig (by omega) (by omega) (by omega) hw3 hM2.2.2.2.2.2.2.2) ?_
    rintro w2 ⟨z1, z2, z3, z4, z5⟩
    exact ok_some ⟨by rw [nI_add], z1, z2, z3, .inr ⟨z4, z5⟩⟩
  · rintro ⟨x, w⟩ ⟨hx, hw1, hw2, hw3, hw4⟩
    simp only at hx hw1 hw2 hw3 hw4
    subst hx
    simp (disch := omega) only [b_X11_holds_25, litI, nI_leI, if_pos]
    rcases hw4 with z | z
    · omega
    · exact ok_some ⟨hw1, z⟩
  · rintro w ⟨w1, w2, w3⟩
    refine ok_bind (m_back hM2 g w1) ?_
    rintro w2' ⟨z1, -, -, z4⟩
    exact ok_some ⟨z1, by rw [z4]; exact w2, by rw [z4]; exact w3⟩
theorem c_foresee0 {u : gm_M} {a : Int32} (h : a < nI 1 ∨ (¬ a < nI 1 ∧ ¬ a ≤ nI 12)) : f_X10_foreseeDay a u = some (nI 0, u) := by
  simp only [f_X10_foreseeDay, litI]
  rcases h with h | ⟨h1, h2⟩
  · rw [if_pos h]
  · rw [if_neg h1, if_neg h2]
theorem st_burnt (n : Nat) : St_burnt (RelN (n + 1)) (RelN n) := by
  intro uC uM h a
  obtain ⟨h0, t, R, G, S, K, B, M, g, hC, hM⟩ := RelN_mono n uC uM h
  have hM1 := RM_t (x := 0) hM g
  unfold f_X10_burnt f_X11_burnt
  simp only [gm_letE]
  generalize sI uM 1 0 (0 : Int32) = u1 at *
  simp only [litI]
  rcases wi1 a 12 (by omega) (by omega) with ⟨m, m1, m2, rfl, e⟩ | ⟨e, e2⟩
  · rw [e, if1n]
    refine two_q (nI (rCandle R + (itR R K (m - 1)).2.1 - (dayH R (rCandle R) (killK R (nxt (itR R K (m - 1)).1) (itR R K (m - 1)))).1)) h0 g (ok_bind (c_foresee hC g m1 m2) ?_) (ok_bind (m_holds hM1 g m1 m2) ?_)
    · rintro ⟨o, v⟩ ⟨z1, z2, z3, z4, z5⟩
      simp only at z1
      subst z1
      simp only [if1n]
      exact ok_some ⟨z5, z2⟩
    · rintro v ⟨z1, z2, z3⟩
      exact ok_some ⟨z3, z1⟩
  · rw [e, if0n, c_foresee0 e2]
    simp only [Option.bind_some, if0n]
    exact two_q _ h0 g (ok_some ⟨rfl, hC⟩) (ok_some ⟨rfl, hM1⟩)
theorem st_crowd (n : Nat) : St_crowd (RelN (n + 1)) (RelN n) := by
  intro uC uM h a
  obtain ⟨h0, t, R, G, S, K, B, M, g, hC, hM⟩ := RelN_mono n uC uM h
  have hM1 := RM_t (x := 0) hM g
  unfold f_X10_crowd f_X11_crowd
  simp only [gm_letE]
  generalize sI uM 1 0 (0 : Int32) = u1 at *
  simp only [litI]
  rcases wi1 a 12 (by omega) (by omega) with ⟨m, m1, m2, rfl, e⟩ | ⟨e, e2⟩
  · rw [e, if1n]
    refine two_q (nI (killK R (nxt (itR R K (m - 1)).1) (itR R K (m - 1))).2.2.2.length) h0 g (ok_bind (c_foresee hC g m1 m2) ?_) (ok_bind (m_holds hM1 g m1 m2) ?_)
    · rintro ⟨o, v⟩ ⟨z1, z2, z3, z4, z5⟩
      simp only at z1
      subst z1
      simp only [if1n]
      exact ok_some ⟨z3, z2⟩
    · rintro v ⟨z1, z2, z3⟩
      exact ok_some ⟨z2, z1⟩
  · rw [e, if0n, c_foresee0 e2]
    simp only [Option.bind_some, if0n]
    exact two_q _ h0 g (ok_some ⟨rfl, hC⟩) (ok_some ⟨rfl, hM1⟩)
theorem st_audience (n : Nat) : St_audience (RelN (n + 1)) (RelN n) := by
  intro uC uM h a
  obtain ⟨h0, t, R, G, S, K, B, M, g, hC, hM⟩ := RelN_mono n uC uM h
  have hM1 := RM_t (x := 0) hM g
  obtain ⟨-, gRr, -, -, -, gKK, gBB, -⟩ := id g
  have gq := gK_gQ gKK gRr
  have h40 := gRr.2.2.1.2
  have hyn := Yn_lt n
  have gK2 := gK_up (Z := 8000) gKK (by omega)
  have hk1 := gKK.1
  unfold f_X10_audience f_X11_audience
  simp only [gm_letE]
  generalize sI uM 1 0 (0 : Int32) = u1 at *
  obtain ⟨hM2, c49⟩ := m_cand hM1 g
  generalize sI u1 1 49 (gI u1 3 2) = u2 at *
  rcases wi1 a 12 (by omega) (by omega) with ⟨i, m1, m2, rfl, e⟩ | ⟨e, e2⟩
  · have e' : f_X11_within (nI i) 1 12 = nI 1 := e
    rw [e', if1]
    refine two_q (nI (dayH R (rCandle R) (killK R (nxt (itR R K (i - 1)).1) (itR R K (i - 1)))).2) h0 g (ok_bind (c_foresee hC g m1 m2) ?_) (ok_bind (m_save hM2.2.2.2.2.1 gq) ?_)
    · rintro ⟨o, v⟩ ⟨z1, z2, z3, z4, z5⟩
      simp only at z1
      subst z1
      simp only [if1]
      exact ok_some ⟨z4, z2⟩
    · rintro v ⟨v1, v2, v3⟩
      refine ok_bind (Q := fun o => jM u2 o.2 ∧ kM o.2 29 0 (itR R K i) ∧ o.1 = nI (itR R K (i - 1)).2.2.1)
        (lp_ok i (fun m x => x.2.1 = nI m ∧ jM u2 x.2.2 ∧ kM x.2.2 29 0 (itR R K m) ∧ gI x.2.2 1 49 = nI (rCandle R) ∧ (m = 0 ∨ x.1 = nI (itR R K (m - 1)).2.2.1)) (by omega) ⟨rfl, v1, v2, (fr_I v3 (by omega)).trans c49, .inl rfl⟩ ?_ ?_) ?_
      · rintro m ⟨y, x, w⟩ hm ⟨hx, hw1, hw2, hw3, hw4⟩
        simp only at hx hw1 hw2 hw3 hw4
        subst hx
        have iy := itR_y R K m
        have ig := itR_g gK2 gRr m (by omega)
        have e3 : gI w 29 3 = nI (itR R K m).2.2.1 := hw2.1.2.2.2
        simp (disch := omega) only [b_X11_audience_44, litI, nI_leI, if_neg, gm_let, e3]
        refine ok_bind (j_ride hw1 hM2.2.1 gRr hw2 ig (by omega) (by omega) (by omega) hw3 hM2.2.2.2.2.2.2.2) ?_
        rintro w2 ⟨z1, z2, z3, z4, z5⟩
        exact ok_some ⟨by rw [nI_add], z1, z2, z3, .inr rfl⟩
      · rintro ⟨y, x, w⟩ ⟨hx, hw1, hw2, hw3, hw4⟩
        simp only at hx hw1 hw2 hw3 hw4
        subst hx
        simp (disch := omega) only [b_X11_audience_44, litI, nI_leI, if_pos]
        rcases hw4 with z | z
        · omega
        · exact ok_some ⟨hw1, hw2, z⟩
      · rintro ⟨o, w⟩ ⟨w1, w2, w3⟩
        simp only at w1 w2 w3
        subst w3
        obtain ⟨i', rfl⟩ : ∃ i', i = i' + 1 := ⟨i - 1, by omega⟩
        have iy := itR_y R K i'
        have ig := itR_g gK2 gRr i' (by omega)
        have g8 := gap_le (itR R K i').1
        have ig2 := gK_kill (R := R) (y := nxt (itR R K i').1) ig (by unfold nxt; omega)
        have e3 : gI w 29 3 = nI ((itR R K i').2.2.1 ||| (dayH R (rCandle R) (killK R (nxt (itR R K i').1) (itR R K i'))).2) := w2.1.2.2.2
        have hd2 : ((itR R K i').2.2.1 ||| (dayH R (rCandle R) (killK R (nxt (itR R K i').1) (itR R K i'))).2) &&& (63 - (itR R K i').2.2.1) = (dayH R (rCandle R) (killK R (nxt (itR R K i').1) (itR R K i'))).2 := dayH_dis ig2 gRr
        simp only [Nat.add_sub_cancel] at *
        rw [e3, show (-1 : Int32) = -nI 1 from rfl, nI_andx (or_lt ig.2.2.1 (dayH_lt ig2 gRr)) ig.2.2.1, hd2]
        refine ok_bind (m_back hM2 g w1) ?_
        rintro w2' ⟨z1, -⟩
        exact ok_some ⟨rfl, z1⟩
  · have e' : f_X11_within a 1 12 = nI 0 := e
    rw [e', if0, c_foresee0 e2]
    simp only [Option.bind_some, if0]
    exact two_q _ h0 g (ok_some ⟨rfl, hC⟩) (ok_some ⟨rfl, hM1⟩)
