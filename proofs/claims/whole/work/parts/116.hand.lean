/-! come, leave, lamp, waits, ride, undo -/
theorem two_ok {x y : Option (Int32 × gm_M)} {Rel : gm_M → gm_M → Prop} (r : Int32) (PC PM : gm_M → Prop) (hx : ok x (fun o => o.1 = r ∧ PC o.2)) (hy : ok y (fun o => o.1 = r ∧ PM o.2)) (h : ∀ a b, PC a → PM b → Rel a b) : ∃ (r : Int32) (uC' uM' : gm_M), x = some (r, uC') ∧ y = some (r, uM') ∧ Rel uC' uM' := by
  obtain ⟨⟨r1, a⟩, e1, rfl, h1⟩ := hx
  obtain ⟨⟨r2, b⟩, e2, z, h2⟩ := hy
  simp only at z
  subst z
  exact ⟨_, a, b, e1, e2, h a b h1 h2⟩
theorem bt_andx : ∀ a b : Fin 64, nI a.1 &&& (nI b.1 ^^^ -nI 1) = nI (a.1 &&& (63 - b.1)) := by decide +kernel
theorem nI_andx {a b : Nat} (ha : a < 64) (hb : b < 64) : nI a &&& (nI b ^^^ -nI 1) = nI (a &&& (63 - b)) := bt_andx ⟨a, ha⟩ ⟨b, hb⟩
theorem bt_dis : ∀ h d : Fin 64, h.1 &&& d.1 = 0 → (h.1 ||| d.1) &&& (63 - h.1) = d.1 := by decide +kernel
theorem dayH_dis {R : pR} {C Y : Nat} {k : pK} (h : gK R Y k) (hg : gR1 R) : (k.2.2.1 ||| (dayH R C k).2) &&& (63 - k.2.2.1) = (dayH R C k).2 := by
  refine bt_dis ⟨k.2.2.1, h.2.2.1⟩ ⟨_, dayH_lt h hg⟩ ?_
  apply Nat.eq_of_testBit_eq
  intro i
  rw [Nat.testBit_and, Nat.zero_testBit]
  cases q : (dayH R C k).2.testBit i
  · rw [Bool.and_false]
  · rcases (hearL_mem R i (callL R k.1 k.2.2.2) (C + k.2.1) false 0).1 q with w | ⟨e, he, rfl⟩
    · rw [Nat.zero_testBit] at w; cases w
    · rw [(h.2.2.2.2 e (callL_mem he)).2]; rfl
theorem gK_enter {R : pR} {Y p : Nat} {k : pK} (h : gK R Y k) (hp : p < rN R) (hc : canE R k p = true) : gK R Y (k.1, k.2.1, k.2.2.1, k.2.2.2 ++ [(p, k.1, 0)]) ∧ ∀ e ∈ k.2.2.2, e.1 ≠ p := by
  obtain ⟨h1, h2, h3, h4, h5⟩ := h
  simp only [canE, Bool.and_eq_true, Bool.not_eq_true', List.all_eq_true, bne_iff_ne, ne_eq] at hc
  obtain ⟨⟨⟨c1, c2⟩, c3⟩, c4⟩ := hc
  refine ⟨⟨h1, h2, h3, ?_, fun e he => ?_⟩, c1⟩
  · simp only [List.map_append, List.map_cons, List.map_nil]
    rw [List.nodup_append]
    refine ⟨h4, by simp, fun a ha b hb => ?_⟩
    obtain ⟨e, he, rfl⟩ := List.mem_map.mp ha
    rw [List.mem_singleton.mp hb]
    exact c1 e he
  · rcases List.mem_append.mp he with z | z
    · exact h5 e z
    · rw [List.mem_singleton.mp z]; exact ⟨hp, c2⟩
theorem gK_out {R : pR} {Y : Nat} {k : pK} (h : gK R Y k) (f : pQ → Bool) : gK R Y (k.1, k.2.1, k.2.2.1, k.2.2.2.filter f) := ⟨h.1, h.2.1, h.2.2.1, h.2.2.2.1.sublist (List.Sublist.map _ List.filter_sublist), fun e he => h.2.2.2.2 e (List.mem_filter.mp he).1⟩
theorem gK_lamp {R : pR} {Y l : Nat} {k : pK} (h : gK R Y k) (hl : l ≤ 60) : gK R Y (k.1, l, k.2.2.1, k.2.2.2) := ⟨h.1, hl, h.2.2⟩
theorem gA_upd {n : Nat} {t : List Nat} {R : pR} {G : pG} {S : pS} {K K' : pK} {B B' : List pK} {M : pMk} (g : gA n t R G S K B M) (hK : gK R (Yn n) K') (hB : gB R (Yn n) B') : gA n t R G S K' B' M := ⟨g.1, g.2.1, g.2.2.1, g.2.2.2.1, g.2.2.2.2.1, hK, hB, g.2.2.2.2.2.2.2⟩
theorem Yn30 (n : Nat) : Yn n < 2 ^ 30 := by
  have := Yn_lt n
  omega
def kpP : Nat → Nat → Prop := fun a j => (a = 33 ∧ j < 352) ∨ (a = 1 ∧ (j = 45 ∨ j = 49))
theorem kpP_ok (a j : Nat) (z : kpP a j) : irM a j ∨ (a = 29 ∧ j < 22) ∨ (a = 33 ∧ j < 352) ∨ (a = 1 ∧ j = 45) := by
  rcases z with z | ⟨z, w | w⟩
  · exact .inr (.inr (.inl z))
  · exact .inr (.inr (.inr ⟨z, w⟩))
  · exact .inl (.inl ⟨z, by omega, by omega, by omega⟩)
theorem hdP_ok (a j : Nat) (z : hdP a j) : irM a j ∨ (a = 29 ∧ j < 22) ∨ (a = 33 ∧ j < 352) ∨ (a = 1 ∧ j = 45) := by
  rcases z with z | z | z | z
  · exact .inr (.inl z)
  · exact .inl (.inl ⟨z.1, by omega, by omega, by omega⟩)
  · exact .inl (.inr (.inl ⟨by omega, by omega⟩))
  · exact .inl (.inr (.inr (.inr (.inr (.inl (by omega))))))
theorem st_come (n : Nat) : St_come (RelN (n + 1)) (RelN n) := by
  intro uC uM h a
  have hq := relQ (x := 0) h
  obtain ⟨h0, t, R, G, S, K, B, M, g, hC, hM⟩ := RelN_mono n uC uM h
  have hM1 := RM_t (x := 0) hM g
  obtain ⟨hT, ⟨r, hr, hrC⟩, -, -, hkC, hpC, -⟩ := id hC
  obtain ⟨i1, i2, i3⟩ := isR_ok hr
  have hw := who g hrC hM a
  obtain ⟨-, gR, -, -, -, gKK, gBB, -⟩ := id g
  have gq := gK_gQ gKK gR
  have g1 := gR.1
  have hy : K.1 < 2 ^ 30 := Nat.lt_of_le_of_lt gKK.1 (Yn30 n)
  unfold f_X10_come f_X11_come
  simp only [gm_letE]
  generalize sI uM 1 0 (0 : Int32) = u1 at *
  obtain ⟨mT, mR, mG, mS, mK, mP, mMk, m46⟩ := id hM1
  rw [i3] at i1 ⊢
  simp only [i1, if_true]
  obtain ⟨o, eo, co⟩ := c_mayEnter hrC gR hkC gq hy gKK.2.2.1 a
  rw [eo]
  simp only [Option.bind_some]
  rcases hw with ⟨p, hp, rfl, e1, e2⟩ | ⟨hp, e1, e2⟩
  · have co2 : o = nI (canE R K p).toNat := by
      rcases co with ⟨p', hp', w, z⟩ | ⟨w, -⟩
      · have : p' = p := by rw [nI_eq (by omega) (by omega)] at w; omega
        rw [z, this]
      · exact absurd rfl (w p hp)
    rw [e2, if1, m_canCome mR gR mK gq hp hy gKK.2.2.1, co2]
    simp only [Option.bind_some]
    cases q : canE R K p
    · simp only [Bool.toNat_false, if0]
      exact ⟨_, _, _, rfl, rfl, hq⟩
    · simp only [Bool.toNat_true, if1]
      obtain ⟨gE, nE⟩ := gK_enter gKK hp q
      have gqE := gK_gQ gE gR
      have lE := gQ_len gqE
      simp only [List.length_append, List.length_singleton] at lE
      refine two_ok (nI K.2.2.2.length) (fun v => RC v t R G S (K.1, K.2.1, K.2.2.1, K.2.2.2 ++ [(p, K.1, 0)]) (kp B K) M) (fun v => RM v t R G S (K.1, K.2.1, K.2.2.1, K.2.2.2 ++ [(p, K.1, 0)]) (kp B K) M) ?_ ?_ (fun x y hx hy => ⟨by omega, t, R, G, S, _, _, M, gA_upd g gE (gB_kp gBB gKK), hx, hy⟩)
      · refine ok_bind (c_remember hpC gBB.1 hkC gq) ?_
        rintro v ⟨hv1, hv2⟩
        have hkv : kC v 27 K := kC_fr hkC hv2 (fun a j q1 q2 z => by rcases z with z | z | z <;> omega)
        refine ok_bind (c_enter hkv gq (by omega) (by omega) nE) ?_
        rintro w ⟨hw1, hw2⟩
        obtain ⟨r9, er9, cr9⟩ := c_placeOf hw1 gqE (nI p)
        rw [er9]
        refine ok_some ⟨?_, ?_⟩
        · rcases cr9 with ⟨i, e, he, z1, z2⟩ | ⟨z1, -⟩
          · show r9 = _
            rw [z2]
            have he6 := gQ_at gqE he
            have z3 : e.1 = p := by rwa [nI_eq (by omega) (by omega)] at z1
            have z4 : (K.2.2.2 ++ [(p, K.1, 0)])[K.2.2.2.length]? = some (p, K.1, 0) := by rw [List.getElem?_append_right (Nat.le_refl _), Nat.sub_self]; rfl
            rw [gQ_inj gqE he z4 z3]
          · exact absurd rfl (z1 (p, K.1, 0) (List.mem_append_right _ List.mem_cons_self))
        · have hpw : pC w (kp B K) := pC_fr hv1 (gB_kp gBB gKK).1 hw2 (crt_no (by omega)) (fun j => crt_no (by omega)) (fun a j q1 q2 => crt_no (by omega))
          exact RC_upd hC (fr_trans (fr_mono hv2 (fun a j z => Or.inl z)) (fr_mono hw2 (fun a j z => Or.inr z))) (fun a j z => by
            rcases z with z | z
            · exact .inr (.inl z)
            · exact .inr (.inr ⟨z.1, z.2⟩)) hw1 hpw
      · refine ok_bind (m_keeps mP gR gBB mK gq mR.1.2.2.1) ?_
        rintro v ⟨hv1, hv2, hv3⟩
        have hkv : kM v 29 0 K := kM_fr mK gq hv3 (fun j q1 q2 z => by omega)
        refine ok_bind (m_comes hkv (by omega) (by omega) nE gq) ?_
        rintro w ⟨hw1, hw2⟩
        have e3 := hw1.1.2.2.1
        simp only [Nat.zero_add, List.length_append, List.length_singleton] at e3
        simp (disch := omega) only [e3, litI, nI_sub, Nat.add_sub_cancel]
        refine ok_some ⟨rfl, ?_⟩
        exact RM_upd hM1 g (fr_trans (fr_mono (Q := fun a j => kpP a j ∨ (a = 29 ∧ j < 22)) hv3 (fun a j z => .inl z)) (fr_mono hw2 (fun a j z => .inr z))) (fun a j z => by
            rcases z with z | z
            · exact kpP_ok a j z
            · exact .inr (.inl z)) hw1 (pM_eq hv1 gR (gB_kp gBB gKK) (fr_I hw2 (by omega)) (fun j hj => fr_I hw2 (by omega)))
  · have co2 : o = nI 0 := by
      rcases co with ⟨p', hp', w, -⟩ | ⟨-, w⟩
      · exact absurd w.symm (hp p' hp')
      · exact w
    rw [e2, co2]
    simp only [if0]
    exact ⟨_, _, _, rfl, rfl, hq⟩
theorem st_leave (n : Nat) : St_leave (RelN (n + 1)) (RelN n) := by
  intro uC uM h a
  have hq := relQ (x := 0) h
  obtain ⟨h0, t, R, G, S, K, B, M, g, hC, hM⟩ := RelN_mono n uC uM h
  have hM1 := RM_t (x := 0) hM g
  obtain ⟨hT, ⟨r, hr, hrC⟩, -, -, hkC, hpC, -⟩ := id hC
  have hw := who g hrC hM a
  obtain ⟨-, gR, -, -, -, gKK, gBB, -⟩ := id g
  have gq := gK_gQ gKK gR
  have g1 := gR.1
  unfold f_X10_leave f_X11_leave
  simp only [gm_letE]
  generalize sI uM 1 0 (0 : Int32) = u1 at *
  obtain ⟨mT, mR, mG, mS, mK, mP, mMk, m46⟩ := id hM1
  obtain ⟨o, eo, co⟩ := c_isQueued hkC gq a
  rw [eo]
  simp only [Option.bind_some]
  rcases co with ⟨i, e, he, w, rfl⟩ | ⟨w, rfl⟩
  · have hep := (gKK.2.2.2.2 e (List.mem_of_getElem? he)).1
    have hl := gQ_len gq
    have hi := (List.getElem?_eq_some_iff.mp he).1
    rcases hw with ⟨p, hp, rfl, e1, e2⟩ | ⟨hp, e1, e2⟩
    · have hpe : e.1 = p := by rwa [nI_eq (by omega) (by omega)] at w
      obtain ⟨r2, pr2, pc2⟩ := m_placeOf mK gq (nI p)
      have er2 : ∃ i', r2 = nI i' ∧ i' < 6 := by
        rcases pc2 with ⟨i', f', hf', w', rfl⟩ | ⟨w', -⟩
        · have := (List.getElem?_eq_some_iff.mp hf').1
          exact ⟨i', rfl, by omega⟩
        · exact absurd w (w' e (List.mem_of_getElem? he))
      obtain ⟨i', rfl, hi'⟩ := er2
      rw [if1, e2, if1, pr2]
      simp only [Option.bind_some]
      rw [if_pos (nI_pos' (by omega))]
      have gE := gK_out gKK (fun f => f.1 != p)
      refine two_ok (nI 1) (fun v => RC v t R G S (K.1, K.2.1, K.2.2.1, K.2.2.2.filter (fun f => f.1 != p)) (kp B K) M) (fun v => RM v t R G S (K.1, K.2.1, K.2.2.1, K.2.2.2.filter (fun f => f.1 != p)) (kp B K) M) ?_ ?_ (fun x y hx hy => ⟨by omega, t, R, G, S, _, _, M, gA_upd g gE (gB_kp gBB gKK), hx, hy⟩)
      · refine ok_bind (c_remember hpC gBB.1 hkC gq) ?_
        rintro v ⟨hv1, hv2⟩
        have hkv : kC v 27 K := kC_fr hkC hv2 (fun a j q1 q2 z => by rcases z with z | z | z <;> omega)
        refine ok_bind (c_goOut hkv gq (by omega)) ?_
        rintro w ⟨hw1, hw2⟩
        refine ok_some ⟨rfl, ?_⟩
        have hpw : pC w (kp B K) := pC_fr hv1 (gB_kp gBB gKK).1 hw2 (crt_no (by omega)) (fun j => crt_no (by omega)) (fun a j q1 q2 => crt_no (by omega))
        exact RC_upd hC (fr_trans (fr_mono hv2 (fun a j z => Or.inl z)) (fr_mono hw2 (fun a j z => Or.inr z))) (fun a j z => by
            rcases z with z | z
            · exact .inr (.inl z)
            · exact .inr (.inr ⟨z.1, z.2⟩)) hw1 hpw
      · refine ok_bind (m_keeps mP gR gBB mK gq mR.1.2.2.1) ?_
        rintro v ⟨hv1, hv2, hv3⟩
        have hkv : kM v 29 0 K := kM_fr mK gq hv3 (fun j q1 q2 z => by omega)
        refine ok_bind (m_leaves hkv gq he hpe) ?_
        rintro w ⟨hw1, hw2⟩
        refine ok_some ⟨rfl, ?_⟩
        exact RM_upd hM1 g (fr_trans (fr_mono (Q := fun a j => kpP a j ∨ (a = 29 ∧ j < 22)) hv3 (fun a j z => .inl z)) (fr_mono hw2 (fun a j z => .inr ⟨z.1, by omega⟩))) (fun a j z => by
            rcases z with z | z
            · exact kpP_ok a j z
            · exact .inr (.inl z)) hw1 (pM_eq hv1 gR (gB_kp gBB gKK) (fr_I hw2 (by omega)) (fun j hj => fr_I hw2 (by omega)))
    · exact absurd w (hp e.1 hep)
  · rw [if0]
    rcases hw with ⟨p, hp, rfl, e1, e2⟩ | ⟨hp, e1, e2⟩
    · obtain ⟨r2, pr2, pc2⟩ := m_placeOf mK gq (nI p)
      have er2 : r2 = -nI 1 := by
        rcases pc2 with ⟨i', f', hf', w', rfl⟩ | ⟨w', rfl⟩
        · exact absurd w' (w f' (List.mem_of_getElem? hf'))
        · rfl
      subst er2
      rw [e2, if1, pr2]
      simp only [Option.bind_some]
      rw [if_neg (by decide)]
      exact ⟨_, _, _, rfl, rfl, hq⟩
    · rw [e2, if0]
      exact ⟨_, _, _, rfl, rfl, hq⟩
theorem wi1 (a : Int32) (m : Nat) (hm : m < 2 ^ 31) (hm1 : 1 ≤ m) : (∃ j, 1 ≤ j ∧ j ≤ m ∧ a = nI j ∧ f_X11_within a (nI 1) (nI m) = nI 1) ∨ (f_X11_within a (nI 1) (nI m) = nI 0 ∧ (a < nI 1 ∨ (¬ a < nI 1 ∧ ¬ a ≤ nI m))) := by
  rcases nI_cases a (m + 1) (by omega) with ⟨j, hj, rfl⟩ | h | ⟨j, hj, hj2, rfl⟩
  · rcases Nat.eq_or_lt_of_le (Nat.zero_le j) with q | q
    · right
      subst q
      refine ⟨?_, .inl (by decide)⟩
      simp (disch := omega) only [f_X11_within, gm_let, litI, ib_nI, ix_nI, nI_leI, nI_ltI, nI_eq, nI_add, nI_sub, nI_mul, nI_div, nI_rem, nI_m1, nI_eqm, nI_gem, nI_ltm, nI_mlt, nI_lem, Option.bind_some, Option.bind_none, if_pos]
    · left
      refine ⟨j, q, by omega, rfl, ?_⟩
      simp (disch := omega) only [f_X11_within, gm_let, litI, ib_nI, ix_nI, nI_leI, nI_ltI, nI_eq, nI_add, nI_sub, nI_mul, nI_div, nI_rem, nI_m1, nI_eqm, nI_gem, nI_ltm, nI_mlt, nI_lem, Option.bind_some, Option.bind_none, if_neg]
  · right
    have := neg_lt (a := 1) h (by omega)
    exact ⟨if_pos this, .inl this⟩
  · right
    refine ⟨?_, .inr ⟨?_, ?_⟩⟩
    · simp (disch := omega) only [f_X11_within, gm_let, litI, ib_nI, ix_nI, nI_leI, nI_ltI, nI_eq, nI_add, nI_sub, nI_mul, nI_div, nI_rem, nI_m1, nI_eqm, nI_gem, nI_ltm, nI_mlt, nI_lem, Option.bind_some, Option.bind_none, if_neg, if_pos]
    · simp (disch := omega) only [nI_ltI]; omega
    · simp (disch := omega) only [nI_leI]; omega
theorem st_lamp (n : Nat) : St_lamp (RelN (n + 1)) (RelN n) := by
  intro uC uM h a
  have hq := relQ (x := 0) h
  obtain ⟨h0, t, R, G, S, K, B, M, g, hC, hM⟩ := RelN_mono n uC uM h
  have hM1 := RM_t (x := 0) hM g
  obtain ⟨hT, ⟨r, hr, hrC⟩, -, -, hkC, hpC, -⟩ := id hC
  obtain ⟨-, gR, -, -, -, gKK, gBB, -⟩ := id g
  have gq := gK_gQ gKK gR
  unfold f_X10_lamp f_X11_lamp
  simp only [gm_letE]
  generalize sI uM 1 0 (0 : Int32) = u1 at *
  obtain ⟨mT, mR, mG, mS, mK, mP, mMk, m46⟩ := id hM1
  simp only [litI]
  rcases wi1 a 20 (by omega) (by omega) with ⟨m, m1, m2, rfl, e⟩ | ⟨e, e2⟩
  · rw [e, if1n, if_neg (fun z => by rw [nI_ltI (by omega) (by omega)] at z; omega), if_pos ((nI_leI (by omega) (by omega)).mpr m2)]
    have gE := gK_lamp (l := min 60 (K.2.1 + m)) gKK (Nat.min_le_left _ _)
    have k60 := gKK.2.1
    refine two_ok (nI (min 60 (K.2.1 + m))) (fun v => RC v t R G S (K.1, min 60 (K.2.1 + m), K.2.2.1, K.2.2.2) (kp B K) M) (fun v => RM v t R G S (K.1, min 60 (K.2.1 + m), K.2.2.1, K.2.2.2) (kp B K) M) ?_ ?_ (fun x y hx hy => ⟨by omega, t, R, G, S, _, _, M, gA_upd g gE (gB_kp gBB gKK), hx, hy⟩)
    · refine ok_bind (c_remember hpC gBB.1 hkC gq) ?_
      rintro v ⟨hv1, hv2⟩
      have hkv : kC v 27 K := kC_fr hkC hv2 (fun a j q1 q2 z => by rcases z with z | z | z <;> omega)
      refine ok_bind (c_light hkv k60 m2) ?_
      rintro w ⟨hw1, hw2⟩
      refine ok_some ⟨hw1.1.2.1, ?_⟩
      have hpw : pC w (kp B K) := pC_fr hv1 (gB_kp gBB gKK).1 hw2 (crt_no (by omega)) (fun j => crt_no (by omega)) (fun a j q1 q2 => crt_no (by omega))
      exact RC_upd hC (fr_trans (fr_mono hv2 (fun a j z => Or.inl z)) (fr_mono hw2 (fun a j z => Or.inr z))) (fun a j z => by
          rcases z with z | z
          · exact .inr (.inl z)
          · exact .inr (.inr ⟨z.1, z.2⟩)) hw1 hpw
    · refine ok_bind (m_keeps mP gR gBB mK gq mR.1.2.2.1) ?_
      rintro v ⟨hv1, hv2, hv3⟩
      have hkv : kM v 29 0 K := kM_fr mK gq hv3 (fun j q1 q2 z => by omega)
      have e1 : gI v 29 1 = nI K.2.1 := by have := hkv.1.2.1; simpa using this
      have ee : (if nI (K.2.1 + m) < nI 60 then nI (K.2.1 + m) else nI 60) = nI (min 60 (K.2.1 + m)) := by
        rcases Nat.lt_or_ge (K.2.1 + m) 60 with q | q
        · rw [if_pos ((nI_ltI (by omega) (by omega)).mpr q), Nat.min_eq_right (by omega)]
        · rw [if_neg (fun p => by rw [nI_ltI (by omega) (by omega)] at p; omega), Nat.min_eq_left (by omega)]
      rw [e1, nI_add, ee]
      have hw1 := kM_lamps (l := min 60 (K.2.1 + m)) hkv
      have hw2 : fr (fun a j => a = 29 ∧ j < 22) v (sI v 29 1 (nI (min 60 (K.2.1 + m)))) := fr_sI (fr_refl _ _) ⟨rfl, by omega⟩
      refine ok_some ⟨(gI_eq rfl rfl : gI (sI v 29 1 (nI (min 60 (K.2.1 + m)))) 29 1 = nI (min 60 (K.2.1 + m))), ?_⟩
      exact RM_upd hM1 g (fr_trans (fr_mono (Q := fun a j => kpP a j ∨ (a = 29 ∧ j < 22)) hv3 (fun a j z => .inl z)) (fr_mono hw2 (fun a j z => .inr z))) (fun a j z => by
          rcases z with z | z
          · exact kpP_ok a j z
          · exact .inr (.inl z)) hw1 (pM_eq hv1 gR (gB_kp gBB gKK) (fr_I hw2 (by omega)) (fun j hj => fr_I hw2 (by omega)))
  · rw [e, if0n]
    rcases e2 with e2 | ⟨e2, e3⟩
    · rw [if_pos e2]
      exact ⟨_, _, _, rfl, rfl, hq⟩
    · rw [if_neg e2, if_neg e3]
      exact ⟨_, _, _, rfl, rfl, hq⟩
