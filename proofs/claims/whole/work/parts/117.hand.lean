theorem yr_cand {u v : gm_M} {t : List Nat} {R : pR} {G : pG} {S : pS} {K : pK} {B : List pK} {M : pMk} (h : RC u t R G S K B M) : gI u (gR u 1 2) 6 = nI (rCandle R) := by
  obtain ⟨-, ⟨r, hr, hrC⟩, -⟩ := h
  rw [(isR_ok hr).2.2]
  exact hrC.1.2.2.1
theorem dayP_upd {r : Nat} (i2 : r = 5 ∨ r = 13) (a j : Nat) (z : dayP r 27 a j) : irC a j ∨ remP a j ∨ (27 ≤ a ∧ a ≤ 30) := by
  rcases z with z | z | z
  · rcases i2 with i2 | i2
    · exact .inl (.inr (.inl (by omega)))
    · exact .inl (.inr (.inr (.inl (by omega))))
  · exact .inl (.inr (.inr (.inr (.inl ⟨by omega, by omega⟩))))
  · exact .inr (.inr ⟨by omega, by omega⟩)
theorem st_waits (n : Nat) : St_waits (RelN (n + 1)) (RelN n) := by
  intro uC uM h _
  obtain ⟨h0, t, R, G, S, K, B, M, g', hC, hM⟩ := h
  have g := gA_down g'
  have hM1 := RM_t (x := 0) hM g
  obtain ⟨hT, ⟨r, hr, hrC⟩, -, -, hkC, hpC, -⟩ := id hC
  obtain ⟨-, gR, -, -, -, gKK, gBB, -⟩ := id g
  have gq := gK_gQ gKK gR
  have hY : K.1 + 8 ≤ Yn n := by
    have h1 := g'.2.2.2.2.2.1.1
    have h2 := Yn_8 h0
    omega
  unfold f_X10_waits f_X11_waits
  simp only [gm_letE]
  generalize sI uM 1 0 (0 : Int32) = u1 at *
  obtain ⟨mT, mR, mG, mS, mK, mP, mMk, m46⟩ := id hM1
  have h40 := gR.2.2.1.2
  have h64 := gKK.2.2.1
  cases q : lpy (K.1 + 1)
  · have gE := gK_kill (R := R) (y := K.1 + 1) gKK (by omega)
    refine two_ok (nI 0) (fun v => RC v t R G S (killK R (K.1 + 1) K) (kp B K) M) (fun v => RM v t R G S (killK R (K.1 + 1) K) (kp B K) M) ?_ ?_ (fun x y hx hy => ⟨by omega, t, R, G, S, _, _, M, gA_upd g gE (gB_kp gBB gKK), hx, hy⟩)
    · refine ok_bind (c_remember hpC gBB.1 hkC gq) ?_
      rintro v ⟨hv1, hv2⟩
      have hkv : kC v 27 K := kC_fr hkC hv2 (fun a j q1 q2 z => by rcases z with z | z | z <;> omega)
      have hCv : RC v t R G S K (kp B K) M := RC_upd hC hv2 (fun a j z => .inr (.inl z)) hkv hv1
      obtain ⟨-, ⟨r, hr, hrC⟩, -⟩ := id hCv
      obtain ⟨i1, i2, i3⟩ := isR_ok hr
      rw [i3] at i1 ⊢
      simp only [i1, if_true]
      refine ok_bind (c_passYear (jul := false) hrC gR hkv gKK i2 (.inl rfl) (by omega) (Yn30 n)) ?_
      rintro ⟨o, w⟩ ⟨hw1, hw2⟩
      rcases hw2 with ⟨-, z2, z3⟩ | ⟨z1, -⟩
      · exact ok_some ⟨z2, RC_upd hCv hw1 (dayP_upd i2) z3 (pC_fr hv1 (gB_kp gBB gKK).1 hw1 (fun z => by rcases z with z | z | z <;> omega) (fun j z => by rcases z with z | z | z <;> omega) (fun a j q1 q2 z => by rcases z with z | z | z <;> omega))⟩
      · simp only [cond_false, q] at z1
        cases z1
    · refine ok_bind (m_keeps mP gR gBB mK gq mR.1.2.2.1) ?_
      rintro v ⟨hv1, hv2, hv3⟩
      have hkv : kM v 29 0 K := kM_fr mK gq hv3 (fun j q1 q2 z => by omega)
      have hMv : RM v t R G S K (kp B K) M := RM_upd hM1 g hv3 kpP_ok hkv hv1
      have e3 : gI v 29 3 = nI K.2.2.1 := by have := hkv.1.2.2.2; simpa using this
      rw [e3]
      refine ok_bind (m_passes (old := false) hMv.2.1 gR hkv gKK (by omega) (Yn30 n) (by omega) hv2 hMv.2.2.2.2.2.2.2) ?_
      rintro ⟨o, w⟩ ⟨hw1, hw2⟩
      rcases hw2 with ⟨-, z2, z3⟩ | ⟨z1, -⟩
      · have e4 : gI w 29 3 = nI K.2.2.1 := z3.1.2.2.2
        have e5 : K.2.2.1 &&& (63 - K.2.2.1) = 0 := by
          have : ∀ a : Fin 64, a.1 &&& (63 - a.1) = 0 := by decide +kernel
          exact this ⟨_, h64⟩
        simp only [litI, e4, nI_andx h64 h64, e5]
        exact ok_some ⟨rfl, RM_upd hMv (gA_upd g gKK (gB_kp gBB gKK)) hw1 hdP_ok z3 (pM_eq hv1 gR (gB_kp gBB gKK) (fr_I hw1 (fun z => by rcases z with z | z | z | z <;> omega)) (fun j hj => fr_I hw1 (fun z => by rcases z with z | z | z | z <;> omega)))⟩
      · simp only [cond_false, q] at z1
        cases z1
  · have gE0 := gK_kill (R := R) (y := K.1 + 1) gKK (by omega)
    have gE := gK_day (C := rCandle R) gE0 gR
    have hlt := dayH_lt (C := rCandle R) gE0 gR
    have hdis := dayH_dis (C := rCandle R) gE0 gR
    refine two_ok (nI (dayH R (rCandle R) (killK R (K.1 + 1) K)).2) (fun v => RC v t R G S (dayK R (rCandle R) (killK R (K.1 + 1) K)) (kp B K) M) (fun v => RM v t R G S (dayK R (rCandle R) (killK R (K.1 + 1) K)) (kp B K) M) ?_ ?_ (fun x y hx hy => ⟨by omega, t, R, G, S, _, _, M, gA_upd g gE (gB_kp gBB gKK), hx, hy⟩)
    · refine ok_bind (c_remember hpC gBB.1 hkC gq) ?_
      rintro v ⟨hv1, hv2⟩
      have hkv : kC v 27 K := kC_fr hkC hv2 (fun a j q1 q2 z => by rcases z with z | z | z <;> omega)
      have hCv : RC v t R G S K (kp B K) M := RC_upd hC hv2 (fun a j z => .inr (.inl z)) hkv hv1
      obtain ⟨-, ⟨r, hr, hrC⟩, -⟩ := id hCv
      obtain ⟨i1, i2, i3⟩ := isR_ok hr
      rw [i3] at i1 ⊢
      simp only [i1, if_true]
      refine ok_bind (c_passYear (jul := false) hrC gR hkv gKK i2 (.inl rfl) (by omega) (Yn30 n)) ?_
      rintro ⟨o, w⟩ ⟨hw1, hw2⟩
      rcases hw2 with ⟨z1, -⟩ | ⟨-, z2, z3⟩
      · simp only [cond_false, q] at z1
        cases z1
      · exact ok_some ⟨z2, RC_upd hCv hw1 (dayP_upd i2) z3 (pC_fr hv1 (gB_kp gBB gKK).1 hw1 (fun z => by rcases z with z | z | z <;> omega) (fun j z => by rcases z with z | z | z <;> omega) (fun a j q1 q2 z => by rcases z with z | z | z <;> omega))⟩
    · refine ok_bind (m_keeps mP gR gBB mK gq mR.1.2.2.1) ?_
      rintro v ⟨hv1, hv2, hv3⟩
      have hkv : kM v 29 0 K := kM_fr mK gq hv3 (fun j q1 q2 z => by omega)
      have hMv : RM v t R G S K (kp B K) M := RM_upd hM1 g hv3 kpP_ok hkv hv1
      have e3 : gI v 29 3 = nI K.2.2.1 := by have := hkv.1.2.2.2; simpa using this
      rw [e3]
      refine ok_bind (m_passes (old := false) hMv.2.1 gR hkv gKK (by omega) (Yn30 n) (by omega) hv2 hMv.2.2.2.2.2.2.2) ?_
      rintro ⟨o, w⟩ ⟨hw1, hw2⟩
      rcases hw2 with ⟨z1, -⟩ | ⟨-, z2, z3, -⟩
      · simp only [cond_false, q] at z1
        cases z1
      · have e4 : gI w 29 3 = nI (K.2.2.1 ||| (dayH R (rCandle R) (killK R (K.1 + 1) K)).2) := z3.1.2.2.2
        have hd2 : (K.2.2.1 ||| (dayH R (rCandle R) (killK R (K.1 + 1) K)).2) &&& (63 - K.2.2.1) = (dayH R (rCandle R) (killK R (K.1 + 1) K)).2 := hdis
        simp only [litI, e4, nI_andx (or_lt h64 hlt) h64, hd2]
        exact ok_some ⟨rfl, RM_upd hMv (gA_upd g gKK (gB_kp gBB gKK)) hw1 hdP_ok z3 (pM_eq hv1 gR (gB_kp gBB gKK) (fr_I hw1 (fun z => by rcases z with z | z | z | z <;> omega)) (fun j hj => fr_I hw1 (fun z => by rcases z with z | z | z | z <;> omega)))⟩
theorem st_ride (n : Nat) : St_ride (RelN (n + 1)) (RelN n) := by
  intro uC uM h _
  obtain ⟨h0, t, R, G, S, K, B, M, g', hC, hM⟩ := h
  have g := gA_down g'
  have hM1 := RM_t (x := 0) hM g
  obtain ⟨hT, ⟨r, hr, hrC⟩, -, -, hkC, hpC, -⟩ := id hC
  obtain ⟨-, gR, -, -, -, gKK, gBB, -⟩ := id g
  have gq := gK_gQ gKK gR
  have hY : K.1 + 8 ≤ Yn n := by
    have h1 := g'.2.2.2.2.2.1.1
    have h2 := Yn_8 h0
    omega
  unfold f_X10_ride f_X11_ride
  simp only [gm_letE]
  generalize sI uM 1 0 (0 : Int32) = u1 at *
  obtain ⟨mT, mR, mG, mS, mK, mP, mMk, m46⟩ := id hM1
  have h40 := gR.2.2.1.2
  have h64 := gKK.2.2.1
  have g8 := gap_le K.1
  have gE0 := gK_kill (R := R) (y := nxt K.1) gKK (by unfold nxt; omega)
  have gE := gK_day (C := rCandle R) gE0 gR
  have hlt := dayH_lt (C := rCandle R) gE0 gR
  have hdis := dayH_dis (C := rCandle R) gE0 gR
  refine two_ok (nI (dayH R (rCandle R) (killK R (nxt K.1) K)).2) (fun v => RC v t R G S (dayK R (rCandle R) (killK R (nxt K.1) K)) (kp B K) M) (fun v => RM v t R G S (dayK R (rCandle R) (killK R (nxt K.1) K)) (kp B K) M) ?_ ?_ (fun x y hx hy => ⟨by omega, t, R, G, S, _, _, M, gA_upd g gE (gB_kp gBB gKK), hx, hy⟩)
  · refine ok_bind (c_remember hpC gBB.1 hkC gq) ?_
    rintro v ⟨hv1, hv2⟩
    have hkv : kC v 27 K := kC_fr hkC hv2 (fun a j q1 q2 z => by rcases z with z | z | z <;> omega)
    have hCv : RC v t R G S K (kp B K) M := RC_upd hC hv2 (fun a j z => .inr (.inl z)) hkv hv1
    obtain ⟨-, ⟨r, hr, hrC⟩, -⟩ := id hCv
    obtain ⟨i1, i2, i3⟩ := isR_ok hr
    rw [i3] at i1 ⊢
    simp only [i1, if_true, hrC.1.2.2.1]
    refine ok_bind (c_passToDay hrC gR hkv gKK i2 (.inl rfl) hY (Yn30 n) (by omega)) ?_
    rintro ⟨o, w⟩ ⟨hw1, z2, z3, -⟩
    exact ok_some ⟨z2, RC_upd hCv hw1 (dayP_upd i2) z3 (pC_fr hv1 (gB_kp gBB gKK).1 hw1 (fun z => by rcases z with z | z | z <;> omega) (fun j z => by rcases z with z | z | z <;> omega) (fun a j q1 q2 z => by rcases z with z | z | z <;> omega))⟩
  · refine ok_bind (m_keeps mP gR gBB mK gq mR.1.2.2.1) ?_
    rintro v ⟨hv1, hv2, hv3⟩
    have hkv : kM v 29 0 K := kM_fr mK gq hv3 (fun j q1 q2 z => by omega)
    have hMv : RM v t R G S K (kp B K) M := RM_upd hM1 g hv3 kpP_ok hkv hv1
    have e3 : gI v 29 3 = nI K.2.2.1 := by have := hkv.1.2.2.2; simpa using this
    rw [e3]
    refine ok_bind (m_rides hMv.2.1 gR hkv gKK hY (Yn30 n) (by omega) hv2 hMv.2.2.2.2.2.2.2) ?_
    rintro w ⟨hw1, z3, -⟩
    have e4 : gI w 29 3 = nI (K.2.2.1 ||| (dayH R (rCandle R) (killK R (nxt K.1) K)).2) := z3.1.2.2.2
    have hd2 : (K.2.2.1 ||| (dayH R (rCandle R) (killK R (nxt K.1) K)).2) &&& (63 - K.2.2.1) = (dayH R (rCandle R) (killK R (nxt K.1) K)).2 := hdis
    simp only [litI, e4, nI_andx (or_lt h64 hlt) h64, hd2]
    exact ok_some ⟨rfl, RM_upd hMv (gA_upd g gKK (gB_kp gBB gKK)) hw1 hdP_ok z3 (pM_eq hv1 gR (gB_kp gBB gKK) (fr_I hw1 (fun z => by rcases z with z | z | z | z <;> omega)) (fun j hj => fr_I hw1 (fun z => by rcases z with z | z | z | z <;> omega)))⟩
theorem st_undo (n : Nat) : St_undo (RelN (n + 1)) (RelN n) := by
  intro uC uM h _
  have hq := relQ (x := 0) h
  obtain ⟨h0, t, R, G, S, K, B, M, g, hC, hM⟩ := RelN_mono n uC uM h
  have hM1 := RM_t (x := 0) hM g
  obtain ⟨hT, ⟨r, hr, hrC⟩, -, -, hkC, hpC, -⟩ := id hC
  obtain ⟨-, gRr, -, -, -, gKK, gBB, -⟩ := id g
  unfold f_X10_undo f_X11_undo
  simp only [gm_letE]
  generalize sI uM 1 0 (0 : Int32) = u1 at *
  obtain ⟨mT, mR, mG, mS, mK, mP, mMk, m46⟩ := id hM1
  obtain ⟨p1, p2, p3, p4⟩ := id hpC
  have hl := gBB.1
  simp only [p1, mP.1, litI]
  rcases Nat.eq_or_lt_of_le (Nat.zero_le B.length) with q | q
  · rw [← q]
    simp only [if0n]
    rw [if_pos (by decide)]
    exact ⟨_, _, _, rfl, rfl, hq⟩
  · obtain ⟨K', hK'⟩ : ∃ k, B[B.length - 1]? = some k := ⟨_, List.getElem?_eq_getElem (by omega)⟩
    have gK' := gBB.2 K' (List.mem_of_getElem? hK')
    have gq' := gK_gQ gK' gRr
    obtain ⟨j, hj, ej⟩ := p2 (B.length - 1) (by omega)
    have ic : isCourt (gR uC 38 (B.length - 1)) = true := by rw [ej]; exact isC_ok ⟨j, hj⟩
    have gB' : gB R (Yn n) (B.take (B.length - 1)) := ⟨by rw [List.length_take]; omega, fun k hk => gBB.2 k (List.mem_of_mem_take hk)⟩
    have tk : ∀ i k, (B.take (B.length - 1))[i]? = some k → B[i]? = some k ∧ i < B.length - 1 := fun i k hik => by
      rw [List.getElem?_take] at hik
      by_cases z : i < B.length - 1
      · rw [if_pos z] at hik; exact ⟨hik, z⟩
      · rw [if_neg z] at hik; cases hik
    refine two_ok (nI 1) (fun v => RC v t R G S K' (B.take (B.length - 1)) M) (fun v => RM v t R G S K' (B.take (B.length - 1)) M) ?_ ?_ (fun x y hx hy => ⟨by omega, t, R, G, S, _, _, M, gA_upd g gK' gB', hx, hy⟩)
    · simp (disch := omega) only [nI_leI, if_neg, if_pos, nI_sub, ib_nI, ix_nI, ic, if_true]
      refine ok_bind (c_copy (c := 27) (d := gR uC 38 (B.length - 1)) (p4 _ K' hK') gq' (by omega)) ?_
      rintro v ⟨hv, hf⟩
      have e1 : gI v 1 10 = nI B.length := (fr_crt hf (by omega)).trans p1
      simp (disch := omega) only [e1, nI_sub]
      have hfs : fr (fun a j => (27 ≤ a ∧ a ≤ 30) ∨ (a = 1 ∧ j = 10)) uC (sI v 1 10 (nI (B.length - 1))) := fr_sI (fr_mono hf (fun a j z => .inl ⟨z.1, z.2⟩)) (.inr ⟨rfl, rfl⟩)
      refine ok_some ⟨rfl, RC_upd hC hfs (fun a j z => ?_) (kC_fr hv (P := fun a j => a = 1 ∧ j = 10) (fr_sI (fr_refl _ _) ⟨rfl, rfl⟩) (fun a j q1 q2 q3 => by omega)) ?_⟩
      · rcases z with z | z
        · exact .inr (.inr z)
        · exact .inr (.inl (.inr (.inr z)))
      · have eR : ∀ i, gR (sI v 1 10 (nI (B.length - 1))) 38 i = gR uC 38 i := fun i => fr_R hfs (by omega)
        refine ⟨?_, fun i hi => by rw [eR]; exact p2 i hi, fun a b ha hb e => by rw [eR, eR] at e; exact p3 a b ha hb e, fun i k hik => ?_⟩
        · rw [gI_eq rfl rfl, List.length_take, Nat.min_eq_left (by omega)]
        · obtain ⟨z1, z2⟩ := tk i k hik
          rw [eR]
          obtain ⟨jj, hjj, ejj⟩ := p2 i (by omega)
          exact kC_fr (p4 i k z1) hfs (fun a j q1 q2 q3 => by omega)
    · simp (disch := omega) only [nI_eq, if_neg, nI_sub, gI_eq, nI_mul]
      refine ok_bind (m_copies (A := 33) (B := 29) (o1 := 22 * (B.length - 1)) (o2 := 0) (by omega) (by omega) (by omega) (by omega) (by omega)) ?_
      rintro v ⟨hv, hf⟩
      have hfs : fr (fun a j => (a = 29 ∧ j < 22) ∨ (a = 1 ∧ j = 45)) u1 v := fr_trans (fr_sI (fr_refl _ _) (.inr ⟨rfl, rfl⟩)) (fr_mono hf (fun a j z => .inl ⟨z.1, by omega⟩))
      refine ok_some ⟨rfl, RM_upd hM1 g hfs (fun a j z => ?_) (kM_copied (mP.2 _ K' hK') gq' (fun j hj => ?_)) ⟨?_, fun i k hik => ?_⟩⟩
      · rcases z with z | z
        · exact .inr (.inl z)
        · exact .inr (.inr (.inr z))
      · rw [hv j hj, gI_ne (by omega)]
      · rw [fr_I hf (by omega), gI_eq rfl rfl, List.length_take, Nat.min_eq_left (by omega)]
      · obtain ⟨z1, z2⟩ := tk i k hik
        exact kM_eq (mP.2 i k z1) (gK_gQ (gBB.2 k (List.mem_of_getElem? z1)) gRr) (fun j hj => fr_I hfs (by omega))
