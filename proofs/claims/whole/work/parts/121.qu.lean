/-! julian, stale, exchange -/
theorem c_heardBehind {u : gm_M} {n y : Nat} {t : List Nat} {R : pR} {G : pG} {S : pS} {K : pK} {B : List pK} {M : pMk} (hC : RC u t R G S K B M) (g : gA n t R G S K B M) (jul : Bool) (hy : y ≤ 99) :
    ok (f_X10_heardBehind (nI y) (nI jul.toNat) u) (fun o => o.1 = nI (itP R jul K y).2.2.1 ∧ RC o.2 t R G S K B M ∧ kC o.2 40 (itP R jul K y)) := by
  obtain ⟨-, gRr, -, -, -, gKK, gBB, -⟩ := id g
  have gq := gK_gQ gKK gRr
  have hyn := Yn_lt n
  have gK2 := gK_up (Z := 8000) gKK (by omega)
  have hk1 := gKK.1
  simp only [f_X10_heardBehind]
  refine ok_bind (c_copy (c := 40) (d := 27) hC.2.2.2.2.1 gq (by omega)) ?_
  rintro v ⟨v1, v2⟩
  have hCv := RC_fr hC gBB.1 v2 crt_ir
  refine ok_bind (Q := fun w => RC w t R G S K B M ∧ kC w 40 (itP R jul K y))
    (lp_ok y (fun j x => x.1 = nI j ∧ RC x.2 t R G S K B M ∧ kC x.2 40 (itP R jul K j)) (by omega) ⟨rfl, hCv, v1⟩ ?_ ?_) ?_
  · rintro j ⟨x, w⟩ hj ⟨hx, hw1, hw2⟩
    simp only at hx hw1 hw2
    subst hx
    obtain ⟨-, ⟨r, hr, hrC⟩, -⟩ := id hw1
    obtain ⟨i1, i2, i3⟩ := isR_ok hr
    have iy := itP_y R jul K j
    have ig := itP_g jul gK2 gRr j (by omega)
    rw [b_X10_heardBehind_13]
    simp only
    rw [i3] at i1 ⊢
    simp (disch := omega) only [nI_leI, if_neg, i1, if_true]
    refine ok_bind (c_pass (jul := jul) hrC gRr hw2 ig i2 (.inr rfl) (by omega) (by omega)) ?_
    rintro ⟨o, w2⟩ ⟨z1, z2⟩
    exact ok_some ⟨by rw [litI, nI_add], RC_fr hw1 gBB.1 z1 (dayP_ir i2), z2⟩
  · rintro ⟨x, w⟩ ⟨hx, hw1, hw2⟩
    simp only at hx hw1 hw2
    subst hx
    rw [b_X10_heardBehind_13]
    simp (disch := omega) only [nI_leI, if_pos]
    exact ok_some ⟨hw1, hw2⟩
  · rintro w ⟨w1, w2⟩
    exact ok_some ⟨w2.1.2.2.1, w1, w2⟩
theorem m_back0 {u v : gm_M} (j : jM u v) : ok (f_X11_copies 31 22 (0 : Int32) 29 22 (0 : Int32) v) (fun w => (∀ i, i < 22 → gI w 29 i = gI u 29 i) ∧ fr qmP u w ∧ ∀ i, gI w 1 i = gI v 1 i) := by
  refine ok_mono (m_copies (u := v) (A := 31) (n1 := 22) (o1 := 0) (B := 29) (n2 := 22) (o2 := 0) (by omega) (by omega) (by omega) (by omega) (by omega)) ?_
  rintro w ⟨h1, h2⟩
  simp only [Nat.zero_add] at h1 h2
  exact ⟨fun i hi => (h1 i hi).trans (j.1 i hi), fr_trans j.2 (fr_mono h2 (fun a j z => .inl ⟨z.1, z.2.2⟩)), fun i => fr_I h2 (by omega)⟩
theorem m_heardBehind {u : gm_M} {Y y : Nat} {R : pR} {K : pK} {old : Bool} (hr : rM u R) (hg : gR1 R) (hk : kM u 29 0 K) (hgk : gK R Y K) (hY : Y ≤ 7800) (hy : y ≤ 99) (h49 : gI u 1 49 = nI (rCandle R)) (h46 : gI u 1 46 = nI old.toNat) :
    ok (f_X11_heardBehind (nI y) u) (fun o => o.1 = nI (itP R old K y).2.2.1 ∧ (∀ i, i < 22 → gI o.2 29 i = gI u 29 i) ∧ fr qmP u o.2 ∧ gI o.2 1 49 = nI (rCandle R)) := by
  have gq := gK_gQ hgk hg
  have gK2 := gK_up (Z := 8000) hgk (by omega)
  have hk1 := hgk.1
  have h40 := hg.2.2.1.2
  simp only [f_X11_heardBehind]
  refine ok_bind (m_save hk gq) ?_
  rintro v ⟨v1, v2, v3⟩
  refine ok_bind (Q := fun w => jM u w ∧ kM w 29 0 (itP R old K y) ∧ gI w 1 49 = nI (rCandle R))
    (lp_ok y (fun j x => x.1 = nI j ∧ jM u x.2 ∧ kM x.2 29 0 (itP R old K j) ∧ gI x.2 1 49 = nI (rCandle R)) (by omega) ⟨rfl, v1, v2, (fr_I v3 (by omega)).trans h49⟩ ?_ ?_) ?_
  · rintro j ⟨x, w⟩ hj ⟨hx, hw1, hw2, hw3⟩
    simp only at hx hw1 hw2 hw3
    subst hx
    have iy := itP_y R old K j
    have ig := itP_g old gK2 hg j (by omega)
    simp (disch := omega) only [b_X11_heardBehind_15, nI_leI, if_neg]
    refine ok_bind (j_pass (old := old) hw1 hr hg hw2 ig (by omega) (show (8000 : Nat) < 2 ^ 30 by omega) (by omega) hw3 h46) ?_
    rintro ⟨o, w2⟩ ⟨z1, z2, z3⟩
    exact ok_some ⟨by rw [litI, nI_add], z1, z2, z3⟩
  · rintro ⟨x, w⟩ ⟨hx, hw1, hw2, hw3⟩
    simp only at hx hw1 hw2 hw3
    subst hx
    simp (disch := omega) only [b_X11_heardBehind_15, nI_leI, if_pos]
    exact ok_some ⟨hw1, hw2, hw3⟩
  · rintro w ⟨w1, w2, w3⟩
    have e3 : gI w 29 3 = nI (itP R old K y).2.2.1 := w2.1.2.2.2
    simp only [gm_letE, e3]
    refine ok_bind (m_back0 w1) ?_
    rintro w' ⟨z1, z2, z3⟩
    exact ok_some ⟨rfl, z1, z2, by rw [z3]; exact w3⟩
theorem st_julian (n : Nat) : St_julian (RelN (n + 1)) (RelN n) := by
  intro uC uM h a
  obtain ⟨h0, t, R, G, S, K, B, M, g, hC, hM⟩ := RelN_mono n uC uM h
  have hM1 := RM_t (x := 0) hM g
  obtain ⟨-, gRr, -, -, -, gKK, gBB, -⟩ := id g
  have gq := gK_gQ gKK gRr
  have hyn := Yn_lt n
  have hk1 := gKK.1
  have gK2 := gK_up (Z := 8000) gKK (by omega)
  unfold f_X10_julian f_X11_julian
  simp only [gm_letE]
  generalize sI uM 1 0 (0 : Int32) = u1 at *
  obtain ⟨hM2, c49⟩ := m_cand hM1 g
  generalize sI u1 1 49 (gI u1 3 2) = u2 at *
  rcases wi1 a 99 (by omega) (by omega) with ⟨y, m1, m2, rfl, e⟩ | ⟨e, e2⟩
  · have e' : f_X11_within (nI y) 1 99 = nI 1 := e
    rw [e', if1, if_neg (show ¬ nI y < (1 : Int32) from fun z => by rw [show (1 : Int32) = nI 1 from rfl, nI_ltI (by omega) (by omega)] at z; omega), if_pos (show nI y ≤ (99 : Int32) from (nI_leI (a := y) (b := 99) (by omega) (by omega)).mpr m2)]
    refine two_q (nI (itP R true K y).2.2.1 &&& (nI (itP R false K y).2.2.1 ^^^ (-1 : Int32))) h0 g ?_ ?_
    · refine ok_bind (c_heardBehind hC g true m2) ?_
      rintro ⟨o, v⟩ ⟨v1, v2, -⟩
      simp only at v1
      subst v1
      refine ok_bind (c_heardBehind v2 g false m2) ?_
      rintro ⟨o, w⟩ ⟨w1, w2, -⟩
      simp only at w1
      subst w1
      exact ok_some ⟨rfl, w2⟩
    · refine ok_bind (m_heardBehind (old := false) hM2.2.1 gRr hM2.2.2.2.2.1 gKK hyn m2 c49 hM2.2.2.2.2.2.2.2) ?_
      rintro ⟨o, v⟩ ⟨v1, v2, v3, v4⟩
      simp only at v1 v2 v3 v4
      subst v1
      have hMv : RM v t R G S K B M := RM_q hM2 g v3 qmP_ok v2
      have f46 : fr (fun a j => a = 1 ∧ j = 46) v (sI v 1 46 1) := fr_sI (fr_refl _ _) ⟨rfl, rfl⟩
      have r46 : rM (sI v 1 46 1) R := rM_fr hMv.2.1 gRr.1 f46 (fun a j q z => by rcases q with q | q | q | q <;> omega)
      have k46 : kM (sI v 1 46 1) 29 0 K := kM_fr hMv.2.2.2.2.1 gq f46 (fun j _ _ z => by omega)
      refine ok_bind (m_heardBehind (old := true) r46 gRr k46 gKK hyn m2 ((gI_ne (by omega)).trans v4) (gI_eq rfl rfl)) ?_
      rintro ⟨o, w⟩ ⟨w1, w2, w3, w4⟩
      simp only at w1 w2 w3 w4
      subst w1
      refine ok_some ⟨rfl, RM_eq hMv g (fun a j q => ?_) (fun p hp => ?_)⟩
      · by_cases z : a = 1 ∧ j = 46
        · rw [z.1, z.2, gI_eq rfl rfl]
          exact hMv.2.2.2.2.2.2.2.symm
        · rw [gI_ne z]
          by_cases z2 : a = 29 ∧ j < 22
          · rw [z2.1, w2 j z2.2, gI_ne (by omega)]
          · rw [fr_I w3 (fun z3 => ?_), gI_ne z]
            rcases qmP_ok a j z3 with z4 | z4
            · exact q z4
            · exact z2 z4
      · show gJ w 4 p = gJ v 4 p
        rw [fr_J w3 (fun z => by rcases z with z | z | z | z | z <;> omega)]
        rfl
  · have e' : f_X11_within a 1 99 = nI 0 := e
    rw [e', if0]
    rcases e2 with e2 | ⟨e2, e3⟩
    · rw [if_pos (show a < (1 : Int32) from e2)]
      exact two_q _ h0 g (ok_some ⟨rfl, hC⟩) (ok_some ⟨rfl, hM1⟩)
    · rw [if_neg (show ¬ a < (1 : Int32) from e2), if_neg (show ¬ a ≤ (99 : Int32) from e3)]
      exact two_q _ h0 g (ok_some ⟨rfl, hC⟩) (ok_some ⟨rfl, hM1⟩)
theorem st_stale (n : Nat) : St_stale (RelN (n + 1)) (RelN n) := by
  intro uC uM h _
  obtain ⟨h0, t, R, G, S, K, B, M, g, hC, hM⟩ := RelN_mono n uC uM h
  have hM1 := RM_t (x := 0) hM g
  obtain ⟨-, gRr, -, -, -, gKK, gBB, -⟩ := id g
  have gq := gK_gQ gKK gRr
  have hyn := Yn_lt n
  have hk1 := gKK.1
  have h40 := gRr.2.2.1.2
  have gK2 := gK_up (Z := 8000) gKK (by omega)
  have ig99 := itP_g false gK2 gRr 99 (by omega)
  unfold f_X10_stale f_X11_stale
  simp only [gm_letE]
  generalize sI uM 1 0 (0 : Int32) = u1 at *
  obtain ⟨hM2, c49⟩ := m_cand hM1 g
  generalize sI u1 1 49 (gI u1 3 2) = u2 at *
  refine two_q ((nI (qB K.2.2.2) &&& (nI (qB (itP R false K 99).2.2.2) ^^^ (-1 : Int32))) &&& (nI (itP R false K 99).2.2.1 ^^^ (-1 : Int32))) h0 g ?_ ?_
  · refine ok_bind (c_heardBehind (y := 99) hC g false (by omega)) ?_
    rintro ⟨o, v⟩ ⟨v1, v2, v3⟩
    simp only at v1 v3
    subst v1
    simp only [c_queueBits v2.2.2.2.2.1 gq, c_queueBits v3 (gK_gQ ig99 gRr), Option.bind_some]
    exact ok_some ⟨rfl, v2⟩
  · refine ok_bind (m_save hM2.2.2.2.2.1 gq) ?_
    rintro v ⟨v1, v2, v3⟩
    rw [m_inQueue v2 gq]
    simp only [Option.bind_some]
    refine ok_bind (Q := fun w => jM u2 w ∧ kM w 29 0 (itP R false K 99))
      (lp_ok 99 (fun j x => x.1 = nI j ∧ jM u2 x.2 ∧ kM x.2 29 0 (itP R false K j) ∧ gI x.2 1 49 = nI (rCandle R)) (by omega) ⟨rfl, v1, v2, (fr_I v3 (by omega)).trans c49⟩ ?_ ?_) ?_
    · rintro j ⟨x, w⟩ hj ⟨hx, hw1, hw2, hw3⟩
      simp only at hx hw1 hw2 hw3
      subst hx
      have iy := itP_y R false K j
      have ig := itP_g false gK2 gRr j (by omega)
      simp (disch := omega) only [b_X11_stale_35, litI, nI_leI, if_neg]
      refine ok_bind (j_pass (old := false) hw1 hM2.2.1 gRr hw2 ig (by omega) (show (8000 : Nat) < 2 ^ 30 by omega) (by omega) hw3 hM2.2.2.2.2.2.2.2) ?_
      rintro ⟨o, w2⟩ ⟨z1, z2, z3⟩
      exact ok_some ⟨by rw [nI_add], z1, z2, z3⟩
    · rintro ⟨x, w⟩ ⟨hx, hw1, hw2, hw3⟩
      simp only at hx hw1 hw2 hw3
      subst hx
      simp (disch := omega) only [b_X11_stale_35, litI, nI_leI, if_pos]
      exact ok_some ⟨hw1, hw2⟩
    · rintro w ⟨w1, w2⟩
      have e3 : gI w 29 3 = nI (itP R false K 99).2.2.1 := w2.1.2.2.2
      rw [m_inQueue w2 (gK_gQ ig99 gRr)]
      simp only [Option.bind_some, e3]
      refine ok_bind (m_back hM2 g w1) ?_
      rintro w2' ⟨z1, -⟩
      refine ok_some ⟨?_, z1⟩
      show nI (qB K.2.2.2) &&& ((nI (itP R false K 99).2.2.1 ^^^ (-1 : Int32)) &&& (nI (qB (itP R false K 99).2.2.2) ^^^ (-1 : Int32))) = _
      generalize nI (qB K.2.2.2) = X
      generalize (nI (itP R false K 99).2.2.1 ^^^ (-1 : Int32)) = Y
      generalize (nI (qB (itP R false K 99).2.2.2) ^^^ (-1 : Int32)) = Z
      rw [Int32.and_assoc, Int32.and_comm Z Y]
/-! exchange -/
def swp (q : List pQ) (i j : Nat) (e f : pQ) : List pQ := (q.set i f).set j e
theorem swp_perm {q : List pQ} {i j : Nat} {e f : pQ} (hi : q[i]? = some e) (hj : q[j]? = some f) : (swp q i j e f).Perm q := by
  obtain ⟨i1, i2⟩ := List.getElem?_eq_some_iff.mp hi
  obtain ⟨j1, j2⟩ := List.getElem?_eq_some_iff.mp hj
  have := List.set_set_perm (as := q) i1 j1
  rw [i2, j2] at this
  exact this
theorem swp_at {q : List pQ} {i j m : Nat} {e f x : pQ} (hi : q[i]? = some e) (hj : q[j]? = some f) (hm : (swp q i j e f)[m]? = some x) : (m = j ∧ x = e) ∨ (m ≠ j ∧ m = i ∧ x = f) ∨ (m ≠ j ∧ m ≠ i ∧ q[m]? = some x) := by
  obtain ⟨i1, i2⟩ := List.getElem?_eq_some_iff.mp hi
  obtain ⟨j1, j2⟩ := List.getElem?_eq_some_iff.mp hj
  unfold swp at hm
  by_cases z : m = j
  · subst z
    rw [List.getElem?_set_self (by rw [List.length_set]; exact j1)] at hm
    cases hm
    exact .inl ⟨rfl, rfl⟩
  · rw [List.getElem?_set_ne (fun w => z w.symm)] at hm
    by_cases z2 : m = i
    · subst z2
      rw [List.getElem?_set_self i1] at hm
      cases hm
      exact .inr (.inl ⟨z, rfl, rfl⟩)
    · rw [List.getElem?_set_ne (fun w => z2 w.symm)] at hm
      exact .inr (.inr ⟨z, z2, hm⟩)
theorem gK_swp {R : pR} {Y i j : Nat} {k : pK} {e f : pQ} (h : gK R Y k) (hi : k.2.2.2[i]? = some e) (hj : k.2.2.2[j]? = some f) : gK R Y (k.1, k.2.1, k.2.2.1, swp k.2.2.2 i j e f) := by
  have p := swp_perm hi hj
  exact ⟨h.1, h.2.1, h.2.2.1, (p.map (fun e => e.1)).symm.nodup h.2.2.2.1, fun x hx => h.2.2.2.2 x (p.mem_iff.mp hx)⟩
theorem kC_swp {u : gm_M} {c i j : Nat} {k : pK} {e f : pQ} (h : kC u c k) (hi : k.2.2.2[i]? = some e) (hj : k.2.2.2[j]? = some f) : kC (sI (sI u (c + 1) i (nI f.1)) (c + 1) j (nI e.1)) c (k.1, k.2.1, k.2.2.1, swp k.2.2.2 i j e f) := by
  obtain ⟨⟨h0, h1, h2, h3⟩, h4⟩ := h
  refine ⟨⟨?_, ?_, ?_, ?_⟩, fun m x hm => ?_⟩
  · rw [gI_ne (by omega), gI_ne (by omega)]; exact h0
  · rw [gI_ne (by omega), gI_ne (by omega)]; exact h1
  · rw [gI_ne (by omega), gI_ne (by omega)]; exact h2
  · rw [gI_ne (by omega), gI_ne (by omega)]
    simp only [swp, List.length_set]
    exact h3
  · have two : ∀ m', k.2.2.2[m']? = some x → gI (sI (sI u (c + 1) i (nI f.1)) (c + 1) j (nI e.1)) (c + 2) x.1 = nI x.2.1 ∧ gI (sI (sI u (c + 1) i (nI f.1)) (c + 1) j (nI e.1)) (c + 3) x.1 = nI x.2.2 := fun m' hm' => by
      obtain ⟨-, a2, a3⟩ := h4 m' x hm'
      rw [gI_ne (by omega), gI_ne (by omega), gI_ne (by omega), gI_ne (by omega)]
      exact ⟨a2, a3⟩
    rcases swp_at hi hj hm with ⟨z, rfl⟩ | ⟨z1, z2, rfl⟩ | ⟨z1, z2, z3⟩
    · exact ⟨gI_eq rfl z, two i hi⟩
    · exact ⟨by rw [gI_ne (by omega)]; exact gI_eq rfl z2, two j hj⟩
    · exact ⟨by rw [gI_ne (by omega), gI_ne (by omega)]; exact (h4 m x z3).1, two m z3⟩
theorem kM_swp {u : gm_M} {i j : Nat} {k : pK} {e f : pQ} (h : kM u 29 0 k) (hq : gQ k.2.2.2) (hi : k.2.2.2[i]? = some e) (hj : k.2.2.2[j]? = some f) : kM (sI (sI u 29 (4 + i) (nI f.1)) 29 (4 + j) (nI e.1)) 29 0 (k.1, k.2.1, k.2.2.1, swp k.2.2.2 i j e f) := by
  obtain ⟨⟨h0, h1, h2, h3⟩, h4⟩ := h
  simp only [Nat.zero_add] at h0 h1 h2 h3 h4
  have hl := gQ_len hq
  have i1 := (List.getElem?_eq_some_iff.mp hi).1
  have j1 := (List.getElem?_eq_some_iff.mp hj).1
  refine ⟨⟨?_, ?_, ?_, ?_⟩, fun m x hm => ?_⟩
  · rw [gI_ne (by omega), gI_ne (by omega)]; exact h0
  · rw [gI_ne (by omega), gI_ne (by omega)]; exact h1
  · rw [gI_ne (by omega), gI_ne (by omega)]
    simp only [swp, List.length_set]
    exact h2
  · rw [gI_ne (by omega), gI_ne (by omega)]; exact h3
  · simp only [Nat.zero_add]
    have two : ∀ m', k.2.2.2[m']? = some x → gI (sI (sI u 29 (4 + i) (nI f.1)) 29 (4 + j) (nI e.1)) 29 (10 + x.1) = nI x.2.1 ∧ gI (sI (sI u 29 (4 + i) (nI f.1)) 29 (4 + j) (nI e.1)) 29 (16 + x.1) = nI x.2.2 := fun m' hm' => by
      obtain ⟨-, a2, a3⟩ := h4 m' x hm'
      rw [gI_ne (by omega), gI_ne (by omega), gI_ne (by omega), gI_ne (by omega)]
      exact ⟨a2, a3⟩
    rcases swp_at hi hj hm with ⟨z, rfl⟩ | ⟨z1, z2, rfl⟩ | ⟨z1, z2, z3⟩
    · exact ⟨gI_eq rfl (by omega), two i hi⟩
    · exact ⟨by rw [gI_ne (by omega)]; exact gI_eq rfl (by omega), two j hj⟩
    · exact ⟨by rw [gI_ne (by omega), gI_ne (by omega)]; exact (h4 m x z3).1, two m z3⟩
theorem pl_c {u : gm_M} {c i : Nat} {k : pK} {e : pQ} (h : kC u c k) (hq : gQ k.2.2.2) (hi : k.2.2.2[i]? = some e) : f_X1_placeOf c (nI e.1) u = some (nI i) := by
  obtain ⟨r, er, cr⟩ := c_placeOf h hq (nI e.1)
  rcases cr with ⟨i', e', he', w, rfl⟩ | ⟨w, -⟩
  · have z1 := gQ_at hq hi
    have z2 := gQ_at hq he'
    rw [nI_eq (by omega) (by omega)] at w
    rw [er, gQ_inj hq he' hi w]
  · exact absurd rfl (w e (List.mem_of_getElem? hi))
theorem pl_m {u : gm_M} {i : Nat} {k : pK} {e : pQ} (h : kM u 29 0 k) (hq : gQ k.2.2.2) (hi : k.2.2.2[i]? = some e) : f_X11_placeOf (nI e.1) u = some (nI i) := by
  obtain ⟨r, er, cr⟩ := m_placeOf h hq (nI e.1)
  rcases cr with ⟨i', e', he', w, rfl⟩ | ⟨w, -⟩
  · have z1 := gQ_at hq hi
    have z2 := gQ_at hq he'
    rw [nI_eq (by omega) (by omega)] at w
    rw [er, gQ_inj hq he' hi w]
  · exact absurd rfl (w e (List.mem_of_getElem? hi))
theorem st_exchange (n : Nat) : St_exchange (RelN (n + 1)) (RelN n) := by
  intro uC uM h a b
  obtain ⟨h0, t, R, G, S, K, B, M, g, hC, hM⟩ := RelN_mono n uC uM h
  have hM1 := RM_t (x := 0) hM g
  obtain ⟨-, gRr, -, -, -, gKK, gBB, -⟩ := id g
  have gq := gK_gQ gKK gRr
  have hl := gQ_len gq
  have hyn := Yn_lt n
  have hk1 := gKK.1
  have h40 := gRr.2.2.1.2
  have gK2 := gK_up (Z := 8000) gKK (by omega)
  unfold f_X10_exchange f_X11_exchange
  simp only [gm_letE]
  generalize sI uM 1 0 (0 : Int32) = u1 at *
  obtain ⟨hM2, c49⟩ := m_cand hM1 g
  generalize sI u1 1 49 (gI u1 3 2) = u2 at *
  have no : ∃ (r : Int32) (uC' uM' : gm_M), some ((-1 : Int32), uC) = some (r, uC') ∧ some ((-1 : Int32), u1) = some (r, uM') ∧ RelN n uC' uM' := two_q _ h0 g (ok_some ⟨rfl, hC⟩) (ok_some ⟨rfl, hM1⟩)
  rcases inq g hC hM1 a with ⟨p, i, e, hp, rfl, he, hep, hbit, a1, a2, a3, hi6⟩ | ⟨a1, a2⟩
  · rcases inq g hC hM1 b with ⟨p2, j, f, hp2, rfl, hf, hfp, hbit2, b1, b2, b3, hj6⟩ | ⟨b1, b2⟩
    · subst hep hfp
      by_cases z : nI e.1 = nI f.1
      · simp only [if_pos z, a2, b2, if1]
        exact no
      · rw [if_neg z, a1, b1, a2, if1, b2, if1, if_neg z, a3, b3]
        have nl : ¬ nI i < (0 : Int32) := nI_pos (by omega)
        simp only [Option.bind_some, if1, ifge hj6, if_neg nl]
        have gE := gK_swp gK2 he hf
        have gqE := gK_gQ gE gRr
        have g8 := gap_le K.1
        refine two_q (nI (dayH R (rCandle R) (killK R (nxt K.1) (K.1, K.2.1, K.2.2.1, swp K.2.2.2 i j e f))).2) h0 g ?_ ?_
        · refine ok_bind (c_copy (c := 40) (d := 27) hC.2.2.2.2.1 gq (by omega)) ?_
          rintro v ⟨v1, v2⟩
          have hCv := RC_fr hC gBB.1 v2 crt_ir
          have p1 := pl_c v1 gq he
          have p2 := pl_c v1 gq hf
          simp (disch := omega) only [f_X1_changePlaces, litI, p1, p2, Option.bind_some, nI_ltI, nI_leI, if_neg, if_pos, ib_nI, ix_nI, gm_let]
          have hkv := kC_swp v1 he hf
          have hfv : fr (crt 40) v (sI (sI v (40 + 1) i (nI f.1)) (40 + 1) j (nI e.1)) := fr_sI (fr_sI (fr_refl _ _) ⟨by omega, by omega⟩) ⟨by omega, by omega⟩
          have hCw := RC_fr hCv gBB.1 hfv crt_ir
          generalize sI (sI v (40 + 1) i (nI f.1)) (40 + 1) j (nI e.1) = w at *
          obtain ⟨-, ⟨r, hr, hrC⟩, -⟩ := id hCw
          obtain ⟨i1, i2, i3⟩ := isR_ok hr
          rw [i3] at i1 ⊢
          simp only [i1, if_true, hrC.1.2.2.1]
          refine ok_bind (c_passToDay hrC gRr hkv gE i2 (.inr rfl) (by omega) (by omega) (by omega)) ?_
          rintro ⟨o, w2⟩ ⟨z1, z2, z3, -⟩
          exact ok_some ⟨z2, RC_fr hCw gBB.1 z1 (dayP_ir i2)⟩
        · refine ok_bind (m_save hM2.2.2.2.2.1 gq) ?_
          rintro v ⟨v1, v2, v3⟩
          have p1 := pl_m v2 gq he
          have p2 := pl_m v2 gq hf
          have e3 : gI v 29 3 = nI K.2.2.1 := v2.1.2.2.2
          simp (disch := omega) only [p1, p2, Option.bind_some, litI, nI_add, ib_nI, ix_nI, if_pos, e3]
          have hkv := kM_swp v2 gq he hf
          have hjv : jM u2 (sI (sI v 29 (4 + i) (nI f.1)) 29 (4 + j) (nI e.1)) := jM_29 (jM_29 v1 (by omega)) (by omega)
          have c49' : gI (sI (sI v 29 (4 + i) (nI f.1)) 29 (4 + j) (nI e.1)) 1 49 = nI (rCandle R) := by
            rw [gI_ne (by omega), gI_ne (by omega)]
            exact (fr_I v3 (by omega)).trans c49
          generalize sI (sI v 29 (4 + i) (nI f.1)) 29 (4 + j) (nI e.1) = w at *
          refine ok_bind (j_ride hjv hM2.2.1 gRr hkv gE (by omega) (by omega) (by omega) c49' hM2.2.2.2.2.2.2.2) ?_
          rintro w2 ⟨z1, z2, -⟩
          have ig2 := gK_kill (R := R) (y := nxt K.1) gE (by unfold nxt; omega)
          have e4 : gI w2 29 3 = nI (K.2.2.1 ||| (dayH R (rCandle R) (killK R (nxt K.1) (K.1, K.2.1, K.2.2.1, swp K.2.2.2 i j e f))).2) := z2.1.2.2.2
          have hd2 : (K.2.2.1 ||| (dayH R (rCandle R) (killK R (nxt K.1) (K.1, K.2.1, K.2.2.1, swp K.2.2.2 i j e f))).2) &&& (63 - K.2.2.1) = (dayH R (rCandle R) (killK R (nxt K.1) (K.1, K.2.1, K.2.2.1, swp K.2.2.2 i j e f))).2 := dayH_dis ig2 gRr
          rw [e4, nI_andx (or_lt gKK.2.2.1 (dayH_lt ig2 gRr)) gKK.2.2.1, hd2]
          refine ok_bind (m_back hM2 g z1) ?_
          rintro w2' ⟨s1, -⟩
          exact ok_some ⟨rfl, s1⟩
    · have nl : ¬ nI i < (0 : Int32) := nI_pos (by omega)
      rw [a1, b1, a2, if1, a3]
      simp only [Option.bind_some, if1, if0, if_neg nl]
      rcases b2 with b2 | ⟨b2, b3⟩
      · rw [b2, if0]
        by_cases z : nI p = b
        · rw [if_pos z]; exact no
        · rw [if_neg z]; exact no
      · rw [b2, if1, b3]
        simp only [Option.bind_some, ifgm]
        by_cases z : nI p = b
        · rw [if_pos z, if_pos z]; exact no
        · rw [if_neg z, if_neg z]; exact no
  · rw [a1]
    simp only [Option.bind_some, if0]
    have lft : (if a = b then some ((-1 : Int32), uC) else some ((-1 : Int32), uC)) = some ((-1 : Int32), uC) := by split <;> rfl
    rw [lft]
    rcases a2 with a2 | ⟨a2, a3⟩
    · rw [a2, if0]; exact no
    · rw [a2, if1, a3]
      have ng : (-nI 1 : Int32) < 0 := by decide
      simp only [Option.bind_some, if_pos ng]
      split
      · exact no
      · split
        · exact no
        · exact no
