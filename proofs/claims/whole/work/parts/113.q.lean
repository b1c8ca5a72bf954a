/-! gate, lastday, old, person, count -/
def gtw (o m l : Nat) : Nat := if nxt l ≤ o then gtw o (max m (nxt l - l)) (nxt l) else m
termination_by o - l
decreasing_by
  have := gap_le l
  unfold nxt at *
  omega
theorem nI_max {a b : Nat} (ha : a < 2 ^ 31) (hb : b < 2 ^ 31) : (if nI a < nI b then nI b else nI a) = nI (max a b) := by
  rcases Nat.lt_or_ge a b with q | q
  · rw [if_pos ((nI_ltI ha hb).mpr q), Nat.max_eq_right (by omega)]
  · rw [if_neg (fun p => by rw [nI_ltI ha hb] at p; omega), Nat.max_eq_left q]
theorem st_gate (n : Nat) : St_gate (RelN (n + 1)) (RelN n) := by
  intro uC uM h a b
  unfold f_X11_gate f_X10_gate
  simp only [gm_letE, told_w, leap_m]
  rcases told_cases a with ⟨y, y1, y2, rfl, e⟩ | e
  · simp only [e, if1]
    rcases told_w2 y1 y2 b with ⟨o, z1, z2, rfl, e2⟩ | ⟨e2, e3⟩
    · have t : f_X0_isTold (nI o) = nI 1 := by simp (disch := omega) only [f_X0_isTold, gm_let, litI, ib_nI, ix_nI, nI_leI, nI_ltI, nI_eq, nI_add, nI_sub, nI_mul, nI_div, nI_rem, nI_m1, nI_eqm, nI_gem, nI_ltm, nI_mlt, nI_lem, Option.bind_some, Option.bind_none, if_neg]
      simp only [e2, if1, t, if_pos ((nI_leI (show y < 2 ^ 31 by omega) (show o < 2 ^ 31 by omega)).mpr z1)]
      have fl : ∃ l0, y ≤ l0 ∧ l0 ≤ y + 8 ∧ lpy l0 = true ∧ (∀ i, y ≤ i → i < l0 → lpy i = false) ∧ (if f_X0_isLeap (nI y) = 0 then (f_X11_nextLeap (nI y)).bind fun r_18 => j_X11_gate_46 (nI y) (nI o) (0 : Int32) r_18 (sI uM 1 0 0) else j_X11_gate_46 (nI y) (nI o) (0 : Int32) (nI y) (sI uM 1 0 0)) = j_X11_gate_46 (nI y) (nI o) (0 : Int32) (nI l0) (sI uM 1 0 0) := by
        rw [leap_n (by omega), m_nextLeap (by omega)]
        cases q : lpy y
        · have g0 := gap_le y
          refine ⟨nxt y, by unfold nxt; omega, by unfold nxt; omega, gap_leap y, fun i i1 i2 => ?_, ?_⟩
          · by_cases z : i = y
            · rw [z]; exact q
            · obtain ⟨d, rfl⟩ : ∃ d, i = y + d := ⟨i - y, by omega⟩
              exact gap_no y d (by unfold nxt at i2; omega) (by omega)
          · simp only [Bool.toNat_false, if0, Option.bind_some]
        · exact ⟨y, by omega, by omega, q, fun i i1 i2 => absurd i2 (by omega), by simp only [Bool.toNat_true, if1]⟩
      obtain ⟨l0, p1, p2, p3, p4, p5⟩ := fl
      rw [p5]
      have km : ok (gm_lp (b_X11_gate_48 (nI y) (nI o) (sI uM 1 0 0)) gm_FU (nI 0, nI l0)) (fun r => r = nI (gtw o 0 l0)) := by
        refine lp_ok 4000 (fun j x => ∃ m l, x = (nI m, nI l) ∧ m ≤ 8 ∧ l0 + j ≤ l ∧ l ≤ 4016 ∧ (l ≤ o ∨ j = 0) ∧ gtw o m l = gtw o 0 l0) (by omega) ⟨0, l0, rfl, by omega, by omega, by omega, .inr rfl, rfl⟩ ?_ ?_
        · rintro j x hj ⟨m, l, rfl, m1, l1, l2, l3, l4⟩
          have g0 := gap_le l
          have nx : nxt l - l = gap l := by unfold nxt; omega
          have nx2 : nxt l = l + gap l := rfl
          simp (disch := omega) only [b_X11_gate_48, gm_let, m_nextLeap, Option.bind_some, nI_ltI, nI_sub, nx]
          have mx : (if m < gap l then nI (gap l) else nI m) = nI (max m (gap l)) := by
            by_cases w : m < gap l
            · rw [if_pos w, Nat.max_eq_right (by omega)]
            · rw [if_neg w, Nat.max_eq_left (by omega)]
          by_cases q : o < nxt l
          · rw [if_pos q]
            refine ok_some ?_
            show nI m = _
            rw [← l4, gtw, if_neg (by omega)]
          · rw [if_neg q, mx]
            refine ok_some ⟨_, _, rfl, by omega, by omega, by omega, .inl (by omega), ?_⟩
            rw [← l4, gtw.eq_1 o m l, if_pos (by omega), nx]
        · rintro x ⟨m, l, rfl, m1, l1, l2, l3, l4⟩
          omega
      have kc : ok (gm_lp (b_X10_gate_29 (nI y) (nI o)) gm_FU (nI 0, nI 0, nI y)) (fun r => r = nI (gtw o 0 l0)) := by
        refine lp_ok (o + 1 - y) (fun j x => ∃ m l, x = (nI m, nI l, nI (y + j)) ∧ m ≤ 8 ∧ ((l = 0 ∧ m = 0 ∧ y + j ≤ l0) ∨ (1 ≤ l ∧ l < y + j ∧ y + j ≤ nxt l ∧ gtw o m l = gtw o 0 l0))) (by omega) ⟨0, 0, rfl, by omega, .inl ⟨rfl, rfl, by omega⟩⟩ ?_ ?_
        · rintro j x hj ⟨m, l, rfl, m1, hs⟩
          simp (disch := omega) only [b_X10_gate_29, gm_let, litI, nI_ltI, if_neg, nI_add, leap_n]
          rcases hs with ⟨rfl, rfl, l1⟩ | ⟨l1, l2, l3, l4⟩
          · cases q : lpy (y + j)
            · simp only [Bool.toNat_false, if0n]
              refine ok_some ⟨0, 0, rfl, by omega, .inl ⟨rfl, rfl, ?_⟩⟩
              have : y + j ≠ l0 := fun z => by rw [z, p3] at q; cases q
              omega
            · have : y + j = l0 := by
                rcases Nat.lt_or_ge (y + j) l0 with z | z
                · rw [p4 (y + j) (by omega) z] at q; cases q
                · omega
              have g0 := gap_le (y + j)
              simp (disch := omega) only [Bool.toNat_true, if1n, nI_leI, if_pos]
              exact ok_some ⟨0, y + j, rfl, by omega, .inr ⟨by omega, by omega, by unfold nxt; omega, by rw [this]⟩⟩
          · have g0 := gap_le l
            have nx2 : nxt l = l + gap l := rfl
            cases q : lpy (y + j)
            · simp only [Bool.toNat_false, if0n]
              refine ok_some ⟨m, l, rfl, m1, .inr ⟨l1, by omega, ?_, l4⟩⟩
              have : y + j ≠ nxt l := fun z => by
                have z2 := gap_leap l
                rw [← nx2, ← z, q] at z2
                cases z2
              omega
            · have z : y + j = nxt l := by
                rcases Nat.lt_or_ge (y + j) (nxt l) with z | z
                · have z2 := gap_no l (y + j - l) (by omega) (by omega)
                  have z3 : l + (y + j - l) = y + j := by omega
                  rw [z3, q] at z2
                  cases z2
                · omega
              have g1 := gap_le (nxt l)
              have nx3 : nxt (nxt l) = nxt l + gap (nxt l) := rfl
              have nx : nxt l - l = gap l := by omega
              simp (disch := omega) only [Bool.toNat_true, if1n, nI_leI, if_neg, nI_sub]
              rw [nI_max (by omega) (by omega), z, nx]
              refine ok_some ⟨max m (gap l), nxt l, by rw [← z, Nat.add_assoc], by omega, .inr ⟨by omega, by omega, by omega, ?_⟩⟩
              rw [← l4, gtw.eq_1 o m l, if_pos (by omega), nx]
        · rintro x ⟨m, l, rfl, m1, hs⟩
          simp (disch := omega) only [b_X10_gate_29, gm_let, litI, nI_ltI, if_pos]
          refine ok_some ?_
          rcases hs with ⟨rfl, rfl, l1⟩ | ⟨l1, l2, l3, l4⟩
          · have g0 := gap_le l0
            show nI 0 = _
            rw [gtw, if_neg (by unfold nxt; omega)]
          · show nI m = _
            rw [← l4, gtw, if_neg (by omega)]
      obtain ⟨r1, c1, rfl⟩ := km
      obtain ⟨r2, c2, rfl⟩ := kc
      refine ⟨nI (gtw o 0 l0), sI uM 1 0 0, ?_, ?_, relQ h⟩
      · show ((gm_lp (b_X10_gate_29 (nI y) (nI o)) gm_FU (nI 0, nI 0, nI y)).bind _) = _
        rw [c2]; rfl
      · show ((gm_lp (b_X11_gate_48 (nI y) (nI o) (sI uM 1 0 0)) gm_FU (nI 0, nI l0)).bind _) = _
        rw [c1]; rfl
    · rcases e3 with e3 | ⟨e3, e4⟩
      · simp only [e2, e3, if0]
        exact ⟨_, _, rfl, rfl, relQ h⟩
      · simp only [e2, e3, if0, if1, if_neg e4]
        exact ⟨_, _, rfl, rfl, relQ h⟩
  · simp only [e, if0]
    exact ⟨_, _, rfl, rfl, relQ h⟩
/-- what the two sides say of one who may be a person -/
theorem who {uC uM : gm_M} {n r : Nat} {t : List Nat} {R : pR} {G : pG} {S : pS} {K : pK} {B : List pK} {M : pMk} (g : gA n t R G S K B M) (hC : rC uC r R) (hM : RM uM t R G S K B M) (a : Int32) :
    (∃ p, p < rN R ∧ a = nI p ∧ f_X5_isPerson r a uC = nI 1 ∧ f_X11_isPerson a (sI uM 1 0 0) = nI 1) ∨ ((∀ p, p < rN R → nI p ≠ a) ∧ f_X5_isPerson r a uC = nI 0 ∧ f_X11_isPerson a (sI uM 1 0 0) = nI 0) := by
  have g1 := g.2.1.1
  have hM1 : rM (sI uM 1 0 0) R := (RM_t hM g).2.1
  rcases c_isPerson hC g1 a with ⟨p, hp, e1, e2⟩ | ⟨hp, e2⟩
  · rcases m_isPerson hM1 g1 a with ⟨p', hp', e1', e2'⟩ | ⟨hp', e2'⟩
    · exact .inl ⟨p, hp, e1, e2, e2'⟩
    · exact absurd e1.symm (hp' p hp)
  · rcases m_isPerson hM1 g1 a with ⟨p', hp', e1', e2'⟩ | ⟨hp', e2'⟩
    · exact absurd e1'.symm (hp p' hp')
    · exact .inr ⟨hp, e2, e2'⟩
theorem st_old (n : Nat) : St_old (RelN (n + 1)) (RelN n) := by
  intro uC uM h a
  have hq := relQ (x := 0) h
  obtain ⟨h0, t, R, G, S, K, B, M, g, hC, hM⟩ := RelN_mono n uC uM h
  obtain ⟨-, ⟨r, hr, hrC⟩, -, -, hkC, -⟩ := id hC
  obtain ⟨i1, i2, i3⟩ := isR_ok hr
  have hM1 := RM_t (x := 0) hM g
  have g1 := g.2.1.1
  unfold f_X10_old f_X11_old
  rw [i3] at i1 ⊢
  simp only [gm_letE, i1, if_true, lus_m]
  rcases who g hrC hM a with ⟨p, hp, rfl, e1, e2⟩ | ⟨hp, e1, e2⟩
  · have b1 := c_bornOf hrC g1 hp
    have b2 := (hM1.2.1.2.1 p hp).2.2.1
    have k1 : gI uC 27 0 = nI K.1 := hkC.1.1
    have k2 : gI (sI uM 1 0 0) 29 0 = nI K.1 := hM1.2.2.2.2.1.1.1
    simp (disch := omega) only [e1, e2, if1, b1, b2, k1, k2, Option.bind_some, ib_nI, ix_nI, if_pos]
    exact ⟨_, _, rfl, rfl, hq⟩
  · simp only [e1, e2, if0]
    exact ⟨_, _, rfl, rfl, hq⟩
theorem st_lastday (n : Nat) : St_lastday (RelN (n + 1)) (RelN n) := by
  intro uC uM h a
  have hq := relQ (x := 0) h
  obtain ⟨h0, t, R, G, S, K, B, M, g, hC, hM⟩ := RelN_mono n uC uM h
  obtain ⟨-, ⟨r, hr, hrC⟩, -, -, hkC, -⟩ := id hC
  obtain ⟨i1, i2, i3⟩ := isR_ok hr
  have hM1 := RM_t (x := 0) hM g
  have hgR := g.2.1
  have g1 := g.2.1.1
  unfold f_X10_lastday f_X11_lastday
  rw [i3] at i1 ⊢
  simp only [gm_letE, i1, if_true]
  have hw := who g hrC hM a
  generalize sI uM 1 0 (0 : Int32) = u1 at *
  rcases hw with ⟨p, hp, rfl, e1, e2⟩ | ⟨hp, e1, e2⟩
  · have b1 := c_bornOf hrC g1 hp
    have b0 := c_kindOf hrC g1 hp
    have c1 := (hM1.2.1.2.1 p hp).2.1
    have b2 := (hM1.2.1.2.1 p hp).2.2.1
    have l1 := hrC.1.2.2.2
    have l2 := hM1.2.1.1.2.2.2
    obtain ⟨k1, k2, k3⟩ := hgR.2.2.2.2 p hp
    have k4 := hgR.2.2.2.1
    simp (disch := omega) only [e1, e2, if1n, b0, b1, b2, c1, l1, l2, Option.bind_some, ib_nI, ix_nI, if_pos, litI, nI_eq, nI_add, nI_sub]
    by_cases q : rKind R p = 2
    · rw [if_pos q, if_pos q]
      exact ⟨_, _, rfl, rfl, hq⟩
    · rw [if_neg q, if_neg q]
      have two := lp_two0 (b := b_X10_lastday_46 (nI p) (nI (rBorn R p)) uC) (b' := b_X11_lastday_41 (nI p) u1) (rLives R) (fun k x x' => x = nI (rBorn R p + rLives R - 1 - k) ∧ x' = x ∧ k ≤ rLives R) (fun o o' => (∃ z, o = .inl z ∧ o' = z ∧ j_X11_lastday_64 (nI p) z u1 = some (z, u1)) ∨ (o = .inr () ∧ j_X11_lastday_64 (nI p) o' u1 = some (-nI 1, u1))) (nI (rBorn R p + rLives R - 1)) (nI (rBorn R p + rLives R - 1)) (by omega) ⟨rfl, rfl, by omega⟩ ?_ ?_
      · obtain ⟨o, o', z1, z2, z3⟩ := two
        rw [z1, z2]
        simp only [Option.bind_some]
        rcases z3 with ⟨z, rfl, rfl, z4⟩ | ⟨rfl, z4⟩
        · exact ⟨_, _, rfl, z4, hq⟩
        · exact ⟨_, _, rfl, z4, hq⟩
      · rintro k x x' hk ⟨rfl, rfl, hk2⟩
        simp (disch := omega) only [b_X10_lastday_46, b_X11_lastday_41, gm_let, leap_m, leap_n, litI, ib_nI, ix_nI, if_pos, b2, nI_ltI, if_neg, nI_m1]
        cases z : lpy (rBorn R p + rLives R - 1 - k)
        · simp only [Bool.toNat_false, if0n]
          exact .inl ⟨_, _, rfl, rfl, by congr 1, rfl, by omega⟩
        · simp only [Bool.toNat_true, if1n]
          refine .inr ⟨_, _, rfl, rfl, .inl ⟨_, rfl, rfl, ?_⟩⟩
          simp (disch := omega) only [j_X11_lastday_64, litI, ib_nI, ix_nI, if_pos, b2, nI_ltI, if_neg]
      · rintro x x' ⟨rfl, rfl, hk2⟩
        simp (disch := omega) only [b_X10_lastday_46, b_X11_lastday_41, gm_let, litI, ib_nI, ix_nI, if_pos, b2, nI_ltI]
        refine ⟨_, _, rfl, rfl, .inr ⟨rfl, ?_⟩⟩
        simp (disch := omega) only [j_X11_lastday_64, litI, ib_nI, ix_nI, if_pos, b2, nI_ltI]
  · simp only [e1, e2, if0]
    exact ⟨_, _, rfl, rfl, hq⟩
