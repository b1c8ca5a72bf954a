/-! realm: all lines -/
theorem wd_lt {t : List Nat} {p k : Nat} (hp : p ≤ t.length) (h : tWd t p = k) (hk : k ≠ 24) : p < kE t p ∧ kE t p ≤ t.length := by
  have hS : kS t p ≠ 0 := by have := wd_S (t := t) (p := p) (by omega); omega
  have := kE_le hp hS
  omega
theorem sg_lt {t : List Nat} {p c : Nat} (hp : p ≤ t.length) (h : tSg t p = c) (hc : c ≠ 0) : p < kE t p ∧ kE t p ≤ t.length := by
  have := kE_le hp (sg_S (t := t) (p := p) (by omega))
  omega
theorem nu_lt {t : List Nat} {p : Nat} (hp : p ≤ t.length) (h : kS t p = 2) : p < kE t p ∧ kE t p ≤ t.length := by
  have := kE_le hp (show kS t p ≠ 0 by omega)
  omega
theorem line_all {t : List Nat} {r p T : Nat} {R : pR} {uC uM : gm_M} (hr : r = 5 ∨ r = 13) (gt : gT t) (h : DS t r uC uM p R T) (hs : kS t p ≠ 0) : ∃ vC o, f_X8_readRealmLine r uC = some vC ∧ b_X11_readsAll_39 uM = some o ∧ LQ t r uC uM p vC o := by
  obtain ⟨h1, h2, h3, h4, h5, h6, h7, h8, h9, h10, h11, h12⟩ := id h
  have gl := gt.1
  have hsl := kS_le t p
  have wl : tWd t p ≤ 24 := by
    unfold tWd
    have := wIx_le (kW t p)
    split <;> omega
  have e0 : ¬ gI uM 1 6 = 0 := by rw [h2.2.2.1]; exact fun z => hs ((nI_eq (b := 0) (by omega) (by omega)).mp z)
  have b0 : b_X11_readsAll_39 uM = if nI (decide (tWd t p = 0)).toNat = 0 then if nI (decide (tWd t p = 3)).toNat = 0 then if nI (decide (tWd t p = 4)).toNat = 0 then if nI (decide (tWd t p = 5)).toNat = 0 then if nI (decide (tWd t p = 6)).toNat = 0 then (f_X11_fails (1 : Int32) uM).bind fun o => j_X11_readsAll_149 o.1 o.2 else (f_X11_readsFirst uM).bind fun o => j_X11_readsAll_149 o.1 o.2 else (f_X11_readsOne (3 : Int32) (1 : Int32) (120 : Int32) uM).bind fun o => j_X11_readsAll_149 o.1 o.2 else (f_X11_readsOne (2 : Int32) (1 : Int32) (40 : Int32) uM).bind fun o => j_X11_readsAll_149 o.1 o.2 else (f_X11_readsOne (1 : Int32) (1 : Int32) (3000 : Int32) uM).bind fun o => j_X11_readsAll_149 o.1 o.2 else (f_X11_readsPerson uM).bind fun o => j_X11_readsAll_149 o.1 o.2 := by
    rw [b_X11_readsAll_39]
    rw [if_neg e0]
    simp only [gm_letE]
    rw [m_isWord h2 wx0 (by omega), m_isWord h2 wx3 (by omega), m_isWord h2 wx4 (by omega), m_isWord h2 wx5 (by omega), m_isWord h2 wx6 (by omega)]
  -- a number's line
  have ones : ∀ k lo hi : Nat, (k = 3 ∨ k = 4 ∨ k = 5) → tWd t p = k → lo < 10000 → hi < 10000 → (∀ v, lo ≤ v → v ≤ hi → gR1 (rSet (k + 2) v R)) → f_X8_readRealmLine r uC = ((f_X8_takeOnce uC).bind fun u_15 => (f_X8_takeNumber (nI lo) (nI hi) u_15).bind fun o => gm_let (sI o.2 r (k + 2) o.1) fun u_21 => j_X8_readRealmLine_139 r u_21) → b_X11_readsAll_39 uM = ((f_X11_readsOne (nI (k - 2)) (nI lo) (nI hi) uM).bind fun o => j_X11_readsAll_149 o.1 o.2) → ∃ vC o, f_X8_readRealmLine r uC = some vC ∧ b_X11_readsAll_39 uM = some o ∧ LQ t r uC uM p vC o := by
    intro k lo hi hk hw hl hh hg ec em
    obtain ⟨w, ew, w1, w2, w3, w4⟩ := c_one hr gt h5 h1 h3 h4 hw hk h10 h9 hl hh
    obtain ⟨⟨o, v⟩, eo, v1, v2⟩ := m_one gt h6 h7.1 h2 h3 hw hk h11 h9 hl hh
    simp only at v1 v2
    rw [ec, em, ew, eo]
    simp only [Option.bind_some]
    rcases v2 with ⟨F, x1, rfl, x3⟩ | ⟨p', x1, rfl, x3, x4, x5, x6, x7⟩
    · rw [x1] at w3
      rcases w3 with ⟨F', hF, b1, b2, b3⟩ | ⟨q, hF, -⟩
      · cases hF
        rw [j_X11_readsAll_149, if0]
        exact ⟨w, _, rfl, rfl, w1, .inl ⟨F, v, b1, b2, b3, rfl, x3, v1⟩⟩
      · cases hF
    · obtain ⟨w5, w6⟩ := w4 p' x1
      rw [x1] at w3
      rcases w3 with ⟨F', hF, -⟩ | ⟨q, hF, b1, b2, b3⟩
      · cases hF
      · cases hF
        obtain ⟨g1, g2, g3, g4⟩ := xO_inr x1
        have l1 := wd_lt h3 hw (by omega)
        have l2 := nu_lt l1.2 g2.1
        have l3 := sg_lt l2.2 g3 (by omega)
        obtain ⟨s1, s2, s3⟩ := rSet_n (k + 2) (kV t (kE t p)) R
        have or' := (T_or ⟨T, h9⟩ ⟨k, by omega⟩).2
        have n6 := T_n6 ⟨T, h9⟩ ⟨k, by omega⟩
        simp only at or' n6
        rw [j_X11_readsAll_149, if1]
        refine ⟨w, _, rfl, rfl, w1, .inr ⟨v, p', rSet (k + 2) (kV t (kE t p)) R, T ||| 2 ^ k, rfl, by omega, v1, b1, x3, b3, b2, w5, x5, hg _ g2.2.1 g2.2.2, ⟨fun q hq => ?_, fun q q' hq hq' e => ?_⟩, or', w6, x6, ?_⟩⟩
        · rw [s1] at hq; rw [s2]; exact h8.1 q hq
        · rw [s1] at hq hq'; rw [s2, s2] at e; exact h8.2 q q' hq hq' e
        · rw [n6, s3]
          exact lwD_eq h12 w2 x7
  have wd : f_X9_word uC = if tWd t p < 23 then nI (tWd t p) else -nI 1 := c_word h1
  obtain ⟨r1, r2, r3, r4, r5⟩ := h7
  by_cases q0 : tWd t p = 0
  · -- a person
    have ec : f_X8_readRealmLine r uC = ((f_X8_readPerson r uC).bind fun v => j_X8_readRealmLine_139 r v) := by
      unfold f_X8_readRealmLine
      rw [gm_letE, show f_X9_word uC = nI 0 by rw [wd, q0, if_pos (by omega)], if_pos (show nI 0 = (0 : Int32) from rfl)]
    have em : b_X11_readsAll_39 uM = ((f_X11_readsPerson uM).bind fun o => j_X11_readsAll_149 o.1 o.2) := by
      rw [b0, decide_eq_true q0]; exact if1
    obtain ⟨w, ew, w1, w1b, w2, w3, w4⟩ := c_person hr gt h5 r1 h8 h1 h3 h4
    obtain ⟨⟨o, v⟩, eo, v1, v2⟩ := m_person gt h6 r1 h8 h2 h3 q0
    simp only at v1 v2
    rw [ec, em, ew, eo]
    simp only [Option.bind_some]
    rcases v2 with ⟨F, x1, rfl, x3⟩ | ⟨p', x1, rfl, x3, x4, x5, x6⟩
    · rw [x1] at w3
      rcases w3 with ⟨F', hF, b1, b2, b3⟩ | ⟨q, hF, -⟩
      · cases hF
        rw [j_X11_readsAll_149, if0]
        exact ⟨w, _, rfl, rfl, w1, .inl ⟨F, v, b1, b2, b3, rfl, x3, v1⟩⟩
      · cases hF
    · have w5 := w4 p' x1
      obtain ⟨g1, g2, g3⟩ := xP_inr x1
      obtain ⟨g4, g5, g6, g7, g8⟩ := x7P_inr g1
      obtain ⟨g9, g10, g11, g12, g13⟩ := x5P_inr g4
      obtain ⟨g14, g15⟩ := x2P_inr g9
      have g16 := (x1P_inr g14).1
      rw [x1] at w3
      rcases w3 with ⟨F', hF, -⟩ | ⟨q, hF, b1, b2, b3⟩
      · cases hF
      · cases hF
        have l1 := wd_lt h3 q0 (by omega)
        have l2 := wd_lt (p := pP1 t p) l1.2 rfl (by omega)
        have l3 := wd_lt (p := pP2 t p) l2.2 rfl (by omega)
        have l4 := wd_lt (p := kE t (pP2 t p)) l3.2 g12 (by omega)
        have l5 := nu_lt (p := pP4 t p) l4.2 g5.1
        have l6 := wd_lt (p := kE t (pP4 t p)) l5.2 g6 (by omega)
        have l7 := nu_lt (p := pP6 t p) l6.2 g7.1
        have l8 := sg_lt (p := kE t (pP6 t p)) l7.2 g2 (by omega)
        have i1 : pP1 t p = kE t p := rfl
        have i2 : pP2 t p = kE t (pP1 t p) := rfl
        have i4 : pP4 t p = kE t (kE t (pP2 t p)) := rfl
        have i6 : pP6 t p = kE t (kE t (pP4 t p)) := rfl
        have hk1 := wd_S (t := t) (p := pP1 t p) (by omega)
        have hnf : ¬ fndD R (kW t (pP1 t p)) := fun z => g15 ⟨g10, z⟩
        rw [j_X11_readsAll_149, if1]
        refine ⟨w, _, rfl, rfl, w1, .inr ⟨v, p', rAdd R (newP t p), T, rfl, by omega, v1, b1, x3, b3, b2, w5, x5, ⟨by rw [rAdd_n]; omega, r2, r3, r4, fun q hq => ?_⟩, ⟨fun q hq => ?_, fun q q' hq hq' e => ?_⟩, h9, w1b.trans h10, (x6 1 19 (by omega)).trans h11, lwD_eq h12 w2 (fun a j hj => x6 a j (by omega))⟩⟩
        · rw [rAdd_n] at hq
          unfold rKind rBorn rPlea
          rcases Nat.lt_or_ge q (rN R) with z | z
          · rw [rAdd_lt z]; exact r5 q z
          · have z2 : q = rN R := by omega
            rw [z2, rAdd_eq]
            exact ⟨by show tWd t (pP2 t p) - 12 ≤ 3; omega, g5.2, g7.2⟩
        · rw [rAdd_n] at hq
          rcases Nat.lt_or_ge q (rN R) with z | z
          · rw [rAdd_lt z]; exact h8.1 q z
          · have z2 : q = rN R := by omega
            rw [z2, rAdd_eq]
            exact kW_1 hk1
        · rw [rAdd_n] at hq hq'
          rcases Nat.lt_or_ge q (rN R) with z | z
          · rcases Nat.lt_or_ge q' (rN R) with z' | z'
            · rw [rAdd_lt z, rAdd_lt z'] at e; exact h8.2 q q' z z' e
            · have z2 : q' = rN R := by omega
              rw [rAdd_lt z, z2, rAdd_eq] at e
              exact (hnf ⟨q, z, e⟩).elim
          · have z2 : q = rN R := by omega
            rcases Nat.lt_or_ge q' (rN R) with z' | z'
            · rw [rAdd_lt z', z2, rAdd_eq] at e
              exact (hnf ⟨q', z', e.symm⟩).elim
            · omega
  · by_cases q3 : tWd t p = 3
    · refine ones 3 1 3000 (.inl rfl) q3 (by omega) (by omega) (fun v a b => ⟨r1, ⟨a, b⟩, r3, r4, r5⟩) ?_ ?_
      · unfold f_X8_readRealmLine
        rw [gm_letE, show f_X9_word uC = nI 3 by rw [wd, q3, if_pos (by omega)], if_neg (by decide), if_neg (by decide), if_neg (by decide), if_pos (by decide)]
        rfl
      · rw [b0, decide_eq_false q0, decide_eq_true q3]
        refine Eq.trans if0 ?_
        exact if1
    · by_cases q4 : tWd t p = 4
      · refine ones 4 1 40 (.inr (.inl rfl)) q4 (by omega) (by omega) (fun v a b => ⟨r1, r2, ⟨a, b⟩, r4, r5⟩) ?_ ?_
        · unfold f_X8_readRealmLine
          rw [gm_letE, show f_X9_word uC = nI 4 by rw [wd, q4, if_pos (by omega)], if_neg (by decide), if_neg (by decide), if_neg (by decide), if_neg (by decide), if_pos (by decide)]
          rfl
        · rw [b0, decide_eq_false q0, decide_eq_false q3, decide_eq_true q4]
          refine Eq.trans if0 ?_
          refine Eq.trans if0 ?_
          exact if1
      · by_cases q5 : tWd t p = 5
        · refine ones 5 1 120 (.inr (.inr rfl)) q5 (by omega) (by omega) (fun v a b => ⟨r1, r2, r3, ⟨a, b⟩, r5⟩) ?_ ?_
          · unfold f_X8_readRealmLine
            rw [gm_letE, show f_X9_word uC = nI 5 by rw [wd, q5, if_pos (by omega)], if_neg (by decide), if_neg (by decide), if_neg (by decide), if_neg (by decide), if_neg (by decide), if_pos (by decide)]
            rfl
          · rw [b0, decide_eq_false q0, decide_eq_false q3, decide_eq_false q4, decide_eq_true q5]
            refine Eq.trans if0 ?_
            refine Eq.trans if0 ?_
            refine Eq.trans if0 ?_
            exact if1
        · by_cases q6 : tWd t p = 6
          · have ec : f_X8_readRealmLine r uC = ((f_X8_takeOnce uC).bind fun u_39 => (f_X3_clear (r + 5) u_39).bind fun u_42 => (f_X8_readWhole (r + 5) (0 : Int32) u_42).bind fun u_45 => j_X8_readRealmLine_139 r u_45) := by
              unfold f_X8_readRealmLine
              rw [gm_letE, show f_X9_word uC = nI 6 by rw [wd, q6, if_pos (by omega)], if_neg (by decide), if_neg (by decide), if_neg (by decide), if_neg (by decide), if_neg (by decide), if_neg (by decide), if_pos (by decide)]
            have em : b_X11_readsAll_39 uM = ((f_X11_readsFirst uM).bind fun o => j_X11_readsAll_149 o.1 o.2) := by
              rw [b0, decide_eq_false q0, decide_eq_false q3, decide_eq_false q4, decide_eq_false q5, decide_eq_true q6]
              refine Eq.trans if0 ?_
              refine Eq.trans if0 ?_
              refine Eq.trans if0 ?_
              refine Eq.trans if0 ?_
              exact if1
            rw [ec, em]
            exact line_first hr gt h q6
          · -- what can't stand there
            have hb := flt_b (k := 1) (by omega) (by omega) h3 gt
            have er : f_X8_refuse (1 : Int32) uC = some (sI uC 2 1 (nI (flt 1 t p))) := co_refuse h1 h4 1
            have ef : f_X11_fails (1 : Int32) uM = some (0, sI uM 1 9 (nI (flt 1 t p))) := m_fails h2 1
            have es : j_X8_readRealmLine_139 r (sI uC 2 1 (nI (flt 1 t p))) = some (sI uC 2 1 (nI (flt 1 t p))) := by
              unfold j_X8_readRealmLine_139
              rw [cf_takeSign (by rw [gI_eq rfl rfl]; exact flt_ne hb.1 hb.2)]; rfl
            have ec : f_X8_readRealmLine r uC = some (sI uC 2 1 (nI (flt 1 t p))) := by
              unfold f_X8_readRealmLine
              rw [gm_letE, wd, er]
              simp only [Option.bind_some, es]
              by_cases q23 : tWd t p < 23
              · rw [if_pos q23]
                have ne : ∀ k : Nat, k < 23 → tWd t p ≠ k → ¬ nI (tWd t p) = nI k := fun k hk hne z => hne ((nI_eq (by omega) (by omega)).mp z)
                rw [if_neg (show ¬ nI (tWd t p) = (0 : Int32) from ne 0 (by omega) q0), if_neg (show ¬ nI (tWd t p) = (3 : Int32) from ne 3 (by omega) q3), if_neg (show ¬ nI (tWd t p) = (4 : Int32) from ne 4 (by omega) q4), if_neg (show ¬ nI (tWd t p) = (5 : Int32) from ne 5 (by omega) q5), if_neg (show ¬ nI (tWd t p) = (6 : Int32) from ne 6 (by omega) q6)]
                simp only [ite_self]
              · rw [if_neg q23, if_neg (by decide), if_neg (by decide), if_neg (by decide), if_neg (by decide), if_neg (by decide), if_neg (by decide), if_neg (by decide)]
            have em : b_X11_readsAll_39 uM = some (.inr (.inl (sI uM 1 9 (nI (flt 1 t p))))) := by
              rw [b0, decide_eq_false q0, decide_eq_false q3, decide_eq_false q4, decide_eq_false q5, decide_eq_false q6, ef]
              refine Eq.trans if0 ?_
              refine Eq.trans if0 ?_
              refine Eq.trans if0 ?_
              refine Eq.trans if0 ?_
              refine Eq.trans if0 ?_
              rfl
            exact ⟨_, _, ec, em, rlP_4 tk4_4, .inl ⟨flt 1 t p, _, gI_eq rfl rfl, hb.1, hb.2, rfl, gI_eq rfl rfl, rmP_9⟩⟩
theorem rl_loop {t : List Nat} {r : Nat} (hr : r = 5 ∨ r = 13) (gt : gT t) : ∀ (F G k p T : Nat) (R : pR) (uC uM : gm_M), DS t r uC uM p R T → k ≤ p → t.length < p + F → ∃ vC o, gm_lp (b_X8_readRealm_23 r) (F + 1 + G) (nI k, uC) = some vC ∧ gm_lp b_X11_readsAll_39 (F + 1 + G) uM = some o ∧ fr (rlP r) uC vC ∧ ((∃ f vM, gI vC 2 1 = nI f ∧ 1 ≤ f ∧ f ≤ 17000 ∧ o = .inl vM ∧ gI vM 1 9 = nI f ∧ fr rmP uM vM) ∨ (∃ vM p' R' T', o = .inr vM ∧ fr rmP uM vM ∧ DS t r vC vM p' R' T')) := by
  intro F
  induction F with
  | zero => intro G k p T R uC uM h hk hF; have := h.2.2.1; omega
  | succ F ih =>
    intro G k p T R uC uM h hk hF
    have gl := gt.1
    have hp := h.2.2.1
    rw [show F + 1 + 1 + G = (F + 1 + G) + 1 by omega]
    by_cases q : kS t p = 0
    · have eb : b_X8_readRealm_23 r (nI k, uC) = some (.inr uC) := by
        simp only [bRL]
        rw [h.1.2.2.1, q, h.2.2.2.1]
        by_cases z : (1000 : Int32) ≤ nI k
        · rw [if_pos z]
        · rw [if_neg z]; rfl
      have em : b_X11_readsAll_39 uM = some (.inr (.inr uM)) := by
        rw [b_X11_readsAll_39]
        rw [h.2.1.2.2.1, q]
        exact if0
      refine ⟨uC, .inr uM, ?_, ?_, fr_refl _ _, .inr ⟨uM, p, R, T, rfl, fr_refl _ _, h⟩⟩
      · simp only [gm_lp, eb, Option.bind_some]
      · simp only [gm_lp, em, Option.bind_some]
    · obtain ⟨vC, o, e1, e2, h1, h2⟩ := line_all hr gt h q
      have eb : b_X8_readRealm_23 r (nI k, uC) = some (.inl (nI (k + 1), vC)) := by
        have hE := kE_le hp q
        simp only [bRL]
        rw [if_neg (show ¬ (1000 : Int32) ≤ nI k from fun z => by rw [show (1000 : Int32) = nI 1000 from rfl, nI_leI (by omega) (by omega)] at z; omega), if_pos h.2.2.2.1, h.1.2.2.1, if_neg (show ¬ nI (kS t p) = (0 : Int32) from fun z => q ((nI_eq (b := 0) (by have := kS_le t p; omega) (by omega)).mp z)), e1]
        simp only [Option.bind_some]
        rw [show nI k + (1 : Int32) = nI (k + 1) from nI_add k 1]
      rcases h2 with ⟨f, vM, a1, a2, a3, rfl, a5, a6⟩ | ⟨vM, p', R', T', rfl, a2, a3, a4⟩
      · have eb2 : b_X8_readRealm_23 r (nI (k + 1), vC) = some (.inr vC) := by
          simp only [bRL]
          rw [if_neg (CS_ne (t := t) a1 a2 a3)]
          by_cases z : (1000 : Int32) ≤ nI (k + 1)
          · rw [if_pos z]
          · rw [if_neg z]
        refine ⟨vC, .inl vM, ?_, ?_, h1, .inl ⟨f, vM, a1, a2, a3, rfl, a5, a6⟩⟩
        · rw [show F + 1 + G = (F + G) + 1 by omega]
          simp only [gm_lp, eb, eb2, Option.bind_some]
        · simp only [gm_lp, e2, Option.bind_some]
      · obtain ⟨wC, o2, i1, i2, i3, i4⟩ := ih G (k + 1) p' T' R' vC vM a4 (by omega) (by omega)
        refine ⟨wC, o2, ?_, ?_, fr_trans h1 i3, ?_⟩
        · simp only [gm_lp, eb, Option.bind_some]; exact i1
        · simp only [gm_lp, e2, Option.bind_some]; exact i2
        · rcases i4 with ⟨f, wM, b1, b2, b3, b4, b5, b6⟩ | ⟨wM, q2, R2, T2, b1, b2, b3⟩
          · exact .inl ⟨f, wM, b1, b2, b3, b4, b5, fr_trans a3 b6⟩
          · exact .inr ⟨wM, q2, R2, T2, b1, fr_trans a3 b2, b3⟩
