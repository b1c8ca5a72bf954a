/-! the calls of the calendar -/
theorem relQ {n : Nat} {uC uM : gm_M} {x : Int32} (h : RelN (n + 1) uC uM) : RelN n uC (sI uM 1 0 x) := by
  obtain ⟨h0, t, R, G, S, K, B, M, h1, h2, h3⟩ := RelN_mono n uC uM h
  exact ⟨h0, t, R, G, S, K, B, M, h1, h2, RM_t h3 h1⟩
theorem told_cases (a : Int32) : (∃ y, 1 ≤ y ∧ y ≤ 4000 ∧ a = nI y ∧ f_X0_isTold a = nI 1) ∨ f_X0_isTold a = nI 0 := by
  rcases nI_cases a 4001 (by omega) with ⟨y, hy, rfl⟩ | h | ⟨y, hy, hy2, rfl⟩
  · rcases Nat.eq_or_lt_of_le (Nat.zero_le y) with q | q
    · right
      subst q
      decide
    · left
      refine ⟨y, q, by omega, rfl, ?_⟩
      simp (disch := omega) only [f_X0_isTold, gm_let, litI, ib_nI, ix_nI, nI_leI, nI_ltI, nI_eq, nI_add, nI_sub, nI_mul, nI_div, nI_rem, nI_m1, nI_eqm, nI_gem, nI_ltm, nI_mlt, nI_lem, Option.bind_some, Option.bind_none, if_pos, if_neg]
  · right
    exact if_pos (neg_lt (a := 1) h (by omega))
  · right
    simp (disch := omega) only [f_X0_isTold, gm_let, litI, ib_nI, ix_nI, nI_leI, nI_ltI, nI_eq, nI_add, nI_sub, nI_mul, nI_div, nI_rem, nI_m1, nI_eqm, nI_gem, nI_ltm, nI_mlt, nI_lem, Option.bind_some, Option.bind_none, if_pos, if_neg]
theorem told_w (a : Int32) : f_X11_within a (1 : Int32) (4000 : Int32) = f_X0_isTold a := Eq.trans rfl rfl
theorem told_w2 {y : Nat} (h1 : 1 ≤ y) (h2 : y ≤ 4000) (a : Int32) : (∃ z, y ≤ z ∧ z ≤ 4000 ∧ a = nI z ∧ f_X11_within a (nI y) (4000 : Int32) = nI 1) ∨ (f_X11_within a (nI y) (4000 : Int32) = nI 0 ∧ (f_X0_isTold a = nI 0 ∨ (f_X0_isTold a = nI 1 ∧ ¬ nI y ≤ a))) := by
  rcases told_cases a with ⟨z, z1, z2, rfl, e⟩ | e
  · rcases Nat.lt_or_ge z y with q | q
    · right
      refine ⟨?_, .inr ⟨e, ?_⟩⟩
      · simp (disch := omega) only [f_X11_within, gm_let, litI, ib_nI, ix_nI, nI_leI, nI_ltI, nI_eq, nI_add, nI_sub, nI_mul, nI_div, nI_rem, nI_m1, nI_eqm, nI_gem, nI_ltm, nI_mlt, nI_lem, Option.bind_some, Option.bind_none, if_pos]
      · simp (disch := omega) only [nI_leI]; omega
    · left
      refine ⟨z, q, z2, rfl, ?_⟩
      simp (disch := omega) only [f_X11_within, gm_let, litI, ib_nI, ix_nI, nI_leI, nI_ltI, nI_eq, nI_add, nI_sub, nI_mul, nI_div, nI_rem, nI_m1, nI_eqm, nI_gem, nI_ltm, nI_mlt, nI_lem, Option.bind_some, Option.bind_none, if_neg]
  · right
    refine ⟨?_, .inl e⟩
    rcases nI_cases a 4001 (by omega) with ⟨z, hz, rfl⟩ | h | ⟨z, hz, hz2, rfl⟩
    · rcases Nat.eq_or_lt_of_le (Nat.zero_le z) with q | q
      · subst q
        simp (disch := omega) only [f_X11_within, gm_let, litI, ib_nI, ix_nI, nI_leI, nI_ltI, nI_eq, nI_add, nI_sub, nI_mul, nI_div, nI_rem, nI_m1, nI_eqm, nI_gem, nI_ltm, nI_mlt, nI_lem, Option.bind_some, Option.bind_none, if_pos]
      · simp (disch := omega) only [f_X0_isTold, gm_let, litI, ib_nI, ix_nI, nI_leI, nI_ltI, nI_eq, nI_add, nI_sub, nI_mul, nI_div, nI_rem, nI_m1, nI_eqm, nI_gem, nI_ltm, nI_mlt, nI_lem, Option.bind_some, Option.bind_none, if_neg] at e
        omega
    · exact if_pos (neg_lt (a := y) h (by omega))
    · simp (disch := omega) only [f_X11_within, gm_let, litI, ib_nI, ix_nI, nI_leI, nI_ltI, nI_eq, nI_add, nI_sub, nI_mul, nI_div, nI_rem, nI_m1, nI_eqm, nI_gem, nI_ltm, nI_mlt, nI_lem, Option.bind_some, Option.bind_none, if_pos, if_neg]
theorem st_leap (n : Nat) : St_leap (RelN (n + 1)) (RelN n) := by
  intro uC uM h a
  refine ⟨_, ?_, relQ (x := 0) h⟩
  simp only [f_X11_leap, f_X10_leap, gm_let, told_w, leap_m]
  split
  · rfl
  · split <;> rfl
theorem lus_m (x : Int32) : f_X11_leapsUpTo x = f_X0_leapsUpTo x := Eq.trans rfl rfl
theorem st_between (n : Nat) : St_between (RelN (n + 1)) (RelN n) := by
  intro uC uM h a b
  refine ⟨_, ?_, relQ (x := 0) h⟩
  simp only [f_X11_between, f_X10_between, gm_let, told_w]
  rcases told_cases a with ⟨y, y1, y2, rfl, e⟩ | e
  · simp only [e, if1]
    rcases told_w2 y1 y2 b with ⟨z, z1, z2, rfl, e2⟩ | ⟨e2, e3⟩
    · have t : f_X0_isTold (nI z) = nI 1 := by simp (disch := omega) only [f_X0_isTold, gm_let, litI, ib_nI, ix_nI, nI_leI, nI_ltI, nI_eq, nI_add, nI_sub, nI_mul, nI_div, nI_rem, nI_m1, nI_eqm, nI_gem, nI_ltm, nI_mlt, nI_lem, Option.bind_some, Option.bind_none, if_neg]
      simp only [e2, if1, t, if_pos ((nI_leI (show y < 2 ^ 31 by omega) (show z < 2 ^ 31 by omega)).mpr z1), lus_m]
    · rcases e3 with e3 | ⟨e3, e4⟩
      · simp only [e2, e3, if0]
      · simp only [e2, e3, if0, if1, if_neg e4]
  · simp only [e, if0]
theorem m_nextLeap {y : Nat} (h : y < 2 ^ 30) : f_X11_nextLeap (nI y) = some (nI (nxt y)) := by
  have g := gap_le y
  have gl := gap_leap y
  have key : ok (gm_lp (b_X11_nextLeap_4 (nI y)) gm_FU (nI (y + 1))) (fun o => o = nI (nxt y)) := by
    refine lp_ok (gap y - 1) (fun j x => x = nI (y + 1 + j)) (by omega) rfl ?_ ?_
    · rintro j x hj rfl
      have q := gap_no y (1 + j) (by omega) (by omega)
      rw [← Nat.add_assoc] at q
      simp (disch := omega) only [b_X11_nextLeap_4, leap_m, litI, gm_let, nI_add, leap_n, q, Bool.toNat_false]
      rw [if_pos (by decide)]
      exact ok_some rfl
    · rintro x rfl
      have e : y + 1 + (gap y - 1) = y + gap y := by omega
      rw [e]
      simp (disch := omega) only [b_X11_nextLeap_4, leap_m, litI, gm_let, leap_n, gl, Bool.toNat_true]
      rw [if_neg (by decide)]
      exact ok_some rfl
  obtain ⟨o, e, q⟩ := key
  simp only [f_X11_nextLeap, litI, gm_let, nI_add, e, Option.bind_some, q]
theorem st_next (n : Nat) : St_next (RelN (n + 1)) (RelN n) := by
  intro uC uM h a
  simp only [f_X11_next, f_X10_next, gm_let, told_w]
  rcases told_cases a with ⟨y, y1, y2, rfl, e⟩ | e
  · simp only [e, if1]
    rw [leapBehind_n (by omega), m_nextLeap (by omega)]
    exact ⟨_, _, rfl, rfl, relQ h⟩
  · simp only [e, if0]
    exact ⟨_, _, rfl, rfl, relQ h⟩
def lus (y : Nat) : Nat := y / 4 - y / 100 + y / 400
theorem lus_n {y : Nat} (h : y < 2 ^ 30) : f_X0_leapsUpTo (nI y) = nI (lus y) := by
  simp (disch := omega) only [f_X0_leapsUpTo, litI, nI_div, nI_sub, nI_add, lus]
def wdy (y : Nat) : Nat := (365 * (y - 1) + lus (y - 1) + 60) % 7
theorem nI_xor (a b : Nat) : nI a ^^^ nI b = nI (a ^^^ b) := by
  show Int32.ofNat a ^^^ Int32.ofNat b = Int32.ofNat (a ^^^ b)
  rw [← Int32.ofBitVec_ofNat, ← Int32.ofBitVec_ofNat, ← Int32.ofBitVec_ofNat, BitVec.ofNat_xor, Int32.ofBitVec_xor]
theorem pFM_n {a b : Nat} (ha : a < 2 ^ 31) (hb : b < 2 ^ 31) : pFM (nI a) (nI b) = nI (a % b) := by
  unfold pFM
  rw [nI_xor, if_pos (nI_pos' (Nat.xor_lt_two_pow ha hb)), nI_rem ha hb]
theorem lus_le (y : Nat) : lus y ≤ y := by unfold lus; omega
theorem wd_c {y : Nat} (h1 : 1 ≤ y) (h : y ≤ 10000) : f_X0_weekdayOf (nI y) = nI (wdy y) := by
  have q := lus_le (y - 1)
  simp (disch := omega) only [f_X0_weekdayOf, gm_let, litI, nI_sub, lus_n, nI_mul, nI_add, pFM_n, wdy]
theorem wd_m {y : Nat} (h1 : 1 ≤ y) (h : y ≤ 10000) : f_X11_weekdayOf (nI y) = nI (wdy y) := by
  have q := lus_le (y - 1)
  simp (disch := omega) only [f_X11_weekdayOf, gm_let, litI, nI_sub, lus_m, lus_n, nI_mul, nI_add, nI_rem, wdy]
theorem wdy_lt (y : Nat) : wdy y < 7 := Nat.mod_lt _ (by omega)
theorem gm_letE {α β : Type} (x : α) (k : α → β) : gm_let x k = k x := Eq.trans rfl rfl
theorem wd_same {y : Nat} (h1 : 1 ≤ y) (h : y ≤ 4000) : f_X11_weekdayOf (nI y) = f_X0_weekdayOf (nI y) := by
  rw [wd_m h1 (by omega), wd_c h1 (by omega)]
theorem wd_call (a : Int32) (u : gm_M) : f_X11_weekday a u = some (if f_X0_isTold a = 0 then (-1 : Int32) else if f_X0_isLeap a = 0 then (-1 : Int32) else f_X11_weekdayOf a, sI u 1 0 0) := by
  unfold f_X11_weekday
  simp only [gm_let, told_w, leap_m]
  by_cases q : f_X0_isTold a = 0
  · rw [if_pos q, if_pos q]
  · rw [if_neg q, if_neg q]
    by_cases q2 : f_X0_isLeap a = 0
    · rw [if_pos q2, if_pos q2]
    · rw [if_neg q2, if_neg q2]
theorem wd_call2 (a : Int32) : f_X10_weekday a = if f_X0_isTold a = 0 then (-1 : Int32) else if f_X0_isLeap a = 0 then (-1 : Int32) else f_X0_weekdayOf a := by
  unfold f_X10_weekday
  simp only [gm_letE]
theorem st_weekday (n : Nat) : St_weekday (RelN (n + 1)) (RelN n) := by
  intro uC uM h a
  refine ⟨sI uM 1 0 0, ?_, relQ (x := 0) h⟩
  rw [wd_call, wd_call2]
  rcases told_cases a with ⟨y, y1, y2, rfl, e⟩ | e
  · rw [wd_same y1 y2]
  · rw [e, if0, if0]
theorem least {P : Nat → Prop} (n : Nat) (h : P n) : ∃ m, P m ∧ ∀ k, k < m → ¬ P k := by
  induction n using Nat.strongRecOn with
  | ind n ih =>
    by_cases q : ∃ k, k < n ∧ P k
    · obtain ⟨k, k1, k2⟩ := q
      exact ih k k1 k2
    · exact ⟨n, h, fun k hk hp => q ⟨k, hk, hp⟩⟩
theorem wdy_400 {y : Nat} (h : 1 ≤ y) : wdy (y + 400) = wdy y := by
  have e : lus (y + 400 - 1) = lus (y - 1) + 97 := by unfold lus; omega
  unfold wdy
  rw [e]
  omega
theorem lpy_400 (y : Nat) : lpy (y + 400) = lpy y := by
  rw [← lpy_mod (y + 400), ← lpy_mod y, Nat.add_mod_right]
theorem st_cycle (n : Nat) : St_cycle (RelN (n + 1)) (RelN n) := by
  intro uC uM h a
  simp only [f_X11_cycle, f_X10_cycle, gm_let, told_w, leap_m]
  rcases told_cases a with ⟨y, y1, y2, rfl, e⟩ | e
  · simp only [e, if1]
    rw [leap_n (by omega)]
    cases q : lpy y
    · simp only [Bool.toNat_false, if0]
      exact ⟨_, _, rfl, rfl, relQ h⟩
    · simp only [Bool.toNat_true, if1]
      obtain ⟨D, ⟨d0, d1, d2⟩, dm⟩ := least (P := fun d => 1 ≤ d ∧ lpy (y + d) = true ∧ wdy (y + d) = wdy y) 400 ⟨by omega, by rw [lpy_400]; exact q, wdy_400 y1⟩
      have dle : D ≤ 400 := by
        rcases Nat.lt_or_ge 400 D with z | z
        · exact absurd ⟨by omega, by rw [lpy_400]; exact q, wdy_400 y1⟩ (dm 400 z)
        · exact z
      have kc : ok (gm_lp (b_X10_cycle_25 (nI y) (nI (wdy y))) gm_FU (nI (y + 1))) (fun o => o = .inl (nI (y + D))) := by
        refine lp_ok (D - 1) (fun j x => x = nI (y + 1 + j)) (by omega) rfl ?_ ?_
        · rintro j x hj rfl
          have nd := dm (1 + j) (by omega)
          have w1 := wdy_lt (y + 1 + j)
          have w2 := wdy_lt y
          simp (disch := omega) only [b_X10_cycle_25, litI, gm_let, nI_add, nI_ltI, if_neg, leap_n, wd_c, nI_eq]
          cases z : lpy (y + 1 + j)
          · simp only [Bool.toNat_false]
            rw [if_pos (by decide)]
            exact ok_some rfl
          · simp only [Bool.toNat_true]
            rw [if_neg (by decide), if_neg (fun z2 => nd ⟨by omega, by rw [← Nat.add_assoc]; exact z, by rw [← Nat.add_assoc]; exact z2⟩)]
            exact ok_some rfl
        · rintro x rfl
          have e2 : y + 1 + (D - 1) = y + D := by omega
          rw [e2]
          have w1 := wdy_lt (y + D)
          have w2 := wdy_lt y
          simp (disch := omega) only [b_X10_cycle_25, litI, gm_let, nI_add, nI_ltI, if_neg, leap_n, wd_c, nI_eq, d1, d2, Bool.toNat_true, if_true]
          exact ok_some rfl
      have km : ok (gm_lp (b_X11_cycle_30 (nI y) (sI uM 1 0 0)) gm_FU (nI (nxt y))) (fun o => o = nI (y + D)) := by
        have g0 := gap_le y
        refine lp_ok D (fun j x => ∃ d, x = nI (y + d) ∧ j + 1 ≤ d ∧ d ≤ D ∧ lpy (y + d) = true) (by omega) ⟨gap y, rfl, by omega, ?_, gap_leap y⟩ ?_ ?_
        · rcases Nat.lt_or_ge D (gap y) with z | z
          · rw [gap_no y D z (by omega)] at d1
            cases d1
          · exact z
        · rintro j x hj ⟨d, rfl, d3, d4, d5⟩
          have g1 := gap_le (y + d)
          have w1 := wdy_lt (y + d)
          have w2 := wdy_lt y
          simp (disch := omega) only [b_X11_cycle_30, gm_let, wd_m, m_nextLeap, nI_eq, Option.bind_some]
          by_cases z : wdy (y + d) = wdy y
          · rw [if_pos z]
            have : ¬ d < D := fun w => dm d w ⟨by omega, d5, z⟩
            have : d = D := by omega
            rw [this]
            exact ok_some rfl
          · rw [if_neg z]
            refine ok_some ⟨d + gap (y + d), by unfold nxt; rw [Nat.add_assoc], by omega, ?_, by rw [← Nat.add_assoc]; exact gap_leap (y + d)⟩
            have d6 : d ≠ D := fun w => z (by rw [w]; exact d2)
            rcases Nat.lt_or_ge D (d + gap (y + d)) with w | w
            · have := gap_no (y + d) (D - d) (by omega) (by omega)
              rw [Nat.add_assoc, Nat.add_sub_cancel' d4, d1] at this
              cases this
            · exact w
        · rintro x ⟨d, rfl, d3, d4, d5⟩
          omega
      obtain ⟨o1, c1, rfl⟩ := kc
      obtain ⟨o2, c2, rfl⟩ := km
      rw [wd_c y1 (by omega), litI, nI_add, c1, m_nextLeap (by omega)]
      simp only [Option.bind_some]
      rw [c2]
      exact ⟨_, _, rfl, rfl, relQ h⟩
  · simp only [e, if0]
    exact ⟨_, _, rfl, rfl, relQ h⟩
theorem st_rests (n : Nat) : St_rests (RelN (n + 1)) (RelN n) := by
  intro uC uM h a1 a2 a3 a4
  have bad : ∃ r uM', f_X11_rests a1 a2 a3 a4 uM = some (r, uM') ∧ f_X11_thrown uM' = nI 1 ∧ RelN n uC uM' ∨ True := ⟨0, uM, .inr trivial⟩
  clear bad
  have w : ∀ x, f_X11_within x (0 : Int32) (9 : Int32) = f_X10_isStake x := fun _ => Eq.trans rfl rfl
  have out : ∃ r uM', j_X11_rests_41 a1 a2 a3 a4 uM = some (r, uM') ∧ f_X11_thrown uM' = nI 1 ∧ RelN n uC uM' := by
    refine ⟨0, sI uM 1 0 1, ?_, gI_eq rfl rfl, relQ h⟩
    simp only [j_X11_rests_41, j_X11_rests_42, gm_let]
    rw [gI_eq rfl rfl, if_pos rfl]
  obtain ⟨r, uM', o1, o2, o3⟩ := out
  have fin : ∀ (x : Option (Option Int32)) (y : Option (Int32 × gm_M)), x = some none → y = j_X11_rests_41 a1 a2 a3 a4 uM → ∃ (o : Option Int32) (r : Int32) (uM' : gm_M), x = some o ∧ y = some (r, uM') ∧ f_X11_thrown uM' = gl_k o ∧ (∀ v, o = some v → v = r) ∧ RelN n uC uM' := fun x y hx hy => ⟨none, r, uM', hx, hy.trans o1, o2, fun v hv => (by cases hv), o3⟩
  simp only [f_X10_rests, f_X11_rests, gm_let, w]
  by_cases q1 : f_X10_isStake a1 = 0
  · rw [if_pos q1, if_pos q1]; exact fin _ _ rfl rfl
  rw [if_neg q1, if_neg q1]
  by_cases q2 : f_X10_isStake a2 = 0
  · rw [if_pos q2, if_pos q2]; exact fin _ _ rfl rfl
  rw [if_neg q2, if_neg q2]
  by_cases q3 : f_X10_isStake a3 = 0
  · rw [if_pos q3, if_pos q3]; exact fin _ _ rfl rfl
  rw [if_neg q3, if_neg q3]
  by_cases q4 : (-1 : Int32) ≤ a4
  · rw [if_pos q4, if_neg (fun z => by
      rw [Int32.lt_iff_toInt_lt] at z
      rw [Int32.le_iff_toInt_le] at q4
      omega)]
    simp only [j_X11_rests_42, gm_let]
    rw [gI_eq rfl rfl, if_neg (by decide)]
    have two := lp_two0 (b := b_X10_rests_41 a1 a2 a3 a4) (b' := b_X11_rests_61 a1 a2 a3 a4 (sI uM 1 0 0)) 4 (fun k x x' => x = x' ∧ x.2 = nI k) (fun r r' => r = r') (0, 0) (0, 0) (by omega) ⟨rfl, rfl⟩ ?_ ?_
    · obtain ⟨r1, r2, e1, e2, rfl⟩ := two
      rw [e1, e2]
      simp only [Option.bind_some]
      cases r1 with
      | inl x => exact ⟨_, _, _, rfl, rfl, gI_eq rfl rfl, fun v hv => by cases hv; rfl, relQ h⟩
      | inr x =>
        simp only [j_X11_rests_163, gm_let]
        have rel2 : ∀ z, RelN n uC (sI (sI uM 1 0 0) 1 0 z) := fun z => by
          obtain ⟨h0, t, R, G, S, K, B, M, h1, h2, h3⟩ := RelN_mono n uC uM h
          exact ⟨h0, t, R, G, S, K, B, M, h1, h2, RM_t (RM_t h3 h1) h1⟩
        by_cases z : a4 = (-1 : Int32)
        · simp only [if_pos z]
          exact ⟨_, _, _, rfl, rfl, gI_eq rfl rfl, fun v hv => by cases hv; rfl, rel2 _⟩
        · simp only [if_neg z]
          exact ⟨none, _, _, rfl, rfl, gI_eq rfl rfl, fun v hv => (by cases hv), rel2 _⟩
    · rintro k ⟨v, x⟩ ⟨v', x'⟩ hk ⟨hxx, hx⟩
      cases hxx
      simp only at hx
      subst hx
      have shr : ∀ j, j < 4 → nI j >>> (nI 1 &&& nI 31) = nI (j / 2) ∧ nI j &&& nI 1 = nI (j % 2) := by decide +kernel
      have gn : ∀ m o, f_X10_gain m o a1 a2 a3 = f_X11_getsBy a1 a2 a3 m o := fun _ _ => Eq.trans rfl rfl
      simp (disch := omega) only [b_X10_rests_41, b_X11_rests_61, gm_let, litI, nI_leI, if_neg, shr k hk, nI_div, nI_rem, nI_sub, nI_add, gn, j_X10_rests_113, j_X10_rests_114, j_X10_rests_131]
      have cmp : ∀ x y : Int32, (x ≤ y) ↔ ¬ y < x := fun x y => by
        rw [Int32.le_iff_toInt_le, Int32.lt_iff_toInt_lt]; omega
      simp only [cmp]
      generalize f_X11_getsBy a1 a2 a3 (nI (k / 2)) (nI (k % 2)) = A
      generalize f_X11_getsBy a1 a2 a3 (nI (1 - k / 2)) (nI (k % 2)) = B
      generalize f_X11_getsBy a1 a2 a3 (nI (k % 2)) (nI (k / 2)) = C
      generalize f_X11_getsBy a1 a2 a3 (nI (1 - k % 2)) (nI (k / 2)) = D
      by_cases z1 : A < B
      · simp only [z1, if_true]
        exact .inl ⟨_, _, rfl, rfl, rfl, rfl⟩
      · simp only [z1, if_false]
        by_cases z2 : C < D
        · simp only [z2, if_true, not_true_eq_false, if_false]
          exact .inl ⟨_, _, rfl, rfl, rfl, rfl⟩
        · simp only [z2, if_false, not_false_eq_true, if_true]
          have n1 : ¬ nI 1 = nI 0 := by decide
          simp only [n1, if_false]
          by_cases z3 : v = a4
          · simp only [z3, if_true]
            exact .inr ⟨_, _, rfl, rfl, rfl⟩
          · simp only [z3, if_false]
            exact .inl ⟨_, _, rfl, rfl, rfl, rfl⟩
    · rintro ⟨v, x⟩ ⟨v', x'⟩ ⟨hxx, hx⟩
      cases hxx
      simp only at hx
      subst hx
      simp (disch := omega) only [b_X10_rests_41, b_X11_rests_61, litI, nI_leI, if_pos]
      exact ⟨_, _, rfl, rfl, rfl⟩
  · rw [if_neg q4, if_pos (by
      rw [Int32.lt_iff_toInt_lt]
      rw [Int32.le_iff_toInt_le] at q4
      omega)]
    exact fin _ _ rfl rfl
