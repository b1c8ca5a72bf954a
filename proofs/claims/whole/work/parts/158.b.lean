theorem uC0_RC : RC uC0 [] R0 [] [] (1896, 0, 0, []) [] (fun _ => none) := by
  obtain ⟨a1, a2, a3, a4, a5⟩ := k_1
  obtain ⟨b1, b2, b3, b4, b5, b6⟩ := k_2
  obtain ⟨c1, c2, c3⟩ := k_3
  have d4 := k_4
  have d5 := k_5
  have eu : uC0 = (f_X1_begin 27 5 ck_X10_init).getD gm_u0 := rfl
  generalize ck_X10_init = k at *
  obtain ⟨v, ev, v1, v2⟩ := c_begin (u := k) (c := 27) (r := 5) (y := 1896) b2 (by omega)
  rw [ev] at eu
  have eu : uC0 = v := eu
  rw [eu]
  have f : fr (fun a _ => 27 ≤ a ∧ a ≤ 30) k v := v2
  have law : lawC k 10 (rEv R0) := by
    refine c_worth (rs := [(-1 : Int32)]) b5 (by simp) (fun i c hc => ?_) RP_0
    cases i with
    | zero =>
      simp only [List.getElem?_cons_zero, Option.some.injEq] at hc
      rw [← hc]; exact b6
    | succ i => simp at hc
  have hrC : rC k 5 R0 := ⟨⟨b1, b2, b3, b4⟩, fun p hp => absurd hp (Nat.not_lt_zero p), law⟩
  refine ⟨⟨(fr_I f (by omega)).trans a1, fun i c hc => by simp at hc⟩, ⟨5, ⟨(fr_R f (by omega)).trans a2, .inl ⟨rfl, (fr_R f (by omega)).trans a3⟩⟩, rC_fr hrC f (fun a j q1 q2 => by omega)⟩, ⟨21, ⟨(fr_R f (by omega)).trans a4, .inl ⟨rfl, (fr_R f (by omega)).trans a5⟩⟩, (fr_I f (by omega)).trans c1, fun i c hc => by simp at hc⟩, ⟨(fr_I f (by omega)).trans c2, fun i c hc => by simp at hc⟩, v1, ⟨(fr_I f (by omega)).trans c3, fun i hi => ⟨i, hi, (fr_R f (by omega)).trans (d4 ⟨i, hi⟩)⟩, fun i j hi hj q => ?_, fun i c hc => by simp at hc⟩, fun i hi => ⟨(fr_R f (by omega)).trans (d5 ⟨i, hi⟩).1, .inl ⟨rfl, (fr_I f (by omega)).trans (d5 ⟨i, hi⟩).2⟩⟩⟩
  have e1 := (fr_R f (a := 38) (k := i) (by omega)).trans (d4 ⟨i, hi⟩)
  have e2 := (fr_R f (a := 38) (k := j) (by omega)).trans (d4 ⟨j, hj⟩)
  rw [e1, e2] at q
  simp only at q
  omega
theorem uM0_RM : RM uM0 [] R0 [] [] (1896, 0, 0, []) [] (fun _ => none) := by
  obtain ⟨a1, a2, a3, a4, a5⟩ := k_6
  obtain ⟨b1, b2, b3, b4, b5⟩ := k_7
  have d8 := k_8
  have eu : uM0 = (f_X11_fresh0 uM1).getD gm_u0 := rfl
  generalize uM1 = k at *
  have hrM : rM k R0 := ⟨⟨a1, a2, a3, a4⟩, fun p hp => absurd hp (Nat.not_lt_zero p), .inl ⟨a5, fun _ _ _ _ => rfl⟩⟩
  obtain ⟨v, ev, v1, v2⟩ := m_fresh0 hrM
  rw [ev] at eu
  have eu : uM0 = v := eu
  rw [eu]
  refine ⟨⟨(fr_I v2 (by omega)).trans b1, fun i c hc => by simp at hc⟩, rM_fr hrM (by show 0 ≤ 6; omega) v2 (fun a j q z => by rcases q with q | q | q | q <;> omega), ⟨(fr_I v2 (by omega)).trans b4, fun i c hc => by simp at hc⟩, ⟨(fr_I v2 (by omega)).trans b5, fun i c hc => by simp at hc⟩, v1, ⟨(fr_I v2 (by omega)).trans b2, fun i c hc => by simp at hc⟩, fun i hi => .inl ⟨rfl, (fr_I v2 (by omega)).trans (d8 ⟨i, hi⟩)⟩, (fr_I v2 (by omega)).trans b3⟩
theorem rel_0 : RelN 600 uC0 uM0 := by
  refine ⟨Nat.le_refl _, [], R0, [], [], (1896, 0, 0, []), [], fun _ => none, ⟨gT_nil, R0_g.1, R0_g.2, ⟨by simp, fun l hl => by cases hl⟩, ⟨by simp, fun l hl => by cases hl⟩, ⟨by decide, by decide, by decide, by simp, fun e he => by cases he⟩, ⟨by simp, fun l hl => by cases hl⟩, fun i k G S e => by cases e⟩, uC0_RC, uM0_RM⟩
theorem st_all (n : Nat) : St_all (RelN (n + 1)) (RelN n) := ⟨st_feed n, st_realm n, st_reign n, st_person n, st_come n, st_leave n, st_lamp n, st_waits n, st_ride n, st_undo n, st_judged n, st_leap n, st_between n, st_next n, st_weekday n, st_gate n, st_call n, st_when n, st_audience n, st_burnt n, st_crowd n, st_exchange n, st_lastday n, st_cycle n, st_need n, st_coming n, st_old n, st_julian n, st_stale n, st_say n, st_fits n, st_ask n, st_chance n, st_ages n, st_mark n, st_count n⟩
