/-! the calendar -/
def lpy (y : Nat) : Bool := decide (y % 4 = 0 ∧ (y % 100 ≠ 0 ∨ y % 400 = 0))
theorem lpy_iff (y : Nat) : lpy y = true ↔ y % 4 = 0 ∧ (y % 100 ≠ 0 ∨ y % 400 = 0) := by simp [lpy]
theorem lpy_not (y : Nat) : lpy y = false ↔ ¬ (y % 4 = 0 ∧ (y % 100 ≠ 0 ∨ y % 400 = 0)) := by
  rw [← lpy_iff]; cases lpy y <;> simp
def gap (y : Nat) : Nat := if lpy (y + 1) then 1 else if lpy (y + 2) then 2 else if lpy (y + 3) then 3 else if lpy (y + 4) then 4 else if lpy (y + 5) then 5 else if lpy (y + 6) then 6 else if lpy (y + 7) then 7 else 8
theorem gap_le (y : Nat) : 1 ≤ gap y ∧ gap y ≤ 8 := by
  unfold gap
  repeat' split
  all_goals omega
theorem lpy_mod (y : Nat) : lpy (y % 400) = lpy y := by
  have h1 : y % 400 % 4 = y % 4 := Nat.mod_mod_of_dvd y (by decide)
  have h2 : y % 400 % 100 = y % 100 := Nat.mod_mod_of_dvd y (by decide)
  have h3 : y % 400 % 400 = y % 400 := Nat.mod_mod y 400
  simp only [lpy, h1, h2, h3]
theorem lpy_add (y i : Nat) : lpy (y + i) = lpy (y % 400 + i) := by
  rw [← lpy_mod (y + i), ← lpy_mod (y % 400 + i), Nat.mod_add_mod]
theorem gap_mod (y : Nat) : gap y = gap (y % 400) := by
  unfold gap
  rw [lpy_add y 1, lpy_add y 2, lpy_add y 3, lpy_add y 4, lpy_add y 5, lpy_add y 6, lpy_add y 7]
theorem gap_all : ∀ r : Fin 400, lpy (r.1 + gap r.1) = true ∧ ∀ i : Fin 8, i.1 < gap r.1 → i.1 ≠ 0 → lpy (r.1 + i.1) = false := by decide +kernel
theorem gap_leap (y : Nat) : lpy (y + gap y) = true := by
  rw [lpy_add, gap_mod]
  exact (gap_all ⟨y % 400, Nat.mod_lt _ (by omega)⟩).1
theorem gap_no (y i : Nat) (h : i < gap y) (h0 : i ≠ 0) : lpy (y + i) = false := by
  have h8 := (gap_le y).2
  rw [lpy_add]
  rw [gap_mod] at h
  exact (gap_all ⟨y % 400, Nat.mod_lt _ (by omega)⟩).2 ⟨i, by rw [← gap_mod] at h; omega⟩ h h0
def nxt (y : Nat) : Nat := y + gap y
theorem leap_n {y : Nat} (h : y < 2 ^ 31) : f_X0_isLeap (nI y) = nI (lpy y).toNat := by
  simp (disch := omega) only [f_X0_isLeap, litI, nI_rem, nI_eq]
  by_cases h1 : y % 4 = 0
  · by_cases h2 : y % 100 = 0
    · by_cases h3 : y % 400 = 0
      · simp [h1, h2, h3, lpy]
      · simp [h1, h2, h3, lpy]
    · simp [h1, h2, lpy]
  · simp [h1, lpy]
theorem leap_m (x : Int32) : f_X11_isLeap x = f_X0_isLeap x := Eq.trans rfl rfl
theorem leap_j {y : Nat} (h : y < 2 ^ 31) : f_X0_isJulianLeap (nI y) = nI (decide (y % 4 = 0)).toNat := by
  simp (disch := omega) only [f_X0_isJulianLeap, litI, nI_rem, nI_eq]
  by_cases h1 : y % 4 = 0
  · simp [h1]
  · simp [h1]
theorem tn_ne {b : Bool} : (nI b.toNat = nI 0) ↔ b = false := by
  cases b
  · exact ⟨fun _ => rfl, fun _ => rfl⟩
  · exact ⟨fun h => absurd h (by decide), fun h => absurd h (by decide)⟩
theorem leapBehind_n {y : Nat} (h : y < 2 ^ 30) : f_X0_leapBehind (nI y) = some (nI (nxt y)) := by
  have g := gap_le y
  have gl := gap_leap y
  have key : ok (gm_lp (b_X0_leapBehind_2 (nI y)) gm_FU (nI 1)) (fun o => (gap y < 8 ∧ o = .inl (nI (gap y))) ∨ (gap y = 8 ∧ o = .inr ())) := by
    refine lp_ok (gap y - 1) (fun j x => x = nI (j + 1)) (by omega) rfl ?_ ?_
    · rintro j x hj rfl
      have q := gap_no y (j + 1) (by omega) (by omega)
      simp (disch := omega) only [b_X0_leapBehind_2, litI, gm_let, nI_leI, nI_add, if_neg, leap_n, q, Bool.toNat_false]
      rw [if_pos (by decide)]
      exact ok_some rfl
    · rintro x rfl
      have e : gap y - 1 + 1 = gap y := by omega
      rw [e]
      rcases Nat.lt_or_ge (gap y) 8 with q | q
      · simp (disch := omega) only [b_X0_leapBehind_2, litI, gm_let, nI_leI, nI_add, if_neg, leap_n, gl, Bool.toNat_true]
        rw [if_neg (by decide)]
        exact ok_some (.inl ⟨q, rfl⟩)
      · simp (disch := omega) only [b_X0_leapBehind_2, litI, gm_let, nI_leI, if_pos]
        exact ok_some (.inr ⟨by omega, rfl⟩)
  simp only [f_X0_leapBehind, litI]
  obtain ⟨o, e, q | q⟩ := key
  · rw [e, q.2]
    simp only [Option.bind_some, nI_add, nxt]
  · rw [e, q.2]
    simp only [Option.bind_some, nI_add, nxt, q.1]
/-! years pass in the class -/
theorem c_passYear {u : gm_M} {r c Y : Nat} {R : pR} {k : pK} (h : rC u r R) (hg : gR1 R) (hk : kC u c k) (hgk : gK R Y k) (hr : r = 5 ∨ r = 13) (hc : c = 27 ∨ c = 40) (hy : k.1 + 1 ≤ Y) (hY : Y < 2 ^ 30) (jul : Bool) :
    ok (f_X2_passYear r c (nI jul.toNat) u) (fun o => fr (dayP r c) u o.2 ∧ ((cond jul (decide ((k.1 + 1) % 4 = 0)) (lpy (k.1 + 1)) = false ∧ o.1 = nI 0 ∧ kC o.2 c (killK R (k.1 + 1) k)) ∨ (cond jul (decide ((k.1 + 1) % 4 = 0)) (lpy (k.1 + 1)) = true ∧ o.1 = nI (dayH R (rCandle R) (killK R (k.1 + 1) k)).2 ∧ kC o.2 c (dayK R (rCandle R) (killK R (k.1 + 1) k))))) := by
  have hcan := h.1.2.2.1
  have hcan2 := hg.2.2.1.2
  have hy0 := hk.1.1
  have fin : ∀ (day : Int32) (b : Bool), day = nI b.toNat → ok (j_X2_passYear_25 r c (nI jul.toNat) (nI (k.1 + 1)) day u) (fun o => fr (dayP r c) u o.2 ∧ ((b = false ∧ o.1 = nI 0 ∧ kC o.2 c (killK R (k.1 + 1) k)) ∨ (b = true ∧ o.1 = nI (dayH R (rCandle R) (killK R (k.1 + 1) k)).2 ∧ kC o.2 c (dayK R (rCandle R) (killK R (k.1 + 1) k))))) := by
    intro day b hb
    simp only [j_X2_passYear_25, hcan]
    refine ok_bind (c_beginYear h hg hk hgk hr hc hy hY (by omega) day) ?_
    rintro ⟨w, v⟩ ⟨hf, q⟩
    refine ok_some ⟨hf, ?_⟩
    rcases q with ⟨q1, q2, q3⟩ | ⟨q1, q2, q3, -⟩
    · refine .inl ⟨?_, q2, q3⟩
      rw [hb] at q1
      exact tn_ne.mp q1
    · refine .inr ⟨?_, q2, q3⟩
      rw [hb] at q1
      cases b with
      | false => exact absurd rfl q1
      | true => rfl
  simp only [f_X2_passYear, hy0, gm_let, litI, nI_add]
  cases jul with
  | false =>
    rw [if_pos (by decide), leap_n (by omega)]
    exact fin _ _ rfl
  | true =>
    rw [if_neg (by decide), leap_j (by omega)]
    exact fin _ _ rfl
theorem c_passToDay {u : gm_M} {r c Y C : Nat} {R : pR} {k : pK} (h : rC u r R) (hg : gR1 R) (hk : kC u c k) (hgk : gK R Y k) (hr : r = 5 ∨ r = 13) (hc : c = 27 ∨ c = 40) (hy : k.1 + 8 ≤ Y) (hY : Y < 2 ^ 30) (hC : C ≤ 900) :
    ok (f_X2_passToDay r c (nI C) u) (fun o => fr (dayP r c) u o.2 ∧ o.1 = nI (dayH R C (killK R (nxt k.1) k)).2 ∧ kC o.2 c (dayK R C (killK R (nxt k.1) k)) ∧ gI o.2 35 2 = nI (killK R (nxt k.1) k).2.2.2.length ∧ gI o.2 35 3 = nI (dayH R C (killK R (nxt k.1) k)).2 ∧ gI o.2 35 4 = nI (C + k.2.1 - (dayH R C (killK R (nxt k.1) k)).1)) := by
  have hy0 := hk.1.1
  have hg8 := gap_le k.1
  simp only [f_X2_passToDay, hy0, leapBehind_n (show k.1 < 2 ^ 30 by omega), Option.bind_some, litI]
  refine ok_bind (c_beginYear h hg hk hgk hr hc (show nxt k.1 ≤ Y by unfold nxt; omega) hY hC (nI 1)) ?_
  rintro ⟨w, v⟩ ⟨hf, q⟩
  rcases q with ⟨q1, -⟩ | ⟨-, q2⟩
  · exact absurd q1 (by decide)
  · exact ok_some ⟨hf, q2⟩
