/-! realm: both programs -/
theorem m_shifts {u : gm_M} {a n0 m : Nat} (hm : m ≤ 1000) (hn : 2 * m ≤ n0) (hn2 : n0 ≤ 2000) : ok (f_X11_shifts a n0 (nI m) u) (fun v => (∀ j, j < m → gI v a j = gI u a (m + j)) ∧ fr (fun b j => b = a ∧ j < m) u v) := by
  unfold f_X11_shifts
  refine ok_bind (Q := fun v => (∀ j, j < m → gI v a j = gI u a (m + j)) ∧ fr (fun b j => b = a ∧ j < m) u v)
    (lp_ok m (fun k x => x.1 = nI k ∧ (∀ j, j < k → gI x.2 a j = gI u a (m + j)) ∧ fr (fun b j => b = a ∧ j < m) u x.2) (by omega) ⟨rfl, fun j hj => absurd hj (by omega), fr_refl _ _⟩ ?_ ?_) (fun v hv => ok_some hv)
  · rintro k ⟨x, v⟩ hk ⟨hx, h1, h2⟩
    simp only at hx h1 h2
    subst hx
    have e : gI v a (m + k) = gI u a (m + k) := fr_I h2 (by omega)
    simp (disch := omega) only [b_X11_shifts_2, nI_leI, if_neg, nI_add, ib_nI, ix_nI, if_pos, gm_letE, e]
    refine ok_some ⟨nI_add k 1, fun j hj => ?_, fr_sI h2 ⟨rfl, by omega⟩⟩
    by_cases q : j = k
    · subst q; exact gI_eq rfl rfl
    · rw [gI_ne (by omega)]; exact h1 j (by omega)
  · rintro ⟨x, v⟩ ⟨hx, h1, h2⟩
    simp only at hx h1 h2
    subst hx
    simp (disch := omega) only [b_X11_shifts_2, nI_leI, if_pos]
    exact ok_some ⟨h1, h2⟩
def lyP : Nat → Nat → Prop := fun a j => (a = 3 ∧ j < 4) ∨ (4 ≤ a ∧ a ≤ 7 ∧ j < 6) ∨ (a = 10 ∧ j < 1000) ∨ ((a = 8 ∨ a = 9) ∧ j = 0)
theorem m_lays {u : gm_M} {N : Nat} (h8 : gI u 8 1 = nI 1000) (h9 : gI u 9 1 = nI (1000 + N)) : ok (f_X11_lays u) (fun v => (∀ j, j < 4 → gI v 3 j = gI u 3 (4 + j)) ∧ (∀ j, j < 6 → gJ v 4 j = gJ u 4 (6 + j) ∧ gI v 5 j = gI u 5 (6 + j) ∧ gI v 6 j = gI u 6 (6 + j) ∧ gI v 7 j = gI u 7 (6 + j)) ∧ (∀ j, j < 1000 → gI v 10 j = gI u 10 (1000 + j)) ∧ gI v 8 0 = nI 0 ∧ gI v 9 0 = nI N ∧ fr lyP u v) := by
  unfold f_X11_lays
  have s3 : ok (f_X11_shifts 3 8 (4 : Int32) u) _ := m_shifts (m := 4) (by omega) (by omega) (by omega)
  obtain ⟨v3, e3, a3, f3⟩ := s3
  rw [e3]
  simp only [Option.bind_some]
  have l4 : ok (gm_lp b_X11_lays_10 gm_FU ((0 : Int32), v3)) (fun v => (∀ j, j < 6 → gJ v 4 j = gJ v3 4 (6 + j)) ∧ fr (fun b j => b = 4 ∧ j < 6) v3 v) := by
    refine lp_ok 6 (fun k x => x.1 = nI k ∧ (∀ j, j < k → gJ x.2 4 j = gJ v3 4 (6 + j)) ∧ fr (fun b j => b = 4 ∧ j < 6) v3 x.2) (by omega) ⟨rfl, fun j hj => absurd hj (by omega), fr_refl _ _⟩ ?_ ?_
    · rintro k ⟨x, v⟩ hk ⟨hx, h1, h2⟩
      simp only at hx h1 h2
      subst hx
      have e : gJ v 4 (6 + k) = gJ v3 4 (6 + k) := fr_J h2 (by omega)
      simp (disch := omega) only [b_X11_lays_10, litI, nI_leI, if_neg, nI_add, ib_nI, ix_nI, if_pos, gm_letE, e]
      refine ok_some ⟨rfl, fun j hj => ?_, fr_sJ h2 ⟨rfl, by omega⟩⟩
      by_cases q : j = k
      · subst q; exact gJ_eq rfl rfl
      · rw [gJ_ne (by omega)]; exact h1 j (by omega)
    · rintro ⟨x, v⟩ ⟨hx, h1, h2⟩
      simp only at hx h1 h2
      subst hx
      simp (disch := omega) only [b_X11_lays_10, litI, nI_leI, if_pos]
      exact ok_some ⟨h1, h2⟩
  obtain ⟨v4, e4, a4, f4⟩ := l4
  rw [e4]
  simp only [Option.bind_some]
  have s5 : ok (f_X11_shifts 5 12 (6 : Int32) v4) _ := m_shifts (m := 6) (by omega) (by omega) (by omega)
  obtain ⟨v5, e5, a5, f5⟩ := s5
  rw [e5]
  simp only [Option.bind_some]
  have s6 : ok (f_X11_shifts 6 12 (6 : Int32) v5) _ := m_shifts (m := 6) (by omega) (by omega) (by omega)
  obtain ⟨v6, e6, a6, f6⟩ := s6
  rw [e6]
  simp only [Option.bind_some]
  have s7 : ok (f_X11_shifts 7 12 (6 : Int32) v6) _ := m_shifts (m := 6) (by omega) (by omega) (by omega)
  obtain ⟨v7, e7, a7, f7⟩ := s7
  rw [e7]
  simp only [Option.bind_some]
  have s10 : ok (f_X11_shifts 10 2000 (1000 : Int32) v7) _ := m_shifts (m := 1000) (by omega) (by omega) (by omega)
  obtain ⟨v10, e10, a10, f10⟩ := s10
  rw [e10]
  simp only [Option.bind_some, gm_letE]
  have all : ∀ a j, ¬ (a = 3 ∧ j < 4) → ¬ (a = 4 ∧ j < 6) → ¬ (a = 5 ∧ j < 6) → ¬ (a = 6 ∧ j < 6) → ¬ (a = 7 ∧ j < 6) → ¬ (a = 10 ∧ j < 1000) → gI v10 a j = gI u a j ∧ gJ v10 a j = gJ u a j := fun a j n3 n4 n5 n6 n7 n10 => ⟨(fr_I f10 n10).trans ((fr_I f7 n7).trans ((fr_I f6 n6).trans ((fr_I f5 n5).trans ((fr_I f4 n4).trans (fr_I f3 n3))))), (fr_J f10 n10).trans ((fr_J f7 n7).trans ((fr_J f6 n6).trans ((fr_J f5 n5).trans ((fr_J f4 n4).trans (fr_J f3 n3)))))⟩
  have k8 : gI v10 8 1 = nI 1000 := ((all 8 1 (by omega) (by omega) (by omega) (by omega) (by omega) (by omega)).1).trans h8
  have k9 : gI v10 9 1 = nI (1000 + N) := ((all 9 1 (by omega) (by omega) (by omega) (by omega) (by omega) (by omega)).1).trans h9
  have k9' : gI (sI v10 8 0 (gI v10 8 1 - (1000 : Int32))) 9 1 = nI (1000 + N) := (gI_ne (by omega)).trans k9
  rw [k9', k8, show nI 1000 - (1000 : Int32) = nI 0 by decide, show nI (1000 + N) - (1000 : Int32) = nI N by rw [show (1000 : Int32) = nI 1000 from rfl, nI_sub (by omega), Nat.add_sub_cancel_left]]
  have two : ∀ a j, ¬ ((a = 8 ∨ a = 9) ∧ j = 0) → gI (sI (sI v10 8 0 (nI 0)) 9 0 (nI N)) a j = gI v10 a j := fun a j n => (gI_ne (by omega)).trans (gI_ne (by omega))
  refine ok_some ⟨fun j hj => ?_, fun j hj => ⟨?_, ?_, ?_, ?_⟩, fun j hj => ?_, (gI_ne (by omega)).trans (gI_eq rfl rfl), gI_eq rfl rfl, ?_⟩
  · rw [two _ _ (by omega), fr_I f10 (by omega), fr_I f7 (by omega), fr_I f6 (by omega), fr_I f5 (by omega), fr_I f4 (by omega)]; exact a3 j hj
  · show gJ v10 4 j = _
    rw [fr_J f10 (by omega), fr_J f7 (by omega), fr_J f6 (by omega), fr_J f5 (by omega), a4 j hj, fr_J f3 (by omega)]
  · rw [two _ _ (by omega), fr_I f10 (by omega), fr_I f7 (by omega), fr_I f6 (by omega), a5 j hj, fr_I f4 (by omega), fr_I f3 (by omega)]
  · rw [two _ _ (by omega), fr_I f10 (by omega), fr_I f7 (by omega), a6 j hj, fr_I f5 (by omega), fr_I f4 (by omega), fr_I f3 (by omega)]
  · rw [two _ _ (by omega), fr_I f10 (by omega), a7 j hj, fr_I f6 (by omega), fr_I f5 (by omega), fr_I f4 (by omega), fr_I f3 (by omega)]
  · rw [two _ _ (by omega), a10 j hj, fr_I f7 (by omega), fr_I f6 (by omega), fr_I f5 (by omega), fr_I f4 (by omega), fr_I f3 (by omega)]
  · refine fr_sI (fr_sI ?_ (.inr (.inr (.inr ⟨.inl rfl, rfl⟩)))) (.inr (.inr (.inr ⟨.inr rfl, rfl⟩)))
    exact fr_trans (fr_mono f3 (fun a j z => .inl z)) (fr_trans (fr_mono f4 (fun a j z => .inr (.inl ⟨by omega, by omega, z.2⟩))) (fr_trans (fr_mono f5 (fun a j z => .inr (.inl ⟨by omega, by omega, z.2⟩))) (fr_trans (fr_mono f6 (fun a j z => .inr (.inl ⟨by omega, by omega, z.2⟩))) (fr_trans (fr_mono f7 (fun a j z => .inr (.inl ⟨by omega, by omega, z.2⟩))) (fr_mono f10 (fun a j z => .inr (.inr (.inl z))))))))
def R0 : pR := ([], 1896, 10, 70, fun s _ _ _ => s)
theorem R0_g : gR1 R0 ∧ gNm R0 := ⟨⟨by show 0 ≤ 6; omega, ⟨by show 1 ≤ 1896; omega, by show 1896 ≤ 3000; omega⟩, ⟨by show 1 ≤ 10; omega, by show 10 ≤ 40; omega⟩, ⟨by show 1 ≤ 70; omega, by show 70 ≤ 120; omega⟩, fun p hp => absurd hp (Nat.not_lt_zero p)⟩, ⟨fun p hp => absurd hp (Nat.not_lt_zero p), fun p q hp => absurd hp (Nat.not_lt_zero p)⟩⟩
theorem c_clear {u : gm_M} {r : Nat} : ok (f_X5_clear r u) (fun v => rC0 v r R0 ∧ gI v (r + 5) 1 = nI 1 ∧ gI v (r + 6) 0 = (-1 : Int32) ∧ fr (fun a _ => r ≤ a ∧ a ≤ r + 6) u v) := by
  unfold f_X5_clear
  simp only [gm_letE]
  have f0 : fr (fun a _ => r ≤ a ∧ a ≤ r + 6) u (sI (sI (sI (sI u r 0 0) r 5 1896) r 6 10) r 7 70) := fr_sI (fr_sI (fr_sI (fr_sI (fr_refl _ _) ⟨by omega, by omega⟩) ⟨by omega, by omega⟩) ⟨by omega, by omega⟩) ⟨by omega, by omega⟩
  have e0 : gI (sI (sI (sI (sI u r 0 0) r 5 1896) r 6 10) r 7 70) r 0 = nI 0 := (gI_ne (by omega)).trans ((gI_ne (by omega)).trans ((gI_ne (by omega)).trans (gI_eq rfl rfl)))
  have e5 : gI (sI (sI (sI (sI u r 0 0) r 5 1896) r 6 10) r 7 70) r 5 = nI 1896 := (gI_ne (by omega)).trans ((gI_ne (by omega)).trans (gI_eq rfl rfl))
  have e6 : gI (sI (sI (sI (sI u r 0 0) r 5 1896) r 6 10) r 7 70) r 6 = nI 10 := (gI_ne (by omega)).trans (gI_eq rfl rfl)
  have e7 : gI (sI (sI (sI (sI u r 0 0) r 5 1896) r 6 10) r 7 70) r 7 = nI 70 := gI_eq rfl rfl
  generalize sI (sI (sI (sI u r 0 0) r 5 1896) r 6 10) r 7 70 = w at *
  have ecl : f_X3_clear (r + 5) w = some (sI w (r + 5) 1 0) := rfl
  rw [ecl]
  simp only [Option.bind_some]
  have f1 : fr (fun a j => a = r + 5 ∧ j = 1) w (sI w (r + 5) 1 0) := fr_sI (fr_refl _ _) ⟨rfl, rfl⟩
  have e1 : gI (sI w (r + 5) 1 0) (r + 5) 1 = nI 0 := gI_eq rfl rfl
  generalize sI w (r + 5) 1 0 = w1 at *
  obtain ⟨z, ez, z1, -, z2⟩ := c_ladd (a := r + 5) (-1 : Int32) e1 (by omega)
  obtain ⟨y1, y2, -⟩ := z2 (by omega)
  rw [ez]
  refine ok_some ⟨⟨⟨?_, ?_, ?_, ?_⟩, fun p hp => absurd hp (Nat.not_lt_zero p)⟩, y1, y2, fr_trans f0 (fr_trans (fr_mono f1 (fun a j z => ⟨by omega, by omega⟩)) (fr_mono z1 (fun a j z => ⟨by omega, by omega⟩)))⟩
  · rw [fr_I z1 (by omega), fr_I f1 (by omega)]; exact e0
  · rw [fr_I z1 (by omega), fr_I f1 (by omega)]; exact e5
  · rw [fr_I z1 (by omega), fr_I f1 (by omega)]; exact e6
  · rw [fr_I z1 (by omega), fr_I f1 (by omega)]; exact e7
theorem RP_0 : RP 0 [(-1 : Int32)] (fun s _ _ _ => s) := by
  have := RP_fct (H := 0) (k := 1) (by omega) (by omega) (by omega)
  rw [show (-1 : Int32) - (nI (1 + 18) - (19 : Int32)) = (-1 : Int32) by decide] at this
  exact this
theorem lw_C {uC uM : gm_M} {a : Nat} {b : Bool} {ev : pEv} (h : lwD uC uM a b ev) : lawC uC a ev := by
  rcases h with ⟨-, h2, h3, -, -, -, h7⟩ | ⟨-, rs, cs, h2, h3, h4, h5, -⟩
  · rw [h7]
    refine c_worth (rs := [(-1 : Int32)]) h2 (by simp) (fun i c hc => ?_) RP_0
    cases i with
    | zero =>
      simp only [List.getElem?_cons_zero, Option.some.injEq] at hc
      rw [h3, hc]
    | succ i => simp at hc
  · exact c_worth h2 h3 h4 h5
theorem m_usual {u : gm_M} : ok (f_X11_usual (1 : Int32) u) (fun v => rD v R0 ∧ fr (fun a j => a = 3 ∧ 4 ≤ j ∧ j < 8) u v) := by
  have e : f_X11_usual (1 : Int32) u = some (sI (sI (sI (sI u 3 4 0) 3 5 1896) 3 6 10) 3 7 70) := by
    unfold f_X11_usual
    rw [if_pos (by decide), if_pos (by decide), if_pos (by decide), if_pos (by decide)]
    rfl
  rw [e]
  refine ok_some ⟨⟨⟨?_, ?_, ?_, ?_⟩, fun p hp => absurd hp (Nat.not_lt_zero p)⟩, fr_sI (fr_sI (fr_sI (fr_sI (fr_refl _ _) ⟨rfl, by omega, by omega⟩) ⟨rfl, by omega, by omega⟩) ⟨rfl, by omega, by omega⟩) ⟨rfl, by omega, by omega⟩⟩
  · exact (gI_ne (by omega)).trans ((gI_ne (by omega)).trans ((gI_ne (by omega)).trans (gI_eq rfl rfl)))
  · exact (gI_ne (by omega)).trans ((gI_ne (by omega)).trans (gI_eq rfl rfl))
  · exact (gI_ne (by omega)).trans (gI_eq rfl rfl)
  · exact gI_eq rfl rfl
