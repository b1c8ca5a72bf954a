def lyP : Nat → Nat → Prop := fun a j => (a = 3 ∧ j < 4) ∨ (4 ≤ a ∧ a ≤ 7 ∧ j < 6) ∨ (a = 10 ∧ j < 1000) ∨ ((a = 8 ∨ a = 9) ∧ j = 0)
theorem m_lays4 {v3 : gm_M} : ok (gm_lp b_X11_lays_10 gm_FU ((0 : Int32), v3)) (fun v => (∀ j, j < 6 → gJ v 4 j = gJ v3 4 (6 + j)) ∧ fr (fun b j => b = 4 ∧ j < 6) v3 v) := by
  refine lp_ok 6 (fun k x => x.1 = nI k ∧ (∀ j, j < k → gJ x.2 4 j = gJ v3 4 (6 + j)) ∧ fr (fun b j => b = 4 ∧ j < 6) v3 x.2) (by omega) ⟨rfl, fun j hj => absurd hj (by omega), fr_refl _ _⟩ ?_ ?_
  · rintro k ⟨x, v⟩ hk ⟨hx, h1, h2⟩
    simp only at hx h1 h2
    subst hx
    have e : gJ v 4 (6 + k) = gJ v3 4 (6 + k) := fr_J h2 (by omega)
    simp (disch := omega) only [b_X11_lays_10, litI, nI_leI, if_neg, nI_add, ib_nI, ix_nI, if_pos, gm_letE, e]
    refine ok_some ⟨rfl, fun j hj => ?_, fr_sJ h2 ⟨rfl, by omega⟩⟩
    by_cases q : j = k
    · subst q; exact gJ_eq rfl rfl
    · rw [gJ_ne (by omega)]; exact h1 j (by omega)
  · rintro ⟨x, v⟩ ⟨hx, h1, h2⟩
    simp only at hx h1 h2
    subst hx
    simp (disch := omega) only [b_X11_lays_10, litI, nI_leI, if_pos]
    exact ok_some ⟨h1, h2⟩
