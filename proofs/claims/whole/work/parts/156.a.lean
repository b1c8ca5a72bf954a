/-! realm: both programs -/
theorem m_shifts {u : gm_M} {a n0 m : Nat} (hm : m ≤ 1000) (hn : 2 * m ≤ n0) (hn2 : n0 ≤ 2000) : ok (f_X11_shifts a n0 (nI m) u) (fun v => (∀ j, j < m → gI v a j = gI u a (m + j)) ∧ fr (fun b j => b = a ∧ j < m) u v) := by
  unfold f_X11_shifts
  refine ok_bind (Q := fun v => (∀ j, j < m → gI v a j = gI u a (m + j)) ∧ fr (fun b j => b = a ∧ j < m) u v)
    (lp_ok m (fun k x => x.1 = nI k ∧ (∀ j, j < k → gI x.2 a j = gI u a (m + j)) ∧ fr (fun b j => b = a ∧ j < m) u x.2) (by omega) ⟨rfl, fun j hj => absurd hj (by omega), fr_refl _ _⟩ ?_ ?_) (fun v hv => ok_some hv)
  · rintro k ⟨x, v⟩ hk ⟨hx, h1, h2⟩
    simp only at hx h1 h2
    subst hx
    have e : gI v a (m + k) = gI u a (m + k) := fr_I h2 (by omega)
    simp (disch := omega) only [b_X11_shifts_2, nI_leI, if_neg, nI_add, ib_nI, ix_nI, if_pos, gm_letE, e]
    refine ok_some ⟨nI_add k 1, fun j hj => ?_, fr_sI h2 ⟨rfl, by omega⟩⟩
    by_cases q : j = k
    · subst q; exact gI_eq rfl rfl
    · rw [gI_ne (by omega)]; exact h1 j (by omega)
  · rintro ⟨x, v⟩ ⟨hx, h1, h2⟩
    simp only at hx h1 h2
    subst hx
    simp (disch := omega) only [b_X11_shifts_2, nI_leI, if_pos]
    exact ok_some ⟨h1, h2⟩
