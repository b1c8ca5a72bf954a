theorem m_usual {u : gm_M} : ok (f_X11_usual (1 : Int32) u) (fun v => rD v R0 ∧ fr (fun a j => a = 3 ∧ 4 ≤ j ∧ j < 8) u v) := by
  have e : f_X11_usual (1 : Int32) u = some (sI (sI (sI (sI u 3 4 0) 3 5 1896) 3 6 10) 3 7 70) := by
    unfold f_X11_usual
    rw [if_pos (by decide), gm_letE, if_pos (by decide), gm_letE, if_pos (by decide), gm_letE, if_pos (by decide), gm_letE]
    rfl
  rw [e]
  refine ok_some ⟨⟨⟨?_, ?_, ?_, ?_⟩, fun p hp => absurd hp (Nat.not_lt_zero p)⟩, fr_sI (fr_sI (fr_sI (fr_sI (fr_refl _ _) ⟨rfl, by omega, by omega⟩) ⟨rfl, by omega, by omega⟩) ⟨rfl, by omega, by omega⟩) ⟨rfl, by omega, by omega⟩⟩
  · exact (gI_ne (by omega)).trans ((gI_ne (by omega)).trans ((gI_ne (by omega)).trans (gI_eq rfl rfl)))
  · exact (gI_ne (by omega)).trans ((gI_ne (by omega)).trans (gI_eq rfl rfl))
  · exact (gI_ne (by omega)).trans (gI_eq rfl rfl)
  · exact gI_eq rfl rfl
