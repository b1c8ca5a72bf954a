theorem c_clear {u : gm_M} {r : Nat} : ok (f_X5_clear r u) (fun v => rC0 v r R0 ∧ gI v (r + 5) 1 = nI 1 ∧ gI v (r + 6) 0 = (-1 : Int32) ∧ fr (fun a _ => r ≤ a ∧ a ≤ r + 6) u v) := by
  unfold f_X5_clear
  simp only [gm_letE]
  have f0 : fr (fun a _ => r ≤ a ∧ a ≤ r + 6) u (sI (sI (sI (sI u r 0 0) r 5 1896) r 6 10) r 7 70) := fr_sI (fr_sI (fr_sI (fr_sI (fr_refl _ _) ⟨by omega, by omega⟩) ⟨by omega, by omega⟩) ⟨by omega, by omega⟩) ⟨by omega, by omega⟩
  have e0 : gI (sI (sI (sI (sI u r 0 0) r 5 1896) r 6 10) r 7 70) r 0 = nI 0 := (gI_ne (by omega)).trans ((gI_ne (by omega)).trans ((gI_ne (by omega)).trans (gI_eq rfl rfl)))
  have e5 : gI (sI (sI (sI (sI u r 0 0) r 5 1896) r 6 10) r 7 70) r 5 = nI 1896 := (gI_ne (by omega)).trans ((gI_ne (by omega)).trans (gI_eq rfl rfl))
  have e6 : gI (sI (sI (sI (sI u r 0 0) r 5 1896) r 6 10) r 7 70) r 6 = nI 10 := (gI_ne (by omega)).trans (gI_eq rfl rfl)
  have e7 : gI (sI (sI (sI (sI u r 0 0) r 5 1896) r 6 10) r 7 70) r 7 = nI 70 := gI_eq rfl rfl
  generalize sI (sI (sI (sI u r 0 0) r 5 1896) r 6 10) r 7 70 = w at *
  have ecl : f_X3_clear (r + 5) w = some (sI w (r + 5) 1 0) := rfl
  rw [ecl]
  simp only [Option.bind_some]
  have f1 : fr (fun a j => a = r + 5 ∧ j = 1) w (sI w (r + 5) 1 0) := fr_sI (fr_refl _ _) ⟨rfl, rfl⟩
  have e1 : gI (sI w (r + 5) 1 0) (r + 5) 1 = nI 0 := gI_eq rfl rfl
  generalize sI w (r + 5) 1 0 = w1 at *
  obtain ⟨z, ez, z1, -, z2⟩ := c_ladd (a := r + 5) (-1 : Int32) e1 (by omega)
  obtain ⟨y1, y2, -⟩ := z2 (by omega)
  rw [ez]
  refine ok_some ⟨⟨⟨?_, ?_, ?_, ?_⟩, fun p hp => absurd hp (Nat.not_lt_zero p)⟩, y1, y2, fr_trans f0 (fr_trans (fr_mono f1 (fun a j z => ⟨by omega, by omega⟩)) (fr_mono z1 (fun a j z => ⟨by omega, by omega⟩)))⟩
  · rw [fr_I z1 (by omega), fr_I f1 (by omega)]; exact e0
  · rw [fr_I z1 (by omega), fr_I f1 (by omega)]; exact e5
  · rw [fr_I z1 (by omega), fr_I f1 (by omega)]; exact e6
  · rw [fr_I z1 (by omega), fr_I f1 (by omega)]; exact e7
