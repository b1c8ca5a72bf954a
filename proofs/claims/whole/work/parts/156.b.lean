theorem m_lays {u : gm_M} {N : Nat} (h8 : gI u 8 1 = nI 1000) (h9 : gI u 9 1 = nI (1000 + N)) : ok (f_X11_lays u) (fun v => (∀ j, j < 4 → gI v 3 j = gI u 3 (4 + j)) ∧ (∀ j, j < 6 → gJ v 4 j = gJ u 4 (6 + j) ∧ gI v 5 j = gI u 5 (6 + j) ∧ gI v 6 j = gI u 6 (6 + j) ∧ gI v 7 j = gI u 7 (6 + j)) ∧ (∀ j, j < 1000 → gI v 10 j = gI u 10 (1000 + j)) ∧ gI v 8 0 = nI 0 ∧ gI v 9 0 = nI N ∧ fr lyP u v) := by
  unfold f_X11_lays
  have s3 : ok (f_X11_shifts 3 8 (4 : Int32) u) (fun v => (∀ j, j < 4 → gI v 3 j = gI u 3 (4 + j)) ∧ fr (fun b j => b = 3 ∧ j < 4) u v) := m_shifts (m := 4) (by omega) (by omega) (by omega)
  refine ok_bind s3 ?_
  rintro v3 ⟨a3, f3⟩
  refine ok_bind (m_lays4 (v3 := v3)) ?_
  rintro v4 ⟨a4, f4⟩
  have s5 : ok (f_X11_shifts 5 12 (6 : Int32) v4) (fun v => (∀ j, j < 6 → gI v 5 j = gI v4 5 (6 + j)) ∧ fr (fun b j => b = 5 ∧ j < 6) v4 v) := m_shifts (m := 6) (by omega) (by omega) (by omega)
  refine ok_bind s5 ?_
  rintro v5 ⟨a5, f5⟩
  have s6 : ok (f_X11_shifts 6 12 (6 : Int32) v5) (fun v => (∀ j, j < 6 → gI v 6 j = gI v5 6 (6 + j)) ∧ fr (fun b j => b = 6 ∧ j < 6) v5 v) := m_shifts (m := 6) (by omega) (by omega) (by omega)
  refine ok_bind s6 ?_
  rintro v6 ⟨a6, f6⟩
  have s7 : ok (f_X11_shifts 7 12 (6 : Int32) v6) (fun v => (∀ j, j < 6 → gI v 7 j = gI v6 7 (6 + j)) ∧ fr (fun b j => b = 7 ∧ j < 6) v6 v) := m_shifts (m := 6) (by omega) (by omega) (by omega)
  refine ok_bind s7 ?_
  rintro v7 ⟨a7, f7⟩
  have s10 : ok (f_X11_shifts 10 2000 (1000 : Int32) v7) (fun v => (∀ j, j < 1000 → gI v 10 j = gI v7 10 (1000 + j)) ∧ fr (fun b j => b = 10 ∧ j < 1000) v7 v) := by
    have h := m_shifts (u := v7) (a := 10) (n0 := 2000) (m := 1000) (by omega) (by omega) (by omega)
    rw [← litI 1000] at h
    exact h
  refine ok_bind s10 ?_
  rintro v10 ⟨a10, f10⟩
  rw [gm_letE, gm_letE, litI 1000]
  have all : ∀ a j, ¬ (a = 3 ∧ j < 4) → ¬ (a = 4 ∧ j < 6) → ¬ (a = 5 ∧ j < 6) → ¬ (a = 6 ∧ j < 6) → ¬ (a = 7 ∧ j < 6) → ¬ (a = 10 ∧ j < 1000) → gI v10 a j = gI u a j ∧ gJ v10 a j = gJ u a j := fun a j n3 n4 n5 n6 n7 n10 => ⟨(fr_I f10 n10).trans ((fr_I f7 n7).trans ((fr_I f6 n6).trans ((fr_I f5 n5).trans ((fr_I f4 n4).trans (fr_I f3 n3))))), (fr_J f10 n10).trans ((fr_J f7 n7).trans ((fr_J f6 n6).trans ((fr_J f5 n5).trans ((fr_J f4 n4).trans (fr_J f3 n3)))))⟩
  have k8 : gI v10 8 1 = nI 1000 := ((all 8 1 (by omega) (by omega) (by omega) (by omega) (by omega) (by omega)).1).trans h8
  have k9 : gI v10 9 1 = nI (1000 + N) := ((all 9 1 (by omega) (by omega) (by omega) (by omega) (by omega) (by omega)).1).trans h9
  generalize hx : gI v10 8 1 - nI 1000 = x
  have hx0 : x = nI 0 := by
    rw [← hx, k8]
    exact nI_sub (Nat.le_refl 1000)
  clear hx
  generalize hy : gI (sI v10 8 0 x) 9 1 - nI 1000 = y
  have hy0 : y = nI N := by
    rw [← hy, gI_ne (by omega), k9, nI_sub (by omega), Nat.add_sub_cancel_left]
  clear hy
  have two : ∀ a j, ¬ ((a = 8 ∨ a = 9) ∧ j = 0) → gI (sI (sI v10 8 0 x) 9 0 y) a j = gI v10 a j := fun a j n => (gI_ne (by omega)).trans (gI_ne (by omega))
  refine ok_some ⟨fun j hj => ?_, fun j hj => ⟨?_, ?_, ?_, ?_⟩, fun j hj => ?_, (gI_ne (by omega)).trans ((gI_eq rfl rfl).trans hx0), (gI_eq rfl rfl).trans hy0, ?_⟩
  · rw [two _ _ (by omega), fr_I f10 (by omega), fr_I f7 (by omega), fr_I f6 (by omega), fr_I f5 (by omega), fr_I f4 (by omega)]; exact a3 j hj
  · show gJ v10 4 j = _
    rw [fr_J f10 (by omega), fr_J f7 (by omega), fr_J f6 (by omega), fr_J f5 (by omega), a4 j hj, fr_J f3 (by omega)]
  · rw [two _ _ (by omega), fr_I f10 (by omega), fr_I f7 (by omega), fr_I f6 (by omega), a5 j hj, fr_I f4 (by omega), fr_I f3 (by omega)]
  · rw [two _ _ (by omega), fr_I f10 (by omega), fr_I f7 (by omega), a6 j hj, fr_I f5 (by omega), fr_I f4 (by omega), fr_I f3 (by omega)]
  · rw [two _ _ (by omega), fr_I f10 (by omega), a7 j hj, fr_I f6 (by omega), fr_I f5 (by omega), fr_I f4 (by omega), fr_I f3 (by omega)]
  · rw [two _ _ (by omega), a10 j hj, fr_I f7 (by omega), fr_I f6 (by omega), fr_I f5 (by omega), fr_I f4 (by omega), fr_I f3 (by omega)]
  · refine fr_sI (fr_sI ?_ (.inr (.inr (.inr ⟨.inl rfl, rfl⟩)))) (.inr (.inr (.inr ⟨.inr rfl, rfl⟩)))
    exact fr_trans (fr_mono f3 (fun a j z => .inl z)) (fr_trans (fr_mono f4 (fun a j z => .inr (.inl ⟨by omega, by omega, z.2⟩))) (fr_trans (fr_mono f5 (fun a j z => .inr (.inl ⟨by omega, by omega, z.2⟩))) (fr_trans (fr_mono f6 (fun a j z => .inr (.inl ⟨by omega, by omega, z.2⟩))) (fr_trans (fr_mono f7 (fun a j z => .inr (.inl ⟨by omega, by omega, z.2⟩))) (fr_mono f10 (fun a j z => .inr (.inr (.inl z))))))))
