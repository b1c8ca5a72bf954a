/-! realm -/
theorem rlP_m {r a j : Nat} (h : rlP r a j) : a = 3 ∨ a = 2 ∨ (r ≤ a ∧ a ≤ r + 6) := by
  rcases h with (z | z) | z | z
  · exact .inl z.1
  · exact .inr (.inl z.1)
  · exact .inr (.inl z.1)
  · exact .inr (.inr z)
theorem rmQ_m {a j : Nat} (h : rmQ a j) : irM a j ∨ (a = 1 ∧ j = 1) ∨ a = 2 := by
  rcases h with z | z
  · rcases z with z | z | z | z | z | z | z
    · exact .inl (.inl ⟨z.1, by omega, by omega, by omega⟩)
    · exact .inl (.inr (.inr (.inr (.inr (.inr (.inl z))))))
    · exact .inl (.inr (.inr (.inr (.inr (.inr (.inr (.inl z)))))))
    · exact .inl (.inr (.inr (.inr (.inr (.inr (.inr (.inr (.inl ⟨by omega, by omega, by omega⟩))))))))
    · exact .inl (.inr (.inr (.inr (.inr (.inr (.inr (.inr (.inr (.inl z)))))))))
    · exact .inl (.inr (.inl ⟨by omega, by omega⟩))
    · exact .inl (.inr (.inl ⟨by omega, by omega⟩))
  · rcases z.2 with y | y
    · exact .inr (.inl ⟨z.1, y⟩)
    · exact .inl (.inl ⟨z.1, by omega, by omega, by omega⟩)
theorem st_realm (n : Nat) : St_realm (RelN (n + 1)) (RelN n) := by
  intro uC uM h _
  obtain ⟨h0, t, R, G, S, K, B, M, g, hC, hM⟩ := RelN_mono n uC uM h
  have hM1 := RM_t (x := 0) hM g
  obtain ⟨gt, gRr, gNN, gGG, gSS, gKK, gBB, gMM⟩ := id g
  obtain ⟨hT, ⟨r, hr, -⟩, -⟩ := id hC
  have hr' : gR uC 1 3 = 5 ∨ gR uC 1 3 = 13 := by
    rcases hr.2 with z | z
    · exact .inr z.2
    · exact .inl z.2
  have is2 : isRealm (gR uC 1 3) = true := by rcases hr' with z | z <;> rw [z] <;> decide
  obtain ⟨fC, vC, fM, vM, eC, eM, c1, m1, m2, hh⟩ := rl_both hr' gt hT hM1.1
  rcases hh with ⟨f, rfl, q1, q2, rfl, q4⟩ | ⟨rfl, rfl, p, R', T, hD⟩
  · refine two_ok (nI f) (fun v => RC v [] R G S K B M) (fun v => RM v [] R G S K B M) ?_ ?_ (fun x y hx hy => ⟨h0, [], R, G, S, K, B, M, ⟨gT_nil, gRr, gNN, gGG, gSS, gKK, gBB, gMM⟩, hx, hy⟩)
    · unfold f_X10_realm
      rw [if_pos is2]
      refine ok_bind (Q := fun o => o = (nI f, vC)) ⟨_, eC, rfl⟩ ?_
      rintro _ rfl
      refine ok_bind (Q := fun o => o = sI vC 3 1 0) ⟨_, rfl, rfl⟩ ?_
      rintro _ rfl
      simp only
      rw [if_neg (flt_ne q1 q2)]
      exact ok_some ⟨rfl, RC_rl hC gBB.1 rfl (fr_sI (fr_mono c1 (fun a j z => rlP_m z)) (.inl rfl)) ⟨gI_eq rfl rfl, fun i s hs => by simp at hs⟩⟩
    · unfold f_X11_realm
      rw [gm_letE]
      refine ok_bind (Q := fun o => o = (nI 0, vM)) ⟨_, eM, rfl⟩ ?_
      rintro _ rfl
      simp only
      rw [if0]
      exact ok_some ⟨q4, RM_tape hM1 g m1 (fun a j z => rmQ_m z) m2⟩
  · obtain ⟨-, -, -, -, d5, d6, d7, d8, -, -, -, d12⟩ := hD
    have ga : gA n [] R' [] [] (rYear R', 0, 0, []) [] (fun _ => none) := by
      have hy : Yn n ≥ 3000 := by unfold Yn; omega
      have hy2 := d7.2.1.2
      exact ⟨gT_nil, d7, d8, ⟨by simp, fun l hl => by cases hl⟩, ⟨by simp, fun l hl => by cases hl⟩, ⟨by show rYear R' ≤ Yn n; omega, by show 0 ≤ 60; omega, by show 0 < 64; omega, by simp, fun e he => by cases he⟩, ⟨by simp, fun l hl => by cases hl⟩, fun i k G S e => by cases e⟩
    refine two_ok (nI 0) (fun v => RC v [] R' [] [] (rYear R', 0, 0, []) [] (fun _ => none)) (fun v => RM v [] R' [] [] (rYear R', 0, 0, []) [] (fun _ => none)) ?_ ?_ (fun x y hx hy => ⟨h0, [], R', [], [], _, [], _, ga, hx, hy⟩)
    · exact c_newRealm hC rfl eC c1 ⟨d5.1, d5.2, lw_C d12⟩
    · refine m_newRealm eM m2 d6 d7 d12 ((fr_I m1 (fun z => ?_)).trans hM1.2.2.2.2.2.2.2)
      rcases z with z | z
      · rcases z with z | z | z | z | z | z | z <;> omega
      · omega
