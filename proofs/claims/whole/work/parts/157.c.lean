/-! realm: the reference -/
theorem lw_N {uC uM : gm_M} {a : Nat} {b : Bool} {ev : pEv} (h : lwD uC uM a b ev) : ∃ N, gI uM 8 1 = nI 1000 ∧ gI uM 9 1 = nI (1000 + N) ∧ ∀ w, gI w 8 0 = nI 0 → gI w 9 0 = nI N → (∀ j, j < 1000 → gI w 10 j = gI uM 10 (1000 + j)) → lawM w ev := by
  rcases h with ⟨-, -, -, h4, h5, -, h7⟩ | ⟨-, rs, cs, -, -, -, -, h6, h7, h8, h9, h10, h11⟩
  · refine ⟨0, h4, h5, fun w w8 w9 _ => .inl ⟨w9.trans w8.symm, fun s p g d => by rw [h7]⟩⟩
  · refine ⟨cs.length, h6, h7, fun w w8 w9 w10 => C_law h11 w8 w9 h9 h8 (fun i c hc => ?_)⟩
    have hi := (List.getElem?_eq_some_iff.mp hc).1
    exact (w10 i (by omega)).trans (h10 i c hc)
theorem m_unmark {u : gm_M} : ok (gm_lp b_X11_realm_46 gm_FU ((0 : Int32), u)) (fun v => (∀ i, i < 4 → gI v 34 i = nI 0) ∧ fr (fun a _ => a = 34) u v) := by
  refine lp_ok 4 (fun k x => x.1 = nI k ∧ (∀ i, i < k → gI x.2 34 i = nI 0) ∧ fr (fun a _ => a = 34) u x.2) (by omega) ⟨rfl, fun j hj => absurd hj (by omega), fr_refl _ _⟩ ?_ ?_
  · rintro k ⟨x, v⟩ hk ⟨hx, h1, h2⟩
    simp only at hx h1 h2
    subst hx
    have e0 : (nI 0 &&& 1 : Int32) = nI 0 := by decide
    simp (disch := omega) only [b_X11_realm_46, litI, nI_leI, if_neg, ib_nI, ix_nI, if_pos, gm_letE, nI_add]
    refine ok_some ⟨rfl, fun i hi => ?_, fr_sI h2 rfl⟩
    by_cases q : i = k
    · subst q; rw [gI_eq rfl rfl]; decide
    · rw [gI_ne (by omega)]; exact h1 i (by omega)
  · rintro ⟨x, v⟩ ⟨hx, h1, h2⟩
    simp only at hx h1 h2
    subst hx
    simp (disch := omega) only [b_X11_realm_46, litI, nI_leI, if_pos]
    exact ok_some ⟨h1, h2⟩
theorem m_newRealm {u uC v : gm_M} {R' : pR} {a : Nat} {b : Bool} (e : f_X11_readsAll (sI u 1 0 0) = some (nI 1, v)) (ht : tM v []) (hD : rD v R') (hg : gR1 R') (hl : lwD uC v a b (rEv R')) (h46 : gI v 1 46 = nI 0) : ok (f_X11_realm u) (fun o => o.1 = nI 0 ∧ RM o.2 [] R' [] [] (rYear R', 0, 0, []) [] (fun _ => none)) := by
  obtain ⟨N, n8, n9, n10⟩ := lw_N hl
  have hn := hg.1
  unfold f_X11_realm
  rw [gm_letE]
  refine ok_bind (Q := fun o => o = (nI 1, v)) ⟨_, e, rfl⟩ ?_
  rintro _ rfl
  simp only
  rw [if1]
  refine ok_bind (m_lays n8 n9) ?_
  rintro x ⟨x3, x4, x10, x8, x9, xf⟩
  have rx : rM x R' := by
    obtain ⟨⟨d0, d1, d2, d3⟩, d4⟩ := hD
    refine ⟨⟨(x3 0 (by omega)).trans d0, (x3 1 (by omega)).trans d1, (x3 2 (by omega)).trans d2, (x3 3 (by omega)).trans d3⟩, fun p hp => ?_, n10 x x8 x9 x10⟩
    obtain ⟨c1, c2, c3, c4⟩ := x4 p (by omega)
    obtain ⟨b1, b2, b3, b4⟩ := d4 p hp
    exact ⟨c1.trans b1, c2.trans b2, c3.trans b3, c4.trans b4⟩
  have x11 : gI x 1 1 = nI 0 := (fr_I xf (by unfold lyP; omega)).trans ht.1
  have x46 : gI x 1 46 = nI 0 := (fr_I xf (by unfold lyP; omega)).trans h46
  refine ok_bind (m_fresh0 rx) ?_
  rintro y ⟨y1, y2⟩
  rw [gm_letE, gm_letE, gm_letE]
  have wg : gI (sI (sI (sI y 23 0 0) 26 0 0) 1 45 0) 23 0 = nI 0 := (gI_ne (by omega)).trans ((gI_ne (by omega)).trans (gI_eq rfl rfl))
  have ws : gI (sI (sI (sI y 23 0 0) 26 0 0) 1 45 0) 26 0 = nI 0 := (gI_ne (by omega)).trans (gI_eq rfl rfl)
  have wb : gI (sI (sI (sI y 23 0 0) 26 0 0) 1 45 0) 1 45 = nI 0 := gI_eq rfl rfl
  have wf : fr (fun a j => a = 23 ∨ a = 26 ∨ (a = 1 ∧ j = 45)) y (sI (sI (sI y 23 0 0) 26 0 0) 1 45 0) := fr_sI (fr_sI (fr_sI (fr_refl _ _) (.inl rfl)) (.inr (.inl rfl))) (.inr (.inr ⟨rfl, rfl⟩))
  generalize sI (sI (sI y 23 0 0) 26 0 0) 1 45 0 = w at *
  refine ok_bind (m_unmark (u := w)) ?_
  rintro s ⟨s1, s2⟩
  have sf : fr (fun a j => a = 23 ∨ a = 26 ∨ a = 34 ∨ (a = 1 ∧ j = 45)) y s := fr_trans (fr_mono wf (fun _ _ q => by omega)) (fr_mono s2 (fun _ _ q => by omega))
  have sx : fr (fun a j => a = 23 ∨ a = 26 ∨ a = 34 ∨ (a = 1 ∧ j = 45) ∨ a = 29) x s := fr_trans (fr_mono y2 (fun _ _ q => by omega)) (fr_mono sf (fun _ _ q => by omega))
  refine ok_some ⟨rfl, ⟨(fr_I sx (by omega)).trans x11, fun i c hc => by simp at hc⟩, rM_fr rx hn sx (fun a j q z => by rcases q with q | q | q | q <;> omega), ⟨(fr_I s2 (by omega)).trans wg, fun i c hc => by simp at hc⟩, ⟨(fr_I s2 (by omega)).trans ws, fun i c hc => by simp at hc⟩, kM_eq y1 ⟨by simp, by simp⟩ (fun j hj => fr_I sf (by omega)), ⟨(fr_I s2 (by omega)).trans wb, fun i c hc => by simp at hc⟩, fun i hi => .inl ⟨rfl, s1 i hi⟩, (fr_I sx (by omega)).trans x46⟩
