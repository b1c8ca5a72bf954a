/-! realm: the class -/
theorem RC_rl {u v : gm_M} {t t' : List Nat} {R : pR} {G : pG} {S : pS} {K : pK} {B : List pK} {M : pMk} {r' : Nat} (h : RC u t R G S K B M) (hB : B.length ≤ 16) (hr : gR u 1 3 = r') (f : fr (fun a _ => a = 3 ∨ a = 2 ∨ (r' ≤ a ∧ a ≤ r' + 6)) u v) (ht : tC v t') : RC v t' R G S K B M := by
  obtain ⟨h1, ⟨r, ⟨hr1, hr2⟩, hr3⟩, ⟨g, ⟨hg1, hg2⟩, hg3⟩, h4, h5, h6, h7⟩ := h
  have hd : (r = 5 ∧ r' = 13) ∨ (r = 13 ∧ r' = 5) := by rw [hr] at hr2; exact hr2
  have hgd : g = 21 ∨ g = 24 := by omega
  refine ⟨ht, ⟨r, ⟨(fr_R f (by omega)).trans hr1, ?_⟩, rC_fr hr3 f (fun a j q1 q2 => by omega)⟩, ⟨g, ⟨(fr_R f (by omega)).trans hg1, ?_⟩, gC_fr hg3 f (fun a j q1 q2 => by omega)⟩, sC_fr h4 f (fun a j q1 q2 => by omega), kC_fr h5 f (fun a j q1 q2 => by omega), pC_fr h6 hB f (by omega) (fun j => by omega) (fun a j q1 q2 => by omega), mkC_fr h7 f (fun j => by omega) (fun a j q1 => by omega)⟩
  · rw [fr_R f (a := 1) (k := 3) (by omega)]; exact hr2
  · rw [fr_R f (a := 1) (k := 5) (by omega)]; exact hg2
theorem c_unmark {u : gm_M} (h : ∀ i, i < 4 → gR u 39 i = 110 + 12 * i) : ok (gm_lp b_X10_realm_78 gm_FU ((0 : Int32), u)) (fun v => (∀ i, i < 4 → gI v (110 + 12 * i) 0 = nI 0) ∧ fr (fun a _ => 110 ≤ a) u v) := by
  refine lp_ok 4 (fun k x => x.1 = nI k ∧ (∀ i, i < k → gI x.2 (110 + 12 * i) 0 = nI 0) ∧ fr (fun a _ => 110 ≤ a) u x.2) (by omega) ⟨rfl, fun j hj => absurd hj (by omega), fr_refl _ _⟩ ?_ ?_
  · rintro k ⟨x, v⟩ hk ⟨hx, h1, h2⟩
    simp only at hx h1 h2
    subst hx
    have e : gR v 39 k = 110 + 12 * k := (fr_R h2 (by omega)).trans (h k hk)
    have im := isM_ok ⟨k, hk⟩
    simp only at im
    simp (disch := omega) only [b_X10_realm_78, litI, nI_leI, if_neg, ib_nI, ix_nI, if_pos, gm_letE, e, im, if_true, nI_add]
    refine ok_some ⟨rfl, fun i hi => ?_, fr_sI h2 (by omega)⟩
    by_cases q : i = k
    · subst q; exact gI_eq rfl rfl
    · rw [gI_ne (by omega)]; exact h1 i (by omega)
  · rintro ⟨x, v⟩ ⟨hx, h1, h2⟩
    simp only at hx h1 h2
    subst hx
    simp (disch := omega) only [b_X10_realm_78, litI, nI_leI, if_pos]
    exact ok_some ⟨h1, h2⟩
theorem c_newRealm {u v : gm_M} {t : List Nat} {R R' : pR} {G : pG} {S : pS} {K : pK} {B : List pK} {M : pMk} {r' : Nat} (h : RC u t R G S K B M) (hr' : gR u 1 3 = r') (e : f_X8_readRealm r' u = some (nI 0, v)) (f : fr (rlP r') u v) (hv : rC v r' R') : ok (f_X10_realm u) (fun o => o.1 = nI 0 ∧ RC o.2 [] R' [] [] (rYear R', 0, 0, []) [] (fun _ => none)) := by
  obtain ⟨h1, ⟨r, ⟨hr1, hr2⟩, hr3⟩, ⟨g, ⟨hg1, hg2⟩, hg3⟩, h4, h5, ⟨-, p2, p3, -⟩, h7⟩ := h
  have hd : (r = 5 ∧ r' = 13) ∨ (r = 13 ∧ r' = 5) := by rw [hr'] at hr2; exact hr2
  have hgd : g = 21 ∨ g = 24 := by omega
  have is1 : isRealm r = true := by rcases hd with ⟨z, -⟩ | ⟨z, -⟩ <;> rw [z] <;> decide
  have is2 : isRealm r' = true := by rcases hd with ⟨-, z⟩ | ⟨-, z⟩ <;> rw [z] <;> decide
  have is3 : isReign g = true := by rcases hgd with z | z <;> rw [z] <;> decide
  have fR : ∀ {a j : Nat}, (a = 1 ∨ a = 38 ∨ a = 39) → gR v a j = gR u a j := fun q => fr_R f (fun z => by rcases z with (z | z) | z | z <;> (try unfold tkP at z) <;> omega)
  unfold f_X10_realm
  rw [hr', if_pos is2]
  refine ok_bind (Q := fun o => o = (nI 0, v)) ⟨_, e, rfl⟩ ?_
  rintro _ rfl
  refine ok_bind (Q := fun o => o = sI v 3 1 0) ⟨_, rfl, rfl⟩ ?_
  rintro _ rfl
  have x1 : gI (sI v 3 1 0) 3 1 = nI 0 := gI_eq rfl rfl
  have x2 : rC (sI v 3 1 0) r' R' := rC_fr (P := fun a _ => a = 3) hv (fr_sI (fr_refl _ _) rfl) (fun a j q1 q2 => by omega)
  have x3 : ∀ a j, gR (sI v 3 1 0) a j = gR v a j := fun _ _ => rfl
  generalize sI v 3 1 0 = x at *
  have xR : ∀ {a j : Nat}, (a = 1 ∨ a = 38 ∨ a = 39) → gR x a j = gR u a j := fun q => (x3 _ _).trans (fR q)
  simp only
  rw [if0, xR (.inl rfl), hr', if_pos is2, gm_letE, xR (.inl rfl), hr1, if_pos is1, gm_letE, gm_letE]
  have y12 : gR (sR (sR x 1 3 r) 1 2 r') 1 2 = r' := gR_eq rfl rfl
  have y13 : gR (sR (sR x 1 3 r) 1 2 r') 1 3 = r := (gR_ne (by omega)).trans (gR_eq rfl rfl)
  have yf : fr (fun a j => a = 1 ∧ (j = 2 ∨ j = 3)) x (sR (sR x 1 3 r) 1 2 r') := fr_sR (fr_sR (fr_refl _ _) ⟨rfl, .inr rfl⟩) ⟨rfl, .inl rfl⟩
  generalize sR (sR x 1 3 r) 1 2 r' = y at *
  rw [y12, if_pos is2]
  have yC : rC y r' R' := rC_fr x2 yf (fun a j q1 q2 => by omega)
  refine ok_bind (c_begin (c := 27) (r := r') yC.1.2.1 (by omega)) ?_
  rintro z ⟨z1, z2⟩
  have zf : fr (fun a j => (a = 1 ∧ (j = 2 ∨ j = 3)) ∨ (27 ≤ a ∧ a ≤ 30)) x z := fr_trans (fr_mono yf (fun _ _ q => .inl q)) (fr_mono z2 (fun _ _ q => .inr q))
  have z14 : gR z 1 4 = g := (fr_R zf (by omega)).trans ((xR (.inl rfl)).trans hg1)
  rw [z14, if_pos is3]
  have ecl : f_X6_clear g z = some (sI z g 2 0) := rfl
  refine ok_bind (Q := fun o => o = sI z g 2 0) ⟨_, ecl, rfl⟩ ?_
  rintro _ rfl
  have ecl2 : f_X7_clear 31 (sI z g 2 0) = some (sI (sI z g 2 0) 31 2 0) := rfl
  refine ok_bind (Q := fun o => o = sI (sI z g 2 0) 31 2 0) ⟨_, ecl2, rfl⟩ ?_
  rintro _ rfl
  rw [gm_letE]
  have wg : gI (sI (sI (sI z g 2 0) 31 2 0) 1 10 0) g 2 = nI 0 := (gI_ne (by omega)).trans ((gI_ne (by omega)).trans (gI_eq rfl rfl))
  have ws : gI (sI (sI (sI z g 2 0) 31 2 0) 1 10 0) 31 2 = nI 0 := (gI_ne (by omega)).trans (gI_eq rfl rfl)
  have wb : gI (sI (sI (sI z g 2 0) 31 2 0) 1 10 0) 1 10 = nI 0 := gI_eq rfl rfl
  have wf : fr (fun a j => a = g ∨ a = 31 ∨ (a = 1 ∧ j = 10)) z (sI (sI (sI z g 2 0) 31 2 0) 1 10 0) := fr_sI (fr_sI (fr_sI (fr_refl _ _) (.inl rfl)) (.inr (.inl rfl))) (.inr (.inr ⟨rfl, rfl⟩))
  generalize sI (sI (sI z g 2 0) 31 2 0) 1 10 0 = w at *
  have wk : kC w 27 (rYear R', 0, 0, []) := kC_fr z1 wf (fun a j q1 q2 => by omega)
  have wx : fr (fun a j => (a = 1 ∧ (j = 2 ∨ j = 3 ∨ j = 10)) ∨ (27 ≤ a ∧ a ≤ 31) ∨ a = g) x w := fr_trans (fr_mono zf (fun _ _ q => by omega)) (fr_mono wf (fun _ _ q => by omega))
  have w12 : gR w 1 2 = r' := (fr_R wf (by omega)).trans ((fr_R z2 (by unfold crt; omega)).trans y12)
  have w13 : gR w 1 3 = r := (fr_R wf (by omega)).trans ((fr_R z2 (by unfold crt; omega)).trans y13)
  have wR : ∀ {a j : Nat}, (a = 1 ∨ a = 38 ∨ a = 39) → ¬ (a = 1 ∧ (j = 2 ∨ j = 3 ∨ j = 10)) → gR w a j = gR u a j := fun q q2 => (fr_R wx (by omega)).trans (xR q)
  refine ok_bind (c_unmark (u := w) (fun i hi => (wR (by omega) (by omega)).trans (h7 i hi).1)) ?_
  rintro s ⟨s1, s2⟩
  have sR' : ∀ {a j : Nat}, (a = 1 ∨ a = 38 ∨ a = 39) → gR s a j = gR w a j := fun q => fr_R s2 (by omega)
  refine ok_some ⟨rfl, ⟨?_, fun i c hc => by simp at hc⟩, ⟨r', ⟨(sR' (.inl rfl)).trans w12, ?_⟩, rC_fr (rC_fr x2 wx (fun a j q1 q2 => by omega)) s2 (fun a j q1 q2 => by omega)⟩, ⟨g, ⟨(sR' (.inl rfl)).trans ((wR (.inl rfl) (by omega)).trans hg1), ?_⟩, (fr_I s2 (by omega)).trans wg, fun i c hc => by simp at hc⟩, ⟨(fr_I s2 (by omega)).trans ws, fun i c hc => by simp at hc⟩, kC_fr wk s2 (fun a j q1 q2 => by omega), ⟨(fr_I s2 (by omega)).trans wb, fun i hi => ?_, fun i j hi hj q => ?_, fun i c hc => by simp at hc⟩, fun i hi => ⟨(sR' (.inr (.inr rfl))).trans ((wR (.inr (.inr rfl)) (by omega)).trans (h7 i hi).1), .inl ⟨rfl, s1 i hi⟩⟩⟩
  · exact (fr_I s2 (by omega)).trans ((fr_I wx (by omega)).trans x1)
  · rw [sR' (.inl rfl), w13]; omega
  · rw [sR' (.inl rfl), wR (.inl rfl) (by omega)]; exact hg2
  · rw [sR' (.inr (.inl rfl)), wR (.inr (.inl rfl)) (by omega)]; exact p2 i hi
  · rw [sR' (.inr (.inl rfl)), wR (.inr (.inl rfl)) (by omega), sR' (.inr (.inl rfl)), wR (.inr (.inl rfl)) (by omega)] at q; exact p3 i j hi hj q
