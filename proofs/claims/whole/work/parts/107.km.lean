/-! the reference's court: a row of 22 -/
def kM (u : gm_M) (a o : Nat) (k : pK) : Prop := (gI u a o = nI k.1 ∧ gI u a (o + 1) = nI k.2.1 ∧ gI u a (o + 2) = nI k.2.2.2.length ∧ gI u a (o + 3) = nI k.2.2.1) ∧
  ∀ i e, k.2.2.2[i]? = some e → gI u a (o + 4 + i) = nI e.1 ∧ gI u a (o + 10 + e.1) = nI e.2.1 ∧ gI u a (o + 16 + e.1) = nI e.2.2
theorem kM_fr {P : Nat → Nat → Prop} {u v : gm_M} {a o : Nat} {k : pK} (h : kM u a o k) (hq : gQ k.2.2.2) (f : fr P u v) (hp : ∀ j, o ≤ j → j < o + 22 → ¬ P a j) : kM v a o k := by
  obtain ⟨⟨h0, h1, h2, h3⟩, h4⟩ := h
  have hl := gQ_len hq
  refine ⟨⟨(fr_I f (hp _ (by omega) (by omega))).trans h0, (fr_I f (hp _ (by omega) (by omega))).trans h1, (fr_I f (hp _ (by omega) (by omega))).trans h2, (fr_I f (hp _ (by omega) (by omega))).trans h3⟩, fun i e hi => ?_⟩
  obtain ⟨a1, a2, a3⟩ := h4 i e hi
  have z := (List.getElem?_eq_some_iff.mp hi).1
  have z2 := gQ_at hq hi
  exact ⟨(fr_I f (hp _ (by omega) (by omega))).trans a1, (fr_I f (hp _ (by omega) (by omega))).trans a2, (fr_I f (hp _ (by omega) (by omega))).trans a3⟩
theorem m_copies {u : gm_M} {A n1 o1 B n2 o2 : Nat} (hAB : A ≠ B) (h1 : o1 + 22 ≤ n1) (h2 : o2 + 22 ≤ n2) (hn1 : n1 ≤ 2000) (hn2 : n2 ≤ 2000) :
    ok (f_X11_copies A n1 (nI o1) B n2 (nI o2) u) (fun v => (∀ j, j < 22 → gI v B (o2 + j) = gI u A (o1 + j)) ∧ fr (fun a j => a = B ∧ o2 ≤ j ∧ j < o2 + 22) u v) := by
  simp only [f_X11_copies]
  refine ok_bind (Q := fun v => (∀ j, j < 22 → gI v B (o2 + j) = gI u A (o1 + j)) ∧ fr (fun a j => a = B ∧ o2 ≤ j ∧ j < o2 + 22) u v)
    (lp_ok 22 (fun k x => x.1 = nI k ∧ (∀ j, j < k → gI x.2 B (o2 + j) = gI u A (o1 + j)) ∧ fr (fun a j => a = B ∧ o2 ≤ j ∧ j < o2 + 22) u x.2) (by omega) ⟨rfl, fun j hj => absurd hj (by omega), fr_refl _ _⟩ ?_ ?_) (fun v hv => ok_some hv)
  · rintro k ⟨x, v⟩ hk ⟨hx, hj, hf⟩
    simp only at hx hj hf
    subst hx
    have e : gI v A (o1 + k) = gI u A (o1 + k) := fr_I hf (by omega)
    simp (disch := omega) only [b_X11_copies_3, gm_let, litI, ib_nI, ix_nI, nI_leI, nI_ltI, nI_eq, nI_add, nI_sub, nI_mul, nI_div, nI_rem, nI_m1, nI_eqm, nI_gem, nI_ltm, nI_mlt, nI_lem, Option.bind_some, Option.bind_none, if_pos, if_neg, e]
    refine ok_some ⟨rfl, fun j hj2 => ?_, fr_sI hf ⟨rfl, by omega, by omega⟩⟩
    by_cases q : j = k
    · subst q
      exact gI_eq rfl rfl
    · rw [gI_ne (by omega)]
      exact hj j (by omega)
  · rintro ⟨x, v⟩ ⟨hx, hj, hf⟩
    simp only at hx hj hf
    subst hx
    simp (disch := omega) only [b_X11_copies_3, gm_let, litI, ib_nI, ix_nI, nI_leI, nI_ltI, nI_eq, nI_add, nI_sub, nI_mul, nI_div, nI_rem, nI_m1, nI_eqm, nI_gem, nI_ltm, nI_mlt, nI_lem, Option.bind_some, Option.bind_none, if_pos, if_neg]
    exact ok_some ⟨hj, hf⟩
theorem kM_copied {u v : gm_M} {A o1 B o2 : Nat} {k : pK} (h : kM u A o1 k) (hq : gQ k.2.2.2) (hv : ∀ j, j < 22 → gI v B (o2 + j) = gI u A (o1 + j)) : kM v B o2 k := by
  obtain ⟨⟨h0, h1, h2, h3⟩, h4⟩ := h
  have hl := gQ_len hq
  refine ⟨⟨(hv 0 (by omega)).trans h0, (hv 1 (by omega)).trans h1, (hv 2 (by omega)).trans h2, (hv 3 (by omega)).trans h3⟩, fun i e hi => ?_⟩
  obtain ⟨a1, a2, a3⟩ := h4 i e hi
  have z := (List.getElem?_eq_some_iff.mp hi).1
  have z2 := gQ_at hq hi
  have b1 := hv (4 + i) (by omega)
  have b2 := hv (10 + e.1) (by omega)
  have b3 := hv (16 + e.1) (by omega)
  rw [← Nat.add_assoc, ← Nat.add_assoc] at b1 b2 b3
  exact ⟨b1.trans a1, b2.trans a2, b3.trans a3⟩
/-- the reference's law is worth ev -/
def lawM (u : gm_M) (ev : pEv) : Prop := (gI u 9 0 = gI u 8 0 ∧ ∀ s p g d, ev s p g d = s) ∨ (gI u 9 0 ≠ gI u 8 0 ∧ ∀ v, gI v 9 0 = gI u 9 0 → gI v 8 0 = gI u 8 0 → (∀ i, i < 1000 → gI v 10 i = gI u 10 i) → ok (f_X11_worked (nI 0) v) (fun o => o.1 = ev (gI v 22 1) (gI v 22 2) (gI v 22 3) (gI v 22 4) ∧ fr (fun b _ => 13 ≤ b ∧ b ≤ 21) v o.2))
def rM (u : gm_M) (R : pR) : Prop := (gI u 3 0 = nI (rN R) ∧ gI u 3 1 = nI (rYear R) ∧ gI u 3 2 = nI (rCandle R) ∧ gI u 3 3 = nI (rLives R)) ∧
  (∀ p, p < rN R → gJ u 4 p = nmM (ps R p).1 ∧ gI u 5 p = nI (rKind R p) ∧ gI u 6 p = nI (rBorn R p) ∧ gI u 7 p = nI (rPlea R p)) ∧ lawM u (rEv R)
/-- where the reference's realm stands -/
def rlM : Nat → Nat → Prop := fun a j => (a = 3 ∧ j < 4) ∨ ((a = 4 ∨ a = 5 ∨ a = 6 ∨ a = 7) ∧ j < 6) ∨ ((a = 8 ∨ a = 9) ∧ j = 0) ∨ (a = 10 ∧ j < 1000)
theorem rM_fr {P : Nat → Nat → Prop} {u v : gm_M} {R : pR} (h : rM u R) (hn : rN R ≤ 6) (f : fr P u v) (hp : ∀ a j, rlM a j → ¬ P a j) : rM v R := by
  obtain ⟨⟨h0, h1, h2, h3⟩, h4, h5⟩ := h
  have e9 : gI v 9 0 = gI u 9 0 := fr_I f (hp 9 0 (.inr (.inr (.inl ⟨by omega, rfl⟩))))
  have e8 : gI v 8 0 = gI u 8 0 := fr_I f (hp 8 0 (.inr (.inr (.inl ⟨by omega, rfl⟩))))
  refine ⟨⟨(fr_I f (hp 3 0 (.inl ⟨rfl, by omega⟩))).trans h0, (fr_I f (hp 3 1 (.inl ⟨rfl, by omega⟩))).trans h1, (fr_I f (hp 3 2 (.inl ⟨rfl, by omega⟩))).trans h2, (fr_I f (hp 3 3 (.inl ⟨rfl, by omega⟩))).trans h3⟩, fun p hpp => ?_, ?_⟩
  · obtain ⟨a1, a2, a3, a4⟩ := h4 p hpp
    exact ⟨(fr_J f (hp _ _ (.inr (.inl ⟨by omega, by omega⟩)))).trans a1, (fr_I f (hp _ _ (.inr (.inl ⟨by omega, by omega⟩)))).trans a2, (fr_I f (hp _ _ (.inr (.inl ⟨by omega, by omega⟩)))).trans a3, (fr_I f (hp _ _ (.inr (.inl ⟨by omega, by omega⟩)))).trans a4⟩
  · rcases h5 with ⟨q1, q2⟩ | ⟨q1, q2⟩
    · exact .inl ⟨by rw [e9, e8]; exact q1, q2⟩
    · exact .inr ⟨by rw [e9, e8]; exact q1, fun w w1 w2 w3 => q2 w (w1.trans e9) (w2.trans e8) (fun i hi => (w3 i hi).trans (fr_I f (hp 10 i (.inr (.inr (.inr ⟨rfl, hi⟩))))))⟩
theorem m_isPerson {u : gm_M} {R : pR} (h : rM u R) (hn : rN R ≤ 6) (a : Int32) : (∃ p, p < rN R ∧ a = nI p ∧ f_X11_isPerson a u = nI 1) ∨ ((∀ p, p < rN R → nI p ≠ a) ∧ f_X11_isPerson a u = nI 0) := by
  obtain ⟨⟨h0, -⟩, -⟩ := h
  rcases nI_cases a (rN R) (by omega) with ⟨p, hp, rfl⟩ | hneg | ⟨p, hp, hp2, rfl⟩
  · refine .inl ⟨p, hp, rfl, ?_⟩
    simp (disch := omega) only [f_X11_isPerson, gm_let, litI, ib_nI, ix_nI, nI_leI, nI_ltI, nI_eq, nI_add, nI_sub, nI_mul, nI_div, nI_rem, nI_m1, nI_eqm, nI_gem, nI_ltm, nI_mlt, nI_lem, Option.bind_some, Option.bind_none, h0, if_pos, if_neg]
  · refine .inr ⟨fun p hp => neg_ne hneg (by omega), ?_⟩
    exact if_pos hneg
  · refine .inr ⟨fun q hq e => by rw [nI_eq (by omega) (by omega)] at e; omega, ?_⟩
    simp (disch := omega) only [f_X11_isPerson, gm_let, litI, ib_nI, ix_nI, nI_leI, nI_ltI, nI_eq, nI_add, nI_sub, nI_mul, nI_div, nI_rem, nI_m1, nI_eqm, nI_gem, nI_ltm, nI_mlt, nI_lem, Option.bind_some, Option.bind_none, h0, if_pos, if_neg]
theorem m_placeOf {u : gm_M} {k : pK} (h : kM u 29 0 k) (hq : gQ k.2.2.2) (a : Int32) : ok (f_X11_placeOf a u) (fun r => (∃ (i : Nat) (e : pQ), k.2.2.2[i]? = some e ∧ nI e.1 = a ∧ r = nI i) ∨ ((∀ e ∈ k.2.2.2, nI e.1 ≠ a) ∧ r = -nI 1)) := by
  obtain ⟨⟨h0, h1, h2, h3⟩, h4⟩ := h
  simp only [Nat.zero_add] at h0 h1 h2 h3 h4
  have hl := gQ_len hq
  simp only [f_X11_placeOf]
  refine ok_bind (Q := fun o => (∃ (i : Nat) (e : pQ), k.2.2.2[i]? = some e ∧ nI e.1 = a ∧ o = .inl (nI i)) ∨ ((∀ e ∈ k.2.2.2, nI e.1 ≠ a) ∧ o = .inr ()))
    (lp_ok k.2.2.2.length (fun j x => x = nI j ∧ ∀ (i : Nat) (e : pQ), i < j → k.2.2.2[i]? = some e → nI e.1 ≠ a) (by omega) ⟨rfl, fun i e hi => absurd hi (by omega)⟩ ?_ ?_) ?_
  · rintro j x hj ⟨rfl, hi⟩
    obtain ⟨e, he⟩ : ∃ e, k.2.2.2[j]? = some e := ⟨_, List.getElem?_eq_getElem hj⟩
    obtain ⟨a1, -, -⟩ := h4 j e he
    simp (disch := omega) only [b_X11_placeOf_2, gm_let, litI, ib_nI, ix_nI, nI_leI, nI_ltI, nI_eq, nI_add, nI_sub, nI_mul, nI_div, nI_rem, nI_m1, nI_eqm, nI_gem, nI_ltm, nI_mlt, nI_lem, Option.bind_some, Option.bind_none, if_pos, if_neg, h2, a1]
    by_cases q : nI e.1 = a
    · rw [if_pos q]
      exact ok_some (.inl ⟨j, e, he, q, rfl⟩)
    · rw [if_neg q]
      refine ok_some ⟨rfl, fun i f hij hf => ?_⟩
      rcases Nat.lt_or_ge i j with p | p
      · exact hi i f p hf
      · have : i = j := by omega
        subst this
        rw [he] at hf
        cases hf
        exact q
  · rintro x ⟨rfl, hi⟩
    simp (disch := omega) only [b_X11_placeOf_2, gm_let, litI, ib_nI, ix_nI, nI_leI, nI_ltI, nI_eq, nI_add, nI_sub, nI_mul, nI_div, nI_rem, nI_m1, nI_eqm, nI_gem, nI_ltm, nI_mlt, nI_lem, Option.bind_some, Option.bind_none, if_pos, if_neg, h2]
    refine ok_some (.inr ⟨fun e he => ?_, rfl⟩)
    obtain ⟨i, hi1, hi2⟩ := List.mem_iff_getElem.mp he
    exact hi i e hi1 (List.getElem?_eq_some_iff.mpr ⟨hi1, hi2⟩)
  · rintro o (⟨i, e, he, q, rfl⟩ | ⟨q, rfl⟩)
    · exact ok_some (.inl ⟨i, e, he, q, rfl⟩)
    · exact ok_some (.inr ⟨q, rfl⟩)
theorem m_isDead {u : gm_M} {p : Nat} {R : pR} {k : pK} (h : rM u R) (hg : gR1 R) (hk : kM u 29 0 k) (hp : p < rN R) (hy : k.1 < 2 ^ 30) : f_X11_isDead (nI p) u = some (nI (dead R k.1 p).toNat) := by
  obtain ⟨g1, g2, g3, g4, g5⟩ := hg
  obtain ⟨k1, k2, k3⟩ := g5 p hp
  have h7 := h.1.2.2.2
  obtain ⟨-, a2, a3, a4⟩ := h.2.1 p hp
  have a0 : gI u 29 0 = nI k.1 := hk.1.1
  simp (disch := omega) only [f_X11_isDead, gm_let, litI, ib_nI, ix_nI, nI_leI, nI_ltI, nI_eq, nI_add, nI_sub, nI_mul, nI_div, nI_rem, nI_m1, nI_eqm, nI_gem, nI_ltm, nI_mlt, nI_lem, Option.bind_some, Option.bind_none, a2, a3, h7, a0, if_pos]
  by_cases q : rKind R p = 2
  · rw [if_pos q]
    simp [dead, q]
  · rw [if_neg q]
    have q' : (rKind R p != 2) = true := by simpa using q
    by_cases z : k.1 < rBorn R p + rLives R
    · rw [if_pos z]
      simp [dead, q', Nat.not_le.mpr z]
    · rw [if_neg z]
      simp [dead, q', Nat.le_of_not_lt z]
theorem m_isHeard {u : gm_M} {p : Nat} {k : pK} (hk : kM u 29 0 k) (hp : p < 6) (hh : k.2.2.1 < 64) : f_X11_isHeard (nI p) u = nI (k.2.2.1.testBit p).toNat := by
  have a0 : gI u 29 3 = nI k.2.2.1 := by have := hk.1.2.2.2; simpa using this
  simp (disch := omega) only [f_X11_isHeard, litI, a0, nI_sh]
  cases k.2.2.1.testBit p <;> decide
theorem m_canCome {u : gm_M} {p : Nat} {R : pR} {k : pK} (h : rM u R) (hg : gR1 R) (hk : kM u 29 0 k) (hq : gQ k.2.2.2) (hp : p < rN R) (hy : k.1 < 2 ^ 30) (hh : k.2.2.1 < 64) : f_X11_canCome (nI p) u = some (nI (canE R k p).toNat) := by
  have g1 := hg.1
  obtain ⟨k1, k2, k3⟩ := hg.2.2.2.2 p hp
  have a0 : gI u 29 0 = nI k.1 := hk.1.1
  obtain ⟨-, a2, a3, a4⟩ := h.2.1 p hp
  obtain ⟨r, e, c⟩ := m_placeOf hk hq (nI p)
  simp only [f_X11_canCome, e, Option.bind_some, gm_let]
  rcases c with ⟨i, f, hf, q, rfl⟩ | ⟨q, rfl⟩
  · have z := (List.getElem?_eq_some_iff.mp hf).1
    have hl := gQ_len hq
    have z6 := gQ_at hq hf
    have zz : f.1 = p := by rwa [nI_eq (by omega) (by omega)] at q
    simp (disch := omega) only [gm_let, litI, ib_nI, ix_nI, nI_leI, nI_ltI, nI_eq, nI_add, nI_sub, nI_mul, nI_div, nI_rem, nI_m1, nI_eqm, nI_gem, nI_ltm, nI_mlt, nI_lem, Option.bind_some, Option.bind_none, if_pos]
    have : k.2.2.2.all (fun e => e.1 != p) = false := by
      rw [List.all_eq_false]
      exact ⟨f, List.mem_of_getElem? hf, by simp [zz]⟩
    simp [canE, this]
  · rw [if_neg (by decide)]
    have z : k.2.2.2.all (fun e => e.1 != p) = true := by
      rw [List.all_eq_true]
      intro e he
      have := q e he
      simp only [bne_iff_ne, ne_eq]
      exact fun w => this (by rw [w])
    simp (disch := omega) only [m_isHeard hk (show p < 6 by omega) hh, m_isDead h hg hk hp hy, litI, a0, a3, Option.bind_some, nI_ltI, ib_nI, ix_nI, if_pos]
    cases q1 : k.2.2.1.testBit p
    · cases q2 : dead R k.1 p
      · by_cases q3 : k.1 < rBorn R p
        · simp [canE, z, q1, q2, Nat.not_le.mpr q3, q3]
        · simp [canE, z, q1, q2, Nat.le_of_not_lt q3, q3]
      · simp only [Bool.toNat_false, if_true, Bool.toNat_true]
        rw [if_neg (by decide)]
        simp [canE, z, q1, q2]
    · simp only [Bool.toNat_true]
      rw [if_neg (by decide)]
      simp [canE, z, q1]
theorem m_inQueue {u : gm_M} {k : pK} (h : kM u 29 0 k) (hq : gQ k.2.2.2) : f_X11_inQueue u = some (nI (qB k.2.2.2)) := by
  obtain ⟨⟨h0, h1, h2, h3⟩, h4⟩ := h
  simp only [Nat.zero_add] at h0 h1 h2 h3 h4
  have hl := gQ_len hq
  have g : gm_lp (b_X11_inQueue_4 u) gm_FU ((fun j => (nI (qB (k.2.2.2.take j)), nI j)) 0) = some (nI (qB k.2.2.2)) := by
    refine lp_for k.2.2.2.length (fun j => (nI (qB (k.2.2.2.take j)), nI j)) _ (by omega) (fun j hj => ?_) ?_
    · obtain ⟨e, he⟩ : ∃ e, k.2.2.2[j]? = some e := ⟨_, List.getElem?_eq_getElem hj⟩
      obtain ⟨a1, -, -⟩ := h4 j e he
      have ht : k.2.2.2.take (j + 1) = k.2.2.2.take j ++ [e] := by rw [List.take_add_one, he]; rfl
      have hp := gQ_at hq he
      have hb : qB (k.2.2.2.take j) < 64 := qB_lt (fun e he => hq.2 e (List.mem_of_mem_take he))
      have hb2 := lt_two hp
      simp (disch := omega) only [b_X11_inQueue_4, gm_let, litI, ib_nI, ix_nI, nI_leI, nI_ltI, nI_eq, nI_add, nI_sub, nI_mul, nI_div, nI_rem, nI_m1, nI_eqm, nI_gem, nI_ltm, nI_mlt, nI_lem, Option.bind_some, Option.bind_none, if_pos, if_neg, h2, a1, nI_one, nI_or, ht, qB_app]
    · simp (disch := omega) only [b_X11_inQueue_4, gm_let, litI, ib_nI, ix_nI, nI_leI, nI_ltI, nI_eq, nI_add, nI_sub, nI_mul, nI_div, nI_rem, nI_m1, nI_eqm, nI_gem, nI_ltm, nI_mlt, nI_lem, Option.bind_some, Option.bind_none, if_pos, if_neg, h2, List.take_length]
  simp only [f_X11_inQueue]
  have g2 : ((0 : Int32), (0 : Int32)) = (fun j => (nI (qB (k.2.2.2.take j)), nI j)) 0 := by simp [qB]; rfl
  rw [g2, g]
  rfl
theorem m_comes {u : gm_M} {k : pK} {p : Nat} (h : kM u 29 0 k) (hp : p < 6) (hl : k.2.2.2.length < 6) (hn : ∀ e ∈ k.2.2.2, e.1 ≠ p) (hq : gQ k.2.2.2) : ok (f_X11_comes (nI p) u) (fun v => kM v 29 0 (k.1, k.2.1, k.2.2.1, k.2.2.2 ++ [(p, k.1, 0)]) ∧ fr (fun a j => a = 29 ∧ j < 22) u v) := by
  obtain ⟨⟨h0, h1, h2, h3⟩, h4⟩ := h
  simp only [Nat.zero_add] at h0 h1 h2 h3 h4
  simp (disch := omega) only [f_X11_comes, gm_let, litI, ib_nI, ix_nI, nI_leI, nI_ltI, nI_eq, nI_add, nI_sub, nI_mul, nI_div, nI_rem, nI_m1, nI_eqm, nI_gem, nI_ltm, nI_mlt, nI_lem, Option.bind_some, Option.bind_none, gI_eq, gI_ne, gI_sJ, gI_sR, gJ_sI, gJ_sR, gR_sI, gR_sJ, if_pos, if_neg, h2, h0]
  refine ok_some ⟨⟨⟨?_, ?_, ?_, ?_⟩, fun i e he => ?_⟩, ?_⟩
  · simp (disch := omega) only [gI_eq, gI_ne, gI_sJ, gI_sR, gJ_sI, gJ_sR, gR_sI, gR_sJ, h0]
  · simp (disch := omega) only [gI_eq, gI_ne, gI_sJ, gI_sR, gJ_sI, gJ_sR, gR_sI, gR_sJ, h1, Nat.zero_add]
  · simp (disch := omega) only [gI_eq, gI_ne, gI_sJ, gI_sR, gJ_sI, gJ_sR, gR_sI, gR_sJ, List.length_append, List.length_singleton]
  · simp (disch := omega) only [gI_eq, gI_ne, gI_sJ, gI_sR, gJ_sI, gJ_sR, gR_sI, gR_sJ, h3, Nat.zero_add]
  · simp only [Nat.zero_add]
    rcases Nat.lt_or_ge i k.2.2.2.length with q | q
    · simp only [List.getElem?_append_left q] at he
      obtain ⟨a1, a2, a3⟩ := h4 i e he
      have a4 := hn e (List.mem_of_getElem? he)
      have a5 := gQ_at hq he
      simp (disch := omega) only [gI_eq, gI_ne, gI_sJ, gI_sR, gJ_sI, gJ_sR, gR_sI, gR_sJ, a1, a2, a3, and_self]
    · simp only [List.getElem?_append_right q] at he
      obtain ⟨z, hz⟩ := List.getElem?_eq_some_iff.mp he
      simp only [List.length_singleton] at z
      have z0 : i = k.2.2.2.length := by omega
      subst z0
      simp only [Nat.sub_self, List.getElem_cons_zero] at hz
      subst hz
      simp (disch := omega) only [gI_eq, gI_ne, gI_sJ, gI_sR, gJ_sI, gJ_sR, gR_sI, gR_sJ, true_and, and_true, and_self]
  · exact fr_sI (fr_sI (fr_sI (fr_sI (fr_refl _ u) ⟨by omega, by omega⟩) ⟨by omega, by omega⟩) ⟨by omega, by omega⟩) ⟨by omega, by omega⟩
/-- one who is in the queue once, taken out -/
theorem flt_erase {q : List pQ} (hq : gQ q) {i p : Nat} {e : pQ} (he : q[i]? = some e) (hp : e.1 = p) : q.filter (fun f => f.1 != p) = q.take i ++ q.drop (i + 1) := by
  obtain ⟨z1, z2⟩ := List.getElem?_eq_some_iff.mp he
  have hs : q = q.take i ++ e :: q.drop (i + 1) := by
    have := List.take_append_drop i q
    rw [List.drop_eq_getElem_cons z1, z2] at this
    exact this.symm
  have t1 : (q.take i).filter (fun f => f.1 != p) = q.take i := by
    rw [List.filter_eq_self]
    intro f hf
    obtain ⟨j, hj⟩ := List.mem_iff_getElem?.mp hf
    rw [List.getElem?_take] at hj
    by_cases w : j < i
    · rw [if_pos w] at hj
      simp only [bne_iff_ne, ne_eq]
      intro x
      have := gQ_inj hq hj he (x.trans hp.symm)
      omega
    · rw [if_neg w] at hj
      cases hj
  have t2 : (q.drop (i + 1)).filter (fun f => f.1 != p) = q.drop (i + 1) := by
    rw [List.filter_eq_self]
    intro f hf
    obtain ⟨j, hj⟩ := List.mem_iff_getElem?.mp hf
    rw [List.getElem?_drop] at hj
    simp only [bne_iff_ne, ne_eq]
    intro x
    have := gQ_inj hq hj he (x.trans hp.symm)
    omega
  have t3 : [e].filter (fun f => f.1 != p) = [] := by simp [hp]
  calc q.filter (fun f => f.1 != p) = (q.take i ++ ([e] ++ q.drop (i + 1))).filter (fun f => f.1 != p) := by rw [List.singleton_append, ← hs]
    _ = _ := by rw [List.filter_append, List.filter_append, t1, t2, t3, List.nil_append]
theorem m_leaves {u : gm_M} {k : pK} {p : Nat} (h : kM u 29 0 k) (hq : gQ k.2.2.2) {i : Nat} {e : pQ} (he : k.2.2.2[i]? = some e) (hp : e.1 = p) : ok (f_X11_leaves (nI p) u) (fun v => kM v 29 0 (k.1, k.2.1, k.2.2.1, k.2.2.2.filter (fun e => e.1 != p)) ∧ fr (fun a j => a = 29 ∧ 2 ≤ j ∧ j < 10) u v) := by
  have hl := gQ_len hq
  have hi := (List.getElem?_eq_some_iff.mp he).1
  have hp6 := gQ_at hq he
  simp only [f_X11_leaves]
  refine ok_bind (m_placeOf h hq (nI p)) ?_
  obtain ⟨⟨h0, h1, h2, h3⟩, h4⟩ := h
  simp only [Nat.zero_add] at h0 h1 h2 h3 h4
  rintro r (⟨i', e', he', q, rfl⟩ | ⟨q, -⟩)
  · have z6 := gQ_at hq he'
    have zz : e'.1 = e.1 := by rw [nI_eq (by omega) (by omega)] at q; omega
    have ii := gQ_inj hq he' he zz
    subst ii
    refine ok_bind (Q := fun v => fr (fun a j => a = 29 ∧ 4 ≤ j ∧ j < 10) u v ∧ (∀ j f, j < i' → k.2.2.2[j]? = some f → gI v 29 (4 + j) = nI f.1) ∧ ∀ j f, i' < j → k.2.2.2[j]? = some f → gI v 29 (4 + (j - 1)) = nI f.1)
      (lp_ok (k.2.2.2.length - 1 - i') (fun m x => x.1 = nI (i' + m) ∧ fr (fun a j => a = 29 ∧ 4 ≤ j ∧ j < 10) u x.2 ∧ (∀ j f, j < i' → k.2.2.2[j]? = some f → gI x.2 29 (4 + j) = nI f.1) ∧ (∀ j f, i' < j → j ≤ i' + m → k.2.2.2[j]? = some f → gI x.2 29 (4 + (j - 1)) = nI f.1) ∧ ∀ j f, i' + m < j → k.2.2.2[j]? = some f → gI x.2 29 (4 + j) = nI f.1) (by omega) ?_ ?_ ?_) ?_
    · exact ⟨rfl, fr_refl _ _, fun j f _ hf => (h4 j f hf).1, fun j f a b => absurd b (by omega), fun j f _ hf => (h4 j f hf).1⟩
    · rintro m ⟨x, v⟩ hm ⟨hx, hf, hlo, hmi, hup⟩
      simp only at hx hf hlo hmi hup
      subst hx
      obtain ⟨g, hg⟩ : ∃ g, k.2.2.2[i' + m + 1]? = some g := ⟨_, List.getElem?_eq_getElem (by omega)⟩
      have e1 : gI v 29 2 = nI k.2.2.2.length := (fr_I hf (by omega)).trans h2
      have e2 := hup (i' + m + 1) g (by omega) hg
      have e3 : 4 + (i' + m) + 1 = 4 + (i' + m + 1) := by omega
      simp (disch := omega) only [b_X11_leaves_6, gm_let, litI, ib_nI, ix_nI, nI_leI, nI_ltI, nI_eq, nI_add, nI_sub, nI_mul, nI_div, nI_rem, nI_m1, nI_eqm, nI_gem, nI_ltm, nI_mlt, nI_lem, Option.bind_some, Option.bind_none, if_pos, if_neg, e1, e3, e2]
      refine ok_some ⟨rfl, fr_sI hf ⟨rfl, by omega, by omega⟩, fun j f hj hjf => ?_, fun j f hj1 hj2 hjf => ?_, fun j f hj hjf => ?_⟩
      · rw [gI_ne (by omega)]
        exact hlo j f hj hjf
      · by_cases w : j = i' + m + 1
        · subst w
          rw [hg] at hjf
          cases hjf
          exact gI_eq rfl (by omega)
        · rw [gI_ne (by omega)]
          exact hmi j f hj1 (by omega) hjf
      · rw [gI_ne (by omega)]
        exact hup j f (by omega) hjf
    · rintro ⟨x, v⟩ ⟨hx, hf, hlo, hmi, hup⟩
      simp only at hx hf hlo hmi hup
      subst hx
      have e1 : gI v 29 2 = nI k.2.2.2.length := (fr_I hf (by omega)).trans h2
      simp (disch := omega) only [b_X11_leaves_6, gm_let, litI, ib_nI, ix_nI, nI_leI, nI_ltI, nI_eq, nI_add, nI_sub, nI_mul, nI_div, nI_rem, nI_m1, nI_eqm, nI_gem, nI_ltm, nI_mlt, nI_lem, Option.bind_some, Option.bind_none, if_pos, e1]
      refine ok_some ⟨hf, hlo, fun j f hj hjf => ?_⟩
      have := (List.getElem?_eq_some_iff.mp hjf).1
      exact hmi j f hj (by omega) hjf
    · rintro v ⟨hf, hlo, hmi⟩
      have e1 : gI v 29 2 = nI k.2.2.2.length := (fr_I hf (by omega)).trans h2
      have fl := flt_erase hq he hp
      simp (disch := omega) only [gm_let, litI, e1, nI_sub]
      refine ok_some ⟨⟨⟨?_, ?_, ?_, ?_⟩, fun j f hjf => ?_⟩, fr_sI (fr_mono hf (fun a j z => ⟨z.1, by omega, by omega⟩)) ⟨rfl, by omega, by omega⟩⟩
      · rw [gI_ne (by omega)]; exact (fr_I hf (by omega)).trans h0
      · rw [gI_ne (by omega)]; exact (fr_I hf (by omega)).trans h1
      · rw [gI_eq rfl rfl]
        simp only [fl, List.length_append, List.length_take, List.length_drop]
        congr 1
        omega
      · rw [gI_ne (by omega)]; exact (fr_I hf (by omega)).trans h3
      · simp only [fl] at hjf
        simp only [Nat.zero_add]
        rw [gI_ne (by omega), gI_ne (by omega), gI_ne (by omega)]
        have two : ∀ jj, k.2.2.2[jj]? = some f → gI v 29 (10 + f.1) = nI f.2.1 ∧ gI v 29 (16 + f.1) = nI f.2.2 := fun jj hjj => by
          obtain ⟨-, a2, a3⟩ := h4 jj f hjj
          exact ⟨(fr_I hf (by omega)).trans a2, (fr_I hf (by omega)).trans a3⟩
        rcases Nat.lt_or_ge j i' with w | w
        · rw [List.getElem?_append_left (by rw [List.length_take]; omega), List.getElem?_take_of_lt w] at hjf
          exact ⟨hlo j f w hjf, two j hjf⟩
        · rw [List.getElem?_append_right (by rw [List.length_take]; omega), List.length_take, Nat.min_eq_left (by omega), List.getElem?_drop] at hjf
          have w2 : i' + 1 + (j - i') = j + 1 := by omega
          rw [w2] at hjf
          refine ⟨?_, two _ hjf⟩
          have := hmi (j + 1) f (by omega) hjf
          rw [Nat.add_sub_cancel] at this
          exact this
  · exact absurd (by rw [hp]) (q e (List.mem_of_getElem? he))
