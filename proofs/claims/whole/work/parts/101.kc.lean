/-! total correctness of shallow programs -/
def ok {α : Type} (x : Option α) (P : α → Prop) : Prop := ∃ a, x = some a ∧ P a
theorem ok_some {α : Type} {a : α} {P : α → Prop} (h : P a) : ok (some a) P := ⟨a, rfl, h⟩
theorem ok_bind {α β : Type} {x : Option α} {k : α → Option β} {Q : α → Prop} {P : β → Prop} (h : ok x Q) (g : ∀ a, Q a → ok (k a) P) : ok (x.bind k) P := by
  obtain ⟨a, e, q⟩ := h
  obtain ⟨b, e2, p⟩ := g a q
  exact ⟨b, by rw [e, Option.bind_some, e2], p⟩
theorem ok_mono {α : Type} {x : Option α} {P Q : α → Prop} (h : ok x P) (g : ∀ a, P a → Q a) : ok x Q := by
  obtain ⟨a, e, p⟩ := h
  exact ⟨a, e, g a p⟩
def stp {σ ρ : Type} (J : σ → Prop) (Q : ρ → Prop) : σ ⊕ ρ → Prop
  | .inl y => J y
  | .inr r => Q r
/-- a loop of at most N rounds: I its invariant -/
theorem lp_ok {σ ρ : Type} {b : σ → Option (σ ⊕ ρ)} {Q : ρ → Prop} (N : Nat) (I : Nat → σ → Prop) {x : σ} (hN : N < 100000) (h0 : I 0 x)
    (hs : ∀ k x, k < N → I k x → ok (b x) (stp (I (k + 1)) Q)) (he : ∀ x, I N x → ok (b x) (stp (fun _ => False) Q)) : ok (gm_lp b gm_FU x) Q := by
  refine lp_inv N I Q x hN h0 (fun k x hk hI => ?_) (fun x hI => ?_)
  · obtain ⟨o, e, p⟩ := hs k x hk hI
    cases o with
    | inl y => exact .inl ⟨y, e, p⟩
    | inr r => exact .inr ⟨r, e, p⟩
  · obtain ⟨o, e, p⟩ := he x hI
    cases o with
    | inl y => exact p.elim
    | inr r => exact ⟨r, e, p⟩
/-! a court: year, lamps, heard, the queue (person, year in which he came, days since) -/
abbrev pQ : Type := Nat × Nat × Nat
abbrev pK : Type := Nat × Nat × Nat × List pQ
def gQ (q : List pQ) : Prop := (q.map (fun e => e.1)).Nodup ∧ ∀ e ∈ q, e.1 < 6
theorem gQ_len {q : List pQ} (h : gQ q) : q.length ≤ 6 := by
  have h1 := nd_len 6 (q.map (fun e => e.1)) h.1 (fun x hx => by
    obtain ⟨e, he, rfl⟩ := List.mem_map.mp hx
    exact h.2 e he)
  simpa using h1
theorem gQ_at {q : List pQ} (h : gQ q) {i : Nat} {e : pQ} (hi : q[i]? = some e) : e.1 < 6 := h.2 e (List.mem_of_getElem? hi)
theorem gQ_inj {q : List pQ} (h : gQ q) {i j : Nat} {e f : pQ} (hi : q[i]? = some e) (hj : q[j]? = some f) (he : e.1 = f.1) : i = j := by
  obtain ⟨hi1, hi2⟩ := List.getElem?_eq_some_iff.mp hi
  obtain ⟨hj1, hj2⟩ := List.getElem?_eq_some_iff.mp hj
  have h1 := h.1
  rcases Nat.lt_trichotomy i j with q1 | q1 | q1
  · exact absurd (by rw [List.getElem_map, List.getElem_map, hi2, hj2]; exact he) (List.pairwise_iff_getElem.mp h1 i j (by simpa using hi1) (by simpa using hj1) q1)
  · exact q1
  · exact absurd (by rw [List.getElem_map, List.getElem_map, hi2, hj2]; exact he.symm) (List.pairwise_iff_getElem.mp h1 j i (by simpa using hj1) (by simpa using hi1) q1)
theorem gQ_filter {q : List pQ} (h : gQ q) (f : pQ → Bool) : gQ (q.filter f) := ⟨h.1.sublist (List.Sublist.map _ List.filter_sublist), fun e he => h.2 e (List.mem_filter.mp he).1⟩
def kC (u : gm_M) (c : Nat) (k : pK) : Prop := (gI u c 0 = nI k.1 ∧ gI u c 1 = nI k.2.1 ∧ gI u c 2 = nI k.2.2.1 ∧ gI u c 3 = nI k.2.2.2.length) ∧
  ∀ i e, k.2.2.2[i]? = some e → gI u (c + 1) i = nI e.1 ∧ gI u (c + 2) e.1 = nI e.2.1 ∧ gI u (c + 3) e.1 = nI e.2.2
/-- a court's cells -/
def crt (c : Nat) : Nat → Nat → Prop := fun a _ => c ≤ a ∧ a ≤ c + 3
theorem crt_no {c a k : Nat} (h : a < c ∨ c + 3 < a) : ¬ crt c a k := fun q => by
  have h1 := q.1
  have h2 := q.2
  omega
theorem fr_crt {c : Nat} {u v : gm_M} (h : fr (crt c) u v) {a k : Nat} (q : a < c ∨ c + 3 < a) : gI v a k = gI u a k := fr_I h (crt_no q)
theorem kC_fr {P : Nat → Nat → Prop} {u v : gm_M} {c : Nat} {k : pK} (h : kC u c k) (f : fr P u v) (hp : ∀ a j, c ≤ a → a ≤ c + 3 → ¬ P a j) : kC v c k := by
  obtain ⟨⟨h0, h1, h2, h3⟩, h4⟩ := h
  refine ⟨⟨(fr_I f (hp c 0 (by omega) (by omega))).trans h0, (fr_I f (hp c 1 (by omega) (by omega))).trans h1, (fr_I f (hp c 2 (by omega) (by omega))).trans h2, (fr_I f (hp c 3 (by omega) (by omega))).trans h3⟩, fun i e hi => ?_⟩
  obtain ⟨a1, a2, a3⟩ := h4 i e hi
  exact ⟨(fr_I f (hp _ _ (by omega) (by omega))).trans a1, (fr_I f (hp _ _ (by omega) (by omega))).trans a2, (fr_I f (hp _ _ (by omega) (by omega))).trans a3⟩
/-! the class's court -/
theorem c_begin {u : gm_M} {c r y : Nat} (h : gI u r 5 = nI y) (hr : r < c ∨ c < r) : ok (f_X1_begin c r u) (fun v => kC v c (y, 0, 0, []) ∧ fr (crt c) u v) := by
  simp only [f_X1_begin, gm_let]
  refine ok_some ⟨⟨⟨?_, ?_, ?_, ?_⟩, fun i e hi => by simp at hi⟩, ?_⟩
  · simp (disch := omega) only [gI_eq, gI_ne, gI_sJ, gI_sR, gJ_sI, gJ_sR, gR_sI, gR_sJ, h]
  · simp (disch := omega) only [gI_eq, gI_ne, gI_sJ, gI_sR, gJ_sI, gJ_sR, gR_sI, gR_sJ]; rfl
  · simp (disch := omega) only [gI_eq, gI_ne, gI_sJ, gI_sR, gJ_sI, gJ_sR, gR_sI, gR_sJ]; rfl
  · simp (disch := omega) only [gI_eq, gI_ne, gI_sJ, gI_sR, gJ_sI, gJ_sR, gR_sI, gR_sJ]; rfl
  · exact fr_sI (fr_sI (fr_sI (fr_sI (fr_refl _ u) ⟨by omega, by omega⟩) ⟨by omega, by omega⟩) ⟨by omega, by omega⟩) ⟨by omega, by omega⟩
theorem c_copy {u : gm_M} {c d : Nat} {k : pK} (h : kC u d k) (hq : gQ k.2.2.2) (hcd : c + 3 < d ∨ d + 3 < c) : ok (f_X1_copyFrom c d u) (fun v => kC v c k ∧ fr (crt c) u v) := by
  obtain ⟨⟨h0, h1, h2, h3⟩, h4⟩ := h
  have hl := gQ_len hq
  simp only [f_X1_copyFrom, gm_let]
  refine ok_bind (Q := fun v => fr (crt c) u v ∧ (gI v c 0 = gI u d 0 ∧ gI v c 1 = gI u d 1 ∧ gI v c 2 = gI u d 2 ∧ gI v c 3 = gI u d 3) ∧ ∀ i, i < 6 → gI v (c + 1) i = gI u (d + 1) i ∧ gI v (c + 2) i = gI u (d + 2) i ∧ gI v (c + 3) i = gI u (d + 3) i)
    (lp_ok 6 (fun k x => x.1 = nI k ∧ fr (crt c) u x.2 ∧ (gI x.2 c 0 = gI u d 0 ∧ gI x.2 c 1 = gI u d 1 ∧ gI x.2 c 2 = gI u d 2 ∧ gI x.2 c 3 = gI u d 3) ∧ ∀ i, i < k → gI x.2 (c + 1) i = gI u (d + 1) i ∧ gI x.2 (c + 2) i = gI u (d + 2) i ∧ gI x.2 (c + 3) i = gI u (d + 3) i) (by omega) ?_ ?_ ?_) ?_
  · refine ⟨rfl, fr_sI (fr_sI (fr_sI (fr_sI (fr_refl _ u) ⟨by omega, by omega⟩) ⟨by omega, by omega⟩) ⟨by omega, by omega⟩) ⟨by omega, by omega⟩, ⟨?_, ?_, ?_, ?_⟩, fun i hi => absurd hi (by omega)⟩ <;> simp (disch := omega) only [gI_eq, gI_ne, gI_sJ, gI_sR, gJ_sI, gJ_sR, gR_sI, gR_sJ]
  · rintro j ⟨x, v⟩ hj ⟨hx, hf, hh, hi⟩
    simp only at hx hf hh hi
    subst hx
    simp (disch := omega) only [b_X1_copyFrom_34, gm_let, litI, ib_nI, ix_nI, nI_leI, nI_ltI, nI_eq, nI_add, nI_sub, nI_mul, nI_div, nI_rem, nI_m1, nI_eqm, nI_gem, nI_ltm, nI_mlt, nI_lem, Option.bind_some, Option.bind_none, gI_eq, gI_ne, gI_sJ, gI_sR, gJ_sI, gJ_sR, gR_sI, gR_sJ, if_pos, if_neg]
    refine ok_some ⟨rfl, fr_sI (fr_sI (fr_sI hf ⟨by omega, by omega⟩) ⟨by omega, by omega⟩) ⟨by omega, by omega⟩, ⟨?_, ?_, ?_, ?_⟩, fun i hij => ?_⟩
    · simp (disch := omega) only [gI_eq, gI_ne, gI_sJ, gI_sR, gJ_sI, gJ_sR, gR_sI, gR_sJ]; exact hh.1
    · simp (disch := omega) only [gI_eq, gI_ne, gI_sJ, gI_sR, gJ_sI, gJ_sR, gR_sI, gR_sJ]; exact hh.2.1
    · simp (disch := omega) only [gI_eq, gI_ne, gI_sJ, gI_sR, gJ_sI, gJ_sR, gR_sI, gR_sJ]; exact hh.2.2.1
    · simp (disch := omega) only [gI_eq, gI_ne, gI_sJ, gI_sR, gJ_sI, gJ_sR, gR_sI, gR_sJ]; exact hh.2.2.2
    · rcases Nat.lt_or_ge i j with q | q
      · simp (disch := omega) only [gI_eq, gI_ne, gI_sJ, gI_sR, gJ_sI, gJ_sR, gR_sI, gR_sJ]; exact hi i q
      · have : i = j := by omega
        subst this
        simp (disch := omega) only [gI_eq, gI_ne, gI_sJ, gI_sR, gJ_sI, gJ_sR, gR_sI, gR_sJ]
        exact ⟨fr_crt hf (by omega), fr_crt hf (by omega), fr_crt hf (by omega)⟩
  · rintro ⟨x, v⟩ ⟨hx, hf, hh, hi⟩
    simp only at hx hf hh hi
    subst hx
    simp (disch := omega) only [b_X1_copyFrom_34, gm_let, litI, ib_nI, ix_nI, nI_leI, nI_ltI, nI_eq, nI_add, nI_sub, nI_mul, nI_div, nI_rem, nI_m1, nI_eqm, nI_gem, nI_ltm, nI_mlt, nI_lem, Option.bind_some, Option.bind_none, gI_eq, gI_ne, gI_sJ, gI_sR, gJ_sI, gJ_sR, gR_sI, gR_sJ, if_pos, if_neg]
    exact ok_some ⟨hf, hh, hi⟩
  · rintro v ⟨hf, hh, hi⟩
    refine ok_some ⟨⟨⟨hh.1.trans h0, hh.2.1.trans h1, hh.2.2.1.trans h2, hh.2.2.2.trans h3⟩, fun i e he => ?_⟩, hf⟩
    obtain ⟨a1, a2, a3⟩ := h4 i e he
    have b1 : i < 6 := by
      have := (List.getElem?_eq_some_iff.mp he).1
      omega
    have b2 := gQ_at hq he
    exact ⟨(hi i b1).1.trans a1, (hi _ b2).2.1.trans a2, (hi _ b2).2.2.trans a3⟩
theorem c_placeOf {u : gm_M} {c : Nat} {k : pK} (h : kC u c k) (hq : gQ k.2.2.2) (a : Int32) : ok (f_X1_placeOf c a u) (fun r => (∃ (i : Nat) (e : pQ), k.2.2.2[i]? = some e ∧ nI e.1 = a ∧ r = nI i) ∨ ((∀ e ∈ k.2.2.2, nI e.1 ≠ a) ∧ r = -nI 1)) := by
  obtain ⟨⟨h0, h1, h2, h3⟩, h4⟩ := h
  have hl := gQ_len hq
  simp only [f_X1_placeOf]
  refine ok_bind (Q := fun o => (∃ i e, k.2.2.2[i]? = some e ∧ nI e.1 = a ∧ o = .inl (nI i)) ∨ ((∀ e ∈ k.2.2.2, nI e.1 ≠ a) ∧ o = .inr ()))
    (lp_ok k.2.2.2.length (fun j x => x = nI j ∧ ∀ i e, i < j → k.2.2.2[i]? = some e → nI e.1 ≠ a) (by omega) ⟨rfl, fun i e hi => absurd hi (by omega)⟩ ?_ ?_) ?_
  · rintro j x hj ⟨rfl, hi⟩
    obtain ⟨e, he⟩ : ∃ e, k.2.2.2[j]? = some e := ⟨_, List.getElem?_eq_getElem hj⟩
    obtain ⟨a1, -, -⟩ := h4 j e he
    simp (disch := omega) only [b_X1_placeOf_2, gm_let, litI, ib_nI, ix_nI, nI_leI, nI_ltI, nI_eq, nI_add, nI_sub, nI_mul, nI_div, nI_rem, nI_m1, nI_eqm, nI_gem, nI_ltm, nI_mlt, nI_lem, Option.bind_some, Option.bind_none, if_pos, if_neg, h3, a1]
    by_cases q : nI e.1 = a
    · rw [if_pos q]
      exact ok_some (.inl ⟨j, e, he, q, rfl⟩)
    · rw [if_neg q]
      refine ok_some ⟨rfl, fun i f hij hf => ?_⟩
      rcases Nat.lt_or_ge i j with p | p
      · exact hi i f p hf
      · have : i = j := by omega
        subst this
        rw [he] at hf
        cases hf
        exact q
  · rintro x ⟨rfl, hi⟩
    simp (disch := omega) only [b_X1_placeOf_2, gm_let, litI, ib_nI, ix_nI, nI_leI, nI_ltI, nI_eq, nI_add, nI_sub, nI_mul, nI_div, nI_rem, nI_m1, nI_eqm, nI_gem, nI_ltm, nI_mlt, nI_lem, Option.bind_some, Option.bind_none, if_pos, if_neg, h3]
    refine ok_some (.inr ⟨fun e he => ?_, rfl⟩)
    obtain ⟨i, hi1, hi2⟩ := List.mem_iff_getElem.mp he
    exact hi i e hi1 (List.getElem?_eq_some_iff.mpr ⟨hi1, hi2⟩)
  · rintro o (⟨i, e, he, q, rfl⟩ | ⟨q, rfl⟩)
    · exact ok_some (.inl ⟨i, e, he, q, rfl⟩)
    · exact ok_some (.inr ⟨q, rfl⟩)
