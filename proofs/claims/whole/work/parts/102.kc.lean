/-! more of the class's court -/
theorem lt_two {p : Nat} (h : p < 6) : 2 ^ p < 64 := by
  have : 2 ^ p < 2 ^ 6 := Nat.pow_lt_pow_right (by omega) h
  omega
def qB (q : List pQ) : Nat := q.foldl (fun b e => b ||| 2 ^ e.1) 0
theorem qB_app (q : List pQ) (e : pQ) : qB (q ++ [e]) = qB q ||| 2 ^ e.1 := by simp [qB, List.foldl_append]
theorem or_lt {a b : Nat} (ha : a < 64) (hb : b < 64) : a ||| b < 64 := Nat.or_lt_two_pow (n := 6) ha hb
theorem qB_lt {q : List pQ} (h : ∀ e ∈ q, e.1 < 6) : qB q < 64 := by
  have g : ∀ (l : List pQ) (b : Nat), b < 64 → (∀ e ∈ l, e.1 < 6) → l.foldl (fun b e => b ||| 2 ^ e.1) b < 64 := by
    intro l
    induction l with
    | nil => intro b hb _; exact hb
    | cons e l ih => intro b hb hl; exact ih _ (or_lt hb (lt_two (hl e List.mem_cons_self))) (fun f hf => hl f (List.mem_cons_of_mem _ hf))
  exact g q 0 (by omega) h
theorem qB_test (q : List pQ) (i : Nat) : (qB q).testBit i = decide (∃ e ∈ q, e.1 = i) := by
  have g : ∀ (l : List pQ) (b : Nat), (l.foldl (fun b e => b ||| 2 ^ e.1) b).testBit i = (b.testBit i || decide (∃ e ∈ l, e.1 = i)) := by
    intro l
    induction l with
    | nil => intro b; simp
    | cons e l ih =>
      intro b
      rw [List.foldl_cons, ih, Nat.testBit_or, Nat.testBit_two_pow]
      by_cases h1 : e.1 = i
      · simp [h1]
      · by_cases h2 : ∃ f ∈ l, f.1 = i
        · simp [h1, h2]
        · simp [h1, h2]
  have := g q 0
  simpa [qB] using this
theorem c_takeOut {u : gm_M} {c : Nat} {k : pK} (h : kC u c k) (hq : gQ k.2.2.2) (a : Int32) (f : pQ → Bool) (hf : ∀ e ∈ k.2.2.2, ((a >>> (nI e.1 &&& nI 31)) &&& nI 1 = nI 0 ↔ f e = true)) : ok (f_X1_takeOut c a u) (fun v => kC v c (k.1, k.2.1, k.2.2.1, k.2.2.2.filter f) ∧ fr (crt c) u v) := by
  obtain ⟨⟨h0, h1, h2, h3⟩, h4⟩ := h
  have hl := gQ_len hq
  simp only [f_X1_takeOut]
  refine ok_bind (Q := fun o => fr (fun a _ => a = c + 1) u o.2 ∧ o.1 = nI (k.2.2.2.filter f).length ∧ ∀ i e, (k.2.2.2.filter f)[i]? = some e → gI o.2 (c + 1) i = nI e.1)
    (lp_ok k.2.2.2.length (fun j x => x.1 = nI ((k.2.2.2.take j).filter f).length ∧ x.2.1 = nI j ∧ fr (fun a _ => a = c + 1) u x.2.2 ∧ (∀ i e, ((k.2.2.2.take j).filter f)[i]? = some e → gI x.2.2 (c + 1) i = nI e.1) ∧ ∀ i e, j ≤ i → k.2.2.2[i]? = some e → gI x.2.2 (c + 1) i = nI e.1) (by omega) ?_ ?_ ?_) ?_
  · exact ⟨by simp; rfl, rfl, fr_refl _ _, fun i e hi => by simp at hi, fun i e _ hi => (h4 i e hi).1⟩
  · rintro j ⟨x, y, v⟩ hj ⟨hx, hy, hfr, hi, hr⟩
    simp only at hx hy hfr hi hr
    subst hx hy
    obtain ⟨e, he⟩ : ∃ e, k.2.2.2[j]? = some e := ⟨_, List.getElem?_eq_getElem hj⟩
    have hm : ((k.2.2.2.take j).filter f).length ≤ j := by
      have q1 := List.length_filter_le f (k.2.2.2.take j)
      rw [List.length_take] at q1
      omega
    have e1 : gI v c 3 = nI k.2.2.2.length := (fr_I hfr (by omega)).trans h3
    have e2 : gI v (c + 1) j = nI e.1 := hr j e (Nat.le_refl _) he
    have hfe := hf e (List.mem_of_getElem? he)
    have ht : k.2.2.2.take (j + 1) = k.2.2.2.take j ++ [e] := by rw [List.take_add_one, he]; rfl
    simp (disch := omega) only [b_X1_takeOut_4, gm_let, litI, ib_nI, ix_nI, nI_leI, nI_ltI, nI_eq, nI_add, nI_sub, nI_mul, nI_div, nI_rem, nI_m1, nI_eqm, nI_gem, nI_ltm, nI_mlt, nI_lem, Option.bind_some, Option.bind_none, gI_eq, gI_ne, gI_sJ, gI_sR, gJ_sI, gJ_sR, gR_sI, gR_sJ, if_pos, if_neg, e1, e2]
    by_cases hc : f e = true
    · rw [if_pos (hfe.mpr hc)]
      have hft : (k.2.2.2.take (j + 1)).filter f = (k.2.2.2.take j).filter f ++ [e] := by rw [ht, List.filter_append]; simp [hc]
      refine ok_some ⟨?_, rfl, fr_sI hfr rfl, ?_, ?_⟩
      · simp only [hft, List.length_append, List.length_singleton]
      · intro i f' hi'
        simp only [hft] at hi'
        rcases Nat.lt_or_ge i ((k.2.2.2.take j).filter f).length with p | p
        · rw [List.getElem?_append_left p] at hi'
          rw [gI_ne (by omega)]
          exact hi i f' hi'
        · rw [List.getElem?_append_right p] at hi'
          rcases Nat.eq_or_lt_of_le p with p1 | p1
          · rw [← p1, Nat.sub_self] at hi'
            cases hi'
            rw [gI_eq rfl p1.symm]
          · obtain ⟨z, -⟩ := List.getElem?_eq_some_iff.mp hi'
            simp only [List.length_singleton] at z
            omega
      · intro i f' hij hi'
        rw [gI_ne (by omega)]
        exact hr i f' (by omega) hi'
    · rw [if_neg (fun q => hc (hfe.mp q))]
      have hft : (k.2.2.2.take (j + 1)).filter f = (k.2.2.2.take j).filter f := by rw [ht, List.filter_append]; simp [hc]
      refine ok_some ⟨?_, rfl, hfr, ?_, ?_⟩
      · simp only [hft]
      · simp only [hft]; exact hi
      · intro i f' hij hi'
        exact hr i f' (by omega) hi'
  · rintro ⟨x, y, v⟩ ⟨hx, hy, hfr, hi, hr⟩
    simp only at hx hy hfr hi hr
    subst hx hy
    have e1 : gI v c 3 = nI k.2.2.2.length := (fr_I hfr (by omega)).trans h3
    rw [List.take_length] at hi
    simp (disch := omega) only [b_X1_takeOut_4, gm_let, litI, ib_nI, ix_nI, nI_leI, nI_ltI, nI_eq, nI_add, nI_sub, nI_mul, nI_div, nI_rem, nI_m1, nI_eqm, nI_gem, nI_ltm, nI_mlt, nI_lem, Option.bind_some, Option.bind_none, gI_eq, gI_ne, gI_sJ, gI_sR, gJ_sI, gJ_sR, gR_sI, gR_sJ, if_pos, if_neg, e1]
    exact ok_some ⟨hfr, by rw [List.take_length], hi⟩
  · rintro ⟨x, v⟩ ⟨hfr, hx, hi⟩
    simp only at hx hfr hi
    subst hx
    simp only [j_X1_takeOut_55, gm_let]
    refine ok_some ⟨⟨⟨?_, ?_, ?_, ?_⟩, fun i e he => ?_⟩, fr_sI (fr_mono hfr (fun a _ q => ⟨by omega, by omega⟩)) ⟨by omega, by omega⟩⟩
    · rw [gI_ne (by omega)]; exact (fr_I hfr (by omega)).trans h0
    · rw [gI_ne (by omega)]; exact (fr_I hfr (by omega)).trans h1
    · rw [gI_ne (by omega)]; exact (fr_I hfr (by omega)).trans h2
    · exact gI_eq rfl rfl
    · obtain ⟨i', hi'⟩ := List.mem_iff_getElem?.mp (List.mem_filter.mp (List.mem_of_getElem? he)).1
      obtain ⟨-, a2, a3⟩ := h4 i' e hi'
      rw [gI_ne (by omega), gI_ne (by omega), gI_ne (by omega)]
      exact ⟨hi i e he, (fr_I hfr (by omega)).trans a2, (fr_I hfr (by omega)).trans a3⟩
theorem bt_oth : ∀ p q : Fin 6, ((nI 1 <<< (nI p.1 &&& nI 31)) >>> (nI q.1 &&& nI 31)) &&& nI 1 = nI 0 ↔ (q.1 != p.1) = true := by decide +kernel
theorem c_goOut {u : gm_M} {c : Nat} {k : pK} (h : kC u c k) (hq : gQ k.2.2.2) {p : Nat} (hp : p < 6) : ok (f_X1_goOut c (nI p) u) (fun v => kC v c (k.1, k.2.1, k.2.2.1, k.2.2.2.filter (fun e => e.1 != p)) ∧ fr (crt c) u v) := by
  simp (disch := omega) only [f_X1_goOut, gm_let, litI, ib_nI, ix_nI, nI_leI, nI_ltI, nI_eq, nI_add, nI_sub, nI_mul, nI_div, nI_rem, nI_m1, nI_eqm, nI_gem, nI_ltm, nI_mlt, nI_lem, Option.bind_some, Option.bind_none, if_pos, if_neg]
  refine ok_bind (c_takeOut h hq _ (fun e => e.1 != p) (fun e he => bt_oth ⟨p, hp⟩ ⟨e.1, hq.2 e he⟩)) (fun v hv => ok_some hv)
theorem c_enter {u : gm_M} {c : Nat} {k : pK} (h : kC u c k) (hq : gQ k.2.2.2) {p : Nat} (hp : p < 6) (hl : k.2.2.2.length < 6) (hn : ∀ e ∈ k.2.2.2, e.1 ≠ p) : ok (f_X1_enter c (nI p) u) (fun v => kC v c (k.1, k.2.1, k.2.2.1, k.2.2.2 ++ [(p, k.1, 0)]) ∧ fr (crt c) u v) := by
  obtain ⟨⟨h0, h1, h2, h3⟩, h4⟩ := h
  simp (disch := omega) only [f_X1_enter, gm_let, litI, ib_nI, ix_nI, nI_leI, nI_ltI, nI_eq, nI_add, nI_sub, nI_mul, nI_div, nI_rem, nI_m1, nI_eqm, nI_gem, nI_ltm, nI_mlt, nI_lem, Option.bind_some, Option.bind_none, gI_eq, gI_ne, gI_sJ, gI_sR, gJ_sI, gJ_sR, gR_sI, gR_sJ, if_pos, if_neg, h3, h0]
  refine ok_some ⟨⟨⟨?_, ?_, ?_, ?_⟩, fun i e he => ?_⟩, ?_⟩
  · simp (disch := omega) only [gI_eq, gI_ne, gI_sJ, gI_sR, gJ_sI, gJ_sR, gR_sI, gR_sJ, h0]
  · simp (disch := omega) only [gI_eq, gI_ne, gI_sJ, gI_sR, gJ_sI, gJ_sR, gR_sI, gR_sJ, h1]
  · simp (disch := omega) only [gI_eq, gI_ne, gI_sJ, gI_sR, gJ_sI, gJ_sR, gR_sI, gR_sJ, h2]
  · simp (disch := omega) only [gI_eq, gI_ne, gI_sJ, gI_sR, gJ_sI, gJ_sR, gR_sI, gR_sJ, List.length_append, List.length_singleton]
  · rcases Nat.lt_or_ge i k.2.2.2.length with q | q
    · simp only [List.getElem?_append_left q] at he
      obtain ⟨a1, a2, a3⟩ := h4 i e he
      have a4 := hn e (List.mem_of_getElem? he)
      simp (disch := omega) only [gI_eq, gI_ne, gI_sJ, gI_sR, gJ_sI, gJ_sR, gR_sI, gR_sJ, a1, a2, a3, and_self]
    · simp only [List.getElem?_append_right q] at he
      obtain ⟨z, hz⟩ := List.getElem?_eq_some_iff.mp he
      simp only [List.length_singleton] at z
      have z0 : i = k.2.2.2.length := by omega
      subst z0
      simp only [Nat.sub_self, List.getElem_cons_zero] at hz
      subst hz
      simp (disch := omega) only [gI_eq, gI_ne, gI_sJ, gI_sR, gJ_sI, gJ_sR, gR_sI, gR_sJ, true_and, and_true]
  · exact fr_sI (fr_sI (fr_sI (fr_sI (fr_refl _ u) ⟨by omega, by omega⟩) ⟨by omega, by omega⟩) ⟨by omega, by omega⟩) ⟨by omega, by omega⟩
theorem c_light {u : gm_M} {c : Nat} {k : pK} (h : kC u c k) (hk : k.2.1 ≤ 60) {m : Nat} (hm : m ≤ 20) : ok (f_X1_light c (nI m) u) (fun v => kC v c (k.1, min 60 (k.2.1 + m), k.2.2.1, k.2.2.2) ∧ fr (crt c) u v) := by
  obtain ⟨⟨h0, h1, h2, h3⟩, h4⟩ := h
  have e : (if nI (k.2.1 + m) < nI 60 then nI (k.2.1 + m) else nI 60) = nI (min 60 (k.2.1 + m)) := by
    rcases Nat.lt_or_ge (k.2.1 + m) 60 with q | q
    · rw [if_pos ((nI_ltI (by omega) (by omega)).mpr q), Nat.min_eq_right (by omega)]
    · rw [if_neg (fun p => by rw [nI_ltI (by omega) (by omega)] at p; omega), Nat.min_eq_left (by omega)]
  simp only [f_X1_light, gm_let, h1, litI, nI_add, e]
  refine ok_some ⟨⟨⟨?_, ?_, ?_, ?_⟩, fun i e he => ?_⟩, fr_sI (fr_refl _ u) ⟨by omega, by omega⟩⟩
  · simp (disch := omega) only [gI_eq, gI_ne, gI_sJ, gI_sR, gJ_sI, gJ_sR, gR_sI, gR_sJ, h0]
  · simp (disch := omega) only [gI_eq, gI_ne, gI_sJ, gI_sR, gJ_sI, gJ_sR, gR_sI, gR_sJ]
  · simp (disch := omega) only [gI_eq, gI_ne, gI_sJ, gI_sR, gJ_sI, gJ_sR, gR_sI, gR_sJ, h2]
  · simp (disch := omega) only [gI_eq, gI_ne, gI_sJ, gI_sR, gJ_sI, gJ_sR, gR_sI, gR_sJ, h3]
  · simp (disch := omega) only [gI_eq, gI_ne, gI_sJ, gI_sR, gJ_sI, gJ_sR, gR_sI, gR_sJ]
    exact h4 i e he
theorem c_queueBits {u : gm_M} {c : Nat} {k : pK} (h : kC u c k) (hq : gQ k.2.2.2) : f_X1_queueBits c u = some (nI (qB k.2.2.2)) := by
  obtain ⟨⟨h0, h1, h2, h3⟩, h4⟩ := h
  have hl := gQ_len hq
  have g : gm_lp (b_X1_queueBits_4 c u) gm_FU ((fun j => (nI (qB (k.2.2.2.take j)), nI j)) 0) = some (nI (qB k.2.2.2)) := by
    refine lp_for k.2.2.2.length (fun j => (nI (qB (k.2.2.2.take j)), nI j)) _ (by omega) (fun j hj => ?_) ?_
    · obtain ⟨e, he⟩ : ∃ e, k.2.2.2[j]? = some e := ⟨_, List.getElem?_eq_getElem hj⟩
      obtain ⟨a1, -, -⟩ := h4 j e he
      have ht : k.2.2.2.take (j + 1) = k.2.2.2.take j ++ [e] := by rw [List.take_add_one, he]; rfl
      have hp := gQ_at hq he
      have hb : qB (k.2.2.2.take j) < 64 := qB_lt (fun e he => hq.2 e (List.mem_of_mem_take he))
      have hb2 := lt_two hp
      simp (disch := omega) only [b_X1_queueBits_4, gm_let, litI, ib_nI, ix_nI, nI_leI, nI_ltI, nI_eq, nI_add, nI_sub, nI_mul, nI_div, nI_rem, nI_m1, nI_eqm, nI_gem, nI_ltm, nI_mlt, nI_lem, Option.bind_some, Option.bind_none, if_pos, if_neg, h3, a1, nI_one, nI_or, ht, qB_app]
    · simp (disch := omega) only [b_X1_queueBits_4, gm_let, litI, ib_nI, ix_nI, nI_leI, nI_ltI, nI_eq, nI_add, nI_sub, nI_mul, nI_div, nI_rem, nI_m1, nI_eqm, nI_gem, nI_ltm, nI_mlt, nI_lem, Option.bind_some, Option.bind_none, if_pos, if_neg, h3, List.take_length]
  simp only [f_X1_queueBits]
  have g2 : ((0 : Int32), (0 : Int32)) = (fun j => (nI (qB (k.2.2.2.take j)), nI j)) 0 := by simp [qB]; rfl
  rw [g2, g]
  rfl
theorem c_countDay {u : gm_M} {c : Nat} {k : pK} (h : kC u c k) (hq : gQ k.2.2.2) : ok (f_X1_countDay c u) (fun v => kC v c (k.1, k.2.1, k.2.2.1, k.2.2.2.map (fun e => (e.1, e.2.1, e.2.2 + 1))) ∧ fr (crt c) u v) := by
  obtain ⟨⟨h0, h1, h2, h3⟩, h4⟩ := h
  have hl := gQ_len hq
  simp only [f_X1_countDay]
  refine ok_bind (Q := fun v => fr (fun a _ => a = c + 3) u v ∧ ∀ (i : Nat) (e : pQ), k.2.2.2[i]? = some e → gI v (c + 3) e.1 = nI (e.2.2 + 1))
    (lp_ok k.2.2.2.length (fun j x => x.1 = nI j ∧ fr (fun a _ => a = c + 3) u x.2 ∧ ∀ (i : Nat) (e : pQ), k.2.2.2[i]? = some e → gI x.2 (c + 3) e.1 = nI (if i < j then e.2.2 + 1 else e.2.2)) (by omega) ?_ ?_ ?_) ?_
  · exact ⟨rfl, fr_refl _ _, fun i e hi => (h4 i e hi).2.2⟩
  · rintro j ⟨x, v⟩ hj ⟨hx, hfr, hi⟩
    simp only at hx hfr hi
    subst hx
    obtain ⟨e, he⟩ : ∃ e, k.2.2.2[j]? = some e := ⟨_, List.getElem?_eq_getElem hj⟩
    have hp := gQ_at hq he
    have e1 : gI v c 3 = nI k.2.2.2.length := (fr_I hfr (by omega)).trans h3
    have e2 : gI v (c + 1) j = nI e.1 := (fr_I hfr (by omega)).trans (h4 j e he).1
    have e3 : gI v (c + 3) e.1 = nI e.2.2 := by rw [hi j e he, if_neg (by omega)]
    simp (disch := omega) only [b_X1_countDay_2, gm_let, litI, ib_nI, ix_nI, nI_leI, nI_ltI, nI_eq, nI_add, nI_sub, nI_mul, nI_div, nI_rem, nI_m1, nI_eqm, nI_gem, nI_ltm, nI_mlt, nI_lem, Option.bind_some, Option.bind_none, gI_eq, gI_ne, gI_sJ, gI_sR, gJ_sI, gJ_sR, gR_sI, gR_sJ, if_pos, if_neg, e1, e2, e3]
    refine ok_some ⟨rfl, fr_sI hfr rfl, fun i f hf => ?_⟩
    by_cases q : i = j
    · subst q
      rw [he] at hf
      cases hf
      rw [gI_eq rfl rfl, if_pos (by omega)]
    · have q2 : f.1 ≠ e.1 := fun z => q (gQ_inj hq hf he z)
      rw [gI_ne (by omega), hi i f hf]
      by_cases q3 : i < j
      · rw [if_pos q3, if_pos (by omega)]
      · rw [if_neg q3, if_neg (by omega)]
  · rintro ⟨x, v⟩ ⟨hx, hfr, hi⟩
    simp only at hx hfr hi
    subst hx
    have e1 : gI v c 3 = nI k.2.2.2.length := (fr_I hfr (by omega)).trans h3
    simp (disch := omega) only [b_X1_countDay_2, gm_let, litI, ib_nI, ix_nI, nI_leI, nI_ltI, nI_eq, nI_add, nI_sub, nI_mul, nI_div, nI_rem, nI_m1, nI_eqm, nI_gem, nI_ltm, nI_mlt, nI_lem, Option.bind_some, Option.bind_none, gI_eq, gI_ne, gI_sJ, gI_sR, gJ_sI, gJ_sR, gR_sI, gR_sJ, if_pos, if_neg, e1]
    refine ok_some ⟨hfr, fun i e he => ?_⟩
    have z := (List.getElem?_eq_some_iff.mp he).1
    rw [hi i e he, if_pos z]
  · rintro v ⟨hfr, hi⟩
    refine ok_some ⟨⟨⟨(fr_I hfr (by omega)).trans h0, (fr_I hfr (by omega)).trans h1, (fr_I hfr (by omega)).trans h2, ?_⟩, fun i e he => ?_⟩, fr_mono hfr (fun a _ q => ⟨by omega, by omega⟩)⟩
    · simp only [List.length_map]
      exact (fr_I hfr (by omega)).trans h3
    · simp only [List.getElem?_map, Option.map_eq_some_iff] at he
      obtain ⟨f, hf, rfl⟩ := he
      obtain ⟨a1, a2, -⟩ := h4 i f hf
      exact ⟨(fr_I hfr (by omega)).trans a1, (fr_I hfr (by omega)).trans a2, hi i f hf⟩
