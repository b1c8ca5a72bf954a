/-! the DAY in the reference -/
theorem m_rankOf {u : gm_M} {R : pR} {k : pK} (h : rM u R) (hg : gR1 R) (hk : kM u 29 0 k) (hq : gQ k.2.2.2) {e : pQ} {i : Nat} (he : k.2.2.2[i]? = some e) (hp : e.1 < rN R) :
    ok (f_X11_rankOf (nI e.1) u) (fun o => o.1 = rk R k.1 e ∧ fr (fun b _ => 13 ≤ b ∧ b ≤ 22) u o.2) := by
  have g1 := hg.1
  obtain ⟨⟨h0, h1, h2, h3⟩, h4⟩ := hk
  simp only [Nat.zero_add] at h0 h1 h2 h3 h4
  obtain ⟨a1, a2, a3⟩ := h4 i e he
  obtain ⟨-, b2, b3, b4⟩ := h.2.1 e.1 hp
  have hp6 := gQ_at hq he
  simp (disch := omega) only [f_X11_rankOf, gm_let, litI, nI_add, ib_nI, ix_nI, if_pos, h0, a2, gI_eq, gI_ne, gI_sJ, gI_sR, gJ_sI, gJ_sR, gR_sI, gR_sJ, a3, b3, b4]
  rcases h.2.2 with ⟨q1, q2⟩ | ⟨q1, q2⟩
  · rw [if_pos q1]
    exact ok_some ⟨(q2 _ _ _ _).symm, fr_refl _ _⟩
  · rw [if_neg q1]
    refine ok_bind (q2 _ ?_ ?_ ?_) ?_
    · simp (disch := omega) only [gI_eq, gI_ne, gI_sJ, gI_sR, gJ_sI, gJ_sR, gR_sI, gR_sJ]
    · simp (disch := omega) only [gI_eq, gI_ne, gI_sJ, gI_sR, gJ_sI, gJ_sR, gR_sI, gR_sJ]
    · intro j hj
      simp (disch := omega) only [gI_eq, gI_ne, gI_sJ, gI_sR, gJ_sI, gJ_sR, gR_sI, gR_sJ]
    · rintro ⟨w, v⟩ ⟨hw, hf⟩
      simp (disch := omega) only [gI_eq, gI_ne, gI_sJ, gI_sR, gJ_sI, gJ_sR, gR_sI, gR_sJ] at hw hf
      refine ok_some ⟨hw, ?_⟩
      exact fr_trans (fr_sI (fr_sI (fr_sI (fr_sI (fr_refl _ u) ⟨by omega, by omega⟩) ⟨by omega, by omega⟩) ⟨by omega, by omega⟩) ⟨by omega, by omega⟩) (fr_mono hf (fun a _ z => ⟨by omega, by omega⟩))
theorem m_isAhead {u : gm_M} {R : pR} {y : Nat} {e f : pQ} (h : rM u R) (hg : gR1 R) (he : e.1 < rN R) (hf : f.1 < rN R) (re : gI u 36 e.1 = rk R y e) (rf : gI u 36 f.1 = rk R y f) : f_X11_isAhead (nI e.1) (nI f.1) u = some (nI (ah R y e f).toNat) := by
  have g1 := hg.1
  obtain ⟨-, b2, -, -⟩ := h.2.1 e.1 he
  obtain ⟨-, c2, -, -⟩ := h.2.1 f.1 hf
  obtain ⟨k1, -, -⟩ := hg.2.2.2.2 e.1 he
  obtain ⟨k2, -, -⟩ := hg.2.2.2.2 f.1 hf
  have cmp : ∀ x y : Int32, (x ≤ y) ↔ ¬ y < x := fun x y => by
    rw [Int32.le_iff_toInt_le, Int32.lt_iff_toInt_lt]; omega
  simp (disch := omega) only [f_X11_isAhead, j_X11_isAhead_15, j_X11_isAhead_30, litI, ib_nI, ix_nI, if_pos, nI_eq, b2, c2, re, rf]
  by_cases q1 : rKind R e.1 = 1
  · by_cases q2 : rKind R f.1 = 1
    · simp only [ah, q1, q2, if_true, cmp]
      by_cases z : rk R y f < rk R y e
      · simp [z]
      · simp [z]
    · simp [ah, q1, q2]
  · by_cases q2 : rKind R f.1 = 1
    · simp [ah, q1, q2]
    · simp only [ah, q1, q2, if_true, if_false, cmp]
      by_cases z : rk R y f < rk R y e
      · simp [z]
      · simp [z]
def clP : Nat → Nat → Prop := fun a _ => (13 ≤ a ∧ a ≤ 22) ∨ (35 ≤ a ∧ a ≤ 36)
theorem m_calls {u : gm_M} {R : pR} {k : pK} (h : rM u R) (hg : gR1 R) (hk : kM u 29 0 k) (hq : gQ k.2.2.2) (hp : ∀ e ∈ k.2.2.2, e.1 < rN R) :
    ok (f_X11_calls u) (fun v => fr clP u v ∧ ∀ i e, (callL R k.1 k.2.2.2)[i]? = some e → gI v 35 i = nI e.1) := by
  have g1 := hg.1
  have hl := gQ_len hq
  simp only [f_X11_calls]
  refine ok_bind (Q := fun v => fr clP u v ∧ ∀ i e, (callL R k.1 k.2.2.2)[i]? = some e → gI v 35 i = nI e.1)
    (lp_ok k.2.2.2.length (fun j x => x.1 = nI j ∧ fr clP u x.2 ∧ ∀ i e, (callL R k.1 (k.2.2.2.take j))[i]? = some e → gI x.2 35 i = nI e.1 ∧ gI x.2 36 e.1 = rk R k.1 e) (by omega) ?_ ?_ ?_) (fun v hv => ok_some hv)
  · exact ⟨rfl, fr_refl _ _, fun i e hi => by simp [callL] at hi⟩
  · rintro j ⟨x, v⟩ hj ⟨hx, hfr, hi⟩
    simp only at hx hfr hi
    subst hx
    obtain ⟨e, he⟩ : ∃ e, k.2.2.2[j]? = some e := ⟨_, List.getElem?_eq_getElem hj⟩
    have hkv : kM v 29 0 k := kM_fr hk hq hfr (fun j q1 q2 q3 => by rcases q3 with q3 | q3 <;> omega)
    have hrv : rM v R := rM_fr h g1 hfr (fun a j q1 q3 => by rcases q3 with q3 | q3 <;> rcases q1 with q1 | q1 | q1 | q1 <;> omega)
    have e1 : gI v 29 2 = nI k.2.2.2.length := by have := hkv.1.2.2.1; simpa using this
    have e2 : gI v 29 (4 + j) = nI e.1 := by have := (hkv.2 j e he).1; simpa using this
    have hpe := hp e (List.mem_of_getElem? he)
    have hLl : (callL R k.1 (k.2.2.2.take j)).length = j := by rw [callL_len, List.length_take]; omega
    have ht : k.2.2.2.take (j + 1) = k.2.2.2.take j ++ [e] := by rw [List.take_add_one, he]; rfl
    have hne : ∀ f ∈ callL R k.1 (k.2.2.2.take j), f.1 ≠ e.1 ∧ f.1 < rN R := fun f hf => by
      have hf2 := callL_mem hf
      obtain ⟨jj, hjj⟩ := List.mem_iff_getElem?.mp hf2
      rw [List.getElem?_take] at hjj
      by_cases w : jj < j
      · rw [if_pos w] at hjj
        refine ⟨fun z => ?_, hp f (List.mem_of_getElem? hjj)⟩
        have := gQ_inj hq hjj he z
        omega
      · rw [if_neg w] at hjj
        cases hjj
    generalize hL : callL R k.1 (k.2.2.2.take j) = L at hi hLl hne
    have hL2 : callL R k.1 (k.2.2.2.take (j + 1)) = ins R k.1 L e := by rw [ht, callL_app, hL]
    simp (disch := omega) only [b_X11_calls_2, gm_let, litI, nI_add, nI_leI, ib_nI, ix_nI, e1, e2, if_neg, if_pos]
    refine ok_bind (m_rankOf hrv hg hkv hq he hpe) ?_
    rintro ⟨w, v2⟩ ⟨hw, hf2⟩
    simp only at hw hf2
    subst hw
    simp only [gm_let]
    refine ok_bind (Q := fun o => fr (fun a j => a = 35 ∨ (a = 36 ∧ j = e.1)) v2 o.2 ∧ o.1 = nI (cutN (fun i => ah R k.1 e (qat L i)) j) ∧ gI o.2 36 e.1 = rk R k.1 e ∧ (∀ i f, i < cutN (fun i => ah R k.1 e (qat L i)) j → L[i]? = some f → gI o.2 35 i = nI f.1 ∧ gI o.2 36 f.1 = rk R k.1 f) ∧ ∀ i f, cutN (fun i => ah R k.1 e (qat L i)) j ≤ i → L[i]? = some f → gI o.2 35 (i + 1) = nI f.1 ∧ gI o.2 36 f.1 = rk R k.1 f)
      (lp_ok j (fun m x => x.1 = nI (j - m) ∧ fr (fun a j => a = 35 ∨ (a = 36 ∧ j = e.1)) v2 x.2 ∧ gI x.2 36 e.1 = rk R k.1 e ∧ cutN (fun i => ah R k.1 e (qat L i)) j = cutN (fun i => ah R k.1 e (qat L i)) (j - m) ∧ (∀ i f, i < j - m → L[i]? = some f → gI x.2 35 i = nI f.1 ∧ gI x.2 36 f.1 = rk R k.1 f) ∧ ∀ i f, j - m ≤ i → L[i]? = some f → gI x.2 35 (i + 1) = nI f.1 ∧ gI x.2 36 f.1 = rk R k.1 f) (by omega) ?_ ?_ ?_) ?_
    · refine ⟨rfl, fr_sI (fr_refl _ _) (.inr ⟨rfl, rfl⟩), gI_eq rfl rfl, rfl, fun i f _ hf => ?_, fun i f hij hf => ?_⟩
      · have := (hne f (List.mem_of_getElem? hf)).1
        rw [gI_ne (by omega), gI_ne (by omega)]
        exact ⟨(fr_I hf2 (by omega)).trans (hi i f hf).1, (fr_I hf2 (by omega)).trans (hi i f hf).2⟩
      · have := (List.getElem?_eq_some_iff.mp hf).1
        omega
    · rintro m ⟨x, w⟩ hm ⟨hx, hfw, hre, hcut, hlo, hup⟩
      simp only at hx hfw hre hcut hlo hup
      subst hx
      obtain ⟨t, ht2⟩ : ∃ t, j - m = t + 1 := ⟨j - m - 1, by omega⟩
      have ht3 : j - (m + 1) = t := by omega
      rw [ht2] at hcut hlo hup ⊢
      rw [ht3]
      obtain ⟨f, hf⟩ : ∃ f, L[t]? = some f := ⟨_, List.getElem?_eq_getElem (by omega)⟩
      obtain ⟨l1, l2⟩ := hlo t f (by omega) hf
      have hrw : rM w R := rM_fr hrv g1 (fr_trans (fr_mono hf2 (fun a j z => .inl z)) (fr_mono hfw (fun a j z => .inr (by rcases z with z | z <;> omega)))) (fun a j q1 (q3 : (13 ≤ a ∧ a ≤ 22) ∨ (35 ≤ a ∧ a ≤ 36)) => by rcases q3 with q3 | q3 <;> rcases q1 with q1 | q1 | q1 | q1 <;> omega)
      have hfn := (hne f (List.mem_of_getElem? hf)).2
      simp (disch := omega) only [b_X11_calls_34, gm_let, litI, nI_leI, nI_sub, nI_m1, ib_nI, ix_nI, if_pos, if_neg, Nat.add_sub_cancel, l1, m_isAhead hrw hg hpe hfn hre l2, Option.bind_some]
      cases q : ah R k.1 e f
      · rw [if_pos (by decide)]
        have hcc : cutN (fun i => ah R k.1 e (qat L i)) j = t + 1 := by
          rw [hcut]
          simp only [cutN]
          rw [if_neg (by rw [qat_some hf, q]; decide)]
        refine ok_some ⟨hfw, ?_, hre, ?_, ?_⟩
        · rw [hcc]
        · rw [hcc]; exact hlo
        · rw [hcc]; exact hup
      · rw [if_neg (by decide)]
        refine ok_some ⟨rfl, fr_sI hfw (.inl rfl), ?_, ?_, fun i f' hi' hf' => ?_, fun i f' hi' hf' => ?_⟩
        · rw [gI_ne (by omega)]; exact hre
        · rw [hcut]
          simp only [cutN]
          rw [if_pos (by rw [qat_some hf]; exact q)]
        · obtain ⟨m1, m2⟩ := hlo i f' (by omega) hf'
          rw [gI_ne (by omega), gI_ne (by omega)]
          exact ⟨m1, m2⟩
        · rcases Nat.eq_or_lt_of_le hi' with z | z
          · subst z
            rw [hf] at hf'
            cases hf'
            rw [gI_eq rfl rfl, gI_ne (by omega)]
            exact ⟨rfl, l2⟩
          · obtain ⟨m1, m2⟩ := hup i f' (by omega) hf'
            rw [gI_ne (by omega), gI_ne (by omega)]
            exact ⟨m1, m2⟩
    · rintro ⟨x, w⟩ ⟨hx, hfw, hre, hcut, hlo, hup⟩
      simp only at hx hfw hre hcut hlo hup
      subst hx
      rw [Nat.sub_self] at hcut hlo hup ⊢
      simp (disch := omega) only [b_X11_calls_34, gm_let, litI, ib_nI, ix_nI, nI_leI, nI_ltI, nI_eq, nI_add, nI_sub, nI_mul, nI_div, nI_rem, nI_m1, nI_eqm, nI_gem, nI_ltm, nI_mlt, nI_lem, Option.bind_some, Option.bind_none, if_pos]
      have hcc : cutN (fun i => ah R k.1 e (qat L i)) j = 0 := hcut
      refine ok_some ⟨hfw, ?_, hre, ?_, ?_⟩
      · rw [hcc]
      · rw [hcc]; exact hlo
      · rw [hcc]; exact hup
    · rintro ⟨x, w⟩ ⟨hfw, hx, hre, hlo, hup⟩
      simp only at hx hfw hre hlo hup
      subst hx
      have hcl := cutN_le (fun i => ah R k.1 e (qat L i)) j
      have hins : ins R k.1 L e = L.take (cutN (fun i => ah R k.1 e (qat L i)) j) ++ e :: L.drop (cutN (fun i => ah R k.1 e (qat L i)) j) := by simp only [ins, hLl]
      generalize hT : cutN (fun i => ah R k.1 e (qat L i)) j = T at hlo hup hcl hins
      simp (disch := omega) only [j_X11_calls_74, gm_let, litI, nI_add, ib_nI, ix_nI, if_pos]
      refine ok_some ⟨rfl, ?_, fun i f hif => ?_⟩
      · exact fr_sI (fr_trans hfr (fr_trans (fr_mono hf2 (fun a _ q => .inl q)) (fr_mono hfw (fun a _ q => .inr (by rcases q with q | q <;> omega))))) (.inr ⟨by omega, by omega⟩)
      · simp only [hL2, hins] at hif
        rcases Nat.lt_trichotomy i T with z | z | z
        · rw [List.getElem?_append_left (by rw [List.length_take]; omega), List.getElem?_take_of_lt z] at hif
          obtain ⟨m1, m2⟩ := hlo i f z hif
          rw [gI_ne (by omega), gI_ne (by omega)]
          exact ⟨m1, m2⟩
        · subst z
          rw [List.getElem?_append_right (by rw [List.length_take]; omega), List.length_take, Nat.min_eq_left (by omega), Nat.sub_self] at hif
          cases hif
          rw [gI_eq rfl rfl, gI_ne (by omega)]
          exact ⟨rfl, hre⟩
        · obtain ⟨i', rfl⟩ : ∃ i', i = i' + 1 := ⟨i - 1, by omega⟩
          rw [List.getElem?_append_right (by rw [List.length_take]; omega), List.length_take, Nat.min_eq_left (by omega)] at hif
          have z2 : i' + 1 - T = (i' - T) + 1 := by omega
          rw [z2, List.getElem?_cons_succ, List.getElem?_drop] at hif
          have z3 : T + (i' - T) = i' := by omega
          rw [z3] at hif
          obtain ⟨m1, m2⟩ := hup i' f (by omega) hif
          rw [gI_ne (by omega), gI_ne (by omega)]
          exact ⟨m1, m2⟩
  · rintro ⟨x, v⟩ ⟨hx, hfr, hi⟩
    simp only at hx hfr hi
    subst hx
    have hkv : kM v 29 0 k := kM_fr hk hq hfr (fun j q1 q2 q3 => by rcases q3 with q3 | q3 <;> omega)
    have e1 : gI v 29 2 = nI k.2.2.2.length := by have := hkv.1.2.2.1; simpa using this
    simp (disch := omega) only [b_X11_calls_2, gm_let, litI, ib_nI, ix_nI, nI_leI, nI_ltI, nI_eq, nI_add, nI_sub, nI_mul, nI_div, nI_rem, nI_m1, nI_eqm, nI_gem, nI_ltm, nI_mlt, nI_lem, Option.bind_some, Option.bind_none, e1, if_pos]
    rw [List.take_length] at hi
    exact ok_some ⟨hfr, fun i e he => (hi i e he).1⟩
