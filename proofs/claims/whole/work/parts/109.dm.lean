/-! the reference holds a DAY -/
theorem kM_heard {u : gm_M} {k : pK} {h : Nat} (hk : kM u 29 0 k) : kM (sI u 29 3 (nI h)) 29 0 (k.1, k.2.1, h, k.2.2.2) := by
  obtain ⟨⟨h0, h1, h2, h3⟩, h4⟩ := hk
  refine ⟨⟨?_, ?_, ?_, gI_eq rfl rfl⟩, fun i e he => ?_⟩
  · rw [gI_ne (by omega)]; exact h0
  · rw [gI_ne (by omega)]; exact h1
  · rw [gI_ne (by omega)]; exact h2
  · rw [gI_ne (by omega), gI_ne (by omega), gI_ne (by omega)]; exact h4 i e he
theorem kM_yr {u : gm_M} {k : pK} {y : Nat} (hk : kM u 29 0 k) : kM (sI u 29 0 (nI y)) 29 0 (y, k.2.1, k.2.2.1, k.2.2.2) := by
  obtain ⟨⟨h0, h1, h2, h3⟩, h4⟩ := hk
  refine ⟨⟨gI_eq rfl rfl, ?_, ?_, ?_⟩, fun i e he => ?_⟩
  · rw [gI_ne (by omega)]; exact h1
  · rw [gI_ne (by omega)]; exact h2
  · rw [gI_ne (by omega)]; exact h3
  · rw [gI_ne (by omega), gI_ne (by omega), gI_ne (by omega)]; exact h4 i e he
theorem kM_lamps {u : gm_M} {k : pK} {l : Nat} (hk : kM u 29 0 k) : kM (sI u 29 1 (nI l)) 29 0 (k.1, l, k.2.2.1, k.2.2.2) := by
  obtain ⟨⟨h0, h1, h2, h3⟩, h4⟩ := hk
  refine ⟨⟨?_, gI_eq rfl rfl, ?_, ?_⟩, fun i e he => ?_⟩
  · rw [gI_ne (by omega)]; exact h0
  · rw [gI_ne (by omega)]; exact h2
  · rw [gI_ne (by omega)]; exact h3
  · rw [gI_ne (by omega), gI_ne (by omega), gI_ne (by omega)]; exact h4 i e he
theorem m_asksOf {u : gm_M} {R : pR} (h : rM u R) (hg : gR1 R) {p : Nat} (hp : p < rN R) (b : Bool) : f_X11_asksOf (nI p) (nI b.toNat) u = some (nI (ask1 R p b)) := by
  have g1 := hg.1
  obtain ⟨-, b2, -, b4⟩ := h.2.1 p hp
  obtain ⟨k1, -, -, k3⟩ := hg.2.2.2.2 p hp
  have ha := ask_half k3
  simp (disch := omega) only [f_X11_asksOf, gm_let, litI, ib_nI, ix_nI, if_pos, nI_eq, b2, b4, ha]
  by_cases q : rKind R p = 3
  · rw [if_pos q]
    cases b with
    | false => rw [if_pos (by decide)]; simp [ask1]
    | true => rw [if_neg (by decide)]; simp [ask1, q]
  · rw [if_neg q]; simp [ask1, q]
/-- the queue while a DAY is held: who is heard has left, who was called has a day more -/
def cur (q L : List pQ) (hd : Nat) : List pQ := (q.filter (fun e => !hd.testBit e.1)).map (fun e => (e.1, e.2.1, e.2.2 + (if L.any (fun f => f.1 == e.1) then 1 else 0)))
theorem gQ_cur {q : List pQ} (hq : gQ q) (L : List pQ) (hd : Nat) : gQ (cur q L hd) := by
  refine ⟨?_, fun e he => ?_⟩
  · simp only [cur, List.map_map]
    exact (gQ_filter hq _).1
  · obtain ⟨f, hf, rfl⟩ := List.mem_map.mp he
    exact (gQ_filter hq _).2 f hf
theorem cur_inc {q L : List pQ} {hd : Nat} {e : pQ} (hL : L.any (fun f => f.1 == e.1) = false) : cur q (L ++ [e]) hd = (cur q L hd).map (fun f => if f.1 = e.1 then (f.1, f.2.1, f.2.2 + 1) else f) := by
  simp only [cur, List.map_map]
  apply List.map_congr_left
  intro f _
  simp only [Function.comp, List.any_append, List.any_cons, List.any_nil, Bool.or_false]
  by_cases w : f.1 = e.1
  · simp [w, hL]
  · have w2 : (e.1 == f.1) = false := by simpa using fun z => w z.symm
    simp [w]
    rw [w2, Bool.or_false]
theorem cur_out {q L : List pQ} {hd p : Nat} : (cur q L hd).filter (fun e => e.1 != p) = cur q L (hd ||| 2 ^ p) := by
  simp only [cur, List.filter_map, List.filter_filter]
  congr 1
  apply List.filter_congr
  intro f _
  simp only [Function.comp, Nat.testBit_or, Nat.testBit_two_pow]
  by_cases w : f.1 = p
  · simp [w]
  · have w2 : ¬ p = f.1 := fun z => w z.symm
    simp [w, w2]
theorem kM_inc {u : gm_M} {k : pK} {p d : Nat} (hk : kM u 29 0 k) (hq : gQ k.2.2.2) (hp : p < 6) (hd : gI u 29 (16 + p) = nI d) : kM (sI u 29 (16 + p) (nI (d + 1))) 29 0 (k.1, k.2.1, k.2.2.1, k.2.2.2.map (fun f => if f.1 = p then (f.1, f.2.1, f.2.2 + 1) else f)) := by
  obtain ⟨⟨h0, h1, h2, h3⟩, h4⟩ := hk
  simp only [Nat.zero_add] at h0 h1 h2 h3 h4
  have hl := gQ_len hq
  refine ⟨⟨?_, ?_, ?_, ?_⟩, fun i e he => ?_⟩
  · rw [gI_ne (by omega)]; exact h0
  · rw [gI_ne (by omega)]; exact h1
  · rw [gI_ne (by omega), List.length_map]; exact h2
  · rw [gI_ne (by omega)]; exact h3
  · simp only [List.getElem?_map, Option.map_eq_some_iff] at he
    obtain ⟨f, hf, rfl⟩ := he
    obtain ⟨a1, a2, a3⟩ := h4 i f hf
    have z := gQ_at hq hf
    have zi := (List.getElem?_eq_some_iff.mp hf).1
    simp only [Nat.zero_add]
    by_cases w : f.1 = p
    · simp only [w, if_true]
      rw [gI_ne (by omega), gI_ne (by omega), gI_eq rfl rfl]
      rw [w] at a1 a2 a3
      refine ⟨a1, a2, ?_⟩
      have e := hd.symm.trans a3
      rw [← nI_1, e, nI_1]
    · simp only [if_neg w]
      rw [gI_ne (by omega), gI_ne (by omega), gI_ne (by omega)]
      exact ⟨a1, a2, a3⟩
/-- what a DAY may change in the reference -/
def hdP : Nat → Nat → Prop := fun a j => (a = 29 ∧ j < 22) ∨ (a = 1 ∧ (j = 50 ∨ j = 51)) ∨ (13 ≤ a ∧ a ≤ 22) ∨ (35 ≤ a ∧ a ≤ 36)
theorem m_holdsDay {u : gm_M} {R : pR} {k : pK} {C Y : Nat} (h : rM u R) (hg : gR1 R) (hk : kM u 29 0 k) (hgk : gK R Y k) (hC : C ≤ 900) (hcan : gI u 1 49 = nI C) :
    ok (f_X11_holdsDay u) (fun v => kM v 29 0 (dayK R C k) ∧ gI v 1 50 = nI k.2.2.2.length ∧ gI v 1 51 = nI (C + k.2.1 - (dayH R C k).1) ∧ fr hdP u v) := by
  have g1 := hg.1
  have hq := gK_gQ hgk hg
  have hl := gQ_len hq
  have hk60 := hgk.2.1
  simp only [f_X11_holdsDay]
  refine ok_bind (m_calls h hg hk hq (fun e he => (hgk.2.2.2.2 e he).1)) ?_
  rintro u1 ⟨hf1, hi1⟩
  have hk1 : kM u1 29 0 k := kM_fr hk hq hf1 (fun j q1 q2 q3 => by rcases q3 with q3 | q3 <;> omega)
  have hr1 : rM u1 R := rM_fr h g1 hf1 (fun a j q1 q3 => by rcases q3 with q3 | q3 <;> rcases q1 with q1 | q1 | q1 | q1 <;> omega)
  have e1 : gI u1 29 2 = nI k.2.2.2.length := by have := hk1.1.2.2.1; simpa using this
  have e2 : gI u1 29 1 = nI k.2.1 := by have := hk1.1.2.1; simpa using this
  have e3 : gI u1 1 49 = nI C := (fr_I hf1 (fun z => by rcases z with z | z <;> omega)).trans hcan
  simp only [gm_let, e1, e2, e3, nI_add]
  have hF0 : fr (fun a j => a = 1 ∧ (j = 50 ∨ j = 51)) u1 (sI (sI u1 1 50 (nI k.2.2.2.length)) 1 51 (nI (C + k.2.1))) := fr_sI (fr_sI (fr_refl _ _) ⟨rfl, .inl rfl⟩) ⟨rfl, .inr rfl⟩
  have v50 : gI (sI (sI u1 1 50 (nI k.2.2.2.length)) 1 51 (nI (C + k.2.1))) 1 50 = nI k.2.2.2.length := by rw [gI_ne (by omega)]; exact gI_eq rfl rfl
  have v51 : gI (sI (sI u1 1 50 (nI k.2.2.2.length)) 1 51 (nI (C + k.2.1))) 1 51 = nI (C + k.2.1) := gI_eq rfl rfl
  generalize hU : sI (sI u1 1 50 (nI k.2.2.2.length)) 1 51 (nI (C + k.2.1)) = u2 at hF0 v50 v51
  have hk2 : kM u2 29 0 k := kM_fr hk1 hq hF0 (fun j q1 q2 q3 => by omega)
  have hr2 : rM u2 R := rM_fr hr1 g1 hF0 (fun a j q1 q3 => by rcases q1 with q1 | q1 | q1 | q1 <;> omega)
  have hi2 : ∀ i e, (callL R k.1 k.2.2.2)[i]? = some e → gI u2 35 i = nI e.1 := fun i e he => (fr_I hF0 (by omega)).trans (hi1 i e he)
  have hLl : (callL R k.1 k.2.2.2).length = k.2.2.2.length := callL_len _ _ _
  have hLn : ((callL R k.1 k.2.2.2).map (fun e => e.1)).Nodup := ((callL_perm R k.1 k.2.2.2).map (fun e => e.1)).symm.nodup hq.1
  have hLm : ∀ e, e ∈ callL R k.1 k.2.2.2 ↔ e ∈ k.2.2.2 := fun e => (callL_perm R k.1 k.2.2.2).mem_iff
  have hD : dayH R C k = hearL R (callL R k.1 k.2.2.2) (C + k.2.1) false 0 := rfl
  generalize hLL : callL R k.1 k.2.2.2 = L at hi2 hLl hLn hLm hD
  have hgL : gQ L := ⟨hLn, fun e he => hq.2 e ((hLm e).mp he)⟩
  refine ok_bind (Q := fun o => o.1 = nI (dayH R C k).1 ∧ fr (fun a j => a = 29 ∧ j < 22) u2 o.2 ∧ kM o.2 29 0 (k.1, k.2.1, k.2.2.1 ||| (dayH R C k).2, cur k.2.2.2 L (dayH R C k).2))
    (lp_ok L.length (fun j x => ∃ (l : Nat) (b : Bool) (hd : Nat), l ≤ C + k.2.1 ∧ hd < 64 ∧ x.1 = nI l ∧ x.2.1 = nI b.toNat ∧ x.2.2.1 = nI j ∧ fr (fun a j => a = 29 ∧ j < 22) u2 x.2.2.2 ∧ kM x.2.2.2 29 0 (k.1, k.2.1, k.2.2.1 ||| hd, cur k.2.2.2 (L.take j) hd) ∧ hearL R (L.drop j) l b hd = dayH R C k ∧ ∀ i, hd.testBit i = true → ∃ f ∈ L.take j, f.1 = i) (by omega) ?_ ?_ ?_) ?_
  · refine ⟨C + k.2.1, false, 0, Nat.le_refl _, by omega, rfl, rfl, rfl, fr_refl _ _, ?_, by rw [List.drop_zero, hD], fun i hi => by simp at hi⟩
    have z : cur k.2.2.2 (L.take 0) 0 = k.2.2.2 := by simp [cur]
    rw [z, Nat.or_zero]
    exact hk2
  · rintro j ⟨x1, x2, x3, v⟩ hj ⟨l, b, hd, hlC, hhd, hx1, hx2, hx3, hfr, hkv, hrec, hhm⟩
    simp only at hx1 hx2 hx3 hfr hkv hrec
    subst hx1 hx2 hx3
    obtain ⟨e, he⟩ : ∃ e, L[j]? = some e := ⟨_, List.getElem?_eq_getElem hj⟩
    have heq : e ∈ k.2.2.2 := (hLm e).mp (List.mem_of_getElem? he)
    have hpe := (hgk.2.2.2.2 e heq).1
    have hp6 : e.1 < 6 := by omega
    have nin : ∀ f ∈ L.take j, f.1 ≠ e.1 := fun f hf => by
      obtain ⟨jj, hjj⟩ := List.mem_iff_getElem?.mp hf
      rw [List.getElem?_take] at hjj
      by_cases w : jj < j
      · rw [if_pos w] at hjj
        intro z
        have := gQ_inj hgL hjj he z
        omega
      · rw [if_neg w] at hjj
        cases hjj
    have hany : (L.take j).any (fun f => f.1 == e.1) = false := by
      rw [List.any_eq_false]
      intro f hf
      simpa using nin f hf
    have hbit : hd.testBit e.1 = false := by
      cases w : hd.testBit e.1
      · rfl
      · obtain ⟨f, hf, z⟩ := hhm e.1 w
        exact absurd z (nin f hf)
    have htk : L.take (j + 1) = L.take j ++ [e] := by rw [List.take_add_one, he]; rfl
    have hrv : rM v R := rM_fr hr2 g1 hfr (fun a j q1 q3 => by rcases q1 with q1 | q1 | q1 | q1 <;> omega)
    have hiv : gI v 35 j = nI e.1 := (fr_I hfr (by omega)).trans (hi2 j e he)
    have hgc := gQ_cur hq (L.take j) hd
    have hin : (e.1, e.2.1, e.2.2) ∈ cur k.2.2.2 (L.take j) hd := by
      refine List.mem_map.mpr ⟨e, List.mem_filter.mpr ⟨heq, by simp [hbit]⟩, ?_⟩
      simp only [hany, Bool.false_eq_true, if_false, Nat.add_zero]
    obtain ⟨ix0, hix0⟩ := List.mem_iff_getElem?.mp hin
    have hday : gI v 29 (16 + e.1) = nI e.2.2 := by have := (hkv.2 ix0 _ hix0).2.2; simpa using this
    have hd2 : L.drop j = e :: L.drop (j + 1) := by
      obtain ⟨z1, z2⟩ := List.getElem?_eq_some_iff.mp he
      rw [List.drop_eq_getElem_cons z1, z2]
    rw [hd2] at hrec
    simp only [hearL] at hrec
    have ha := ask1_le hg hpe b
    have two := lt_two hp6
    obtain ⟨-, kd, -, -⟩ := hrv.2.1 e.1 hpe
    obtain ⟨kk, -, -⟩ := hg.2.2.2.2 e.1 hpe
    have hkI := kM_inc hkv hgc hp6 hday
    simp only at hkI
    rw [← cur_inc hany, ← htk] at hkI
    have hgc1 := gQ_cur hq (L.take (j + 1)) hd
    have b1 : b.toNat < 2 := by cases b <;> decide
    have or64 : k.2.2.1 ||| hd < 64 := or_lt hgk.2.2.1 hhd
    simp (disch := omega) only [b_X11_holdsDay_38, gm_let, litI, nI_add, nI_leI, ib_nI, ix_nI, if_pos, if_neg, hiv, m_asksOf hrv hg hpe b, Option.bind_some, hday, gI_eq, gI_ne, gI_sJ, gI_sR, gJ_sI, gJ_sR, gR_sI, gR_sJ, nI_eq, kd]
    by_cases q : ask1 R e.1 b ≤ l
    · rw [if_pos q] at hrec
      simp (disch := omega) only [if_pos, nI_sub]
      have e3v : gI (sI v 29 (16 + e.1) (nI (e.2.2 + 1))) 29 3 = nI (k.2.2.1 ||| hd) := by
        rw [gI_ne (by omega)]
        have := hkv.1.2.2.2
        simpa using this
      have core : ∀ t : Bool, t = (b || decide (rKind R e.1 = 3)) → ok (j_X11_holdsDay_110 (nI k.2.2.2.length) (nI (l - ask1 R e.1 b)) (nI j) (nI e.1) (nI t.toNat) (sI v 29 (16 + e.1) (nI (e.2.2 + 1)))) (stp (fun x => ∃ (l : Nat) (b : Bool) (hd : Nat), l ≤ C + k.2.1 ∧ hd < 64 ∧ x.1 = nI l ∧ x.2.1 = nI b.toNat ∧ x.2.2.1 = nI (j + 1) ∧ fr (fun a j => a = 29 ∧ j < 22) u2 x.2.2.2 ∧ kM x.2.2.2 29 0 (k.1, k.2.1, k.2.2.1 ||| hd, cur k.2.2.2 (L.take (j + 1)) hd) ∧ hearL R (L.drop (j + 1)) l b hd = dayH R C k ∧ ∀ i, hd.testBit i = true → ∃ f ∈ L.take (j + 1), f.1 = i) (fun o => o.1 = nI (dayH R C k).1 ∧ fr (fun a j => a = 29 ∧ j < 22) u2 o.2 ∧ kM o.2 29 0 (k.1, k.2.1, k.2.2.1 ||| (dayH R C k).2, cur k.2.2.2 L (dayH R C k).2))) := by
        intro t ht
        simp (disch := omega) only [j_X11_holdsDay_110, gm_let, litI, e3v, nI_one, nI_or]
        have hkh := kM_heard (h := k.2.2.1 ||| hd ||| 2 ^ e.1) hkI
        simp only at hkh
        have hin2 : ∃ (i2 : Nat) (e2 : pQ), (cur k.2.2.2 (L.take (j + 1)) hd)[i2]? = some e2 ∧ e2.1 = e.1 := by
          have : (e.1, e.2.1, e.2.2 + (if (L.take (j + 1)).any (fun f => f.1 == e.1) then 1 else 0)) ∈ cur k.2.2.2 (L.take (j + 1)) hd := List.mem_map.mpr ⟨e, List.mem_filter.mpr ⟨heq, by simp [hbit]⟩, rfl⟩
          obtain ⟨i2, hi2⟩ := List.mem_iff_getElem?.mp this
          exact ⟨i2, _, hi2, rfl⟩
        obtain ⟨i2, e2, hi2, he2⟩ := hin2
        refine ok_bind (m_leaves hkh hgc1 hi2 he2) ?_
        rintro w ⟨hkw, hfw⟩
        simp only [cur_out] at hkw
        simp only [nI_add]
        refine ok_some ⟨l - ask1 R e.1 b, t, hd ||| 2 ^ e.1, by omega, or_lt hhd two, rfl, rfl, rfl, ?_, ?_, ?_, ?_⟩
        · exact fr_trans (fr_sI (fr_sI hfr ⟨rfl, by omega⟩) ⟨rfl, by omega⟩) (fr_mono hfw (fun a j z => ⟨z.1, by omega⟩))
        · rw [← Nat.or_assoc]; exact hkw
        · rw [ht]; exact hrec
        · intro i hi
          rw [Nat.testBit_or, Nat.testBit_two_pow, Bool.or_eq_true, decide_eq_true_eq] at hi
          rw [htk]
          rcases hi with hi | hi
          · obtain ⟨f, hf, z⟩ := hhm i hi
            exact ⟨f, List.mem_append_left _ hf, z⟩
          · exact ⟨e, List.mem_append_right _ List.mem_cons_self, hi⟩
      cases b with
      | false =>
        simp only [Bool.toNat_false, if_true]
        by_cases w : rKind R e.1 = 3
        · rw [if_pos w]
          simp only [j_X11_holdsDay_105]
          exact core true (by simp [w])
        · rw [if_neg w]
          exact core false (by simp [w])
      | true =>
        simp only [Bool.toNat_true]
        rw [if_neg (by decide)]
        simp only [j_X11_holdsDay_105]
        exact core true (by simp)
    · rw [if_neg q] at hrec
      simp (disch := omega) only [if_neg]
      refine ok_some ⟨l, b, hd, hlC, hhd, rfl, rfl, rfl, fr_sI hfr ⟨rfl, by omega⟩, hkI, hrec, fun i hi => ?_⟩
      obtain ⟨f, hf, z⟩ := hhm i hi
      rw [htk]
      exact ⟨f, List.mem_append_left _ hf, z⟩
  · rintro ⟨x1, x2, x3, v⟩ ⟨l, b, hd, hlC, hhd, hx1, hx2, hx3, hfr, hkv, hrec, hhm⟩
    simp only at hx1 hx2 hx3 hfr hkv hrec
    subst hx1 hx2 hx3
    rw [List.drop_length] at hrec
    simp only [hearL] at hrec
    rw [List.take_length] at hkv
    simp (disch := omega) only [b_X11_holdsDay_38, litI, nI_leI, if_pos]
    exact ok_some ⟨by rw [← hrec], hfr, by rw [← hrec]; exact hkv⟩
  · rintro ⟨x, v⟩ ⟨hx, hfr, hkv⟩
    simp only at hx hfr hkv
    subst hx
    have z := hearL_le R L (C + k.2.1) false 0
    rw [← hD] at z
    have w51 : gI (sI v 29 1 (nI 0)) 1 51 = nI (C + k.2.1) := by rw [gI_ne (by omega)]; exact (fr_I hfr (by omega)).trans v51
    simp (disch := omega) only [litI, w51, nI_sub]
    have hkl := kM_lamps (l := 0) hkv
    have hcur : cur k.2.2.2 L (dayH R C k).2 = (k.2.2.2.filter (fun e => !(dayH R C k).2.testBit e.1)).map (fun e => (e.1, e.2.1, e.2.2 + 1)) := by
      simp only [cur]
      apply List.map_congr_left
      intro e he
      have : L.any (fun f => f.1 == e.1) = true := List.any_eq_true.mpr ⟨e, (hLm e).mpr (List.mem_filter.mp he).1, by simp⟩
      rw [this]; rfl
    refine ok_some ⟨?_, ?_, gI_eq rfl rfl, ?_⟩
    · refine kM_fr (P := fun a j => a = 1) (u := sI v 29 1 (nI 0)) ?_ ?_ (fr_sI (fr_refl _ _) rfl) (fun j _ _ z => by omega)
      · rw [hcur] at hkl
        exact hkl
      · exact gK_gQ (gK_day hgk hg) hg
    · rw [gI_ne (by omega), gI_ne (by omega)]
      exact (fr_I hfr (by omega)).trans v50
    · refine fr_sI (fr_sI (fr_trans (fr_mono hf1 ?_) (fr_trans (fr_mono hF0 ?_) (fr_mono hfr ?_))) ?_) ?_
      · intro a j z
        rcases z with z | z
        · exact .inr (.inr (.inl z))
        · exact .inr (.inr (.inr z))
      · exact fun a j z => .inr (.inl z)
      · exact fun a j z => .inl z
      · exact .inl ⟨rfl, by omega⟩
      · exact .inr (.inl ⟨rfl, .inr rfl⟩)
