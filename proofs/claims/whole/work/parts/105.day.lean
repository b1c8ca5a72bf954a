/-! the hearing -/
def ask1 (R : pR) (p : Nat) (loved : Bool) : Nat := if rKind R p = 3 ∧ loved = true then max 1 (rPlea R p / 2) else rPlea R p
/-- who is heard: what is left, who (bits) -/
def hearL (R : pR) : List pQ → Nat → Bool → Nat → Nat × Nat
  | [], l, _, h => (l, h)
  | e :: es, l, b, h => if ask1 R e.1 b ≤ l then hearL R es (l - ask1 R e.1 b) (b || decide (rKind R e.1 = 3)) (h ||| 2 ^ e.1) else hearL R es l b h
theorem hearL_le (R : pR) : ∀ (L : List pQ) (l : Nat) (b : Bool) (h : Nat), (hearL R L l b h).1 ≤ l := by
  intro L
  induction L with
  | nil => intro l b h; exact Nat.le_refl _
  | cons e L ih =>
    intro l b h
    simp only [hearL]
    by_cases q : ask1 R e.1 b ≤ l
    · rw [if_pos q]
      have := ih (l - ask1 R e.1 b) (b || decide (rKind R e.1 = 3)) (h ||| 2 ^ e.1)
      omega
    · rw [if_neg q]; exact ih l b h
theorem hearL_lt (R : pR) : ∀ (L : List pQ) (l : Nat) (b : Bool) (h : Nat), (∀ e ∈ L, e.1 < 6) → h < 64 → (hearL R L l b h).2 < 64 := by
  intro L
  induction L with
  | nil => intro l b h _ hh; exact hh
  | cons e L ih =>
    intro l b h hL hh
    simp only [hearL]
    by_cases q : ask1 R e.1 b ≤ l
    · rw [if_pos q]; exact ih _ _ _ (fun f hf => hL f (List.mem_cons_of_mem _ hf)) (or_lt hh (lt_two (hL e List.mem_cons_self)))
    · rw [if_neg q]; exact ih _ _ _ (fun f hf => hL f (List.mem_cons_of_mem _ hf)) hh
theorem hearL_mem (R : pR) (i : Nat) : ∀ (L : List pQ) (l : Nat) (b : Bool) (h : Nat), ((hearL R L l b h).2.testBit i = true → h.testBit i = true ∨ ∃ e ∈ L, e.1 = i) ∧ (h.testBit i = true → (hearL R L l b h).2.testBit i = true) := by
  intro L
  induction L with
  | nil => intro l b h; exact ⟨.inl, id⟩
  | cons e L ih =>
    intro l b h
    simp only [hearL]
    by_cases q : ask1 R e.1 b ≤ l
    · rw [if_pos q]
      obtain ⟨i1, i2⟩ := ih (l - ask1 R e.1 b) (b || decide (rKind R e.1 = 3)) (h ||| 2 ^ e.1)
      refine ⟨fun z => ?_, fun z => i2 (by rw [Nat.testBit_or, z]; rfl)⟩
      rcases i1 z with w | ⟨f, hf, w⟩
      · rw [Nat.testBit_or, Nat.testBit_two_pow, Bool.or_eq_true, decide_eq_true_eq] at w
        rcases w with w | w
        · exact .inl w
        · exact .inr ⟨e, List.mem_cons_self, w⟩
      · exact .inr ⟨f, List.mem_cons_of_mem _ hf, w⟩
    · rw [if_neg q]
      obtain ⟨i1, i2⟩ := ih l b h
      refine ⟨fun z => ?_, i2⟩
      rcases i1 z with w | ⟨f, hf, w⟩
      · exact .inl w
      · exact .inr ⟨f, List.mem_cons_of_mem _ hf, w⟩
theorem ask_half {n : Nat} (h : n ≤ 20) : (if nI 1 < nI n / nI 2 then nI n / nI 2 else nI 1) = nI (max 1 (n / 2)) := by
  rw [nI_div (by omega) (by omega)]
  rcases Nat.lt_or_ge 1 (n / 2) with q | q
  · rw [if_pos ((nI_ltI (by omega) (by omega)).mpr q), Nat.max_eq_right (by omega)]
  · rw [if_neg (fun p => by rw [nI_ltI (by omega) (by omega)] at p; omega), Nat.max_eq_left (by omega)]
theorem ask1_le {R : pR} (hg : gR1 R) {p : Nat} (hp : p < rN R) (b : Bool) : ask1 R p b ≤ 20 := by
  obtain ⟨-, -, h1, h2⟩ := hg.2.2.2.2 p hp
  unfold ask1
  by_cases q : rKind R p = 3 ∧ b = true
  · rw [if_pos q]; omega
  · rw [if_neg q]; exact h2
theorem c_hearAll {u : gm_M} {r C : Nat} {R : pR} {L : List pQ} (h : rC u r R) (hg : gR1 R) (hC : C ≤ 1000) (hr : r = 5 ∨ r = 13) (hl : L.length ≤ 6) (hp : ∀ e ∈ L, e.1 < rN R) (hn : gI u 35 2 = nI L.length) (hi : ∀ i e, L[i]? = some e → gI u 36 i = nI e.1) :
    ok (f_X2_hearAll r (nI C) u) (fun v => gI v 35 3 = nI (hearL R L C false 0).2 ∧ gI v 35 4 = nI (C - (hearL R L C false 0).1) ∧ fr (fun a j => a = 35 ∧ (j = 3 ∨ j = 4)) u v) := by
  have g1 := hg.1
  simp only [f_X2_hearAll, gm_let]
  refine ok_bind (Q := fun o => gI o.2 35 3 = nI (hearL R L C false 0).2 ∧ o.1 = nI (hearL R L C false 0).1 ∧ fr (fun a j => a = 35 ∧ (j = 3 ∨ j = 4)) u o.2)
    (lp_ok L.length (fun j x => ∃ (l : Nat) (b : Bool) (hd : Nat), l ≤ C ∧ hd < 64 ∧ x.1 = nI l ∧ x.2.1 = nI b.toNat ∧ x.2.2.1 = nI j ∧ gI x.2.2.2 35 3 = nI hd ∧ fr (fun a j => a = 35 ∧ (j = 3 ∨ j = 4)) u x.2.2.2 ∧ hearL R (L.drop j) l b hd = hearL R L C false 0) (by omega) ?_ ?_ ?_) ?_
  · exact ⟨C, false, 0, by omega, by omega, rfl, rfl, rfl, gI_eq rfl rfl, fr_sI (fr_refl _ _) ⟨rfl, .inl rfl⟩, by rw [List.drop_zero]⟩
  · rintro j ⟨x1, x2, x3, v⟩ hj ⟨l, b, hd, hlC, hhd, hx1, hx2, hx3, h35, hfr, hrec⟩
    simp only at hx1 hx2 hx3 h35 hfr hrec
    subst hx1 hx2 hx3
    obtain ⟨e, he⟩ : ∃ e, L[j]? = some e := ⟨_, List.getElem?_eq_getElem hj⟩
    have hpe := hp e (List.mem_of_getElem? he)
    obtain ⟨kk, -, pp, pp2⟩ := hg.2.2.2.2 e.1 hpe
    have hv : rC v r R := rC_fr h hfr (fun a j q1 q2 q3 => by omega)
    have hn2 : gI v 35 2 = nI L.length := (fr_I hfr (by omega)).trans hn
    have hi2 : gI v 36 j = nI e.1 := (fr_I hfr (by omega)).trans (hi j e he)
    have hd2 : L.drop j = e :: L.drop (j + 1) := by
      obtain ⟨z1, z2⟩ := List.getElem?_eq_some_iff.mp he
      rw [List.drop_eq_getElem_cons z1, z2]
    rw [hd2] at hrec
    simp only [hearL] at hrec
    have ha := ask1_le hg hpe b
    have two := lt_two (p := e.1) (by omega)
    have b1 : b.toNat < 2 := by cases b <;> decide
    have core : ∀ (lv : Int32), (lv = nI 0 ∨ lv = nI 1) → (lv = nI 1 ↔ rKind R e.1 = 3) → ok (j_X2_hearAll_86 r (nI C) (nI l) (nI b.toNat) (nI j) (nI e.1) lv (nI (ask1 R e.1 b)) v) (stp (fun x => ∃ (l : Nat) (b : Bool) (hd : Nat), l ≤ C ∧ hd < 64 ∧ x.1 = nI l ∧ x.2.1 = nI b.toNat ∧ x.2.2.1 = nI (j + 1) ∧ gI x.2.2.2 35 3 = nI hd ∧ fr (fun a j => a = 35 ∧ (j = 3 ∨ j = 4)) u x.2.2.2 ∧ hearL R (L.drop (j + 1)) l b hd = hearL R L C false 0) (fun o => gI o.2 35 3 = nI (hearL R L C false 0).2 ∧ o.1 = nI (hearL R L C false 0).1 ∧ fr (fun a j => a = 35 ∧ (j = 3 ∨ j = 4)) u o.2)) := by
      intro lv hlv hlk
      by_cases q : ask1 R e.1 b ≤ l
      · rw [if_pos q] at hrec
        simp (disch := omega) only [j_X2_hearAll_86, gm_let, litI, ib_nI, ix_nI, nI_leI, nI_ltI, nI_eq, nI_add, nI_sub, nI_mul, nI_div, nI_rem, nI_m1, nI_eqm, nI_gem, nI_ltm, nI_mlt, nI_lem, Option.bind_some, Option.bind_none, gI_eq, gI_ne, gI_sJ, gI_sR, gJ_sI, gJ_sR, gR_sI, gR_sJ, if_neg, h35, nI_one, nI_or]
        have fin : ∀ b2 : Bool, b2 = (b || decide (rKind R e.1 = 3)) → ∃ (l' : Nat) (b' : Bool) (hd' : Nat), l' ≤ C ∧ hd' < 64 ∧ nI (l - ask1 R e.1 b) = nI l' ∧ nI b2.toNat = nI b'.toNat ∧ nI (j + 1) = nI (j + 1) ∧ gI (sI v 35 3 (nI (hd ||| 2 ^ e.1))) 35 3 = nI hd' ∧ fr (fun a j => a = 35 ∧ (j = 3 ∨ j = 4)) u (sI v 35 3 (nI (hd ||| 2 ^ e.1))) ∧ hearL R (L.drop (j + 1)) l' b' hd' = hearL R L C false 0 := fun b2 hb2 =>
          ⟨l - ask1 R e.1 b, b2, hd ||| 2 ^ e.1, by omega, or_lt hhd two, rfl, rfl, rfl, gI_eq rfl rfl, fr_sI hfr ⟨rfl, .inl rfl⟩, by rw [hb2]; exact hrec⟩
        cases b with
        | false =>
          rw [if_pos (by decide)]
          rcases hlv with rfl | rfl
          · rw [if_pos (by decide)]
            have z : ¬ rKind R e.1 = 3 := fun z => absurd (hlk.mpr z) (by decide)
            exact ok_some (fin false (by simp [z]))
          · rw [if_neg (by decide)]
            have z : rKind R e.1 = 3 := hlk.mp rfl
            exact ok_some (fin true (by simp [z]))
        | true =>
          rw [if_neg (by decide)]
          exact ok_some (fin true (by simp))
      · rw [if_neg q] at hrec
        simp (disch := omega) only [j_X2_hearAll_86, gm_let, litI, ib_nI, ix_nI, nI_leI, nI_ltI, nI_eq, nI_add, nI_sub, nI_mul, nI_div, nI_rem, nI_m1, nI_eqm, nI_gem, nI_ltm, nI_mlt, nI_lem, Option.bind_some, Option.bind_none, gI_eq, gI_ne, gI_sJ, gI_sR, gJ_sI, gJ_sR, gR_sI, gR_sJ, if_pos]
        exact ok_some ⟨l, b, hd, hlC, hhd, rfl, rfl, rfl, h35, hfr, hrec⟩
    simp (disch := omega) only [b_X2_hearAll_13, litI, gm_let, nI_leI, ib_nI, ix_nI, if_pos, if_neg, hn2, hi2, c_kindOf hv g1 hpe, Option.bind_some]
    by_cases q : rKind R e.1 = 3
    · rw [if_pos (by rw [q])]
      simp only [j_X2_hearAll_56, c_pleaOf hv g1 hpe, Option.bind_some, litI, gm_let]
      rw [if_neg (by decide)]
      cases b with
      | false =>
        rw [if_pos (by decide)]
        have z : ask1 R e.1 false = rPlea R e.1 := by simp [ask1]
        have := core (nI 1) (.inr rfl) ⟨fun _ => q, fun _ => rfl⟩
        rw [z] at this
        exact this
      | true =>
        rw [if_neg (by decide), ask_half pp2]
        have z : ask1 R e.1 true = max 1 (rPlea R e.1 / 2) := by simp [ask1, q]
        have := core (nI 1) (.inr rfl) ⟨fun _ => q, fun _ => rfl⟩
        rw [z] at this
        exact this
    · rw [if_neg (by rw [nI_eq (by omega) (by omega)]; exact q)]
      simp only [j_X2_hearAll_56, c_pleaOf hv g1 hpe, Option.bind_some, litI, gm_let]
      rw [if_pos (by decide)]
      have z : ask1 R e.1 b = rPlea R e.1 := by simp [ask1, q]
      have := core (nI 0) (.inl rfl) ⟨fun w => absurd w (by decide), fun w => absurd w q⟩
      rw [z] at this
      exact this
  · rintro ⟨x1, x2, x3, v⟩ ⟨l, b, hd, hlC, hhd, hx1, hx2, hx3, h35, hfr, hrec⟩
    simp only at hx1 hx2 hx3 h35 hfr hrec
    subst hx1 hx2 hx3
    have hn2 : gI v 35 2 = nI L.length := (fr_I hfr (by omega)).trans hn
    rw [List.drop_length] at hrec
    simp only [hearL] at hrec
    simp (disch := omega) only [b_X2_hearAll_13, litI, nI_leI, if_pos, hn2]
    exact ok_some ⟨by rw [← hrec]; exact h35, by rw [← hrec], hfr⟩
  · rintro ⟨x, v⟩ ⟨hv1, hx, hfr⟩
    simp only at hv1 hx hfr
    subst hx
    have z := hearL_le R L C false 0
    simp (disch := omega) only [j_X2_hearAll_133, gm_let, nI_sub]
    refine ok_some ⟨?_, gI_eq rfl rfl, fr_sI hfr ⟨rfl, .inr rfl⟩⟩
    rw [gI_ne (by omega)]
    exact hv1
/-! a year, a day: on the court's picture -/
def killK (R : pR) (y : Nat) (k : pK) : pK := (y, k.2.1, k.2.2.1, k.2.2.2.filter (fun e => !dead R y e.1))
def dayH (R : pR) (C : Nat) (k : pK) : Nat × Nat := hearL R (callL R k.1 k.2.2.2) (C + k.2.1) false 0
def dayK (R : pR) (C : Nat) (k : pK) : pK := (k.1, 0, k.2.2.1 ||| (dayH R C k).2, (k.2.2.2.filter (fun e => !(dayH R C k).2.testBit e.1)).map (fun e => (e.1, e.2.1, e.2.2 + 1)))
/-- a court that may be -/
def gK (R : pR) (Y : Nat) (k : pK) : Prop := k.1 ≤ Y ∧ k.2.1 ≤ 60 ∧ k.2.2.1 < 64 ∧ (k.2.2.2.map (fun e => e.1)).Nodup ∧ ∀ e ∈ k.2.2.2, e.1 < rN R ∧ k.2.2.1.testBit e.1 = false
theorem gK_gQ {R : pR} {Y : Nat} {k : pK} (h : gK R Y k) (hg : gR1 R) : gQ k.2.2.2 := ⟨h.2.2.2.1, fun e he => Nat.lt_of_lt_of_le (h.2.2.2.2 e he).1 hg.1⟩
theorem gK_kill {R : pR} {Y y : Nat} {k : pK} (h : gK R Y k) (hy : y ≤ Y) : gK R Y (killK R y k) := by
  obtain ⟨h1, h2, h3, h4, h5⟩ := h
  exact ⟨hy, h2, h3, h4.sublist (List.Sublist.map _ List.filter_sublist), fun e he => h5 e (List.mem_filter.mp he).1⟩
theorem dayH_lt {R : pR} {C Y : Nat} {k : pK} (h : gK R Y k) (hg : gR1 R) : (dayH R C k).2 < 64 := hearL_lt R _ _ _ _ (fun e he => (gK_gQ h hg).2 e (callL_mem he)) (by omega)
theorem gK_day {R : pR} {Y C : Nat} {k : pK} (h : gK R Y k) (hg : gR1 R) : gK R Y (dayK R C k) := by
  obtain ⟨h1, h2, h3, h4, h5⟩ := id h
  refine ⟨h1, Nat.zero_le _, or_lt h3 (dayH_lt h hg), ?_, ?_⟩
  · simp only [dayK, List.map_map]
    exact h4.sublist (List.Sublist.map _ List.filter_sublist)
  · intro e he
    simp only [dayK] at he
    obtain ⟨f, hf, rfl⟩ := List.mem_map.mp he
    obtain ⟨hf1, hf2⟩ := List.mem_filter.mp hf
    refine ⟨(h5 f hf1).1, ?_⟩
    simp only [dayK, Nat.testBit_or, (h5 f hf1).2, Bool.false_or]
    simpa using hf2
def dayP (r c : Nat) : Nat → Nat → Prop := fun a _ => a = r + 7 ∨ (35 ≤ a ∧ a ≤ 37) ∨ (c ≤ a ∧ a ≤ c + 3)
theorem kC_year {u : gm_M} {c y : Nat} {k : pK} (h : kC u c k) : kC (sI u c 0 (nI y)) c (y, k.2.1, k.2.2.1, k.2.2.2) := by
  obtain ⟨⟨h0, h1, h2, h3⟩, h4⟩ := h
  refine ⟨⟨gI_eq rfl rfl, ?_, ?_, ?_⟩, fun i e he => ?_⟩
  · rw [gI_ne (by omega)]; exact h1
  · rw [gI_ne (by omega)]; exact h2
  · rw [gI_ne (by omega)]; exact h3
  · rw [gI_ne (by omega), gI_ne (by omega), gI_ne (by omega)]; exact h4 i e he
theorem sh_dead {R : pR} {k : pK} {y : Nat} (hg : gR1 R) (hp : ∀ e ∈ k.2.2.2, e.1 < rN R) : ∀ e ∈ k.2.2.2, ((nI (dB R y (rN R)) >>> (nI e.1 &&& nI 31)) &&& nI 1 = nI 0 ↔ (!dead R y e.1) = true) := by
  intro e he
  have z := hp e he
  have g1 := hg.1
  rw [nI_sh (dB_lt R y _ g1) (by omega), dB_test]
  simp only [z, decide_true, Bool.true_and]
  cases dead R y e.1
  · exact ⟨fun _ => rfl, fun _ => rfl⟩
  · exact ⟨fun w => absurd w (by decide), fun w => absurd w (by decide)⟩
theorem c_beginYear {u : gm_M} {r c y C Y : Nat} {R : pR} {k : pK} (h : rC u r R) (hg : gR1 R) (hk : kC u c k) (hgk : gK R Y k) (hr : r = 5 ∨ r = 13) (hc : c = 27 ∨ c = 40) (hy : y ≤ Y) (hY : Y < 2 ^ 30) (hC : C ≤ 900) (day : Int32) :
    ok (f_X2_beginYear r c (nI y) (nI C) day u) (fun o => fr (dayP r c) u o.2 ∧ ((day = 0 ∧ o.1 = nI 0 ∧ kC o.2 c (killK R y k)) ∨ (day ≠ 0 ∧ o.1 = nI (dayH R C (killK R y k)).2 ∧ kC o.2 c (dayK R C (killK R y k)) ∧ gI o.2 35 2 = nI (killK R y k).2.2.2.length ∧ gI o.2 35 3 = nI (dayH R C (killK R y k)).2 ∧ gI o.2 35 4 = nI (C + k.2.1 - (dayH R C (killK R y k)).1)))) := by
  have g1 := hg.1
  have hq := gK_gQ hgk hg
  have hk1 := kC_year (y := y) hk
  have hf1 : fr (crt c) u (sI u c 0 (nI y)) := fr_sI (fr_refl _ _) ⟨by omega, by omega⟩
  have hr1 : rC (sI u c 0 (nI y)) r R := rC_fr h hf1 (fun a j q1 q2 q3 => by have := q3.1; omega)
  simp only [f_X2_beginYear, gm_let, c_deadBits hr1 hg (Nat.lt_of_le_of_lt hy hY), Option.bind_some]
  refine ok_bind (c_takeOut hk1 hq _ (fun e => !dead R y e.1) (sh_dead (k := (y, k.2.1, k.2.2.1, k.2.2.2)) hg (fun e he => (hgk.2.2.2.2 e he).1))) ?_
  rintro v2 ⟨hk2, hf2⟩
  have hk2' : kC v2 c (killK R y k) := hk2
  have hgk2 := gK_kill hgk hy
  have hF2 : fr (dayP r c) u v2 := fr_mono (fr_trans hf1 hf2) (fun a _ q => .inr (.inr q))
  by_cases hd : day = 0
  · rw [if_pos hd]
    exact ok_some ⟨hF2, .inl ⟨hd, rfl, hk2'⟩⟩
  · rw [if_neg hd]
    have hr2 : rC v2 r R := rC_fr hr1 hf2 (fun a j q1 q2 q3 => by have := q3.1; omega)
    generalize hkk : killK R y k = k2 at hk2' hgk2
    have hq2 := gK_gQ hgk2 hg
    have hl2 := gQ_len hq2
    have hlam : k2.2.1 = k.2.1 := by rw [← hkk]; rfl
    refine ok_bind (c_putInOrder hr2 hg hk2' hq2 (fun e he => (hgk2.2.2.2.2 e he).1) hr hc) ?_
    rintro v3 ⟨hf3, hn3, hi3⟩
    have hk3 : kC v3 c k2 := kC_fr hk2' hf3 (fun a j q1 q2 q3 => by rcases q3 with q3 | q3 <;> omega)
    have hr3 : rC v3 r R := rC_fr hr2 hf3 (fun a j q1 q2 q3 => by rcases q3 with q3 | q3 <;> omega)
    have hk60 := hgk2.2.1
    rw [hk3.1.2.1, nI_add]
    refine ok_bind (c_hearAll (L := callL R k2.1 k2.2.2.2) hr3 hg (by omega) hr (by rw [callL_len]; exact hl2) (fun e he => (hgk2.2.2.2.2 e (callL_mem he)).1) (by rw [callL_len]; exact hn3) hi3) ?_
    rintro v4 ⟨h43, h44, hf4⟩
    have hk4 : kC v4 c k2 := kC_fr hk3 hf4 (fun a j q1 q2 q3 => by omega)
    have hlt := dayH_lt (C := C) hgk2 hg
    have h43' : gI v4 35 3 = nI (dayH R C k2).2 := h43
    rw [h43']
    refine ok_bind (c_takeOut hk4 hq2 _ (fun e => !(dayH R C k2).2.testBit e.1) (fun e he => ?_)) ?_
    · rw [nI_sh hlt (hq2.2 e he)]
      cases (dayH R C k2).2.testBit e.1
      · exact ⟨fun _ => rfl, fun _ => rfl⟩
      · exact ⟨fun w => absurd w (by decide), fun w => absurd w (by decide)⟩
    · rintro v5 ⟨hk5, hf5⟩
      have h53 : gI v5 35 3 = nI (dayH R C k2).2 := (fr_crt hf5 (by omega)).trans h43'
      have h5h : gI v5 c 2 = nI k2.2.2.1 := hk5.1.2.2.1
      rw [h53, h5h, nI_or hgk2.2.2.1 hlt]
      have hk6 : kC (sI (sI v5 c 2 (nI (k2.2.2.1 ||| (dayH R C k2).2))) c 1 (nI 0)) c (k2.1, 0, k2.2.2.1 ||| (dayH R C k2).2, k2.2.2.2.filter (fun e => !(dayH R C k2).2.testBit e.1)) := by
        obtain ⟨⟨x0, x1, x2, x3⟩, x4⟩ := hk5
        refine ⟨⟨?_, gI_eq rfl rfl, ?_, ?_⟩, fun i e he => ?_⟩
        · rw [gI_ne (by omega), gI_ne (by omega)]; exact x0
        · rw [gI_ne (by omega)]; exact gI_eq rfl rfl
        · rw [gI_ne (by omega), gI_ne (by omega)]; exact x3
        · rw [gI_ne (by omega), gI_ne (by omega), gI_ne (by omega), gI_ne (by omega), gI_ne (by omega), gI_ne (by omega)]; exact x4 i e he
      refine ok_bind (c_countDay hk6 (gQ_filter hq2 _)) ?_
      rintro v7 ⟨hk7, hf7⟩
      have hF6 : fr (dayP r c) u (sI (sI v5 c 2 (nI (k2.2.2.1 ||| (dayH R C k2).2))) c 1 (nI 0)) := fr_sI (fr_sI (fr_trans hF2 (fr_trans (fr_mono hf3 (fun a _ q => by rcases q with q | q; exact .inl q; exact .inr (.inl q))) (fr_trans (fr_mono hf4 (fun a _ q => .inr (.inl ⟨by omega, by omega⟩))) (fr_mono hf5 (fun a _ q => .inr (.inr q)))))) (.inr (.inr ⟨by omega, by omega⟩))) (.inr (.inr ⟨by omega, by omega⟩))
      have t : ∀ j, gI v7 35 j = gI v5 35 j := fun j => by
        rw [fr_crt hf7 (by omega), gI_ne (by omega), gI_ne (by omega)]
      refine ok_some ⟨fr_trans hF6 (fr_mono hf7 (fun a _ q => .inr (.inr q))), .inr ⟨hd, ?_, hk7, ?_, ?_, ?_⟩⟩
      · show gI v7 35 3 = _
        rw [t, h53]
      · show gI v7 35 2 = _
        rw [t, fr_crt hf5 (by omega), fr_I hf4 (by omega)]; exact hn3
      · show gI v7 35 3 = _
        rw [t, h53]
      · show gI v7 35 4 = _
        rw [t, fr_crt hf5 (by omega), h44, ← hlam]
        rfl
