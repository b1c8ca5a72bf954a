/-! a realm: people (name, kind, born, plea), year, candle, lives, the law as a function of stood, asks, age, days -/
abbrev pP : Type := List Nat × Nat × Nat × Nat
abbrev pEv : Type := Int32 → Int32 → Int32 → Int32 → Int32
abbrev pR : Type := List pP × Nat × Nat × Nat × pEv
def rN (R : pR) : Nat := R.1.length
def ps (R : pR) (p : Nat) : pP := R.1[p]?.getD ([], 0, 0, 0)
def rKind (R : pR) (p : Nat) : Nat := (ps R p).2.1
def rBorn (R : pR) (p : Nat) : Nat := (ps R p).2.2.1
def rPlea (R : pR) (p : Nat) : Nat := (ps R p).2.2.2
def rYear (R : pR) : Nat := R.2.1
def rCandle (R : pR) : Nat := R.2.2.1
def rLives (R : pR) : Nat := R.2.2.2.1
def rEv (R : pR) : pEv := R.2.2.2.2
def gR1 (R : pR) : Prop := rN R ≤ 6 ∧ (1 ≤ rYear R ∧ rYear R ≤ 3000) ∧ (1 ≤ rCandle R ∧ rCandle R ≤ 40) ∧ (1 ≤ rLives R ∧ rLives R ≤ 120) ∧ ∀ p, p < rN R → rKind R p ≤ 3 ∧ (1 ≤ rBorn R p ∧ rBorn R p ≤ 3000) ∧ (1 ≤ rPlea R p ∧ rPlea R p ≤ 20)
/-- the class's law at cell a is worth ev -/
def lawC (u : gm_M) (a : Nat) (ev : pEv) : Prop := ∀ v, gI v a 1 = gI u a 1 → (∀ i, gI v (a + 1) i = gI u (a + 1) i) → ∀ s p g d, ok (f_X3_worth a s p g d v) (fun o => o.1 = ev s p g d ∧ fr (fun b _ => b = a + 2) v o.2)
/-- a name's number: five bits a letter (the class), to the base 27 (the reference) -/
def nmC (w : List Nat) : Int64 := w.foldl (fun n c => n * 32 + Int64.ofNat c) 0
def nmM (w : List Nat) : Int64 := w.foldl (fun n c => n * 27 + Int64.ofNat c) 0
def rC (u : gm_M) (r : Nat) (R : pR) : Prop := (gI u r 0 = nI (rN R) ∧ gI u r 5 = nI (rYear R) ∧ gI u r 6 = nI (rCandle R) ∧ gI u r 7 = nI (rLives R)) ∧
  (∀ p, p < rN R → gJ u (r + 1) p = nmC (ps R p).1 ∧ gI u (r + 2) p = nI (rKind R p) ∧ gI u (r + 3) p = nI (rBorn R p) ∧ gI u (r + 4) p = nI (rPlea R p)) ∧ lawC u (r + 5) (rEv R)
theorem rC_fr {P : Nat → Nat → Prop} {u v : gm_M} {r : Nat} {R : pR} (h : rC u r R) (f : fr P u v) (hp : ∀ a j, r ≤ a → a ≤ r + 6 → ¬ P a j) : rC v r R := by
  obtain ⟨⟨h0, h1, h2, h3⟩, h4, h5⟩ := h
  refine ⟨⟨(fr_I f (hp r 0 (by omega) (by omega))).trans h0, (fr_I f (hp r 5 (by omega) (by omega))).trans h1, (fr_I f (hp r 6 (by omega) (by omega))).trans h2, (fr_I f (hp r 7 (by omega) (by omega))).trans h3⟩, fun p hpp => ?_, fun w hw1 hw2 => h5 w (hw1.trans (fr_I f (hp _ _ (by omega) (by omega)))) (fun i => (hw2 i).trans (fr_I f (hp _ _ (by omega) (by omega))))⟩
  obtain ⟨a1, a2, a3, a4⟩ := h4 p hpp
  exact ⟨(fr_J f (hp _ _ (by omega) (by omega))).trans a1, (fr_I f (hp _ _ (by omega) (by omega))).trans a2, (fr_I f (hp _ _ (by omega) (by omega))).trans a3, (fr_I f (hp _ _ (by omega) (by omega))).trans a4⟩
/-- DEAD in the year y -/
def dead (R : pR) (y p : Nat) : Bool := rKind R p != 2 && decide (rBorn R p + rLives R ≤ y)
def isP (R : pR) (a : Int32) : Prop := ∃ p, p < rN R ∧ a = nI p
theorem c_isPerson {u : gm_M} {r : Nat} {R : pR} (h : rC u r R) (hn : rN R ≤ 6) (a : Int32) : (∃ p, p < rN R ∧ a = nI p ∧ f_X5_isPerson r a u = nI 1) ∨ ((∀ p, p < rN R → nI p ≠ a) ∧ f_X5_isPerson r a u = nI 0) := by
  obtain ⟨⟨h0, -⟩, -⟩ := h
  rcases nI_cases a (rN R) (by omega) with ⟨p, hp, rfl⟩ | hneg | ⟨p, hp, hp2, rfl⟩
  · refine .inl ⟨p, hp, rfl, ?_⟩
    simp (disch := omega) only [f_X5_isPerson, gm_let, litI, ib_nI, ix_nI, nI_leI, nI_ltI, nI_eq, nI_add, nI_sub, nI_mul, nI_div, nI_rem, nI_m1, nI_eqm, nI_gem, nI_ltm, nI_mlt, nI_lem, Option.bind_some, Option.bind_none, h0, if_pos, if_neg]
  · refine .inr ⟨fun p hp => neg_ne hneg (by omega), ?_⟩
    exact if_pos hneg
  · refine .inr ⟨fun q hq e => by rw [nI_eq (by omega) (by omega)] at e; omega, ?_⟩
    simp (disch := omega) only [f_X5_isPerson, gm_let, litI, ib_nI, ix_nI, nI_leI, nI_ltI, nI_eq, nI_add, nI_sub, nI_mul, nI_div, nI_rem, nI_m1, nI_eqm, nI_gem, nI_ltm, nI_mlt, nI_lem, Option.bind_some, Option.bind_none, h0, if_pos, if_neg]
theorem c_kindOf {u : gm_M} {r p : Nat} {R : pR} (h : rC u r R) (hn : rN R ≤ 6) (hp : p < rN R) : f_X5_kindOf r (nI p) u = some (nI (rKind R p)) := by
  have h1 := (h.2.1 p hp).2.1
  simp (disch := omega) only [f_X5_kindOf, gm_let, litI, ib_nI, ix_nI, nI_leI, nI_ltI, nI_eq, nI_add, nI_sub, nI_mul, nI_div, nI_rem, nI_m1, nI_eqm, nI_gem, nI_ltm, nI_mlt, nI_lem, Option.bind_some, Option.bind_none, h1, if_pos, if_neg]
theorem c_bornOf {u : gm_M} {r p : Nat} {R : pR} (h : rC u r R) (hn : rN R ≤ 6) (hp : p < rN R) : f_X5_bornOf r (nI p) u = some (nI (rBorn R p)) := by
  have h1 := (h.2.1 p hp).2.2.1
  simp (disch := omega) only [f_X5_bornOf, gm_let, litI, ib_nI, ix_nI, nI_leI, nI_ltI, nI_eq, nI_add, nI_sub, nI_mul, nI_div, nI_rem, nI_m1, nI_eqm, nI_gem, nI_ltm, nI_mlt, nI_lem, Option.bind_some, Option.bind_none, h1, if_pos, if_neg]
theorem c_pleaOf {u : gm_M} {r p : Nat} {R : pR} (h : rC u r R) (hn : rN R ≤ 6) (hp : p < rN R) : f_X5_pleaOf r (nI p) u = some (nI (rPlea R p)) := by
  have h1 := (h.2.1 p hp).2.2.2
  simp (disch := omega) only [f_X5_pleaOf, gm_let, litI, ib_nI, ix_nI, nI_leI, nI_ltI, nI_eq, nI_add, nI_sub, nI_mul, nI_div, nI_rem, nI_m1, nI_eqm, nI_gem, nI_ltm, nI_mlt, nI_lem, Option.bind_some, Option.bind_none, h1, if_pos, if_neg]
theorem nI_subi {a b : Nat} (ha : a < 2 ^ 30) (hb : b < 2 ^ 30) : (nI a - nI b).toInt = (a : Int) - b := by
  rw [Int32.toInt_sub, nI_toInt (by omega), nI_toInt (by omega)]
  exact Int.bmod_eq_of_le (by omega) (by omega)
theorem nI_sublt {a b c : Nat} (ha : a < 2 ^ 30) (hb : b < 2 ^ 30) (hc : c < 2 ^ 30) : (nI a - nI b < nI c) ↔ a < b + c := by
  rw [Int32.lt_iff_toInt_lt, nI_subi ha hb, nI_toInt (by omega)]; omega
theorem c_isDead {u : gm_M} {r p y : Nat} {R : pR} (h : rC u r R) (hg : gR1 R) (hp : p < rN R) (hy : y < 2 ^ 30) : f_X5_isDead r (nI p) (nI y) u = some (nI (dead R y p).toNat) := by
  obtain ⟨g1, g2, g3, g4, g5⟩ := hg
  obtain ⟨k1, k2, k3⟩ := g5 p hp
  have h7 := h.1.2.2.2
  simp only [f_X5_isDead, c_kindOf h g1 hp, c_bornOf h g1 hp, Option.bind_some, h7, litI, nI_sublt hy (show rBorn R p < 2 ^ 30 by omega) (show rLives R < 2 ^ 30 by omega)]
  by_cases q : rKind R p = 2
  · rw [if_pos (by rw [q])]
    simp [dead, q]
  · rw [if_neg (by rw [nI_eq (by omega) (by omega)]; exact q)]
    have q' : (rKind R p != 2) = true := by simpa using q
    by_cases z : y < rBorn R p + rLives R
    · rw [if_pos z]
      simp [dead, q', Nat.not_le.mpr z]
    · rw [if_neg z]
      simp [dead, q', Nat.le_of_not_lt z]
def dB (R : pR) (y n : Nat) : Nat := (List.range n).foldl (fun b p => if dead R y p then b ||| 2 ^ p else b) 0
theorem dB_succ (R : pR) (y n : Nat) : dB R y (n + 1) = if dead R y n then dB R y n ||| 2 ^ n else dB R y n := by simp [dB, List.range_succ, List.foldl_append]
theorem dB_lt (R : pR) (y n : Nat) (h : n ≤ 6) : dB R y n < 64 := by
  induction n with
  | zero => simp [dB]
  | succ n ih =>
    rw [dB_succ]
    have h1 := ih (by omega)
    have h2 := lt_two (p := n) (by omega)
    by_cases q : dead R y n = true
    · rw [if_pos q]; exact or_lt h1 h2
    · rw [if_neg q]; exact h1
theorem dB_test (R : pR) (y n i : Nat) : (dB R y n).testBit i = (decide (i < n) && dead R y i) := by
  induction n with
  | zero => simp [dB]
  | succ n ih =>
    rw [dB_succ]
    by_cases q : dead R y n = true
    · rw [if_pos q, Nat.testBit_or, ih, Nat.testBit_two_pow]
      by_cases z : n = i
      · subst z; simp [q]
      · have : decide (i < n + 1) = decide (i < n) := by
          apply decide_eq_decide.mpr; omega
        simp [z, this]
    · rw [if_neg q, ih]
      by_cases z : i = n
      · subst z; simp [q]
      · have : decide (i < n + 1) = decide (i < n) := by
          apply decide_eq_decide.mpr; omega
        rw [this]
theorem c_deadBits {u : gm_M} {r y : Nat} {R : pR} (h : rC u r R) (hg : gR1 R) (hy : y < 2 ^ 30) : f_X5_deadBits r (nI y) u = some (nI (dB R y (rN R))) := by
  have g1 := hg.1
  have h0 := h.1.1
  have g : gm_lp (b_X5_deadBits_4 r (nI y) u) gm_FU ((fun j => (nI (dB R y j), nI j)) 0) = some (nI (dB R y (rN R))) := by
    refine lp_for (rN R) (fun j => (nI (dB R y j), nI j)) _ (by omega) (fun j hj => ?_) ?_
    · have b1 := dB_lt R y j (by omega)
      have b2 := lt_two (p := j) (by omega)
      simp (disch := omega) only [b_X5_deadBits_4, gm_let, litI, ib_nI, ix_nI, nI_leI, nI_ltI, nI_eq, nI_add, nI_sub, nI_mul, nI_div, nI_rem, nI_m1, nI_eqm, nI_gem, nI_ltm, nI_mlt, nI_lem, Option.bind_some, Option.bind_none, h0, if_pos, if_neg, c_isDead h hg hj hy, nI_one, nI_or, dB_succ]
      cases q : dead R y j
      · simp only [Bool.toNat_false, if_false, Bool.false_eq_true]
        rw [if_pos (by decide)]
      · simp only [Bool.toNat_true, if_true]
        rw [if_neg (by decide)]
    · simp (disch := omega) only [b_X5_deadBits_4, gm_let, litI, ib_nI, ix_nI, nI_leI, nI_ltI, nI_eq, nI_add, nI_sub, nI_mul, nI_div, nI_rem, nI_m1, nI_eqm, nI_gem, nI_ltm, nI_mlt, nI_lem, Option.bind_some, Option.bind_none, h0, if_pos, if_neg]
  simp only [f_X5_deadBits]
  have g2 : ((0 : Int32), (0 : Int32)) = (fun j => (nI (dB R y j), nI j)) 0 := by simp [dB]; rfl
  rw [g2, g]
  rfl
theorem c_isQueued {u : gm_M} {c : Nat} {k : pK} (h : kC u c k) (hq : gQ k.2.2.2) (a : Int32) : ok (f_X1_isQueued c a u) (fun r => (∃ (i : Nat) (e : pQ), k.2.2.2[i]? = some e ∧ nI e.1 = a ∧ r = nI 1) ∨ ((∀ e ∈ k.2.2.2, nI e.1 ≠ a) ∧ r = nI 0)) := by
  have hl := gQ_len hq
  simp only [f_X1_isQueued]
  refine ok_bind (c_placeOf h hq a) ?_
  rintro o (⟨i, e, he, q, rfl⟩ | ⟨q, rfl⟩)
  · have z := (List.getElem?_eq_some_iff.mp he).1
    simp (disch := omega) only [gm_let, litI, ib_nI, ix_nI, nI_leI, nI_ltI, nI_eq, nI_add, nI_sub, nI_mul, nI_div, nI_rem, nI_m1, nI_eqm, nI_gem, nI_ltm, nI_mlt, nI_lem, Option.bind_some, Option.bind_none, if_false, if_neg, not_false_eq_true]
    exact ok_some (.inl ⟨i, e, he, q, rfl⟩)
  · rw [if_pos (by decide)]
    exact ok_some (.inr ⟨q, rfl⟩)
/-- who can COME -/
def canE (R : pR) (k : pK) (p : Nat) : Bool := k.2.2.2.all (fun e => e.1 != p) && !k.2.2.1.testBit p && !dead R k.1 p && decide (rBorn R p ≤ k.1)
theorem c_mayEnter {u : gm_M} {r c : Nat} {R : pR} {k : pK} (h : rC u r R) (hg : gR1 R) (hk : kC u c k) (hq : gQ k.2.2.2) (hy : k.1 < 2 ^ 30) (hh : k.2.2.1 < 64) (a : Int32) :
    ok (f_X1_mayEnter c r a u) (fun o => (∃ p, p < rN R ∧ a = nI p ∧ o = nI (canE R k p).toNat) ∨ ((∀ p, p < rN R → nI p ≠ a) ∧ o = nI 0)) := by
  have g1 := hg.1
  obtain ⟨⟨h0, h1, h2, h3⟩, h4⟩ := id hk
  simp only [f_X1_mayEnter, gm_let]
  rcases c_isPerson h g1 a with ⟨p, hp, rfl, e⟩ | ⟨hp, e⟩
  · rw [e, if_neg (by decide)]
    obtain ⟨k1, k2, k3⟩ := hg.2.2.2.2 p hp
    refine ok_bind (c_isQueued hk hq _) ?_
    rintro o (⟨i, e, he, q, rfl⟩ | ⟨q, rfl⟩)
    · rw [if_neg (by decide)]
      have z : e.1 = p := by
        have := gQ_at hq he
        rwa [nI_eq (by omega) (by omega)] at q
      refine ok_some (.inl ⟨p, hp, rfl, ?_⟩)
      have : k.2.2.2.all (fun e => e.1 != p) = false := by
        rw [List.all_eq_false]
        exact ⟨e, List.mem_of_getElem? he, by simp [z]⟩
      simp [canE, this]; rfl
    · rw [if_pos (by decide)]
      have z : k.2.2.2.all (fun e => e.1 != p) = true := by
        rw [List.all_eq_true]
        intro e he
        have := q e he
        simp only [bne_iff_ne, ne_eq]
        exact fun w => this (by rw [w])
      simp (disch := omega) only [litI, h2, h0, nI_sh, c_isDead h hg hp hy, c_bornOf h g1 hp, Option.bind_some, nI_ltI]
      cases q1 : k.2.2.1.testBit p
      · cases q2 : dead R k.1 p
        · by_cases q3 : k.1 < rBorn R p
          · simp only [Bool.toNat_false, if_true, if_pos q3]
            exact ok_some (.inl ⟨p, hp, rfl, by simp [canE, z, q1, q2, Nat.not_le.mpr q3]⟩)
          · simp only [Bool.toNat_false, if_true, if_neg q3]
            exact ok_some (.inl ⟨p, hp, rfl, by simp [canE, z, q1, q2, Nat.le_of_not_lt q3]⟩)
        · simp only [Bool.toNat_false, if_true, Bool.toNat_true]
          rw [if_neg (by decide)]
          exact ok_some (.inl ⟨p, hp, rfl, by simp [canE, z, q1, q2]⟩)
      · simp only [Bool.toNat_true]
        rw [if_neg (by decide)]
        exact ok_some (.inl ⟨p, hp, rfl, by simp [canE, z, q1]⟩)
  · rw [e, if_pos (by decide)]
    exact ok_some (.inr ⟨hp, rfl⟩)
