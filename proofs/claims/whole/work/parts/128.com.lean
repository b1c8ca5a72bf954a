/-! coming: rows of those who come, by numbers -/
def pc (h : Nat) : Nat := ((List.range 6).filter (fun i => h.testBit i)).length
theorem pc_bits : ∀ h : Fin 64, f_J6_bitCount_0f7a4 (nI h.1) = nI (pc h.1) := by decide +kernel
theorem pc_m {h : Nat} (hh : h < 64) : f_X11_bits (nI h) = some (nI (pc h)) := by rw [bits_n ⟨h, hh⟩, pc_bits ⟨h, hh⟩]
theorem pc_or : ∀ h d : Fin 64, pc (h.1 ||| d.1) ≤ pc h.1 + pc d.1 := by decide +kernel
theorem pc_sub : ∀ s : Fin 64, ∀ p : Fin 6, s.1.testBit p.1 = true → pc (s.1 &&& (63 - 2 ^ p.1)) + 1 = pc s.1 ∧ s.1 &&& (63 - 2 ^ p.1) < 64 := by decide +kernel
theorem pc_sub2 : ∀ s : Fin 64, ∀ p i : Fin 6, (s.1 &&& (63 - 2 ^ p.1)).testBit i.1 = (s.1.testBit i.1 && decide (i.1 ≠ p.1)) := by decide +kernel
theorem pc_le (h : Nat) : pc h ≤ 6 := by
  unfold pc
  have := List.length_filter_le (fun i => h.testBit i) (List.range 6)
  simpa using this
theorem pc_z : ∀ s : Fin 64, (s.1 = 0 ↔ pc s.1 = 0) := by decide +kernel
/-- bits of those of whom it is so -/
def fB (f : Nat → Bool) (n : Nat) : Nat := (List.range n).foldl (fun b p => if f p then b ||| 2 ^ p else b) 0
theorem fB_succ (f : Nat → Bool) (n : Nat) : fB f (n + 1) = if f n then fB f n ||| 2 ^ n else fB f n := by simp [fB, List.range_succ, List.foldl_append]
theorem fB_lt (f : Nat → Bool) (n : Nat) (h : n ≤ 6) : fB f n < 64 := by
  induction n with
  | zero => simp [fB]
  | succ n ih =>
    rw [fB_succ]
    have h1 := ih (by omega)
    have h2 := lt_two (p := n) (by omega)
    by_cases q : f n = true
    · rw [if_pos q]; exact or_lt h1 h2
    · rw [if_neg q]; exact h1
theorem fB_test (f : Nat → Bool) (n i : Nat) : (fB f n).testBit i = (decide (i < n) && f i) := by
  induction n with
  | zero => simp [fB]
  | succ n ih =>
    rw [fB_succ]
    by_cases q : f n = true
    · rw [if_pos q, Nat.testBit_or, ih, Nat.testBit_two_pow]
      by_cases z : n = i
      · subst z; simp [q]
      · have : decide (i < n + 1) = decide (i < n) := by
          apply decide_eq_decide.mpr; omega
        simp [z, this]
    · rw [if_neg q, ih]
      by_cases z : i = n
      · subst z; simp [q]
      · have : decide (i < n + 1) = decide (i < n) := by
          apply decide_eq_decide.mpr; omega
        rw [this]
theorem fB_lt2 (f : Nat → Bool) (n : Nat) : fB f n < 2 ^ n := by
  induction n with
  | zero => simp [fB]
  | succ n ih =>
    rw [fB_succ]
    have h1 : 2 ^ n < 2 ^ (n + 1) := Nat.pow_lt_pow_right (by omega) (by omega)
    by_cases q : f n = true
    · rw [if_pos q]; exact Nat.or_lt_two_pow (by omega) h1
    · rw [if_neg q]; omega
/-- all rows of a set, the first by numbers first -/
def prm (n : Nat) : Nat → Nat → List (List Nat)
  | 0, _ => [[]]
  | F + 1, s => if s = 0 then [[]] else (List.range n).flatMap (fun p => if s.testBit p then (prm n F (s &&& (63 - 2 ^ p))).map (fun r => p :: r) else [])
/-- the next row by numbers -/
def tnR (r : Nat → Nat) : Nat → Nat
  | 0 => 0
  | m + 1 => if r m ≤ r (m + 1) then m + 1 else tnR r m
def lgR (r : Nat → Nat) (t : Nat) : Nat → Nat
  | 0 => 0
  | m + 1 => if m + 1 ≤ t then m + 1 else if r t ≤ r (m + 1) then m + 1 else lgR r t m
def swR (r : Nat → Nat) (i j : Nat) : Nat → Nat := fun x => if x = j then r i else if x = i then r j else r x
def rvR : Nat → (Nat → Nat) → Nat → Nat → (Nat → Nat)
  | 0, r, _, _ => r
  | F + 1, r, f, t => if f < t then rvR F (swR r f t) (f + 1) (t - 1) else r
def nxF (r : Nat → Nat) (n : Nat) : Option (Nat → Nat) := if n ≤ 1 then none else if tnR r (n - 1) = 0 then none else some (rvR 5 (swR r (tnR r (n - 1) - 1) (lgR r (tnR r (n - 1) - 1) (n - 1))) (tnR r (n - 1)) (n - 1))
def rwF (l : List Nat) : Nat → Nat := fun i => l[i]?.getD 0
def nxL (l : List Nat) : Option (List Nat) := (nxF (rwF l) l.length).map (fun r => (List.range l.length).map r)
def chn : List (List Nat) → Bool
  | [] => true
  | a :: t => decide (nxL a = t.head?) && chn t
theorem chn_at : ∀ (P : List (List Nat)), chn P = true → ∀ (i : Nat) (a : List Nat), P[i]? = some a → nxL a = P[i + 1]? := by
  intro P
  induction P with
  | nil => intro _ i a h; simp at h
  | cons b t ih =>
    intro h i a ha
    simp only [chn, Bool.and_eq_true, decide_eq_true_eq] at h
    cases i with
    | zero =>
      simp only [List.getElem?_cons_zero, Option.some.injEq] at ha
      rw [← ha, h.1, List.getElem?_cons_succ, List.head?_eq_getElem?]
    | succ i =>
      rw [List.getElem?_cons_succ] at ha ⊢
      exact ih h.2 i a ha
def chk (n s : Nat) : Bool := decide ((prm n 8 s).length ≤ 720) && decide ((prm n 8 s).head? = some ((List.range 6).filter (fun p => s.testBit p))) && chn (prm n 8 s) && (prm n 8 s).all (fun r => decide (r.length = pc s) && decide r.Nodup && r.all (fun p => s.testBit p))
theorem chk_all : ∀ n : Fin 7, ∀ s : Fin 64, s.1 < 2 ^ n.1 → chk n.1 s.1 = true := by decide +kernel
theorem chk_ok {n s : Nat} (hn : n ≤ 6) (hs : s < 2 ^ n) : (prm n 8 s).length ≤ 720 ∧ (prm n 8 s)[0]? = some ((List.range 6).filter (fun p => s.testBit p)) ∧ (∀ i a, (prm n 8 s)[i]? = some a → nxL a = (prm n 8 s)[i + 1]?) ∧ ∀ r ∈ prm n 8 s, r.length = pc s ∧ r.Nodup ∧ ∀ p ∈ r, s.testBit p = true := by
  have h64 : s < 64 := Nat.lt_of_lt_of_le hs (Nat.pow_le_pow_right (n := 2) (by omega) hn)
  have h := chk_all ⟨n, by omega⟩ ⟨s, h64⟩ hs
  simp only [chk, Bool.and_eq_true, decide_eq_true_eq, List.all_eq_true] at h
  obtain ⟨⟨⟨h1, h2⟩, h3⟩, h4⟩ := h
  refine ⟨h1, ?_, chn_at _ h3, fun r hr => ⟨(h4 r hr).1.1, (h4 r hr).1.2, (h4 r hr).2⟩⟩
  rw [← List.head?_eq_getElem?]; exact h2
/-! the class's next row -/
def rowF (u : gm_M) (r : Nat → Nat) (n : Nat) : Prop := ∀ i, i < n → gI u 44 i = nI (r i)
def f44 : Nat → Nat → Prop := fun a _ => a = 44
theorem rowF_sw {u : gm_M} {r : Nat → Nat} {n i j : Nat} (h : rowF u r n) (hi : i < n) (hj : j < n) (hn : n ≤ 6) : ok (f_X10_swapInRow (nI i) (nI j) u) (fun v => rowF v (swR r i j) n ∧ fr f44 u v) := by
  simp (disch := omega) only [f_X10_swapInRow, gm_let, litI, ib_nI, ix_nI, nI_leI, nI_ltI, nI_eq, nI_add, nI_sub, nI_mul, nI_div, nI_rem, nI_m1, nI_eqm, nI_gem, nI_ltm, nI_mlt, nI_lem, Option.bind_some, Option.bind_none, if_pos, if_neg]
  refine ok_some ⟨fun x hx => ?_, fr_sI (fr_sI (fr_refl _ _) rfl) rfl⟩
  unfold swR
  by_cases q : x = j
  · rw [if_pos q, gI_eq rfl q, h i hi]
  · rw [if_neg q, gI_ne (by omega)]
    by_cases q2 : x = i
    · rw [if_pos q2, gI_eq rfl q2, h j hj]
    · rw [if_neg q2, gI_ne (by omega)]
      exact h x hx
theorem sw_lt {r : Nat → Nat} {i j : Nat} (h : ∀ x, r x < 6) : ∀ x, swR r i j x < 6 := by
  intro x
  unfold swR
  split
  · exact h _
  · split <;> exact h _
theorem rv_ok {n : Nat} (hn : n ≤ 6) (a1 : Int32) : ∀ (F G : Nat) (u : gm_M) (r : Nat → Nat) (f t : Nat), t ≤ f + F → t < n → f ≤ 6 → rowF u r n → ok (gm_lp (b_X10_nextRow_94 a1) (F + 1 + G) (nI f, nI t, u)) (fun v => rowF v (rvR F r f t) n ∧ fr f44 u v) := by
  intro F
  induction F with
  | zero =>
    intro G u r f t h1 h2 h6 h3
    rw [show 0 + 1 + G = G + 1 by omega]
    simp (disch := omega) only [gm_lp, b_X10_nextRow_94, nI_leI, if_pos, Option.bind_some]
    exact ok_some ⟨h3, fr_refl _ _⟩
  | succ F ih =>
    intro G u r f t h1 h2 h6 h3
    rw [show F + 1 + 1 + G = (F + 1 + G) + 1 by omega]
    by_cases q : f < t
    · have hr : rvR (F + 1) r f t = rvR F (swR r f t) (f + 1) (t - 1) := by simp only [rvR, if_pos q]
      rw [hr]
      obtain ⟨v, ev, v1, v2⟩ := rowF_sw h3 (i := f) (j := t) (by omega) h2 hn
      have eb : b_X10_nextRow_94 a1 (nI f, nI t, u) = some (.inl (nI (f + 1), nI (t - 1), v)) := by
        simp (disch := omega) only [b_X10_nextRow_94, nI_leI, if_neg, ev, Option.bind_some, litI, nI_add, nI_m1]
      simp only [gm_lp, eb, Option.bind_some]
      refine ok_mono (ih G v (swR r f t) (f + 1) (t - 1) (by omega) (by omega) (by omega) v1) ?_
      rintro w ⟨w1, w2⟩
      exact ⟨w1, fr_trans v2 w2⟩
    · have hr : rvR (F + 1) r f t = r := by simp only [rvR, if_neg q]
      rw [hr]
      simp (disch := omega) only [gm_lp, b_X10_nextRow_94, nI_leI, if_pos, Option.bind_some]
      exact ok_some ⟨h3, fr_refl _ _⟩
theorem tnR_le (r : Nat → Nat) : ∀ m, tnR r m ≤ m := by
  intro m
  induction m with
  | zero => exact Nat.le_refl _
  | succ m ih =>
    simp only [tnR]
    split
    · exact Nat.le_refl _
    · omega
theorem lgR_le (r : Nat → Nat) (t : Nat) : ∀ m, lgR r t m ≤ m := by
  intro m
  induction m with
  | zero => exact Nat.le_refl _
  | succ m ih =>
    simp only [lgR]
    split
    · exact Nat.le_refl _
    · split
      · exact Nat.le_refl _
      · omega
theorem c_nextRow {u : gm_M} {r : Nat → Nat} {n : Nat} (h : rowF u r n) (hn : n ≤ 6) (hr : ∀ x, r x < 6) :
    ok (f_X10_nextRow (nI n) u) (fun o => fr f44 u o.2 ∧ ((nxF r n = none ∧ o.1 = nI 0) ∨ ∃ r', nxF r n = some r' ∧ o.1 = nI 1 ∧ rowF o.2 r' n)) := by
  unfold f_X10_nextRow
  rw [if_pos (show nI n ≤ (6 : Int32) from (nI_leI (b := 6) (by omega) (by omega)).mpr hn), gm_letE]
  by_cases n1 : n ≤ 1
  · have e : nxF r n = none := by unfold nxF; rw [if_pos n1]
    have hb : ∃ x : Int32, nI n - (2 : Int32) = x ∧ x < 0 := by
      rcases (by omega : n = 0 ∨ n = 1) with rfl | rfl
      · exact ⟨_, rfl, by decide⟩
      · exact ⟨_, rfl, by decide⟩
    obtain ⟨x, ex, hx⟩ := hb
    rw [ex]
    have l1 : gm_lp (b_X10_nextRow_15 (nI n) u) gm_FU x = some x := by
      have := lp_for (b := b_X10_nextRow_15 (nI n) u) 0 (fun _ => x) x (by omega) (fun k hk => absurd hk (by omega)) (by simp only [b_X10_nextRow_15, if_pos hx])
      exact this
    rw [l1]
    simp only [Option.bind_some, j_X10_nextRow_42]
    rw [if_neg (by rw [Int32.le_iff_toInt_le]; rw [Int32.lt_iff_toInt_lt] at hx; omega)]
    exact ok_some ⟨fr_refl _ _, .inl ⟨e, rfl⟩⟩
  · obtain ⟨z, rfl⟩ : ∃ z, n = z + 2 := ⟨n - 2, by omega⟩
    have e2 : nI (z + 2) - (2 : Int32) = nI z := by rw [show (2 : Int32) = nI 2 from rfl, nI_sub (by omega)]; congr 1
    rw [e2]
    have hl : ok (gm_lp (b_X10_nextRow_15 (nI (z + 2)) u) gm_FU (nI z)) (fun o => (tnR r (z + 1) = 0 ∧ o = -nI 1) ∨ ∃ t, tnR r (z + 1) = t + 1 ∧ t ≤ z ∧ o = nI t) := by
      refine lp_ok (z + 1) (fun k x => tnR r (z + 1) = tnR r (z + 1 - k) ∧ ((k = z + 1 ∧ x = -nI 1) ∨ (k ≤ z ∧ x = nI (z - k)))) (by omega) ⟨rfl, .inr ⟨by omega, rfl⟩⟩ ?_ ?_
      · rintro k x hk ⟨h1, h2⟩
        rcases h2 with ⟨h2, -⟩ | ⟨h2, rfl⟩
        · omega
        · obtain ⟨m, hm⟩ : ∃ m, z - k = m := ⟨_, rfl⟩
          have hm2 : z + 1 - k = m + 1 := by omega
          rw [hm2] at h1
          rw [hm]
          simp (disch := omega) only [b_X10_nextRow_15, gm_let, litI, ib_nI, ix_nI, nI_leI, nI_ltI, nI_eq, nI_add, nI_sub, nI_mul, nI_div, nI_rem, nI_m1, nI_eqm, nI_gem, nI_ltm, nI_mlt, nI_lem, Option.bind_some, Option.bind_none, if_pos, if_neg, h m (by omega), h (m + 1) (by omega)]
          have b1 := hr m
          have b2 := hr (m + 1)
          by_cases q : r m ≤ r (m + 1)
          · rw [if_pos ((nI_leI (by omega) (by omega)).mpr q)]
            refine ok_some (.inr ⟨m, ?_, by omega, rfl⟩)
            rw [h1]; simp only [tnR, if_pos q]
          · rw [if_neg (fun w => q ((nI_leI (by omega) (by omega)).mp w))]
            refine ok_some ⟨?_, ?_⟩
            · rw [h1, show z + 1 - (k + 1) = m by omega]; simp only [tnR, if_neg q]
            · rcases Nat.eq_zero_or_pos m with w | w
              · subst w
                exact .inl ⟨by omega, by decide⟩
              · exact .inr ⟨by omega, by rw [nI_m1 w]; congr 1; omega⟩
      · rintro x ⟨h1, h2⟩
        rcases h2 with ⟨-, rfl⟩ | ⟨h2, -⟩
        · simp only [b_X10_nextRow_15]
          rw [if_pos (by decide)]
          refine ok_some (.inl ⟨?_, rfl⟩)
          rw [h1, Nat.sub_self]; rfl
        · omega
    refine ok_bind hl ?_
    rintro o (⟨t0, rfl⟩ | ⟨t, ht, htz, rfl⟩)
    · have e : nxF r (z + 2) = none := by
        unfold nxF; rw [if_neg (by omega), show z + 2 - 1 = z + 1 by omega, if_pos t0]
      simp only [j_X10_nextRow_42]
      rw [if_neg (by decide)]
      exact ok_some ⟨fr_refl _ _, .inl ⟨e, rfl⟩⟩
    · have e : nxF r (z + 2) = some (rvR 5 (swR r t (lgR r t (z + 1))) (t + 1) (z + 1)) := by
        unfold nxF
        rw [if_neg (by omega), show z + 2 - 1 = z + 1 by omega, if_neg (by omega), ht, Nat.add_sub_cancel]
      have e1 : nI (z + 2) - (1 : Int32) = nI (z + 1) := by rw [show (1 : Int32) = nI 1 from rfl, nI_sub (by omega)]; congr 1
      simp only [j_X10_nextRow_42, gm_letE]
      rw [if_pos (nI_pos' (by omega)), e1]
      have hg : ok (gm_lp (b_X10_nextRow_52 (nI (z + 2)) (nI t) u) gm_FU (nI (z + 1))) (fun o => o = nI (lgR r t (z + 1))) := by
        refine lp_ok (z + 1) (fun k x => lgR r t (z + 1) = lgR r t (z + 1 - k) ∧ x = nI (z + 1 - k)) (by omega) ⟨rfl, rfl⟩ ?_ ?_
        · rintro k x hk ⟨h1, rfl⟩
          obtain ⟨m, hm⟩ : ∃ m, z + 1 - k = m + 1 := ⟨z - k, by omega⟩
          rw [hm] at h1 ⊢
          have b1 := hr t
          have b2 := hr (m + 1)
          by_cases q : m + 1 ≤ t
          · simp (disch := omega) only [b_X10_nextRow_52, nI_leI, if_pos]
            refine ok_some ?_
            show nI (m + 1) = _
            rw [h1]; simp only [lgR, if_pos q]
          · simp (disch := omega) only [b_X10_nextRow_52, nI_leI, if_neg, ib_nI, ix_nI, if_pos, h t (by omega), h (m + 1) (by omega)]
            by_cases q2 : r t ≤ r (m + 1)
            · rw [if_pos q2]
              refine ok_some ?_
              show nI (m + 1) = _
              rw [h1]; simp only [lgR, if_neg q, if_pos q2]
            · rw [if_neg q2]
              refine ok_some ⟨?_, ?_⟩
              · rw [h1, show z + 1 - (k + 1) = m by omega]; simp only [lgR, if_neg q, if_neg q2]
              · show nI (m + 1) + -1 = _
                rw [show (-1 : Int32) = -nI 1 from rfl, nI_m1 (by omega)]; congr 1; omega
        · rintro x ⟨h1, rfl⟩
          rw [Nat.sub_self] at h1 ⊢
          simp (disch := omega) only [b_X10_nextRow_52, nI_leI, if_pos]
          refine ok_some ?_
          show nI 0 = _
          rw [h1]; rfl
      refine ok_bind hg ?_
      rintro o rfl
      have hle := lgR_le r t (z + 1)
      simp only [j_X10_nextRow_78, gm_letE, e1]
      refine ok_bind (rowF_sw h (i := t) (j := lgR r t (z + 1)) (by omega) (by omega) hn) ?_
      rintro v ⟨v1, v2⟩
      have rv := rv_ok hn (nI (z + 2)) 5 99994 v (swR r t (lgR r t (z + 1))) (t + 1) (z + 1) (by omega) (by omega) (by omega) v1
      rw [show (5 + 1 + 99994 : Nat) = gm_FU from rfl] at rv
      rw [show nI t + (1 : Int32) = nI (t + 1) from nI_add t 1]
      refine ok_bind rv ?_
      rintro w ⟨w1, w2⟩
      exact ok_some ⟨fr_trans v2 w2, .inr ⟨_, e, rfl, w1⟩⟩
