/-! reading: the class's steps -/
theorem kE_ok {t : List Nat} {p : Nat} (h : p ≤ t.length) (hs : kS t p ≠ 0) : kE t p ≤ t.length := (kE_le h hs).2.1
theorem c_step {u : gm_M} {t : List Nat} {p : Nat} (h : cuC u t p) (g : gT t) (hp : p ≤ t.length) (hs : kS t p ≠ 0) : ok (f_X9_advance u) (fun v => cuC v t (kE t p) ∧ fr tkP u v) := c_advance h.1 g (h.2.2.2.1 hs) (kE_ok hp hs)
theorem m_step {u : gm_M} {t : List Nat} {p : Nat} (h : cuM u t p) (g : gT t) (hp : p ≤ t.length) (hs : kS t p ≠ 0) : ok (f_X11_nextToken u) (fun v => cuM v t (kE t p) ∧ fr tmP u v) := m_next h.1 g (h.2.2.2.1 hs) (kE_ok hp hs)
theorem sg_S {t : List Nat} {p : Nat} (h : tSg t p ≠ 0) : kS t p ≠ 0 := by
  intro z
  unfold tSg at h
  rw [if_neg (by omega)] at h
  exact h rfl
theorem wd_S {t : List Nat} {p : Nat} (h : tWd t p ≠ 24) : kS t p = 1 := by
  by_cases q : kS t p = 1
  · exact q
  · exact absurd (tWd_0 q) h
/-- the fault of kind k at the token from p on -/
def flt (k : Nat) (t : List Nat) (p : Nat) : Nat := k + 16 * kB t p
theorem flt_b {k p : Nat} {t : List Nat} (hk : 1 ≤ k) (hk2 : k ≤ 5) (hp : p ≤ t.length) (g : gT t) : 1 ≤ flt k t p ∧ flt k t p ≤ 17000 := by
  have := (kB_le hp).2
  have := g.1
  unfold flt
  omega
theorem flt_ne {F : Nat} (h : 1 ≤ F) (h2 : F ≤ 17000) : ¬ nI F = (0 : Int32) := fun z => by
  have := (nI_eq (b := 0) (by omega) (by omega)).mp z
  omega
theorem co_refuse {u : gm_M} {t : List Nat} {p : Nat} (h : cuC u t p) (h0 : gI u 2 1 = 0) (k : Nat) : f_X8_refuse (nI k) u = some (sI u 2 1 (nI (flt k t p))) := by
  unfold f_X8_refuse
  rw [if_pos h0, gm_letE, h.2.1, show (16 : Int32) = nI 16 from rfl, nI_mul, nI_add]
  rfl
theorem cf_refuse {u : gm_M} {x : Int32} (h : ¬ gI u 2 1 = 0) : f_X8_refuse x u = some u := by unfold f_X8_refuse; rw [if_neg h]
theorem cf_take {u : gm_M} {x : Int32} (h : ¬ gI u 2 1 = 0) : f_X8_take x u = some u := by
  have e : j_X8_take_9 x u = some u := by unfold j_X8_take_9; rw [if_neg h]
  unfold f_X8_take
  by_cases q : x = 0
  · rw [if_pos q, cf_refuse h, Option.bind_some]; exact e
  · rw [if_neg q]; exact e
theorem cf_takeSign {u : gm_M} {x : Int32} (h : ¬ gI u 2 1 = 0) : f_X8_takeSign x u = some u := by unfold f_X8_takeSign; rw [gm_letE, cf_take h]; rfl
theorem cf_takeWord {u : gm_M} {x : Int32} (h : ¬ gI u 2 1 = 0) : f_X8_takeWord x u = some u := by unfold f_X8_takeWord; rw [gm_letE, cf_take h]; rfl
theorem cf_takeName {u : gm_M} (h : ¬ gI u 2 1 = 0) : f_X8_takeName u = some (gJ u 3 6, u) := by
  unfold f_X8_takeName
  rw [gm_letE, gm_letE, cf_take h]; rfl
theorem cf_tn46 {u : gm_M} {a b c d : Int32} (h : ¬ gI u 2 1 = 0) : j_X8_takeNumber_46 a b c d u = some (c, u) := by
  unfold j_X8_takeNumber_46
  rw [cf_take h]; rfl
theorem cf_tn41 {u : gm_M} {a b c d : Int32} (h : ¬ gI u 2 1 = 0) : j_X8_takeNumber_41 a b c d u = some (c, u) := by
  unfold j_X8_takeNumber_41
  rw [cf_refuse h]
  simp only [Option.bind_some]
  exact cf_tn46 h
theorem cf_tn24 {u : gm_M} {a b c d : Int32} (h : ¬ gI u 2 1 = 0) : j_X8_takeNumber_24 a b c d u = some (c, u) := by
  unfold j_X8_takeNumber_24
  rw [cf_tn46 h, cf_tn41 h]
  simp
theorem cf_takeNumber {u : gm_M} {a b : Int32} (h : ¬ gI u 2 1 = 0) : f_X8_takeNumber a b u = some (gI u 3 5, u) := by
  unfold f_X8_takeNumber
  rw [gm_letE, cf_tn24 h, cf_tn24 h]
  simp
/-- what it says of a token that must be there: on, or the fault 1 -/
theorem co_take1 {u : gm_M} {t : List Nat} {p : Nat} (h : cuC u t p) (g : gT t) (hp : p ≤ t.length) (h0 : gI u 2 1 = 0) (hs : kS t p ≠ 0) : ok (f_X8_take (nI 1) u) (fun v => cuC v t (kE t p) ∧ fr tkP u v) := by
  unfold f_X8_take
  rw [if1]
  unfold j_X8_take_9
  rw [if_pos h0]
  refine ok_bind (c_step h g hp hs) ?_
  intro v hv
  exact ok_some hv
theorem co_take0 {u : gm_M} {t : List Nat} {p : Nat} (h : cuC u t p) (g : gT t) (hp : p ≤ t.length) (h0 : gI u 2 1 = 0) : f_X8_take (nI 0) u = some (sI u 2 1 (nI (flt 1 t p))) := by
  have hb := flt_b (k := 1) (by omega) (by omega) hp g
  unfold f_X8_take
  have e : f_X8_refuse (1 : Int32) u = some (sI u 2 1 (nI (flt 1 t p))) := co_refuse h h0 1
  rw [if0, e]
  simp only [Option.bind_some]
  unfold j_X8_take_9
  rw [if_neg (by rw [gI_eq rfl rfl]; exact flt_ne hb.1 hb.2)]
theorem co_sign {u : gm_M} {t : List Nat} {p c : Nat} (h : cuC u t p) (g : gT t) (hp : p ≤ t.length) (h0 : gI u 2 1 = 0) (hc : 0 < c) (hc2 : c < 200) :
    (tSg t p = c ∧ ok (f_X8_takeSign (nI c) u) (fun v => cuC v t (kE t p) ∧ fr tkP u v)) ∨ (tSg t p ≠ c ∧ f_X8_takeSign (nI c) u = some (sI u 2 1 (nI (flt 1 t p)))) := by
  unfold f_X8_takeSign
  rw [gm_letE, c_isSignOf h g hc hc2]
  by_cases q : tSg t p = c
  · refine .inl ⟨q, ?_⟩
    rw [decide_eq_true q]
    refine ok_bind (co_take1 h g hp h0 (sg_S (by omega))) ?_
    intro v hv
    exact ok_some hv
  · refine .inr ⟨q, ?_⟩
    rw [decide_eq_false q]
    show (f_X8_take (nI 0) u).bind _ = _
    rw [co_take0 h g hp h0]; rfl
theorem co_word {u : gm_M} {t : List Nat} {p k : Nat} (h : cuC u t p) (g : gT t) (hp : p ≤ t.length) (h0 : gI u 2 1 = 0) (hk : k < 23) :
    (tWd t p = k ∧ ok (f_X8_takeWord (nI k) u) (fun v => cuC v t (kE t p) ∧ fr tkP u v)) ∨ (tWd t p ≠ k ∧ f_X8_takeWord (nI k) u = some (sI u 2 1 (nI (flt 1 t p)))) := by
  unfold f_X8_takeWord
  rw [gm_letE, c_isWord h hk]
  by_cases q : tWd t p = k
  · refine .inl ⟨q, ?_⟩
    rw [decide_eq_true q]
    refine ok_bind (co_take1 h g hp h0 (by have := wd_S (t := t) (p := p) (by omega); omega)) ?_
    intro v hv
    exact ok_some hv
  · refine .inr ⟨q, ?_⟩
    rw [decide_eq_false q]
    show (f_X8_take (nI 0) u).bind _ = _
    rw [co_take0 h g hp h0]; rfl
def nmd (t : List Nat) (p : Nat) : Prop := 19 ≤ tWd t p ∧ tWd t p ≤ 23
theorem co_name {u : gm_M} {t : List Nat} {p : Nat} (h : cuC u t p) (g : gT t) (hp : p ≤ t.length) (h0 : gI u 2 1 = 0) :
    (nmd t p ∧ ok (f_X8_takeName u) (fun o => o.1 = nmC (kW t p) ∧ cuC o.2 t (kE t p) ∧ fr tkP u o.2)) ∨ (¬ nmd t p ∧ f_X8_takeName u = some (gJ u 3 6, sI u 2 1 (nI (flt 1 t p)))) := by
  unfold f_X8_takeName
  rw [gm_letE, gm_letE, c_isName h]
  by_cases q : nmd t p
  · refine .inl ⟨q, ?_⟩
    have h1 : kS t p = 1 := wd_S (by unfold nmd at q; omega)
    rw [decide_eq_true (show 19 ≤ tWd t p ∧ tWd t p ≤ 23 from q)]
    refine ok_bind (co_take1 h g hp h0 (by omega)) ?_
    intro v hv
    exact ok_some ⟨(h.2.2.2.2.1 h1).1, hv⟩
  · refine .inr ⟨q, ?_⟩
    rw [decide_eq_false (show ¬ (19 ≤ tWd t p ∧ tWd t p ≤ 23) from q)]
    show (f_X8_take (nI 0) u).bind _ = _
    rw [co_take0 h g hp h0]; rfl
/-- a number: on; none: the fault 1; not as told: the fault 4 -/
theorem co_number {u : gm_M} {t : List Nat} {p lo hi : Nat} (h : cuC u t p) (g : gT t) (hp : p ≤ t.length) (h0 : gI u 2 1 = 0) (hl : lo < 10000) (hh : hi < 10000) :
    (kS t p = 2 ∧ lo ≤ kV t p ∧ kV t p ≤ hi ∧ ok (f_X8_takeNumber (nI lo) (nI hi) u) (fun o => o.1 = nI (kV t p) ∧ cuC o.2 t (kE t p) ∧ fr tkP u o.2)) ∨
    (kS t p ≠ 2 ∧ f_X8_takeNumber (nI lo) (nI hi) u = some (gI u 3 5, sI u 2 1 (nI (flt 1 t p)))) ∨
    (kS t p = 2 ∧ ¬ (lo ≤ kV t p ∧ kV t p ≤ hi) ∧ f_X8_takeNumber (nI lo) (nI hi) u = some (gI u 3 5, sI u 2 1 (nI (flt 4 t p)))) := by
  have hs := kS_le t p
  unfold f_X8_takeNumber
  rw [gm_letE, h.2.2.1]
  by_cases q : kS t p = 2
  · have hv := kV_2 q
    have hb := flt_b (k := 4) (by omega) (by omega) hp g
    rw [if_pos (show nI (kS t p) = (2 : Int32) from by rw [q]; rfl), h.2.2.2.2.2 (.inl q)]
    unfold j_X8_takeNumber_24
    rw [if_neg (by decide)]
    have e41 : j_X8_takeNumber_41 (nI lo) (nI hi) (nI (kV t p)) 1 u = some (nI (kV t p), sI u 2 1 (nI (flt 4 t p))) := by
      unfold j_X8_takeNumber_41
      have e : f_X8_refuse (4 : Int32) u = some (sI u 2 1 (nI (flt 4 t p))) := co_refuse h h0 4
      rw [e]
      simp only [Option.bind_some]
      exact cf_tn46 (by rw [gI_eq rfl rfl]; exact flt_ne hb.1 hb.2)
    by_cases z1 : kV t p < lo
    · rw [if_pos ((nI_ltI (by omega) (by omega)).mpr z1), e41]
      exact .inr (.inr ⟨q, by omega, rfl⟩)
    · rw [if_neg (fun w => z1 ((nI_ltI (by omega) (by omega)).mp w))]
      by_cases z2 : kV t p ≤ hi
      · rw [if_pos ((nI_leI (by omega) (by omega)).mpr z2)]
        refine .inl ⟨q, by omega, z2, ?_⟩
        unfold j_X8_takeNumber_46
        refine ok_bind (co_take1 h g hp h0 (by omega)) ?_
        intro v hv
        exact ok_some ⟨rfl, hv⟩
      · rw [if_neg (fun w => z2 ((nI_leI (by omega) (by omega)).mp w)), e41]
        exact .inr (.inr ⟨q, by omega, rfl⟩)
  · rw [if_neg (show ¬ nI (kS t p) = (2 : Int32) from fun z => q ((nI_eq (b := 2) (by omega) (by omega)).mp z))]
    refine .inr (.inl ⟨q, ?_⟩)
    unfold j_X8_takeNumber_24
    rw [if_pos rfl]
    unfold j_X8_takeNumber_46
    have e : f_X8_take (0 : Int32) u = some (sI u 2 1 (nI (flt 1 t p))) := co_take0 h g hp h0
    rw [e]; rfl
theorem c_find {u : gm_M} {r n : Nat} {nm : Nat → Int64} (h0 : gI u r 0 = nI n) (hn : n ≤ 6) (h1 : ∀ q, q < n → gJ u (r + 1) q = nm q) (x : Int64) : ok (f_X5_find r x u) (fun o => (∃ q, q < n ∧ nm q = x ∧ o = nI q) ∨ ((∀ q, q < n → nm q ≠ x) ∧ o = -nI 1)) := by
  unfold f_X5_find
  refine ok_bind (Q := fun o => (∃ q, q < n ∧ nm q = x ∧ o = .inl (nI q)) ∨ ((∀ q, q < n → nm q ≠ x) ∧ o = .inr ()))
    (lp_ok n (fun j y => y = nI j ∧ ∀ q, q < j → nm q ≠ x) (by omega) ⟨rfl, fun q hq => absurd hq (by omega)⟩ ?_ ?_) ?_
  · rintro j y hj ⟨rfl, hi⟩
    rw [b_X5_find_2]
    simp (disch := omega) only [h0, litI, nI_leI, if_neg, ib_nI, ix_nI, if_pos, h1 j hj]
    by_cases q : nm j = x
    · rw [if_pos (show lg_cmp (nm j) x = nI 0 from (cmp_0 _ _).mpr q)]
      exact ok_some (.inl ⟨j, hj, q, rfl⟩)
    · rw [if_neg (show ¬ lg_cmp (nm j) x = nI 0 from fun w => q ((cmp_0 _ _).mp w))]
      refine ok_some ⟨by rw [nI_add], fun q' hq' => ?_⟩
      rcases Nat.lt_or_ge q' j with z | z
      · exact hi q' z
      · have : q' = j := by omega
        rw [this]; exact q
  · rintro y ⟨rfl, hi⟩
    rw [b_X5_find_2]
    simp (disch := omega) only [h0, nI_leI, if_pos]
    exact ok_some (.inr ⟨hi, rfl⟩)
  · rintro o (⟨q, hq, e, rfl⟩ | ⟨hq, rfl⟩)
    · exact ok_some (.inl ⟨q, hq, e, rfl⟩)
    · exact ok_some (.inr ⟨hq, rfl⟩)
/-! the reference's steps -/
theorem m_fails {u : gm_M} {t : List Nat} {p : Nat} (h : cuM u t p) (k : Nat) : f_X11_fails (nI k) u = some (0, sI u 1 9 (nI (flt k t p))) := by
  unfold f_X11_fails
  rw [gm_letE, h.2.1, show (16 : Int32) = nI 16 from rfl, nI_mul, nI_add]
  rfl
theorem m_needs {u : gm_M} {t : List Nat} {p lo hi : Nat} (h : cuM u t p) (g : gT t) (hp : p ≤ t.length) (hl : lo < 10000) (hh : hi < 10000) :
    (kS t p = 2 ∧ lo ≤ kV t p ∧ kV t p ≤ hi ∧ ok (f_X11_needsNumber (nI lo) (nI hi) u) (fun o => o.1 = nI 1 ∧ cuM o.2 t (kE t p) ∧ gI o.2 1 32 = nI (kV t p) ∧ fr (fun a j => tmP a j ∨ (a = 1 ∧ j = 32)) u o.2)) ∨
    (kS t p ≠ 2 ∧ f_X11_needsNumber (nI lo) (nI hi) u = some (nI 0, sI u 1 9 (nI (flt 1 t p)))) ∨
    (kS t p = 2 ∧ ¬ (lo ≤ kV t p ∧ kV t p ≤ hi) ∧ f_X11_needsNumber (nI lo) (nI hi) u = some (nI 0, sI u 1 9 (nI (flt 4 t p)))) := by
  have hs := kS_le t p
  unfold f_X11_needsNumber
  rw [h.2.2.1]
  by_cases q : kS t p = 2
  · have hv := kV_2 q
    rw [if_pos (show nI (kS t p) = (2 : Int32) from by rw [q]; rfl), gm_letE, h.2.2.2.2.2 q]
    by_cases z : lo ≤ kV t p ∧ kV t p ≤ hi
    · refine .inl ⟨q, z.1, z.2, ?_⟩
      have w : f_X11_within (nI (kV t p)) (nI lo) (nI hi) = nI 1 := by
        unfold f_X11_within
        rw [if_neg (fun w => by rw [nI_ltI (by omega) (by omega)] at w; omega), if_neg (fun w => by rw [nI_ltI (by omega) (by omega)] at w; omega)]; rfl
      rw [w, if1, gm_letE]
      have f0 : fr (fun a j => a = 1 ∧ j = 32) u (sI u 1 32 (nI (kV t p))) := fr_sI (fr_refl _ _) ⟨rfl, rfl⟩
      have e32 : gI (sI u 1 32 (nI (kV t p))) 1 32 = nI (kV t p) := gI_eq rfl rfl
      generalize sI u 1 32 (nI (kV t p)) = u' at *
      have tr : tR u' t := ⟨(fr_I f0 (by omega)).trans h.1.1, fun i s hs => (fr_I f0 (by omega)).trans (h.1.2 i s hs)⟩
      refine ok_bind (m_next tr g ((fr_I f0 (by omega)).trans (h.2.2.2.1 (by omega))) (kE_ok hp (by omega))) ?_
      rintro v ⟨v1, v2⟩
      exact ok_some ⟨rfl, v1, (fr_I v2 (by unfold tmP; omega)).trans e32, fr_trans (fr_mono f0 (fun a j z => .inr z)) (fr_mono v2 (fun a j z => .inl z))⟩
    · refine .inr (.inr ⟨q, z, ?_⟩)
      have w : f_X11_within (nI (kV t p)) (nI lo) (nI hi) = nI 0 := by
        unfold f_X11_within
        by_cases y : kV t p < lo
        · rw [if_pos ((nI_ltI (by omega) (by omega)).mpr y)]; rfl
        · rw [if_neg (fun w => y ((nI_ltI (by omega) (by omega)).mp w)), if_pos ((nI_ltI (by omega) (by omega)).mpr (by omega))]; rfl
      have e : f_X11_fails (4 : Int32) u = some (0, sI u 1 9 (nI (flt 4 t p))) := m_fails h 4
      rw [w, if0, e]; rfl
  · refine .inr (.inl ⟨q, ?_⟩)
    have e : f_X11_fails (1 : Int32) u = some (0, sI u 1 9 (nI (flt 1 t p))) := m_fails h 1
    rw [if_neg (show ¬ nI (kS t p) = (2 : Int32) from fun z => q ((nI_eq (b := 2) (by omega) (by omega)).mp z)), e]; rfl
theorem and0 : ((0 : Int32) &&& 1) = nI 0 := by decide
theorem and1 : ((1 : Int32) &&& 1) = nI 1 := by decide
theorem m_closes {u : gm_M} {t : List Nat} {p : Nat} (h : cuM u t p) (g : gT t) (hp : p ≤ t.length) :
    (tSg t p = 59 ∧ ok (f_X11_closes u) (fun o => o.1 = nI 1 ∧ cuM o.2 t (kE t p) ∧ fr tmP u o.2)) ∨ (tSg t p ≠ 59 ∧ f_X11_closes u = some (nI 0, sI u 1 9 (nI (flt 1 t p)))) := by
  unfold f_X11_closes
  have es : f_X11_isSign (59 : Int32) u = some (nI (decide (tSg t p = 59)).toNat) := m_isSign (c := 59) h g hp (by omega) (by omega)
  rw [es]
  simp only [Option.bind_some]
  by_cases q : tSg t p = 59
  · refine .inl ⟨q, ?_⟩
    rw [decide_eq_true q]
    show ok (if nI 1 = 0 then _ else _) _
    rw [if1]
    refine ok_bind (m_step h g hp (sg_S (by omega))) ?_
    intro v hv
    exact ok_some ⟨rfl, hv⟩
  · refine .inr ⟨q, ?_⟩
    have e : f_X11_fails (1 : Int32) u = some (0, sI u 1 9 (nI (flt 1 t p))) := m_fails h 1
    rw [decide_eq_false q]
    show (if nI 0 = 0 then _ else _) = _
    rw [if0, e]
    show some ((0 : Int32) &&& 1, sI u 1 9 (nI (flt 1 t p))) = _
    rw [and0]
theorem m_named {u : gm_M} {b n : Nat} {nm : Nat → Int64} {x : Int64} (hb : b < 2) (h0 : gI u 3 (4 * b) = nI n) (hn : n ≤ 6) (h1 : ∀ q, q < n → gJ u 4 (6 * b + q) = nm q) (hx : gJ u 1 7 = x) : ok (f_X11_personNamed (nI b) u) (fun o => (∃ q, q < n ∧ nm q = x ∧ o = nI q) ∨ ((∀ q, q < n → nm q ≠ x) ∧ o = -nI 1)) := by
  unfold f_X11_personNamed
  rw [gm_letE]
  have e6 : (6 : Int32) * nI b = nI (6 * b) := nI_mul 6 b
  rw [e6]
  refine ok_bind (Q := fun o => (∃ q, q < n ∧ nm q = x ∧ o = .inl (nI (6 * b + q))) ∨ ((∀ q, q < n → nm q ≠ x) ∧ o = .inr ()))
    (lp_ok n (fun j y => y = nI (6 * b + j) ∧ ∀ q, q < j → nm q ≠ x) (by omega) ⟨rfl, fun q hq => absurd hq (by omega)⟩ ?_ ?_) ?_
  · rintro j y hj ⟨rfl, hi⟩
    simp (disch := omega) only [b_X11_personNamed_5, litI, nI_mul, nI_add, Nat.add_zero, ib_nI, ix_nI, if_pos, h0, nI_leI, if_neg, h1 j hj, hx]
    by_cases q : nm j = x
    · rw [if_pos (show lg_cmp (nm j) x = nI 0 from (cmp_0 _ _).mpr q)]
      exact ok_some (.inl ⟨j, hj, q, rfl⟩)
    · rw [if_neg (show ¬ lg_cmp (nm j) x = nI 0 from fun w => q ((cmp_0 _ _).mp w))]
      refine ok_some ⟨by rw [Nat.add_assoc], fun q' hq' => ?_⟩
      rcases Nat.lt_or_ge q' j with z | z
      · exact hi q' z
      · have : q' = j := by omega
        rw [this]; exact q
  · rintro y ⟨rfl, hi⟩
    simp (disch := omega) only [b_X11_personNamed_5, litI, nI_mul, nI_add, Nat.add_zero, ib_nI, ix_nI, if_pos, h0, nI_leI]
    exact ok_some (.inr ⟨hi, rfl⟩)
  · rintro o (⟨q, hq, e, rfl⟩ | ⟨hq, rfl⟩)
    · refine ok_some (.inl ⟨q, hq, e, ?_⟩)
      rw [nI_sub (by omega)]
      congr 1; omega
    · exact ok_some (.inr ⟨hq, rfl⟩)
/-- the number of the person of a name; 9: none -/
noncomputable def fnd (R : pR) (w : List Nat) : Nat := if h : ∃ q, q < rN R ∧ (ps R q).1 = w then h.choose else 9
theorem fnd_in {R : pR} {w : List Nat} {q : Nat} (g : gNm R) (hq : q < rN R) (hw : (ps R q).1 = w) : fnd R w = q := by
  have h : ∃ q, q < rN R ∧ (ps R q).1 = w := ⟨q, hq, hw⟩
  unfold fnd
  rw [dif_pos h]
  exact g.2 _ _ h.choose_spec.1 hq (h.choose_spec.2.trans hw.symm)
theorem fnd_out {R : pR} {w : List Nat} (h : ∀ q, q < rN R → (ps R q).1 ≠ w) : fnd R w = 9 := by
  unfold fnd
  rw [dif_neg (fun ⟨q, a, b⟩ => h q a b)]
