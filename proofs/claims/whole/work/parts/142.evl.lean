/-! the reference's law: codes, worked -/
def bs : List Nat → List Nat
  | [] => []
  | o :: l => if o = 1 then bs l else o :: l
def ng : List Nat → Int32 → Int32
  | [], x => x
  | o :: l, x => if o = 1 then ng l (ntI x) else x
def bnM (u : gm_M) : List Nat → Prop
  | [] => True
  | o :: l => gI u 21 (l.length + 1) = nI (if o = 1 then 1 else 0) ∧ bnM u l
theorem bs_le : ∀ l, (bs l).length ≤ l.length := by
  intro l
  induction l with
  | nil => exact Nat.le_refl _
  | cons o l ih =>
    simp only [bs]
    split
    · simp only [List.length_cons]; omega
    · exact Nat.le_refl _
theorem bnM_eq {u v : gm_M} : ∀ (l : List Nat), bnM u l → (∀ i, i ≤ l.length → gI v 21 i = gI u 21 i) → bnM v l := by
  intro l
  induction l with
  | nil => intro _ _; trivial
  | cons o l ih =>
    intro h hf
    exact ⟨(hf _ (by simp)).trans h.1, ih h.2 (fun i hi => hf i (by simp only [List.length_cons]; omega))⟩
def evP : Nat → Nat → Prop := fun a _ => 13 ≤ a ∧ a ≤ 21
def cAt (u : gm_M) (k : Nat) (cs : List Int32) : Prop := ∀ i c, cs[i]? = some c → gI u 10 (k + i) = c
theorem cAt_app {u : gm_M} {k : Nat} {a b : List Int32} (h : cAt u k (a ++ b)) : cAt u k a ∧ cAt u (k + a.length) b := by
  refine ⟨fun i c hc => h i c (by rw [List.getElem?_append_left (List.getElem?_eq_some_iff.mp hc).1]; exact hc), fun i c hc => ?_⟩
  rw [Nat.add_assoc]
  exact h _ c (by rw [List.getElem?_append_right (by omega), Nat.add_sub_cancel_left]; exact hc)
theorem cAt_fr {u v : gm_M} {k : Nat} {cs : List Int32} (h : cAt u k cs) (f : fr evP u v) : cAt v k cs := fun i c hc => (fr_I f (by unfold evP; omega)).trans (h i c hc)
def evGo (m : Nat) (x y : Int32 × Int32 × gm_M) : Prop := ∀ G, gm_lp (b_X11_worked_14 0) (m + G) x = gm_lp (b_X11_worked_14 0) G y
theorem evGo_0 (x : Int32 × Int32 × gm_M) : evGo 0 x x := fun G => by rw [Nat.zero_add]
theorem evGo_tr {m n : Nat} {x y z : Int32 × Int32 × gm_M} (h : evGo m x y) (g : evGo n y z) : evGo (m + n) x z := fun G => by
  rw [Nat.add_assoc, h, g]
theorem evGo_1 {x y : Int32 × Int32 × gm_M} (h : b_X11_worked_14 0 x = some (.inl y)) : evGo 1 x y := fun G => by
  rw [Nat.add_comm]
  simp only [gm_lp, h, Option.bind_some]
/-- what a code is worked from -/
theorem w_code {u : gm_M} {k N : Nat} {c : Int32} (h9 : gI u 9 0 = nI N) (hN : N ≤ 1000) (hk : k < N) (hc : gI u 10 k = c) (d : Int32) {y : Option ((Int32 × Int32 × gm_M) ⊕ gm_M)} (h : (if c = (28 : Int32) then j_X11_worked_46 0 d (nI k) c u else if c = (30 : Int32) then j_X11_worked_46 0 d (nI k) c u else if c = (20 : Int32) then j_X11_worked_89 0 d (nI k) c u else if c = (21 : Int32) then j_X11_worked_89 0 d (nI k) c u else if c = (22 : Int32) then if ib d 7 = true then gm_let (sI u 20 (ix d) c) fun u_83 => some (.inl (d, nI k + (1 : Int32), u_83)) else none else if c = (24 : Int32) then j_X11_worked_137 0 d (nI k) c u else if c = (25 : Int32) then j_X11_worked_137 0 d (nI k) c u else if c = (26 : Int32) then j_X11_worked_194 0 d (nI k) c u else if c = (27 : Int32) then j_X11_worked_194 0 d (nI k) c u else if c < (100 : Int32) then if (20 : Int32) ≤ c then j_X11_worked_243 0 d (nI k) c (0 : Int32) u else if ib c 20 = true then j_X11_worked_243 0 d (nI k) c (gI u 22 (ix c)) u else none else j_X11_worked_243 0 d (nI k) c (c - (100 : Int32)) u) = y) : b_X11_worked_14 0 (d, nI k, u) = y := by
  rw [← h, b_X11_worked_14]
  rw [if_pos (show ib (0 : Int32) 2 = true by decide)]
  have e0 : ix (0 : Int32) = 0 := by decide
  rw [e0, h9, if_neg (fun z => by rw [nI_leI (by omega) (by omega)] at z; omega), if_pos (show ib (nI k) 2000 = true from (ib_nI (by omega)).mpr (by omega)), ix_nI (by omega), gm_letE, hc]
theorem w_pop {u : gm_M} {x3 : Int32} : ∀ (ro : List Nat) (x : Int32) (G : Nat), bnM u ro → ro.length ≤ 6 → gm_lp (b_X11_worked_268 0 x3 u) (ro.length + 1 + G) (nI ro.length, x) = some (nI (bs ro).length, ng ro x) := by
  intro ro
  induction ro with
  | nil =>
    intro x G _ _
    rw [show ([] : List Nat).length + 1 + G = G + 1 by simp; omega]
    have : b_X11_worked_268 0 x3 u (nI ([] : List Nat).length, x) = some (.inr (nI ([] : List Nat).length, x)) := by
      rw [b_X11_worked_268, if_pos (show nI ([] : List Nat).length ≤ (0 : Int32) by decide)]
    simp only [gm_lp, this, Option.bind_some]
    rfl
  | cons o l ih =>
    intro x G h hl
    simp only [List.length_cons] at hl
    rw [show (o :: l).length + 1 + G = (l.length + 1 + G) + 1 by simp only [List.length_cons]; omega]
    have e0 : (o :: l).length = l.length + 1 := rfl
    rw [e0]
    have h1 := h.1
    by_cases q : o = 1
    · rw [if_pos q] at h1
      have : b_X11_worked_268 0 x3 u (nI (l.length + 1), x) = some (.inl (nI l.length, ntI x)) := by
        rw [b_X11_worked_268, if_neg (show ¬ nI (l.length + 1) ≤ (0 : Int32) from fun z => by rw [show (0 : Int32) = nI 0 from rfl, nI_leI (by omega) (by omega)] at z; omega)]
        simp (disch := omega) only [ib_nI, ix_nI, if_pos, h1]
        rw [if_pos (show nI 1 = (1 : Int32) from rfl), show nI (l.length + 1) + (-1 : Int32) = nI l.length by rw [show (-1 : Int32) = -nI 1 from rfl, nI_m1 (by omega), Nat.add_sub_cancel]]
        unfold ntI
        by_cases z : x = 0
        · rw [if_pos z, if_pos z]
        · rw [if_neg z, if_neg z]
      simp only [gm_lp, this, Option.bind_some]
      rw [ih (ntI x) G h.2 (by omega)]
      simp only [bs, ng, if_pos q]
    · rw [if_neg q] at h1
      have : b_X11_worked_268 0 x3 u (nI (l.length + 1), x) = some (.inr (nI (l.length + 1), x)) := by
        rw [b_X11_worked_268, if_neg (show ¬ nI (l.length + 1) ≤ (0 : Int32) from fun z => by rw [show (0 : Int32) = nI 0 from rfl, nI_leI (by omega) (by omega)] at z; omega)]
        simp (disch := omega) only [ib_nI, ix_nI, if_pos, h1]
        rw [if_neg (show ¬ nI 0 = (1 : Int32) by decide)]
      simp only [gm_lp, this, Option.bind_some]
      simp only [bs, ng, if_neg q]
      rfl
theorem w_300 {u : gm_M} {e k : Nat} {x : Int32} (he : e ≤ 6) : j_X11_worked_300 0 (nI e) (nI k) x u = some (.inl (nI e, nI (k + 1), sI u 19 e (if gI u 20 e = 0 then x else gI u 19 e * x))) := by
  unfold j_X11_worked_300
  simp (disch := omega) only [ib_nI, ix_nI, if_pos, j_X11_worked_328, gm_letE]
  rw [show nI k + (1 : Int32) = nI (k + 1) from nI_add k 1]
  by_cases q : gI u 20 e = 0
  · rw [if_pos q, if_pos q]
  · rw [if_neg q, if_neg q]
theorem w_268 {u : gm_M} {ro : List Nat} {k : Nat} {x : Int32} (h : bnM u ro) (hl : ro.length ≤ 6) : j_X11_worked_268 0 (nI ro.length) (nI k) x u = some (.inl (nI (bs ro).length, nI (k + 1), sI u 19 (bs ro).length (if gI u 20 (bs ro).length = 0 then ng ro x else gI u 19 (bs ro).length * ng ro x))) := by
  have hb := bs_le ro
  unfold j_X11_worked_268
  have := w_pop (u := u) (x3 := nI k) ro x (100000 - (ro.length + 1)) h hl
  rw [show ro.length + 1 + (100000 - (ro.length + 1)) = gm_FU by unfold gm_FU; omega] at this
  rw [this]
  simp only [Option.bind_some]
  exact w_300 (by omega)
def cbv (sm sb tm : Int32) : Int32 := if sb = (21 : Int32) then sm - tm else sm + tm
def tvv (ag ah x : Int32) : Int32 := if ag = (25 : Int32) then (if ah = x then (1 : Int32) else 0) else if ag = (24 : Int32) then (if x ≤ ah then (0 : Int32) else 1) else x
def wvv (kb kp x : Int32) : Int32 := if kb = (27 : Int32) then (if kp = 0 then (if x = 0 then (0 : Int32) else 1) else 1) else if kb = (26 : Int32) then (if kp = 0 then (0 : Int32) else if x = 0 then (0 : Int32) else 1) else x
theorem m_sums {u : gm_M} {e : Nat} (he : e ≤ 6) : f_X11_sums (nI e) u = some (sI (sI u 17 e (cbv (gI u 17 e) (gI u 18 e) (gI u 19 e))) 20 e 0) := by
  unfold f_X11_sums cbv
  simp (disch := omega) only [ib_nI, ix_nI, if_pos, j_X11_sums_45, gm_letE]
  by_cases q : gI u 18 e = (21 : Int32)
  · rw [if_pos q, if_pos q]
  · rw [if_neg q, if_neg q]
theorem m_tests {u : gm_M} {e : Nat} (he : e ≤ 6) : ok (f_X11_tests (nI e) u) (fun v => gI v 13 e = wvv (gI u 14 e) (gI u 13 e) (tvv (gI u 16 e) (gI u 15 e) (cbv (gI u 17 e) (gI u 18 e) (gI u 19 e))) ∧ gI v 16 e = 0 ∧ gI v 17 e = 0 ∧ gI v 18 e = (20 : Int32) ∧ gI v 20 e = 0 ∧ fr (fun a j => j = e ∧ (a = 13 ∨ a = 16 ∨ a = 17 ∨ a = 18 ∨ a = 20)) u v) := by
  unfold f_X11_tests
  rw [m_sums he]
  simp only [Option.bind_some]
  generalize hcb : cbv (gI u 17 e) (gI u 18 e) (gI u 19 e) = cb
  have f0 : fr (fun a j => j = e ∧ (a = 13 ∨ a = 16 ∨ a = 17 ∨ a = 18 ∨ a = 20)) u (sI (sI u 17 e cb) 20 e 0) := fr_sI (fr_sI (fr_refl _ _) ⟨rfl, by omega⟩) ⟨rfl, by omega⟩
  have e17 : gI (sI (sI u 17 e cb) 20 e 0) 17 e = cb := (gI_ne (by omega)).trans (gI_eq rfl rfl)
  have e20 : gI (sI (sI u 17 e cb) 20 e 0) 20 e = 0 := gI_eq rfl rfl
  have e16 : gI (sI (sI u 17 e cb) 20 e 0) 16 e = gI u 16 e := (gI_ne (by omega)).trans (gI_ne (by omega))
  have e15 : gI (sI (sI u 17 e cb) 20 e 0) 15 e = gI u 15 e := (gI_ne (by omega)).trans (gI_ne (by omega))
  have e14 : gI (sI (sI u 17 e cb) 20 e 0) 14 e = gI u 14 e := (gI_ne (by omega)).trans (gI_ne (by omega))
  have e13 : gI (sI (sI u 17 e cb) 20 e 0) 13 e = gI u 13 e := (gI_ne (by omega)).trans (gI_ne (by omega))
  generalize sI (sI u 17 e cb) 20 e 0 = w at *
  have fin : ∀ x, ok (j_X11_tests_136 (nI e) x w) (fun v => gI v 13 e = x ∧ gI v 16 e = 0 ∧ gI v 17 e = 0 ∧ gI v 18 e = (20 : Int32) ∧ gI v 20 e = 0 ∧ fr (fun a j => j = e ∧ (a = 13 ∨ a = 16 ∨ a = 17 ∨ a = 18 ∨ a = 20)) u v) := by
    intro x
    unfold j_X11_tests_136
    simp (disch := omega) only [ib_nI, ix_nI, if_pos, gm_letE]
    refine ok_some ⟨?_, ?_, ?_, gI_eq rfl rfl, ?_, fr_sI (fr_sI (fr_sI (fr_sI f0 ⟨rfl, by omega⟩) ⟨rfl, by omega⟩) ⟨rfl, by omega⟩) ⟨rfl, by omega⟩⟩
    · rw [gI_ne (by omega), gI_ne (by omega), gI_ne (by omega)]; exact gI_eq rfl rfl
    · rw [gI_ne (by omega), gI_ne (by omega)]; exact gI_eq rfl rfl
    · rw [gI_ne (by omega)]; exact gI_eq rfl rfl
    · rw [gI_ne (by omega), gI_ne (by omega), gI_ne (by omega), gI_ne (by omega)]; exact e20
  have s106 : ∀ x, ok (j_X11_tests_106 (nI e) x w) (fun v => gI v 13 e = (if gI u 14 e = (27 : Int32) then (if gI u 13 e = 0 then (if x = 0 then (0 : Int32) else 1) else 1) else x) ∧ gI v 16 e = 0 ∧ gI v 17 e = 0 ∧ gI v 18 e = (20 : Int32) ∧ gI v 20 e = 0 ∧ fr (fun a j => j = e ∧ (a = 13 ∨ a = 16 ∨ a = 17 ∨ a = 18 ∨ a = 20)) u v) := by
    intro x
    unfold j_X11_tests_106
    simp (disch := omega) only [ib_nI, ix_nI, if_pos, j_X11_tests_135, j_X11_tests_130, e14, e13]
    by_cases q : gI u 14 e = (27 : Int32)
    · rw [if_pos q, if_pos q]
      by_cases q2 : gI u 13 e = 0
      · rw [if_pos q2, if_pos q2]
        by_cases q3 : x = 0
        · rw [if_pos q3, if_pos q3]; exact fin 0
        · rw [if_neg q3, if_neg q3]; exact fin 1
      · rw [if_neg q2, if_neg q2]; exact fin 1
    · rw [if_neg q, if_neg q]; exact fin x
  have s76 : ∀ x, ok (j_X11_tests_76 (nI e) x w) (fun v => gI v 13 e = wvv (gI u 14 e) (gI u 13 e) x ∧ gI v 16 e = 0 ∧ gI v 17 e = 0 ∧ gI v 18 e = (20 : Int32) ∧ gI v 20 e = 0 ∧ fr (fun a j => j = e ∧ (a = 13 ∨ a = 16 ∨ a = 17 ∨ a = 18 ∨ a = 20)) u v) := by
    intro x
    unfold j_X11_tests_76
    simp (disch := omega) only [ib_nI, ix_nI, if_pos, j_X11_tests_104, j_X11_tests_105, e14, e13]
    unfold wvv
    by_cases q : gI u 14 e = (26 : Int32)
    · have q27 : ¬ gI u 14 e = (27 : Int32) := by rw [q]; decide
      rw [if_pos q, if_neg q27, if_pos q]
      by_cases q2 : gI u 13 e = 0
      · rw [if_pos q2, if_pos q2]
        have := s106 0
        rw [if_neg q27] at this
        exact this
      · rw [if_neg q2, if_neg q2]
        by_cases q3 : x = 0
        · rw [if_pos q3, if_pos q3]
          have := s106 0
          rw [if_neg q27] at this
          exact this
        · rw [if_neg q3, if_neg q3]
          have := s106 1
          rw [if_neg q27] at this
          exact this
    · rw [if_neg q, if_neg q]; exact s106 x
  simp (disch := omega) only [ib_nI, ix_nI, if_pos, gm_letE, e17, e16, e15, j_X11_tests_43, j_X11_tests_44, j_X11_tests_75]
  unfold tvv
  by_cases q : gI u 16 e = (24 : Int32)
  · have q25 : ¬ gI u 16 e = (25 : Int32) := by rw [q]; decide
    by_cases q2 : cb ≤ gI u 15 e
    · simp only [if_pos q, if_neg q25, if_pos q2]; exact s76 0
    · simp only [if_pos q, if_neg q25, if_neg q2]; exact s76 1
  · rw [if_neg q, if_neg q]
    by_cases q3 : gI u 16 e = (25 : Int32)
    · rw [if_pos q3, if_pos q3]
      by_cases q4 : gI u 15 e = cb
      · rw [if_pos q4, if_pos q4]; exact s76 1
      · rw [if_neg q4, if_neg q4]; exact s76 0
    · rw [if_neg q3, if_neg q3]; exact s76 cb
theorem m_opens {u : gm_M} {e : Nat} (he : e ≤ 6) : ok (f_X11_opens (nI e) u) (fun v => gI v 14 e = 0 ∧ gI v 16 e = 0 ∧ gI v 17 e = 0 ∧ gI v 18 e = (20 : Int32) ∧ gI v 20 e = 0 ∧ fr (fun a j => j = e ∧ (a = 14 ∨ a = 16 ∨ a = 17 ∨ a = 18 ∨ a = 20)) u v) := by
  unfold f_X11_opens
  simp (disch := omega) only [ib_nI, ix_nI, if_pos, gm_letE]
  refine ok_some ⟨?_, ?_, ?_, ?_, gI_eq rfl rfl, fr_sI (fr_sI (fr_sI (fr_sI (fr_sI (fr_refl _ _) ⟨rfl, by omega⟩) ⟨rfl, by omega⟩) ⟨rfl, by omega⟩) ⟨rfl, by omega⟩) ⟨rfl, by omega⟩⟩
  · rw [gI_ne (by omega), gI_ne (by omega), gI_ne (by omega), gI_ne (by omega)]; exact gI_eq rfl rfl
  · rw [gI_ne (by omega), gI_ne (by omega), gI_ne (by omega)]; exact gI_eq rfl rfl
  · rw [gI_ne (by omega), gI_ne (by omega)]; exact gI_eq rfl rfl
  · rw [gI_ne (by omega)]; exact gI_eq rfl rfl
