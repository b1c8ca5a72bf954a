/-! questions: what would be -/
def passK (R : pR) (jul : Bool) (C : Nat) (k : pK) : pK := if cond jul (decide ((k.1 + 1) % 4 = 0)) (lpy (k.1 + 1)) = true then dayK R C (killK R (k.1 + 1) k) else killK R (k.1 + 1) k
def rideK (R : pR) (C : Nat) (k : pK) : pK := dayK R C (killK R (nxt k.1) k)
theorem passK_y (R : pR) (jul : Bool) (C : Nat) (k : pK) : (passK R jul C k).1 = k.1 + 1 := by
  unfold passK
  split <;> rfl
theorem gK_pass {R : pR} {Y C : Nat} {k : pK} (jul : Bool) (h : gK R Y k) (hg : gR1 R) (hy : k.1 + 1 ≤ Y) : gK R Y (passK R jul C k) := by
  unfold passK
  split
  · exact gK_day (gK_kill h hy) hg
  · exact gK_kill h hy
theorem gK_ride {R : pR} {Y C : Nat} {k : pK} (h : gK R Y k) (hg : gR1 R) (hy : k.1 + 8 ≤ Y) : gK R Y (rideK R C k) := by
  have := gap_le k.1
  exact gK_day (gK_kill h (by unfold nxt; omega)) hg
theorem rideK_y (R : pR) (C : Nat) (k : pK) : (rideK R C k).1 ≤ k.1 + 8 := by
  have := gap_le k.1
  show nxt k.1 ≤ _
  unfold nxt
  omega
theorem c_pass {u : gm_M} {r c Y : Nat} {R : pR} {k : pK} (h : rC u r R) (hg : gR1 R) (hk : kC u c k) (hgk : gK R Y k) (hr : r = 5 ∨ r = 13) (hc : c = 27 ∨ c = 40) (hy : k.1 + 1 ≤ Y) (hY : Y < 2 ^ 30) (jul : Bool) :
    ok (f_X2_passYear r c (nI jul.toNat) u) (fun o => fr (dayP r c) u o.2 ∧ kC o.2 c (passK R jul (rCandle R) k)) := by
  refine ok_mono (c_passYear h hg hk hgk hr hc hy hY jul) ?_
  rintro ⟨o, v⟩ ⟨h1, h2⟩
  refine ⟨h1, ?_⟩
  unfold passK
  rcases h2 with ⟨q, -, z⟩ | ⟨q, -, z⟩
  · rw [if_neg (by rw [q]; decide)]; exact z
  · rw [if_pos q]; exact z
theorem m_pass {u : gm_M} {R : pR} {k : pK} {C Y : Nat} {old : Bool} (h : rM u R) (hg : gR1 R) (hk : kM u 29 0 k) (hgk : gK R Y k) (hy : k.1 + 1 ≤ Y) (hY : Y < 2 ^ 30) (hC : C ≤ 900) (hcan : gI u 1 49 = nI C) (hold : gI u 1 46 = nI old.toNat) :
    ok (f_X11_passes u) (fun o => fr hdP u o.2 ∧ kM o.2 29 0 (passK R old C k)) := by
  refine ok_mono (m_passes h hg hk hgk hy hY hC hcan hold) ?_
  rintro ⟨o, v⟩ ⟨h1, h2⟩
  refine ⟨h1, ?_⟩
  unfold passK
  rcases h2 with ⟨q, -, z⟩ | ⟨q, -, z, -⟩
  · rw [if_neg (by rw [q]; decide)]; exact z
  · rw [if_pos q]; exact z
def itP (R : pR) (jul : Bool) (k : pK) : Nat → pK
  | 0 => k
  | i + 1 => passK R jul (rCandle R) (itP R jul k i)
def itR (R : pR) (k : pK) : Nat → pK
  | 0 => k
  | i + 1 => rideK R (rCandle R) (itR R k i)
theorem itP_y (R : pR) (jul : Bool) (k : pK) (i : Nat) : (itP R jul k i).1 = k.1 + i := by
  induction i with
  | zero => rfl
  | succ i ih => simp only [itP, passK_y, ih]; omega
theorem itR_y (R : pR) (k : pK) (i : Nat) : (itR R k i).1 ≤ k.1 + 8 * i := by
  induction i with
  | zero => exact Nat.le_refl _
  | succ i ih =>
    have := rideK_y R (rCandle R) (itR R k i)
    simp only [itR]; omega
theorem itP_g {R : pR} {Y : Nat} {k : pK} (jul : Bool) (h : gK R Y k) (hg : gR1 R) (i : Nat) (hy : k.1 + i ≤ Y) : gK R Y (itP R jul k i) := by
  induction i with
  | zero => exact h
  | succ i ih => exact gK_pass jul (ih (by omega)) hg (by rw [itP_y]; omega)
theorem itR_g {R : pR} {Y : Nat} {k : pK} (h : gK R Y k) (hg : gR1 R) (i : Nat) (hy : k.1 + 8 * i ≤ Y) : gK R Y (itR R k i) := by
  induction i with
  | zero => exact h
  | succ i ih =>
    have := itR_y R k i
    exact gK_ride (ih (by omega)) hg (by omega)
/-! the class's trial -/
theorem dayP_ir {r : Nat} (i2 : r = 5 ∨ r = 13) (a j : Nat) (z : dayP r 40 a j) : irC a j := by
  rcases z with z | z | z
  · rcases i2 with i2 | i2
    · exact .inr (.inl (by omega))
    · exact .inr (.inr (.inl (by omega)))
  · exact .inr (.inr (.inr (.inl ⟨by omega, by omega⟩)))
  · exact .inr (.inr (.inr (.inr (.inl ⟨by omega, by omega⟩))))
theorem crt_ir (a j : Nat) (z : crt 40 a j) : irC a j := .inr (.inr (.inr (.inr (.inl ⟨z.1, by have := z.2; omega⟩))))
/-! the reference's bracket: laid aside, laid back -/
def qmP : Nat → Nat → Prop := fun a j => (a = 29 ∧ j < 22) ∨ (a = 1 ∧ (j = 49 ∨ j = 50 ∨ j = 51)) ∨ (13 ≤ a ∧ a ≤ 22) ∨ (35 ≤ a ∧ a ≤ 36) ∨ a = 31
def jM (u v : gm_M) : Prop := (∀ j, j < 22 → gI v 31 j = gI u 29 j) ∧ fr qmP u v
theorem qmP_ok (a j : Nat) (z : qmP a j) : irM a j ∨ (a = 29 ∧ j < 22) := by
  rcases z with z | z | z | z | z
  · exact .inr z
  · exact .inl (.inl ⟨z.1, by omega, by omega, by omega⟩)
  · exact .inl (.inr (.inl ⟨by omega, by omega⟩))
  · exact .inl (.inr (.inr (.inr (.inr (.inl (by omega))))))
  · exact .inl (.inr (.inr (.inr (.inl z))))
theorem jM_step {u v w : gm_M} (h : jM u v) (f : fr hdP v w) : jM u w := by
  refine ⟨fun j hj => (fr_I f (fun z => by rcases z with z | z | z | z <;> omega)).trans (h.1 j hj), fr_trans h.2 (fr_mono f (fun a j z => ?_))⟩
  rcases z with z | z | z | z
  · exact .inl z
  · exact .inr (.inl ⟨z.1, by omega⟩)
  · exact .inr (.inr (.inl z))
  · exact .inr (.inr (.inr (.inl z)))
theorem jM_29 {u v : gm_M} (h : jM u v) {j : Nat} {x : Int32} (hj : j < 22) : jM u (sI v 29 j x) := ⟨fun i hi => by rw [gI_ne (by omega)]; exact h.1 i hi, fr_sI h.2 (.inl ⟨rfl, hj⟩)⟩
theorem jM_49 {u v : gm_M} (h : jM u v) {x : Int32} : jM u (sI v 1 49 x) := ⟨fun i hi => by rw [gI_ne (by omega)]; exact h.1 i hi, fr_sI h.2 (.inr (.inl ⟨rfl, .inl rfl⟩))⟩
theorem jM_r {u v : gm_M} {R : pR} (h : jM u v) (hr : rM u R) (hn : rN R ≤ 6) : rM v R := rM_fr hr hn h.2 (fun a j q z => by rcases z with z | z | z | z | z <;> rcases q with q | q | q | q <;> omega)
theorem jM_46 {u v : gm_M} (h : jM u v) : gI v 1 46 = gI u 1 46 := fr_I h.2 (fun z => by rcases z with z | z | z | z | z <;> omega)
theorem m_save {u : gm_M} {K : pK} (hk : kM u 29 0 K) (hq : gQ K.2.2.2) : ok (f_X11_copies 29 22 (0 : Int32) 31 22 (0 : Int32) u) (fun v => jM u v ∧ kM v 29 0 K ∧ fr (fun a j => a = 31 ∧ j < 22) u v) := by
  refine ok_mono (m_copies (u := u) (A := 29) (n1 := 22) (o1 := 0) (B := 31) (n2 := 22) (o2 := 0) (by omega) (by omega) (by omega) (by omega) (by omega)) ?_
  rintro v ⟨h1, h2⟩
  simp only [Nat.zero_add] at h1 h2
  exact ⟨⟨h1, fr_mono h2 (fun a j z => .inr (.inr (.inr (.inr z.1))))⟩, kM_fr hk hq h2 (fun j _ _ z => by omega), fr_mono h2 (fun a j z => ⟨z.1, z.2.2⟩)⟩
theorem m_back {u v : gm_M} {n : Nat} {t : List Nat} {R : pR} {G : pG} {S : pS} {K : pK} {B : List pK} {M : pMk} (h : RM u t R G S K B M) (g : gA n t R G S K B M) (j : jM u v) : ok (f_X11_copies 31 22 (0 : Int32) 29 22 (0 : Int32) v) (fun w => RM w t R G S K B M ∧ jM u w ∧ kM w 29 0 K ∧ ∀ i, gI w 1 i = gI v 1 i) := by
  refine ok_mono (m_copies (u := v) (A := 31) (n1 := 22) (o1 := 0) (B := 29) (n2 := 22) (o2 := 0) (by omega) (by omega) (by omega) (by omega) (by omega)) ?_
  rintro w ⟨h1, h2⟩
  simp only [Nat.zero_add] at h1 h2
  have hf : fr qmP u w := fr_trans j.2 (fr_mono h2 (fun a j z => .inl ⟨z.1, z.2.2⟩))
  have hs : ∀ i, i < 22 → gI w 29 i = gI u 29 i := fun i hi => (h1 i hi).trans (j.1 i hi)
  have hR := RM_q h g hf qmP_ok hs
  exact ⟨hR, ⟨fun i hi => (fr_I h2 (by omega)).trans (j.1 i hi), hf⟩, hR.2.2.2.2.1, fun i => fr_I h2 (by omega)⟩
theorem two_q {x y : Option (Int32 × gm_M)} {n : Nat} {t : List Nat} {R : pR} {G : pG} {S : pS} {K : pK} {B : List pK} {M : pMk} (r : Int32) (h0 : n ≤ 600) (g : gA n t R G S K B M) (hx : ok x (fun o => o.1 = r ∧ RC o.2 t R G S K B M)) (hy : ok y (fun o => o.1 = r ∧ RM o.2 t R G S K B M)) : ∃ (r : Int32) (uC' uM' : gm_M), x = some (r, uC') ∧ y = some (r, uM') ∧ RelN n uC' uM' :=
  two_ok r _ _ hx hy (fun a b ha hb => ⟨h0, t, R, G, S, K, B, M, g, ha, hb⟩)
theorem st_call (n : Nat) : St_call (RelN (n + 1)) (RelN n) := by
  intro uC uM h a
  obtain ⟨h0, t, R, G, S, K, B, M, g, hC, hM⟩ := RelN_mono n uC uM h
  have hM1 := RM_t (x := 0) hM g
  obtain ⟨-, ⟨r, hr, hrC⟩, -, -, hkC, -, -⟩ := id hC
  obtain ⟨i1, i2, i3⟩ := isR_ok hr
  obtain ⟨-, gRr, -, -, -, gKK, gBB, -⟩ := id g
  have gq := gK_gQ gKK gRr
  have hl := gQ_len gq
  unfold f_X10_call f_X11_call
  simp only [gm_letE]
  generalize sI uM 1 0 (0 : Int32) = u1 at *
  obtain ⟨mT, mR, mG, mS, mK, mP, mMk, m46⟩ := id hM1
  rw [i3] at i1 ⊢
  simp only [i1, if_true]
  have e2 : gI u1 29 2 = nI K.2.2.2.length := mK.1.2.2.1
  have hcl := callL_len R K.1 K.2.2.2
  have cside : ok (f_X2_putInOrder r 27 uC) (fun v => RC v t R G S K B M ∧ gI v 35 2 = nI K.2.2.2.length ∧ ∀ i e, (callL R K.1 K.2.2.2)[i]? = some e → gI v 36 i = nI e.1) := by
    refine ok_mono (c_putInOrder hrC gRr hkC gq (fun e he => (gKK.2.2.2.2 e he).1) i2 (.inl rfl)) ?_
    rintro v ⟨v1, v2, v3⟩
    refine ⟨RC_fr hC gBB.1 v1 (fun a j z => ?_), v2, v3⟩
    rcases z with z | z
    · rcases i2 with i2 | i2
      · exact .inr (.inl (by omega))
      · exact .inr (.inr (.inl (by omega)))
    · exact .inr (.inr (.inr (.inl ⟨by omega, by omega⟩)))
  rcases nI_cases a K.2.2.2.length (by omega) with ⟨i, hi, rfl⟩ | hneg | ⟨i, hi, hi2, rfl⟩
  · obtain ⟨e, he⟩ : ∃ e, (callL R K.1 K.2.2.2)[i]? = some e := ⟨_, List.getElem?_eq_getElem (by omega)⟩
    refine two_q (nI e.1) h0 g ?_ ?_
    · refine ok_bind cside ?_
      rintro v ⟨v1, v2, v3⟩
      have e3 := v3 i e he
      simp (disch := omega) only [f_X2_calledAt, gm_let, litI, ib_nI, ix_nI, nI_leI, nI_ltI, nI_eq, nI_add, nI_sub, nI_mul, nI_div, nI_rem, nI_m1, nI_eqm, nI_gem, nI_ltm, nI_mlt, nI_lem, Option.bind_some, Option.bind_none, v2, e3, if_pos, if_neg]
      exact ok_some ⟨rfl, v1⟩
    · have w1 : f_X11_within (nI i) 0 (gI u1 29 2 - 1) = nI 1 := by simp (disch := omega) only [f_X11_within, gm_let, litI, ib_nI, ix_nI, nI_leI, nI_ltI, nI_eq, nI_add, nI_sub, nI_mul, nI_div, nI_rem, nI_m1, nI_eqm, nI_gem, nI_ltm, nI_mlt, nI_lem, Option.bind_some, Option.bind_none, e2, if_neg]
      rw [w1, if1]
      refine ok_bind (m_calls mR gRr mK gq (fun e he => (gKK.2.2.2.2 e he).1)) ?_
      rintro v ⟨v1, v2⟩
      simp (disch := omega) only [ib_nI, ix_nI, if_pos, v2 i e he]
      refine ok_some ⟨rfl, RM_q hM1 g v1 (fun a j z => ?_) (fun j hj => fr_I v1 (fun z => by rcases z with z | z <;> omega))⟩
      rcases z with z | z
      · exact .inl (.inr (.inl ⟨by omega, by omega⟩))
      · exact .inl (.inr (.inr (.inr (.inr (.inl (by omega))))))
  · refine two_q (-nI 1) h0 g ?_ ?_
    · refine ok_bind cside ?_
      rintro v ⟨v1, v2, v3⟩
      have : f_X2_calledAt a v = some (-nI 1) := if_pos hneg
      rw [this]
      exact ok_some ⟨rfl, v1⟩
    · have w1 : f_X11_within a 0 (gI u1 29 2 - 1) = nI 0 := if_pos hneg
      rw [w1, if0]
      exact ok_some ⟨rfl, hM1⟩
  · refine two_q (-nI 1) h0 g ?_ ?_
    · refine ok_bind cside ?_
      rintro v ⟨v1, v2, v3⟩
      simp (disch := omega) only [f_X2_calledAt, gm_let, litI, ib_nI, ix_nI, nI_leI, nI_ltI, nI_eq, nI_add, nI_sub, nI_mul, nI_div, nI_rem, nI_m1, nI_eqm, nI_gem, nI_ltm, nI_mlt, nI_lem, Option.bind_some, Option.bind_none, v2, if_pos, if_neg]
      exact ok_some ⟨rfl, v1⟩
    · have w1 : f_X11_within (nI i) 0 (gI u1 29 2 - 1) = nI 0 := by
        rcases Nat.eq_or_lt_of_le (Nat.zero_le K.2.2.2.length) with z | z
        · rw [e2, ← z]
          have : ¬ nI i < nI 0 := nI_pos hi2
          have w2 : (nI 0 - 1 : Int32) < nI i := by
            rw [Int32.lt_iff_toInt_lt, nI_toInt hi2]
            have : (nI 0 - 1 : Int32).toInt = -1 := by decide
            omega
          show (if nI i < nI 0 then nI 0 else if (nI 0 - 1 : Int32) < nI i then nI 0 else nI 1) = nI 0
          rw [if_neg this, if_pos w2]
        · simp (disch := omega) only [f_X11_within, gm_let, litI, ib_nI, ix_nI, nI_leI, nI_ltI, nI_eq, nI_add, nI_sub, nI_mul, nI_div, nI_rem, nI_m1, nI_eqm, nI_gem, nI_ltm, nI_mlt, nI_lem, Option.bind_some, Option.bind_none, e2, if_neg, if_pos]
      rw [w1, if0]
      exact ok_some ⟨rfl, hM1⟩
