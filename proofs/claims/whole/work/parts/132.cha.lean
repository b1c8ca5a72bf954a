/-! chance -/
def thQ (d : Nat → Bool) (j : Nat) (q : List pQ) : List pQ := q.filter (fun e => !(decide (e.1 < j) && d e.1))
theorem th_same {d : Nat → Bool} {j : Nat} {q : List pQ} (h : d j = false) : thQ d (j + 1) q = thQ d j q := by
  unfold thQ
  apply List.filter_congr
  intro e _
  by_cases z : e.1 = j
  · rw [z, h]; simp
  · have : decide (e.1 < j + 1) = decide (e.1 < j) := by apply decide_eq_decide.mpr; omega
    rw [this]
theorem th_out {d : Nat → Bool} {j : Nat} {q : List pQ} (h : d j = true) : (thQ d j q).filter (fun e => e.1 != j) = thQ d (j + 1) q := by
  unfold thQ
  rw [List.filter_filter]
  apply List.filter_congr
  intro e _
  by_cases z : e.1 = j
  · rw [z, h]; simp
  · have : decide (e.1 < j + 1) = decide (e.1 < j) := by apply decide_eq_decide.mpr; omega
    rw [this]
    simp [z]
theorem th_zero {d : Nat → Bool} {q : List pQ} : thQ d 0 q = q := by
  unfold thQ
  rw [List.filter_eq_self]
  intro e _
  simp
theorem th_all {d : Nat → Bool} {n m : Nat} {q : List pQ} (h : ∀ e ∈ q, e.1 < n) (hnm : n ≤ m) : thQ d n q = thQ d m q := by
  unfold thQ
  apply List.filter_congr
  intro e he
  have := h e he
  have h1 : decide (e.1 < n) = true := by simp; omega
  have h2 : decide (e.1 < m) = true := by simp; omega
  rw [h1, h2]
def prd (o st od : Nat) : Nat → Nat
  | 0 => 1
  | j + 1 => if o.testBit j = true then prd o st od j * (if st.testBit j = true then od else 10 - od) else prd o st od j
def cn (o : Nat) : Nat → Nat
  | 0 => 0
  | j + 1 => if o.testBit j = true then cn o j + 1 else cn o j
theorem cn_5 : ∀ o : Fin 64, ∀ p : Fin 6, o.1.testBit p.1 = false → ∀ j : Fin 7, cn o.1 j.1 ≤ 5 := by decide +kernel
theorem cn_pc : ∀ o : Fin 64, cn o.1 6 = pc o.1 := by decide +kernel
theorem prd_le {o st od : Nat} (h : od ≤ 10) : ∀ j, prd o st od j ≤ 10 ^ cn o j := by
  intro j
  induction j with
  | zero => simp [prd, cn]
  | succ j ih =>
    simp only [prd, cn]
    by_cases q : o.testBit j = true
    · rw [if_pos q, if_pos q, Nat.pow_succ]
      apply Nat.mul_le_mul ih
      split <;> omega
    · rw [if_neg q, if_neg q]; exact ih
theorem prd_all {o st od n : Nat} (h : ∀ i, n ≤ i → o.testBit i = false) : ∀ m, n ≤ m → prd o st od m = prd o st od n := by
  intro m hm
  obtain ⟨k, rfl⟩ : ∃ k, m = n + k := ⟨m - n, by omega⟩
  clear hm
  induction k with
  | zero => rfl
  | succ k ih =>
    show prd o st od (n + k + 1) = _
    simp only [prd]
    rw [if_neg (by rw [h _ (by omega)]; decide)]
    exact ih
def chS (w : Nat → Nat) : Nat → Nat
  | 0 => 0
  | T + 1 => chS w T + w T
theorem chS_le {w : Nat → Nat} {b : Nat} (h : ∀ i, w i ≤ b) : ∀ T, chS w T ≤ T * b := by
  intro T
  induction T with
  | zero => simp [chS]
  | succ T ih =>
    have := h T
    simp only [chS]
    rw [Nat.succ_mul]
    omega
theorem chS_zero {w : Nat → Nat} {T : Nat} (h : ∀ i, T ≤ i → i < 64 → w i = 0) : ∀ k, T + k ≤ 64 → chS w (T + k) = chS w T := by
  intro k
  induction k with
  | zero => intro _; rfl
  | succ k ih =>
    intro hk
    show chS w (T + k) + w (T + k) = _
    rw [ih (by omega), h _ (by omega) (by omega)]; rfl
theorem sub_le : ∀ o st : Fin 64, st.1 &&& (63 - o.1) = 0 → st.1 ≤ o.1 := by decide +kernel
theorem and_lt : ∀ o st : Fin 64, st.1 &&& (63 - o.1) < 64 := by decide +kernel
/-- those of the others who don't stay have left -/
def thK (K : pK) (o st j : Nat) : pK := (K.1, K.2.1, K.2.2.1, thQ (fun i => o.testBit i && !st.testBit i) j K.2.2.2)
def wCh (R : pR) (K : pK) (o p od st : Nat) : Nat := if st &&& (63 - o) = 0 then (if (rideK R (rCandle R) (thK K o st 6)).2.2.1.testBit p = true then prd o st od 6 else 0) else 0
theorem gK_th {R : pR} {Y : Nat} {K : pK} (h : gK R Y K) (o st j : Nat) : gK R Y (thK K o st j) := gK_out h _
theorem w_step {c z : Nat} (hc : c ≤ 5) : 10 ^ (6 - c) * z / 10 = 10 ^ (5 - c) * z := by
  have : 6 - c = (5 - c) + 1 := by omega
  rw [this, Nat.pow_succ, Nat.mul_assoc, Nat.mul_comm 10 z, ← Nat.mul_assoc]
  exact Nat.mul_div_cancel _ (by omega)
theorem w_le {c z : Nat} (hc : c ≤ 6) (hz : z ≤ 10 ^ c) : 10 ^ (6 - c) * z ≤ 1000000 := by
  have h1 : 10 ^ (6 - c) * z ≤ 10 ^ (6 - c) * 10 ^ c := Nat.mul_le_mul_left _ hz
  rw [← Nat.pow_add, Nat.sub_add_cancel hc] at h1
  exact h1
theorem c_thinOut {u : gm_M} {n o st od p : Nat} {t : List Nat} {R : pR} {G : pG} {S : pS} {K : pK} {B : List pK} {M : pMk} (hC : RC u t R G S K B M) (g : gA n t R G S K B M) (ho : o < 64) (hs : st < 64) (hod : od ≤ 10) (hp : p < 6) (hop : o.testBit p = false) :
    ok (f_X10_thinOut (nI o) (nI st) (nI od) u) (fun x => x.1 = nI (10 ^ (6 - cn o 6) * prd o st od 6) ∧ RC x.2 t R G S K B M ∧ kC x.2 40 (thK K o st 6)) := by
  obtain ⟨-, gRr, -, -, -, gKK, gBB, -⟩ := id g
  have gq := gK_gQ gKK gRr
  unfold f_X10_thinOut
  refine ok_bind (c_copy (c := 40) (d := 27) hC.2.2.2.2.1 gq (by omega)) ?_
  rintro v ⟨v1, v2⟩
  have e60 : (1000000 : Int32) = nI (10 ^ (6 - cn o 0) * prd o st od 0) := by
    rw [show 10 ^ (6 - cn o 0) * prd o st od 0 = 1000000 by simp [cn, prd]]
    exact litI 1000000
  refine ok_bind (Q := fun x => x.1 = nI (10 ^ (6 - cn o 6) * prd o st od 6) ∧ RC x.2 t R G S K B M ∧ kC x.2 40 (thK K o st 6))
    (lp_ok 6 (fun j x => x.1 = nI (10 ^ (6 - cn o j) * prd o st od j) ∧ x.2.1 = nI j ∧ RC x.2.2 t R G S K B M ∧ kC x.2.2 40 (thK K o st j)) (by omega) ⟨e60, rfl, RC_fr hC gBB.1 v2 crt_ir, ?_⟩ ?_ ?_) ?_
  · have e : thK K o st 0 = K := by unfold thK; rw [th_zero]
    rw [e]; exact v1
  · rintro j ⟨x1, x2, w⟩ hj ⟨h1, h2, h3, h4⟩
    simp only at h1 h2 h3 h4
    subst h1 h2
    have c5 := cn_5 ⟨o, ho⟩ ⟨p, hp⟩ hop ⟨j, by omega⟩
    simp only at c5
    have wl := w_le (z := prd o st od j) (by omega : cn o j ≤ 6) (prd_le hod j)
    simp (disch := omega) only [b_X10_thinOut_19, litI, nI_leI, if_neg, nI_sh]
    cases q : o.testBit j
    · simp only [Bool.toNat_false, if_true]
      have e1 : prd o st od (j + 1) = prd o st od j := by simp only [prd, q, Bool.false_eq_true, if_false]
      have e2 : cn o (j + 1) = cn o j := by simp only [cn, q, Bool.false_eq_true, if_false]
      have e3 : thK K o st (j + 1) = thK K o st j := by unfold thK; rw [th_same (by rw [q]; rfl)]
      refine ok_some ⟨?_, by rw [nI_add], h3, ?_⟩
      · rw [e1, e2]
      · rw [e3]; exact h4
    · simp only [Bool.toNat_true, if1n]
      have e2 : cn o (j + 1) = cn o j + 1 := by simp only [cn, q, if_true]
      have e4 : 6 - cn o (j + 1) = 5 - cn o j := by omega
      cases q2 : st.testBit j
      · simp only [Bool.toNat_false, if_true]
        have e1 : prd o st od (j + 1) = prd o st od j * (10 - od) := by simp only [prd, q, q2, if_true, Bool.false_eq_true, if_false]
        simp (disch := omega) only [nI_div, nI_sub, nI_mul, gm_letE, w_step c5]
        refine ok_bind (c_goOut h4 (gK_gQ (gK_th gKK o st j) gRr) (by omega)) ?_
        rintro z ⟨z1, z2⟩
        refine ok_some ⟨?_, by rw [nI_add], RC_fr h3 gBB.1 z2 crt_ir, ?_⟩
        · rw [e1, e4, Nat.mul_assoc]
        · have e3 : thK K o st (j + 1) = ((thK K o st j).1, (thK K o st j).2.1, (thK K o st j).2.2.1, (thK K o st j).2.2.2.filter (fun e => e.1 != j)) := by
            unfold thK
            rw [th_out (by rw [q, q2]; rfl)]
          rw [e3]; exact z1
      · simp only [Bool.toNat_true, if1n]
        have e1 : prd o st od (j + 1) = prd o st od j * od := by simp only [prd, q, q2, if_true]
        have e3 : thK K o st (j + 1) = thK K o st j := by unfold thK; rw [th_same (by rw [q, q2]; rfl)]
        simp (disch := omega) only [nI_div, nI_mul, gm_letE, w_step c5]
        refine ok_some ⟨?_, by rw [nI_add], h3, ?_⟩
        · rw [e1, e4, Nat.mul_assoc]
        · rw [e3]; exact h4
  · rintro ⟨x1, x2, w⟩ ⟨h1, h2, h3, h4⟩
    simp only at h1 h2 h3 h4
    subst h1 h2
    simp (disch := omega) only [b_X10_thinOut_19, litI, nI_leI, if_pos]
    exact ok_some ⟨rfl, h3, h4⟩
  · rintro ⟨o, w⟩ h
    exact ok_some h
theorem qB_oth : ∀ b : Fin 64, ∀ p i : Fin 6, (b.1 &&& (63 - 2 ^ p.1)).testBit i.1 = (b.1.testBit i.1 && decide (i.1 ≠ p.1)) := pc_sub2
theorem lN_pow (m : Nat) : lN (10 ^ m) * (10 : Int64) = lN (10 ^ (m + 1)) := by rw [litJ, lN_mul, Nat.pow_succ]
theorem p10_le {m : Nat} (h : m ≤ 6) : 1 ≤ 10 ^ m ∧ 10 ^ m ≤ 1000000 := ⟨Nat.pow_pos (by omega), Nat.pow_le_pow_right (n := 10) (by omega) h⟩
theorem st_chance (n : Nat) : St_chance (RelN (n + 1)) (RelN n) := by
  intro uC uM h a b
  obtain ⟨h0, t, R, G, S, K, B, M, g, hC, hM⟩ := RelN_mono n uC uM h
  have hM1 := RM_t (x := 0) hM g
  obtain ⟨-, gRr, -, -, -, gKK, gBB, -⟩ := id g
  have gq := gK_gQ gKK gRr
  have g1 := gRr.1
  have h40 := gRr.2.2.1.2
  have hyn := Yn_lt n
  have gK2 := gK_up (Z := 8000) gKK (by omega)
  have hk1 := gKK.1
  unfold f_X10_chance f_X11_chance
  simp only [gm_letE]
  generalize sI uM 1 0 (0 : Int32) = u1 at *
  rcases inq g hC hM1 a with ⟨p, i, e, hp, rfl, he, hep, hbit, e1, e2, e3, hi6⟩ | ⟨e1, e2⟩
  · rw [e1, e2, e3]
    simp only [Option.bind_some, if1]
    rw [if_neg (show ¬ nI i < (0 : Int32) from nI_pos (by omega))]
    rcases wi_cases b 10 (by omega) with ⟨od, hod, rfl, e⟩ | ⟨e, e4⟩
    · have e' : f_X11_within (nI od) 0 10 = nI 1 := e
      rw [e', if1, if_neg (show ¬ nI od < (0 : Int32) from nI_pos (by omega)), if_pos (show nI od ≤ (10 : Int32) from (nI_leI (b := 10) (by omega) (by omega)).mpr hod)]
      obtain ⟨hM2, c49⟩ := m_cand hM1 g
      generalize sI u1 1 49 (gI u1 3 2) = u2 at *
      have hqb : qB K.2.2.2 < 64 := qB_lt (fun e he => gq.2 e he)
      have p6 : p < 6 := by omega
      rw [c_queueBits hC.2.2.2.2.1 gq, m_inQueue hM2.2.2.2.2.1 gq]
      simp only [Option.bind_some]
      have ea : nI (qB K.2.2.2) &&& (((1 : Int32) <<< (nI p &&& 31)) ^^^ (-1 : Int32)) = nI (qB K.2.2.2 &&& (63 - 2 ^ p)) := nI_and1 ⟨_, hqb⟩ ⟨p, p6⟩
      rw [ea]
      have ho1 : qB K.2.2.2 &&& (63 - 2 ^ p) < 64 := Nat.lt_of_le_of_lt Nat.and_le_left hqb
      have ho2 : ∀ i, i < 6 → (qB K.2.2.2 &&& (63 - 2 ^ p)).testBit i = (decide (∃ e ∈ K.2.2.2, e.1 = i) && decide (i ≠ p)) := fun i hi => by
        rw [← qB_test]; exact pc_sub2 ⟨_, hqb⟩ ⟨p, p6⟩ ⟨i, hi⟩
      generalize qB K.2.2.2 &&& (63 - 2 ^ p) = o at *
      have hop : o.testBit p = false := by rw [ho2 p p6]; simp
      have ho3 : ∀ i, rN R ≤ i → o.testBit i = false := fun i hi => by
        rcases Nat.lt_or_ge i 6 with z | z
        · rw [ho2 i z]
          have : ¬ ∃ e ∈ K.2.2.2, e.1 = i := fun ⟨e, he, w⟩ => by
            have := (gKK.2.2.2.2 e he).1
            omega
          simp [this]
        · exact Nat.testBit_lt_two_pow (Nat.lt_of_lt_of_le ho1 (by
            have := Nat.pow_le_pow_right (n := 2) (by omega) z
            omega))
      have c5 := cn_5 ⟨o, ho1⟩ ⟨p, p6⟩ hop ⟨6, by omega⟩
      simp only at c5
      have cpc := cn_pc ⟨o, ho1⟩
      simp only at cpc
      have wb : ∀ st, wCh R K o p od st ≤ 1000000 := fun st => by
        unfold wCh
        have := prd_le (o := o) (st := st) hod 6
        have := (p10_le (show cn o 6 ≤ 6 by omega)).2
        split
        · split <;> omega
        · omega
      have hearD : ∀ st, (rideK R (rCandle R) (thK K o st 6)).2.2.1.testBit p = (dayH R (rCandle R) (killK R (nxt (thK K o st 6).1) (thK K o st 6))).2.testBit p := fun st => by
        show (K.2.2.1 ||| _).testBit p = _
        rw [Nat.testBit_or, hbit]; rfl
      have dlt : ∀ st, (dayH R (rCandle R) (killK R (nxt (thK K o st 6).1) (thK K o st 6))).2 < 64 := fun st => dayH_lt (gK_kill (gK_th gK2 o st 6) (by
        have := gap_le (thK K o st 6).1
        have : (thK K o st 6).1 = K.1 := rfl
        unfold nxt; omega)) gRr
      refine two_q (nI (10 ^ (6 - cn o 6) * chS (wCh R K o p od) 64)) h0 g ?_ ?_
      · refine ok_bind (Q := fun x => x.1 = nI (10 ^ (6 - cn o 6) * chS (wCh R K o p od) 64) ∧ RC x.2 t R G S K B M)
          (lp_ok 64 (fun T x => x.1 = nI (10 ^ (6 - cn o 6) * chS (wCh R K o p od) T) ∧ x.2.1 = nI T ∧ RC x.2.2 t R G S K B M) (by omega) ⟨rfl, rfl, hC⟩ ?_ ?_) ?_
        · rintro T ⟨x1, x2, w⟩ hT ⟨k1, k2, k3⟩
          simp only at k1 k2 k3
          subst k1 k2
          have al := and_lt ⟨o, ho1⟩ ⟨T, hT⟩
          simp only at al
          have es : chS (wCh R K o p od) (T + 1) = chS (wCh R K o p od) T + wCh R K o p od T := rfl
          have ex : nI T &&& (nI o ^^^ (-nI 1)) = nI (T &&& (63 - o)) := nI_andx hT ho1
          simp (disch := omega) only [b_X10_chance_43, litI, nI_leI, if_neg, ex, nI_eq]
          by_cases q : T &&& (63 - o) = 0
          · rw [if_pos q]
            refine ok_bind (c_thinOut k3 g ho1 hT hod p6 hop) ?_
            rintro ⟨o1, z⟩ ⟨z1, z2, z3⟩
            simp only at z1 z2 z3
            subst z1
            obtain ⟨-, ⟨r, hr, hrC⟩, -⟩ := id z2
            obtain ⟨i1, i2, i3⟩ := isR_ok hr
            simp only
            rw [i3] at i1 ⊢
            simp only [i1, if_true, hrC.1.2.2.1]
            refine ok_bind (c_passToDay hrC gRr z3 (gK_th gK2 o T 6) i2 (.inr rfl) (by show K.1 + 8 ≤ 8000; omega) (by omega) (by omega)) ?_
            rintro ⟨o2, y⟩ ⟨y1, y2, y3, -⟩
            simp only at y1 y2 y3
            subst y2
            have RCy := RC_fr z2 gBB.1 y1 (dayP_ir i2)
            simp only
            rw [nI_sh (dlt T) p6, ← hearD T]
            cases q2 : (rideK R (rCandle R) (thK K o T 6)).2.2.1.testBit p
            · simp only [Bool.toNat_false, if_true]
              have ew : wCh R K o p od T = 0 := by unfold wCh; rw [if_pos q, if_neg (by rw [q2]; decide)]
              refine ok_some ⟨?_, by rw [nI_add], RCy⟩
              rw [es, ew]; rfl
            · simp only [Bool.toNat_true, if1n]
              have ew : wCh R K o p od T = prd o T od 6 := by unfold wCh; rw [if_pos q, if_pos q2]
              rw [gm_letE, nI_add]
              refine ok_some ⟨?_, by rw [nI_add], RCy⟩
              rw [es, ew, Nat.mul_add]
          · rw [if_neg q]
            have ew : wCh R K o p od T = 0 := by unfold wCh; rw [if_neg q]
            refine ok_some ⟨?_, by rw [nI_add], k3⟩
            rw [es, ew]; rfl
        · rintro ⟨x1, x2, w⟩ ⟨k1, k2, k3⟩
          simp only at k1 k2 k3
          subst k1 k2
          simp (disch := omega) only [b_X10_chance_43, litI, nI_leI, if_pos]
          exact ok_some ⟨rfl, k3⟩
        · rintro ⟨x, w⟩ hx
          exact ok_some hx
      · have hp6 := pc_le o
        have lb : gm_lp (b_X11_chance_63 (nI p) (nI od) (nI o) u2) gm_FU ((1 : Int64), (0 : Int32)) = some (lN (10 ^ pc o)) := by
          have := lp_for (b := b_X11_chance_63 (nI p) (nI od) (nI o) u2) (pc o) (fun j => (lN (10 ^ j), nI j)) (lN (10 ^ pc o)) (by omega) (fun j hj => by
            simp (disch := omega) only [b_X11_chance_63, pc_m ho1, Option.bind_some, nI_leI, if_neg, gm_letE, lN_pow, litI, nI_add]) (by
            simp (disch := omega) only [b_X11_chance_63, pc_m ho1, Option.bind_some, nI_leI, if_pos])
          exact this
        rw [lb]
        simp only [Option.bind_some]
        refine ok_bind (m_save hM2.2.2.2.2.1 gq) ?_
        rintro v ⟨v1, v2, v3⟩
        refine ok_bind (Q := fun x => x.1 = lN (chS (wCh R K o p od) (o + 1)) ∧ RM x.2 t R G S K B M)
          (lp_ok (o + 1) (fun T x => x.1 = lN (chS (wCh R K o p od) T) ∧ x.2.1 = nI T ∧ jM u2 x.2.2 ∧ kM x.2.2 29 0 K ∧ gI x.2.2 1 49 = nI (rCandle R) ∧ RM x.2.2 t R G S K B M) (by omega) ⟨rfl, rfl, v1, v2, (fr_I v3 (by omega)).trans c49, RM_q hM2 g v3 (fun a j z => .inl (.inr (.inr (.inr (.inl z.1))))) (fun j hj => fr_I v3 (by omega))⟩ ?_ ?_) ?_
        · rintro T ⟨x1, x2, w⟩ hT ⟨k1, k2, k3, k4, k5, k6⟩
          simp only at k1 k2 k3 k4 k5 k6
          subst k1 k2
          have al := and_lt ⟨o, ho1⟩ ⟨T, by omega⟩
          simp only at al
          have es : chS (wCh R K o p od) (T + 1) = chS (wCh R K o p od) T + wCh R K o p od T := rfl
          have ex : nI T &&& (nI o ^^^ (-nI 1)) = nI (T &&& (63 - o)) := nI_andx (by omega) ho1
          simp (disch := omega) only [b_X11_chance_102, litI, nI_ltI, if_neg, ex, nI_eq]
          by_cases q : T &&& (63 - o) = 0
          · rw [if_pos q]
            refine ok_bind (Q := fun x => x.1 = lN (prd o T od 6) ∧ jM u2 x.2 ∧ kM x.2 29 0 (thK K o T 6) ∧ gI x.2 1 49 = nI (rCandle R))
              (lp_ok (rN R) (fun j x => x.1 = lN (prd o T od j) ∧ x.2.1 = nI j ∧ jM u2 x.2.2 ∧ kM x.2.2 29 0 (thK K o T j) ∧ gI x.2.2 1 49 = nI (rCandle R)) (by omega) ⟨rfl, rfl, k3, ?_, k5⟩ ?_ ?_) ?_
            · have e : thK K o T 0 = K := by unfold thK; rw [th_zero]
              rw [e]; exact k4
            · rintro j ⟨x1, x2, y⟩ hj ⟨l1, l2, l3, l4, l5⟩
              simp only at l1 l2 l3 l4 l5
              subst l1 l2
              have e30 : gI y 3 0 = nI (rN R) := (fr_I l3.2 (fun z => by rcases z with z | z | z | z | z <;> omega)).trans hM2.2.1.1.1
              simp (disch := omega) only [b_X11_chance_126, litI, e30, nI_leI, if_neg, nI_sh]
              cases q1 : o.testBit j
              · simp only [Bool.toNat_false, if_true]
                have e1 : prd o T od (j + 1) = prd o T od j := by simp only [prd, q1, Bool.false_eq_true, if_false]
                have e3 : thK K o T (j + 1) = thK K o T j := by unfold thK; rw [th_same (by rw [q1]; rfl)]
                refine ok_some ⟨?_, by rw [nI_add], l3, ?_, l5⟩
                · rw [e1]
                · rw [e3]; exact l4
              · simp only [Bool.toNat_true, if1n]
                cases q2 : T.testBit j
                · simp only [Bool.toNat_false]
                  rw [if_neg (by decide)]
                  have e1 : prd o T od (j + 1) = prd o T od j * (10 - od) := by simp only [prd, q1, q2, if_true, Bool.false_eq_true, if_false]
                  simp (disch := omega) only [j_X11_chance_165, j_X11_chance_184, litI, nI_eq, if_true, gm_letE, nI_sub, nI_l, lN_mul]
                  obtain ⟨e5, he5, w5⟩ : ∃ e ∈ K.2.2.2, e.1 = j := by
                    rw [ho2 j (by omega)] at q1
                    simp only [Bool.and_eq_true, decide_eq_true_eq] at q1
                    exact q1.1
                  have hmem : e5 ∈ (thK K o T j).2.2.2 := List.mem_filter.mpr ⟨he5, by simp [w5]⟩
                  obtain ⟨i5, hi5⟩ := List.mem_iff_getElem?.mp hmem
                  refine ok_bind (m_leaves l4 (gK_gQ (gK_th gKK o T j) gRr) hi5 w5) ?_
                  rintro z ⟨z1, z2⟩
                  refine ok_some ⟨?_, by rw [nI_add], jM_step l3 (fr_mono z2 (fun a j z => .inl ⟨z.1, by omega⟩)), ?_, (fr_I z2 (by omega)).trans l5⟩
                  · rw [e1]
                  · have e3 : thK K o T (j + 1) = ((thK K o T j).1, (thK K o T j).2.1, (thK K o T j).2.2.1, (thK K o T j).2.2.2.filter (fun e => e.1 != j)) := by
                      unfold thK
                      rw [th_out (by rw [q1, q2]; rfl)]
                    rw [e3]; exact z1
                · simp only [Bool.toNat_true, if_true]
                  have e1 : prd o T od (j + 1) = prd o T od j * od := by simp only [prd, q1, q2, if_true]
                  have e3 : thK K o T (j + 1) = thK K o T j := by unfold thK; rw [th_same (by rw [q1, q2]; rfl)]
                  simp (disch := omega) only [j_X11_chance_165, j_X11_chance_184, litI, if1n, gm_letE, nI_l, lN_mul]
                  refine ok_some ⟨?_, by rw [nI_add], l3, ?_, l5⟩
                  · rw [e1]
                  · rw [e3]; exact l4
            · rintro ⟨x1, x2, y⟩ ⟨l1, l2, l3, l4, l5⟩
              simp only at l1 l2 l3 l4 l5
              subst l1 l2
              have e30 : gI y 3 0 = nI (rN R) := (fr_I l3.2 (fun z => by rcases z with z | z | z | z | z <;> omega)).trans hM2.2.1.1.1
              simp (disch := omega) only [b_X11_chance_126, e30, nI_leI, if_pos]
              refine ok_some ⟨?_, l3, ?_, l5⟩
              · rw [prd_all ho3 6 g1]
              · have e3 : thK K o T 6 = thK K o T (rN R) := by
                  unfold thK
                  rw [th_all (fun e he => (gKK.2.2.2.2 e he).1) g1]
                rw [e3]; exact l4
            · rintro ⟨x1, y⟩ ⟨l1, l3, l4, l5⟩
              simp only at l1 l3 l4 l5
              subst l1
              refine ok_bind (j_ride l3 hM2.2.1 gRr l4 (gK_th gK2 o T 6) (by show K.1 + 8 ≤ 8000; omega) (by omega) (by omega) l5 hM2.2.2.2.2.2.2.2) ?_
              rintro z ⟨z1, z2, z3, -⟩
              have gz := gK_ride (C := rCandle R) (gK_th gK2 o T 6) gRr (by show K.1 + 8 ≤ 8000; omega)
              have fin : ∀ c, ok (j_X11_chance_223 (nI p) (nI od) (nI o) (lN (10 ^ pc o)) (lN c) (nI T) z) (stp (fun x => x.1 = lN c ∧ x.2.1 = nI (T + 1) ∧ jM u2 x.2.2 ∧ kM x.2.2 29 0 K ∧ gI x.2.2 1 49 = nI (rCandle R) ∧ RM x.2.2 t R G S K B M) (fun x => x.1 = lN (chS (wCh R K o p od) (o + 1)) ∧ RM x.2 t R G S K B M)) := by
                intro c
                unfold j_X11_chance_223
                refine ok_bind (m_back hM2 g z1) ?_
                rintro y ⟨y1, y2, y3, y4⟩
                exact ok_some ⟨rfl, nI_add T 1, y2, y3, (y4 49).trans z3, y1⟩
              rw [gm_letE, m_isHeard z2 p6 gz.2.2.1]
              cases q2 : (rideK R (rCandle R) (thK K o T 6)).2.2.1.testBit p
              · simp only [Bool.toNat_false, if_true]
                have ew : wCh R K o p od T = 0 := by unfold wCh; rw [if_pos q, if_neg (by rw [q2]; decide)]
                rw [show chS (wCh R K o p od) (T + 1) = chS (wCh R K o p od) T by rw [es, ew]; rfl]
                exact fin _
              · simp only [Bool.toNat_true, if1n]
                have ew : wCh R K o p od T = prd o T od 6 := by unfold wCh; rw [if_pos q, if_pos q2]
                rw [gm_letE, lN_add, es, ew]
                exact fin _
          · rw [if_neg q]
            have ew : wCh R K o p od T = 0 := by unfold wCh; rw [if_neg q]
            refine ok_some ⟨?_, by rw [nI_add], k3, k4, k5, k6⟩
            rw [es, ew]; rfl
        · rintro ⟨x1, x2, w⟩ ⟨k1, k2, k3, k4, k5, k6⟩
          simp only at k1 k2 k3 k4 k5 k6
          subst k1 k2
          simp (disch := omega) only [b_X11_chance_102, nI_ltI, if_pos]
          exact ok_some ⟨rfl, k6⟩
        · rintro ⟨x1, w⟩ ⟨k1, k2⟩
          simp only at k1 k2
          subst k1
          have hc := chS_le wb (o + 1)
          have hp10 := p10_le hp6
          have z64 : chS (wCh R K o p od) 64 = chS (wCh R K o p od) (o + 1) := by
            have := chS_zero (w := wCh R K o p od) (T := o + 1) (fun i hi1 hi2 => by
              unfold wCh
              rw [if_neg (fun z => by
                have := sub_le ⟨o, ho1⟩ ⟨i, hi2⟩ z
                simp only at this
                omega)]) (64 - (o + 1)) (by omega)
            rw [show o + 1 + (64 - (o + 1)) = 64 by omega] at this
            exact this
          have hm : (o + 1) * 1000000 ≤ 64000000 := by omega
          have ne : ¬ lN (10 ^ pc o) = 0 := by
            intro z
            have z2 : lN (10 ^ pc o) = lN 0 := z
            rw [lN_eq (by omega) (by omega)] at z2
            omega
          simp only
          rw [if_pos ne, litJ, lN_mul, lN_div (by omega) (by omega), lN_i]
          refine ok_some ⟨?_, k2⟩
          show nI _ = nI _
          congr 1
          rw [z64, ← cpc]
          have e6 : (1000000 : Nat) = 10 ^ (6 - cn o 6) * 10 ^ cn o 6 := by
            rw [← Nat.pow_add, Nat.sub_add_cancel (by omega)]
          rw [e6, ← Nat.mul_assoc, Nat.mul_div_cancel _ (Nat.pow_pos (by omega)), Nat.mul_comm]
    · have e' : f_X11_within b 0 10 = nI 0 := e
      rw [e', if0]
      refine two_q (-1) h0 g ?_ (ok_some ⟨rfl, hM1⟩)
      rcases nI_cases b 11 (by omega) with ⟨j, hj, rfl⟩ | w | ⟨j, hj, hj2, rfl⟩
      · exact absurd rfl (e4 j (by omega))
      · rw [if_pos (show b < (0 : Int32) from w)]
        exact ok_some ⟨rfl, hC⟩
      · rw [if_neg (show ¬ nI j < (0 : Int32) from nI_pos hj2), if_neg (show ¬ nI j ≤ (10 : Int32) from fun z => by rw [show (10 : Int32) = nI 10 from rfl, nI_leI hj2 (by omega)] at z; omega)]
        exact ok_some ⟨rfl, hC⟩
  · rw [e1]
    simp only [Option.bind_some, if0]
    refine two_q (-1) h0 g (ok_some ⟨rfl, hC⟩) ?_
    rcases e2 with z | ⟨z1, z2⟩
    · rw [z, if0]; exact ok_some ⟨rfl, hM1⟩
    · rw [z1, z2, if1]
      simp only [Option.bind_some]
      rw [if_pos (show (-nI 1 : Int32) < 0 by decide)]
      exact ok_some ⟨rfl, hM1⟩
