/-! judged: lines of a reign on a trial -/
def qaP : Nat → Nat → Prop := fun a j => (a = 29 ∧ j < 22) ∨ (a = 1 ∧ (j = 49 ∨ j = 50 ∨ j = 51 ∨ j = 56)) ∨ (13 ≤ a ∧ a ≤ 22) ∨ (35 ≤ a ∧ a ≤ 36) ∨ a = 30
def jA (u v : gm_M) : Prop := (∀ j, j < 22 → gI v 30 j = gI u 29 j) ∧ fr qaP u v
theorem qaP_ok (a j : Nat) (z : qaP a j) : irM a j ∨ (a = 29 ∧ j < 22) := by
  rcases z with z | z | z | z | z
  · exact .inr z
  · exact .inl (.inl ⟨z.1, by omega, by omega, by omega⟩)
  · exact .inl (.inr (.inl ⟨by omega, by omega⟩))
  · exact .inl (.inr (.inr (.inr (.inr (.inl (by omega))))))
  · exact .inl (.inr (.inr (.inl z)))
theorem jA_step {u v w : gm_M} (h : jA u v) (f : fr hdP v w) : jA u w := by
  refine ⟨fun j hj => (fr_I f (fun z => by rcases z with z | z | z | z <;> omega)).trans (h.1 j hj), fr_trans h.2 (fr_mono f (fun a j z => ?_))⟩
  rcases z with z | z | z | z
  · exact .inl z
  · exact .inr (.inl ⟨z.1, by omega⟩)
  · exact .inr (.inr (.inl z))
  · exact .inr (.inr (.inr (.inl z)))
theorem jA_s {u v w : gm_M} (h : jA u v) (f : fr (fun a j => a = 29 ∧ j < 22) v w) : jA u w := jA_step h (fr_mono f (fun _ _ z => .inl z))
theorem jA_r {u v : gm_M} {R : pR} (h : jA u v) (hr : rM u R) (hn : rN R ≤ 6) : rM v R := rM_fr hr hn h.2 (fun a j q z => by rcases z with z | z | z | z | z <;> rcases q with q | q | q | q <;> omega)
theorem jA_46 {u v : gm_M} (h : jA u v) : gI v 1 46 = gI u 1 46 := fr_I h.2 (fun z => by rcases z with z | z | z | z | z <;> omega)
theorem m_saveA {u : gm_M} {K : pK} (hk : kM u 29 0 K) (hq : gQ K.2.2.2) : ok (f_X11_copies 29 22 (0 : Int32) 30 22 (0 : Int32) u) (fun v => jA u v ∧ kM v 29 0 K ∧ fr (fun a j => a = 30 ∧ j < 22) u v) := by
  refine ok_mono (m_copies (u := u) (A := 29) (n1 := 22) (o1 := 0) (B := 30) (n2 := 22) (o2 := 0) (by omega) (by omega) (by omega) (by omega) (by omega)) ?_
  rintro v ⟨h1, h2⟩
  simp only [Nat.zero_add] at h1 h2
  exact ⟨⟨h1, fr_mono h2 (fun a j z => .inr (.inr (.inr (.inr z.1))))⟩, kM_fr hk hq h2 (fun j _ _ z => by omega), fr_mono h2 (fun a j z => ⟨z.1, z.2.2⟩)⟩
theorem m_backA {u v : gm_M} {n : Nat} {t : List Nat} {R : pR} {G : pG} {S : pS} {K : pK} {B : List pK} {M : pMk} (h : RM u t R G S K B M) (g : gA n t R G S K B M) (j : jA u v) : ok (f_X11_copies 30 22 (0 : Int32) 29 22 (0 : Int32) v) (fun w => RM w t R G S K B M) := by
  refine ok_mono (m_copies (u := v) (A := 30) (n1 := 22) (o1 := 0) (B := 29) (n2 := 22) (o2 := 0) (by omega) (by omega) (by omega) (by omega) (by omega)) ?_
  rintro w ⟨h1, h2⟩
  simp only [Nat.zero_add] at h1 h2
  have hf : fr qaP u w := fr_trans j.2 (fr_mono h2 (fun a j z => .inl ⟨z.1, z.2.2⟩))
  exact RM_q h g hf qaP_ok (fun i hi => (h1 i hi).trans (j.1 i hi))
def goK (R : pR) (k : pK) (l : Nat × Nat) : Bool × pK :=
  if l.1 = 0 then (if canE R k l.2 = true then (true, (k.1, k.2.1, k.2.2.1, k.2.2.2 ++ [(l.2, k.1, 0)])) else (false, k))
  else if l.1 = 1 then (if k.2.2.2.any (fun e => e.1 == l.2) = true then (true, (k.1, k.2.1, k.2.2.1, k.2.2.2.filter (fun e => e.1 != l.2))) else (false, k))
  else if l.1 = 2 then (true, (k.1, min 60 (k.2.1 + l.2), k.2.2.1, k.2.2.2))
  else if l.1 = 3 then (true, passK R false (rCandle R) k) else (true, rideK R (rCandle R) k)
def gLn (R : pR) (l : Nat × Nat) : Prop := l.1 ≤ 4 ∧ (l.1 < 2 → l.2 < rN R) ∧ (l.1 = 2 → 1 ≤ l.2 ∧ l.2 ≤ 20)
theorem passK_h (R : pR) (jul : Bool) (C : Nat) (k : pK) : ∃ d, (passK R jul C k).2.2.1 = k.2.2.1 ||| d := by
  unfold passK
  split
  · exact ⟨_, rfl⟩
  · exact ⟨0, (Nat.or_zero _).symm⟩
theorem gK_go {R : pR} {Y : Nat} {k : pK} {l : Nat × Nat} (h : gK R Y k) (hg : gR1 R) (hy : k.1 + 8 ≤ Y) (hl : gLn R l) : gK R Y (goK R k l).2 ∧ (goK R k l).2.1 ≤ k.1 + 8 ∧ ∃ d, (goK R k l).2.2.2.1 = k.2.2.1 ||| d := by
  have zz : ∃ d, k.2.2.1 = k.2.2.1 ||| d := ⟨0, (Nat.or_zero _).symm⟩
  unfold goK
  by_cases l0 : l.1 = 0
  · rw [if_pos l0]
    by_cases q : canE R k l.2 = true
    · rw [if_pos q]
      exact ⟨(gK_enter h (hl.2.1 (by omega)) q).1, by show k.1 ≤ _; omega, zz⟩
    · rw [if_neg q]
      exact ⟨h, by show k.1 ≤ _; omega, zz⟩
  · rw [if_neg l0]
    by_cases l1 : l.1 = 1
    · rw [if_pos l1]
      by_cases q : k.2.2.2.any (fun e => e.1 == l.2) = true
      · rw [if_pos q]
        exact ⟨gK_out h _, by show k.1 ≤ _; omega, zz⟩
      · rw [if_neg q]
        exact ⟨h, by show k.1 ≤ _; omega, zz⟩
    · rw [if_neg l1]
      by_cases l2 : l.1 = 2
      · rw [if_pos l2]
        exact ⟨gK_lamp h (Nat.min_le_left _ _), by show k.1 ≤ _; omega, zz⟩
      · rw [if_neg l2]
        by_cases l3 : l.1 = 3
        · rw [if_pos l3]
          exact ⟨gK_pass false h hg (by omega), by rw [passK_y]; omega, passK_h _ _ _ _⟩
        · rw [if_neg l3]
          exact ⟨gK_ride h hg hy, rideK_y _ _ _, ⟨_, rfl⟩⟩
theorem c_follow {u : gm_M} {n Y : Nat} {t : List Nat} {R : pR} {G : pG} {S : pS} {K k : pK} {B : List pK} {M : pMk} {l : Nat × Nat} {part : Int32} (hC : RC u t R G S K B M) (g : gA n t R G S K B M) (hk : kC u 40 k) (hgk : gK R Y k) (hy : k.1 + 8 ≤ Y) (hY : Y < 2 ^ 30) (hl : gLn R l) (hp : l.1 < 3 → part = nI l.2) :
    ok (f_X10_follow (nI (l.1 + 7)) part u) (fun o => o.1 = nI (goK R k l).1.toNat ∧ RC o.2 t R G S K B M ∧ kC o.2 40 (goK R k l).2) := by
  obtain ⟨-, gRr, -, -, -, -, gBB, -⟩ := id g
  have g1 := gRr.1
  have h40 := gRr.2.2.1.2
  have gq := gK_gQ hgk gRr
  obtain ⟨-, ⟨r, hr, hrC⟩, -⟩ := id hC
  obtain ⟨i1, i2, i3⟩ := isR_ok hr
  have l4 := hl.1
  unfold f_X10_follow
  rw [i3] at i1 ⊢
  simp (disch := omega) only [litI, nI_eq, i1, if_true]
  have cr : ∀ v, fr (crt 40) u v → RC v t R G S K B M := fun v hv => RC_fr hC gBB.1 hv crt_ir
  by_cases l0 : l.1 = 0
  · rw [if_pos (show l.1 + 7 = 7 by omega), hp (by omega)]
    have hpn := hl.2.1 (by omega)
    obtain ⟨o, eo, co⟩ := c_mayEnter hrC gRr hk gq (by omega) hgk.2.2.1 (nI l.2)
    have co2 : o = nI (canE R k l.2).toNat := by
      rcases co with ⟨p', hp', w, z⟩ | ⟨w, -⟩
      · have : p' = l.2 := by rw [nI_eq (by omega) (by omega)] at w; omega
        rw [z, this]
      · exact absurd rfl (w l.2 hpn)
    rw [eo, co2]
    simp only [Option.bind_some]
    cases q : canE R k l.2
    · simp only [Bool.toNat_false, if0n]
      have e : goK R k l = (false, k) := by unfold goK; rw [if_pos l0, q]; rfl
      rw [e]
      exact ok_some ⟨rfl, hC, hk⟩
    · simp only [Bool.toNat_true, if1n]
      have e : goK R k l = (true, (k.1, k.2.1, k.2.2.1, k.2.2.2 ++ [(l.2, k.1, 0)])) := by unfold goK; rw [if_pos l0, q]; rfl
      rw [e]
      obtain ⟨gE, nE⟩ := gK_enter hgk hpn q
      have lE := gQ_len (gK_gQ gE gRr)
      simp only [List.length_append, List.length_singleton] at lE
      refine ok_bind (c_enter hk gq (by omega) (by omega) nE) ?_
      rintro v ⟨v1, v2⟩
      exact ok_some ⟨rfl, cr v v2, v1⟩
  · rw [if_neg (show ¬ l.1 + 7 = 7 by omega)]
    by_cases l1 : l.1 = 1
    · rw [if_pos (show l.1 + 7 = 8 by omega), hp (by omega)]
      have hpn := hl.2.1 (by omega)
      obtain ⟨o, eo, co⟩ := c_isQueued hk gq (nI l.2)
      rw [eo]
      simp only [Option.bind_some]
      rcases co with ⟨i, e, he, w, rfl⟩ | ⟨w, rfl⟩
      · have h6 := gQ_at gq he
        rw [nI_eq (by omega) (by omega)] at w
        have q : k.2.2.2.any (fun e => e.1 == l.2) = true := List.any_eq_true.mpr ⟨e, List.mem_of_getElem? he, by simp [w]⟩
        have e : goK R k l = (true, (k.1, k.2.1, k.2.2.1, k.2.2.2.filter (fun e => e.1 != l.2))) := by unfold goK; rw [if_neg l0, if_pos l1, if_pos q]
        rw [e, if1n]
        refine ok_bind (c_goOut hk gq (by omega)) ?_
        rintro v ⟨v1, v2⟩
        exact ok_some ⟨rfl, cr v v2, v1⟩
      · have q : ¬ k.2.2.2.any (fun e => e.1 == l.2) = true := fun z => by
          obtain ⟨e, he, z2⟩ := List.any_eq_true.mp z
          have z3 : e.1 = l.2 := by simpa using z2
          exact w e he (by rw [z3])
        have e : goK R k l = (false, k) := by unfold goK; rw [if_neg l0, if_pos l1, if_neg q]
        rw [e, if0n]
        exact ok_some ⟨rfl, hC, hk⟩
    · rw [if_neg (show ¬ l.1 + 7 = 8 by omega)]
      by_cases l2 : l.1 = 2
      · rw [if_pos (show l.1 + 7 = 9 by omega), hp (by omega)]
        obtain ⟨m1, m2⟩ := hl.2.2 l2
        have e : goK R k l = (true, (k.1, min 60 (k.2.1 + l.2), k.2.2.1, k.2.2.2)) := by unfold goK; rw [if_neg l0, if_neg l1, if_pos l2]
        rw [e]
        refine ok_bind (c_light hk hgk.2.1 m2) ?_
        rintro v ⟨v1, v2⟩
        exact ok_some ⟨rfl, cr v v2, v1⟩
      · rw [if_neg (show ¬ l.1 + 7 = 9 by omega)]
        by_cases l3 : l.1 = 3
        · rw [if_pos (show l.1 + 7 = 10 by omega)]
          have e : goK R k l = (true, passK R false (rCandle R) k) := by unfold goK; rw [if_neg l0, if_neg l1, if_neg l2, if_pos l3]
          rw [e]
          refine ok_bind (c_pass (jul := false) hrC gRr hk hgk i2 (.inr rfl) (by omega) hY) ?_
          rintro ⟨o, v⟩ ⟨v1, v2⟩
          exact ok_some ⟨rfl, RC_fr hC gBB.1 v1 (dayP_ir i2), v2⟩
        · rw [if_neg (show ¬ l.1 + 7 = 10 by omega), hrC.1.2.2.1]
          have e : goK R k l = (true, rideK R (rCandle R) k) := by unfold goK; rw [if_neg l0, if_neg l1, if_neg l2, if_neg l3]
          rw [e]
          refine ok_bind (c_passToDay hrC gRr hk hgk i2 (.inr rfl) hy hY (by omega)) ?_
          rintro ⟨o, v⟩ ⟨v1, -, v2, -⟩
          exact ok_some ⟨rfl, RC_fr hC gBB.1 v1 (dayP_ir i2), v2⟩
theorem nI_min60 {a : Nat} (h : a < 2 ^ 30) : (if nI a < nI 60 then nI a else nI 60) = nI (min 60 a) := by
  rcases Nat.lt_or_ge a 60 with q | q
  · rw [if_pos ((nI_ltI (by omega) (by omega)).mpr q), Nat.min_eq_right (by omega)]
  · rw [if_neg (fun p => by rw [nI_ltI (by omega) (by omega)] at p; omega), Nat.min_eq_left (by omega)]
theorem m_goes {u v : gm_M} {i Y : Nat} {R : pR} {k : pK} {l : Nat × Nat} (j : jA u v) (hr : rM u R) (hg : gR1 R) (hk : kM v 29 0 k) (hgk : gK R Y k) (hy : k.1 + 8 ≤ Y) (hY : Y < 2 ^ 30) (h49 : gI v 1 49 = nI (rCandle R)) (h46 : gI u 1 46 = nI 0) (hi : i < 40) (hl : gLn R l) (h24 : gI v 24 i = nI l.1) (h25 : l.1 < 3 → gI v 25 i = nI l.2) :
    ok (f_X11_goes (nI i) v) (fun o => o.1 = nI (goK R k l).1.toNat ∧ jA u o.2 ∧ kM o.2 29 0 (goK R k l).2 ∧ gI o.2 1 49 = nI (rCandle R)) := by
  have g1 := hg.1
  have h40 := hg.2.2.1.2
  have gq := gK_gQ hgk hg
  have hrv := jA_r j hr g1
  have l4 := hl.1
  have k60 := hgk.2.1
  have c49 : ∀ w, fr hdP v w → gI w 1 49 = nI (rCandle R) := fun w hw => (fr_I hw (fun z => by rcases z with z | z | z | z <;> omega)).trans h49
  have s49 : ∀ w, fr (fun a j => a = 29 ∧ j < 22) v w → gI w 1 49 = nI (rCandle R) := fun w hw => (fr_I hw (by omega)).trans h49
  simp (disch := omega) only [f_X11_goes, litI, ib_nI, ix_nI, if_pos, gm_let, h24, nI_eq]
  by_cases l0 : l.1 = 0
  · rw [if_pos l0, h25 (by omega)]
    have hpn := hl.2.1 (by omega)
    rw [m_canCome hrv hg hk gq hpn (by omega) hgk.2.2.1]
    simp only [Option.bind_some]
    cases q : canE R k l.2
    · simp only [Bool.toNat_false, if0n]
      have e : goK R k l = (false, k) := by unfold goK; rw [if_pos l0, q]; rfl
      rw [e]
      exact ok_some ⟨rfl, j, hk, h49⟩
    · simp only [Bool.toNat_true, if1n]
      have e : goK R k l = (true, (k.1, k.2.1, k.2.2.1, k.2.2.2 ++ [(l.2, k.1, 0)])) := by unfold goK; rw [if_pos l0, q]; rfl
      rw [e]
      obtain ⟨gE, nE⟩ := gK_enter hgk hpn q
      have lE := gQ_len (gK_gQ gE hg)
      simp only [List.length_append, List.length_singleton] at lE
      refine ok_bind (m_comes hk (by omega) (by omega) nE gq) ?_
      rintro w ⟨v1, v2⟩
      exact ok_some ⟨rfl, jA_s j v2, v1, s49 w v2⟩
  · rw [if_neg l0]
    by_cases l1 : l.1 = 1
    · rw [if_pos l1, h25 (by omega)]
      have hpn := hl.2.1 (by omega)
      obtain ⟨o, eo, co⟩ := m_placeOf hk gq (nI l.2)
      rw [eo]
      simp only [Option.bind_some]
      rcases co with ⟨i', e, he, w, rfl⟩ | ⟨w, rfl⟩
      · have h6 := gQ_at gq he
        have hl6 := gQ_len gq
        have hi6 := (List.getElem?_eq_some_iff.mp he).1
        rw [nI_eq (by omega) (by omega)] at w
        have q : k.2.2.2.any (fun e => e.1 == l.2) = true := List.any_eq_true.mpr ⟨e, List.mem_of_getElem? he, by simp [w]⟩
        have e' : goK R k l = (true, (k.1, k.2.1, k.2.2.1, k.2.2.2.filter (fun e => e.1 != l.2))) := by unfold goK; rw [if_neg l0, if_pos l1, if_pos q]
        rw [e', if_pos ((nI_leI (by omega) (by omega)).mpr (Nat.zero_le _))]
        refine ok_bind (m_leaves hk gq he w) ?_
        rintro w ⟨v1, v2⟩
        have v3 : fr (fun a j => a = 29 ∧ j < 22) v w := fr_mono v2 (fun a j z => ⟨z.1, by omega⟩)
        exact ok_some ⟨rfl, jA_s j v3, v1, s49 w v3⟩
      · have q : ¬ k.2.2.2.any (fun e => e.1 == l.2) = true := fun z => by
          obtain ⟨e, he, z2⟩ := List.any_eq_true.mp z
          have z3 : e.1 = l.2 := by simpa using z2
          exact w e he (by rw [z3])
        have e : goK R k l = (false, k) := by unfold goK; rw [if_neg l0, if_pos l1, if_neg q]
        rw [e, if_neg (show ¬ nI 0 ≤ -nI 1 by decide)]
        exact ok_some ⟨rfl, j, hk, h49⟩
    · rw [if_neg l1]
      by_cases l2 : l.1 = 2
      · rw [if_pos l2, h25 (by omega)]
        obtain ⟨m1, m2⟩ := hl.2.2 l2
        have e : goK R k l = (true, (k.1, min 60 (k.2.1 + l.2), k.2.2.1, k.2.2.2)) := by unfold goK; rw [if_neg l0, if_neg l1, if_pos l2]
        have e1 : gI v 29 1 = nI k.2.1 := hk.1.2.1
        rw [e, e1, nI_add, nI_min60 (by omega)]
        have v2 : fr (fun a j => a = 29 ∧ j < 22) v (sI v 29 1 (nI (min 60 (k.2.1 + l.2)))) := fr_sI (fr_refl _ _) ⟨rfl, by omega⟩
        exact ok_some ⟨rfl, jA_s j v2, kM_lamps hk, s49 _ v2⟩
      · rw [if_neg l2]
        by_cases l3 : l.1 = 3
        · rw [if_pos l3]
          have e : goK R k l = (true, passK R false (rCandle R) k) := by unfold goK; rw [if_neg l0, if_neg l1, if_neg l2, if_pos l3]
          rw [e]
          refine ok_bind (m_pass (old := false) hrv hg hk hgk (by omega) hY (by omega) h49 ((jA_46 j).trans h46)) ?_
          rintro ⟨o, w⟩ ⟨v1, v2⟩
          exact ok_some ⟨rfl, jA_step j v1, v2, c49 w v1⟩
        · rw [if_neg l3]
          have e : goK R k l = (true, rideK R (rCandle R) k) := by unfold goK; rw [if_neg l0, if_neg l1, if_neg l2, if_neg l3]
          rw [e]
          refine ok_bind (m_rides hrv hg hk hgk hy hY (by omega) h49 ((jA_46 j).trans h46)) ?_
          rintro w ⟨v1, v2, -⟩
          exact ok_some ⟨rfl, jA_step j v1, v2, c49 w v1⟩
theorem bits_n : ∀ h : Fin 64, f_X11_bits (nI h.1) = some (f_J6_bitCount_0f7a4 (nI h.1)) := by decide +kernel
theorem m_fresh0 {u : gm_M} {R : pR} (h : rM u R) : ok (f_X11_fresh0 u) (fun v => kM v 29 0 (rYear R, 0, 0, []) ∧ fr (fun a j => a = 29 ∧ j < 22) u v) := by
  simp only [f_X11_fresh0]
  refine ok_bind (Q := fun v => fr (fun a j => a = 29 ∧ j < 22) u v ∧ ∀ j, j < 22 → gI v 29 j = nI 0)
    (lp_ok 22 (fun k x => x.1 = nI k ∧ fr (fun a j => a = 29 ∧ j < 22) u x.2 ∧ ∀ j, j < k → gI x.2 29 j = nI 0) (by omega) ⟨rfl, fr_refl _ _, fun j hj => absurd hj (by omega)⟩ ?_ ?_) ?_
  · rintro k ⟨x, v⟩ hk ⟨hx, hf, hj⟩
    simp only at hx hf hj
    subst hx
    simp (disch := omega) only [b_X11_fresh0_2, litI, nI_leI, if_neg, ib_nI, ix_nI, if_pos, gm_let, nI_add]
    refine ok_some ⟨rfl, fr_sI hf ⟨rfl, by omega⟩, fun j hj2 => ?_⟩
    by_cases q : j = k
    · exact gI_eq rfl q
    · rw [gI_ne (by omega)]; exact hj j (by omega)
  · rintro ⟨x, v⟩ ⟨hx, hf, hj⟩
    simp only at hx hf hj
    subst hx
    simp (disch := omega) only [b_X11_fresh0_2, litI, nI_leI, if_pos]
    exact ok_some ⟨hf, hj⟩
  · rintro v ⟨hf, hj⟩
    have e : gI v 3 1 = nI (rYear R) := (fr_I hf (by omega)).trans h.1.2.1
    simp only [gm_let, e]
    refine ok_some ⟨⟨⟨gI_eq rfl rfl, ?_, ?_, ?_⟩, fun i e hi => by simp at hi⟩, fr_sI hf ⟨rfl, by omega⟩⟩
    · rw [gI_ne (by omega)]; exact hj 1 (by omega)
    · rw [gI_ne (by omega)]; exact hj 2 (by omega)
    · rw [gI_ne (by omega)]; exact hj 3 (by omega)
