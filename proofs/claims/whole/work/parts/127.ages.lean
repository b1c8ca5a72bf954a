/-! the reference's year of draws; ages -/
theorem jA_56 {u v : gm_M} {x : Int64} (h : jA u v) : jA u (sJ v 1 56 x) := ⟨fun j hj => h.1 j hj, fr_sJ h.2 (.inr (.inl ⟨rfl, .inr (.inr (.inr rfl))⟩))⟩
theorem kM_sJ {v : gm_M} {a o b j : Nat} {x : Int64} {k : pK} (h : kM v a o k) : kM (sJ v b j x) a o k := ⟨h.1, h.2⟩
theorem m_ly58 {D : Nat → Nat} (hD : isD D) {u v : gm_M} {R : pR} {k : pK} {g Y : Nat} (j : jA u v) (hr : rM u R) (hg : gR1 R) (hk : kM v 29 0 k) (hgk : gK R Y k) (hy : k.1 + 1 ≤ Y) (hY : Y < 2 ^ 30) (h49 : gI v 1 49 = nI (rCandle R)) (h46 : gI u 1 46 = nI 0) (hgg : g < 2147483648) (hJ : gJ v 1 56 = lN g) :
    ok (j_X11_livesYear_58 v) (fun w => jA u w ∧ kM w 29 0 (passK R false (rCandle R) (lmK D g k).2) ∧ gI w 1 49 = nI (rCandle R) ∧ gJ w 1 56 = lN (lmK D g k).1) := by
  have h40 := hg.2.2.1.2
  have k60 := hgk.2.1
  have fin : ∀ (w : gm_M) (k' : pK) (g' : Nat), jA u w → kM w 29 0 k' → gK R Y k' → k'.1 = k.1 → gI w 1 49 = nI (rCandle R) → gJ w 1 56 = lN g' → ok (j_X11_livesYear_93 w) (fun w => jA u w ∧ kM w 29 0 (passK R false (rCandle R) k') ∧ gI w 1 49 = nI (rCandle R) ∧ gJ w 1 56 = lN g') := by
    intro w k' g' j1 k1 gk1 y1 c1 J1
    rw [j_X11_livesYear_93]
    refine ok_bind (m_pass (old := false) (jA_r j1 hr hg.1) hg k1 gk1 (by omega) hY (by omega) c1 ((jA_46 j1).trans h46)) ?_
    rintro ⟨o, z⟩ ⟨z1, z2⟩
    exact ok_some ⟨jA_step j1 z1, z2, (fr_I z1 (fun z => by rcases z with z | z | z | z <;> omega)).trans c1, (fr_J z1 (fun z => by rcases z with z | z | z | z <;> omega)).trans J1⟩
  have d6 := m_draws hD (m := 6) (by omega) (by omega) hgg hJ
  have d6' : f_X11_draws (6 : Int32) v = _ := d6
  rw [j_X11_livesYear_58, d6']
  simp only [Option.bind_some]
  have j1 : jA u (sJ v 1 56 (lN (D g))) := jA_56 j
  have k1 : kM (sJ v 1 56 (lN (D g))) 29 0 k := kM_sJ hk
  have c1 : gI (sJ v 1 56 (lN (D g))) 1 49 = nI (rCandle R) := h49
  have J1 : gJ (sJ v 1 56 (lN (D g))) 1 56 = lN (D g) := gJ_eq rfl rfl
  generalize sJ v 1 56 (lN (D g)) = v1 at *
  have lt6 : D g / 65536 % 6 < 6 := Nat.mod_lt _ (by omega)
  by_cases q : D g / 65536 % 6 = 0
  · have e : lmK D g k = (D (D g), (k.1, min 60 (k.2.1 + (D (D g) / 65536 % 20 + 1)), k.2.2.1, k.2.2.2)) := by unfold lmK; rw [if_pos q]
    have d20 := m_draws hD (m := 20) (by omega) (by omega) (hD.1 _) J1
    have d20' : f_X11_draws (20 : Int32) v1 = _ := d20
    have e1 : gI v1 29 1 = nI k.2.1 := k1.1.2.1
    have lt20 : D (D g) / 65536 % 20 < 20 := Nat.mod_lt _ (by omega)
    rw [q, if0, d20', e]
    simp only [Option.bind_some, gm_letE, e1]
    have em : (if nI k.2.1 + nI (D (D g) / 65536 % 20) + (1 : Int32) < (60 : Int32) then nI k.2.1 + nI (D (D g) / 65536 % 20) + (1 : Int32) else (60 : Int32)) = nI (min 60 (k.2.1 + (D (D g) / 65536 % 20 + 1))) := by
      have e2 : nI k.2.1 + nI (D (D g) / 65536 % 20) + (1 : Int32) = nI (k.2.1 + (D (D g) / 65536 % 20 + 1)) := by
        rw [nI_add, show (1 : Int32) = nI 1 from rfl, nI_add, Nat.add_assoc]
      rw [e2]
      exact nI_min60 (by omega)
    rw [em]
    have v2 : fr (fun a j => a = 29 ∧ j < 22) (sJ v1 1 56 (lN (D (D g)))) (sI (sJ v1 1 56 (lN (D (D g)))) 29 1 (nI (min 60 (k.2.1 + (D (D g) / 65536 % 20 + 1))))) := fr_sI (fr_refl _ _) ⟨rfl, by omega⟩
    exact fin _ (k.1, min 60 (k.2.1 + (D (D g) / 65536 % 20 + 1)), k.2.2.1, k.2.2.2) _ (jA_s (jA_56 j1) v2) (kM_lamps (kM_sJ k1)) (gK_lamp hgk (Nat.min_le_left _ _)) rfl ((fr_I v2 (by omega)).trans c1) ((fr_J v2 (by omega)).trans (gJ_eq rfl rfl))
  · have e : lmK D g k = (D g, k) := by unfold lmK; rw [if_neg q]
    rw [if_neg (show ¬ nI (D g / 65536 % 6) = (0 : Int32) from fun z => q ((nI_eq (b := 0) (by omega) (by omega)).mp z)), e]
    exact fin v1 k _ j1 k1 hgk rfl c1 J1
theorem m_year {D : Nat → Nat} (hD : isD D) {u v : gm_M} {R : pR} {x : Nat × pK} {Y : Nat} (j : jA u v) (hr : rM u R) (hg : gR1 R) (hk : kM v 29 0 x.2) (hgk : gK R Y x.2) (hy : x.2.1 + 1 ≤ Y) (hY : Y < 2 ^ 30) (h49 : gI v 1 49 = nI (rCandle R)) (h46 : gI u 1 46 = nI 0) (hgg : x.1 < 2147483648) (hJ : gJ v 1 56 = lN x.1) :
    ok (f_X11_livesYear v) (fun w => jA u w ∧ kM w 29 0 (lyK D R x).2 ∧ gI w 1 49 = nI (rCandle R) ∧ gJ w 1 56 = lN (lyK D R x).1) := by
  have g1 := hg.1
  have gq := gK_gQ hgk hg
  have hrv := jA_r j hr g1
  obtain ⟨a1, a2, a3, a4⟩ := vs_g hD hgk hgg
  have fin : ∀ w, jA u w → kM w 29 0 (vsK D R x.1 x.2).2 → gI w 1 49 = nI (rCandle R) → gJ w 1 56 = lN (vsK D R x.1 x.2).1 → ok (j_X11_livesYear_58 w) (fun w => jA u w ∧ kM w 29 0 (lyK D R x).2 ∧ gI w 1 49 = nI (rCandle R) ∧ gJ w 1 56 = lN (lyK D R x).1) := fun w q1 q2 q3 q4 => m_ly58 hD q1 hr hg q2 a2 (by omega) hY q3 h46 a1 q4
  unfold f_X11_livesYear
  rw [hrv.1.1]
  by_cases n0 : rN R = 0
  · have e : vsK D R x.1 x.2 = (x.1, x.2) := by unfold vsK; rw [if_pos n0]
    rw [n0, if_pos (by decide)]
    exact fin v j (by rw [e]; exact hk) h49 (by rw [e]; exact hJ)
  · rw [if_neg (show ¬ nI (rN R) ≤ (0 : Int32) from fun z => n0 (by have := (nI_leI (b := 0) (by omega) (by omega)).mp z; omega)), m_draws hD (by omega) (by omega) hgg hJ]
    simp only [Option.bind_some]
    have j1 : jA u (sJ v 1 56 (lN (D x.1))) := jA_56 j
    have k1 : kM (sJ v 1 56 (lN (D x.1))) 29 0 x.2 := kM_sJ hk
    have c1 : gI (sJ v 1 56 (lN (D x.1))) 1 49 = nI (rCandle R) := h49
    have J1 : gJ (sJ v 1 56 (lN (D x.1))) 1 56 = lN (D x.1) := gJ_eq rfl rfl
    generalize sJ v 1 56 (lN (D x.1)) = v1 at *
    have hr1 := jA_r j1 hr g1
    have hp : D x.1 / 65536 % rN R < rN R := Nat.mod_lt _ (by omega)
    rw [m_canCome hr1 hg k1 gq hp (by omega) hgk.2.2.1]
    simp only [Option.bind_some]
    cases q : canE R x.2 (D x.1 / 65536 % rN R)
    · simp only [Bool.toNat_false, if0]
      obtain ⟨o, eo, co⟩ := m_placeOf k1 gq (nI (D x.1 / 65536 % rN R))
      rw [eo]
      simp only [Option.bind_some]
      rcases co with ⟨i', e, he, w, rfl⟩ | ⟨w, rfl⟩
      · have h6 := gQ_at gq he
        have hl6 := gQ_len gq
        have hi6 := (List.getElem?_eq_some_iff.mp he).1
        rw [nI_eq (by omega) (by omega)] at w
        have q2 : x.2.2.2.2.any (fun e => e.1 == D x.1 / 65536 % rN R) = true := List.any_eq_true.mpr ⟨e, List.mem_of_getElem? he, by simp [w]⟩
        have d8 := m_draws hD (m := 8) (by omega) (by omega) (hD.1 x.1) J1
        have d8' : f_X11_draws (8 : Int32) v1 = _ := d8
        rw [if_neg (show ¬ nI i' < (0 : Int32) from nI_pos (by omega)), d8']
        simp only [Option.bind_some]
        have j2 : jA u (sJ v1 1 56 (lN (D (D x.1)))) := jA_56 j1
        have k2 : kM (sJ v1 1 56 (lN (D (D x.1)))) 29 0 x.2 := kM_sJ k1
        have c2 : gI (sJ v1 1 56 (lN (D (D x.1)))) 1 49 = nI (rCandle R) := c1
        have J2 : gJ (sJ v1 1 56 (lN (D (D x.1)))) 1 56 = lN (D (D x.1)) := gJ_eq rfl rfl
        generalize sJ v1 1 56 (lN (D (D x.1))) = v2 at *
        have lt8 : D (D x.1) / 65536 % 8 < 8 := Nat.mod_lt _ (by omega)
        by_cases q3 : D (D x.1) / 65536 % 8 = 0
        · have ev : vsK D R x.1 x.2 = (D (D x.1), (x.2.1, x.2.2.1, x.2.2.2.1, x.2.2.2.2.filter (fun e => e.1 != D x.1 / 65536 % rN R))) := by
            unfold vsK; rw [if_neg n0, if_neg (by rw [q]; decide), if_pos q2, if_pos q3]
          rw [q3, if0]
          refine ok_bind (m_leaves k2 gq he w) ?_
          rintro z ⟨z1, z2⟩
          have z3 : fr (fun a j => a = 29 ∧ j < 22) v2 z := fr_mono z2 (fun a j z => ⟨z.1, by omega⟩)
          exact fin z (jA_s j2 z3) (by rw [ev]; exact z1) ((fr_I z3 (by omega)).trans c2) (by rw [ev]; exact (fr_J z3 (by omega)).trans J2)
        · have ev : vsK D R x.1 x.2 = (D (D x.1), x.2) := by
            unfold vsK; rw [if_neg n0, if_neg (by rw [q]; decide), if_pos q2, if_neg q3]
          rw [if_neg (show ¬ nI (D (D x.1) / 65536 % 8) = (0 : Int32) from fun z => q3 ((nI_eq (b := 0) (by omega) (by omega)).mp z))]
          exact fin v2 j2 (by rw [ev]; exact k2) c2 (by rw [ev]; exact J2)
      · have q2 : ¬ x.2.2.2.2.any (fun e => e.1 == D x.1 / 65536 % rN R) = true := fun z => by
          obtain ⟨e, he, z2⟩ := List.any_eq_true.mp z
          have z3 : e.1 = D x.1 / 65536 % rN R := by simpa using z2
          exact w e he (by rw [z3])
        have ev : vsK D R x.1 x.2 = (D x.1, x.2) := by
          unfold vsK; rw [if_neg n0, if_neg (by rw [q]; decide), if_neg q2]
        rw [if_pos (show (-nI 1 : Int32) < 0 by decide)]
        exact fin v1 j1 (by rw [ev]; exact k1) c1 (by rw [ev]; exact J1)
    · simp only [Bool.toNat_true, if1]
      have ev : vsK D R x.1 x.2 = (D x.1, (x.2.1, x.2.2.1, x.2.2.2.1, x.2.2.2.2 ++ [(D x.1 / 65536 % rN R, x.2.1, 0)])) := by
        unfold vsK; rw [if_neg n0, if_pos q]
      obtain ⟨gE, nE⟩ := gK_enter hgk hp q
      have lE := gQ_len (gK_gQ gE hg)
      simp only [List.length_append, List.length_singleton] at lE
      refine ok_bind (m_comes k1 (by omega) (by omega) nE gq) ?_
      rintro z ⟨z1, z2⟩
      exact fin z (jA_s j1 z2) (by rw [ev]; exact z1) ((fr_I z2 (by omega)).trans c1) (by rw [ev]; exact (fr_J z2 (by omega)).trans J1)
theorem bt_more : ∀ h d : Fin 64, f_J6_bitCount_0f7a4 (nI (h.1 ||| d.1) &&& (nI h.1 ^^^ (-1 : Int32))) = f_J6_bitCount_0f7a4 (nI (h.1 ||| d.1)) - f_J6_bitCount_0f7a4 (nI h.1) := by decide +kernel
theorem or_both {h d : Nat} (hh : h < 64) : h ||| d < 64 → ∃ e, e < 64 ∧ h ||| d = h ||| e := fun hd => ⟨h ||| d, hd, by rw [← Nat.or_assoc, Nat.or_self]⟩
theorem bt_more' {h h' d : Nat} (hh : h < 64) (hh' : h' < 64) (e : h' = h ||| d) : f_J6_bitCount_0f7a4 (nI h' &&& (nI h ^^^ (-1 : Int32))) = f_J6_bitCount_0f7a4 (nI h') - f_J6_bitCount_0f7a4 (nI h) := by
  subst e
  obtain ⟨e, he, ee⟩ := or_both hh hh'
  rw [ee]
  exact bt_more ⟨h, hh⟩ ⟨e, he⟩
def itL (D : Nat → Nat) (R : pR) (x : Nat × pK) : Nat → Nat × pK
  | 0 => x
  | i + 1 => lyK D R (itL D R x i)
theorem itL_g {D : Nat → Nat} (hD : isD D) {R : pR} {Y : Nat} {x : Nat × pK} (h : gK R Y x.2) (hg : x.1 < 2147483648) (hR : gR1 R) (i : Nat) (hy : x.2.1 + i ≤ Y) : (itL D R x i).1 < 2147483648 ∧ gK R Y (itL D R x i).2 ∧ (itL D R x i).2.1 = x.2.1 + i ∧ ∃ d, (itL D R x i).2.2.2.1 = x.2.2.2.1 ||| d := by
  induction i with
  | zero => exact ⟨hg, h, rfl, 0, (Nat.or_zero _).symm⟩
  | succ i ih =>
    obtain ⟨a, b, c, d, e⟩ := ih (by omega)
    obtain ⟨a', b', c', d', e'⟩ := ly_g hD b a hR (by omega)
    exact ⟨a', b', by show (lyK D R (itL D R x i)).2.1 = _; omega, d ||| d', by show (lyK D R (itL D R x i)).2.2.2.1 = _; rw [e', e, Nat.or_assoc]⟩
theorem st_ages (n : Nat) : St_ages (RelN (n + 1)) (RelN n) := by
  intro uC uM h a1 a2 a3
  obtain ⟨h0, t, R, G, S, K, B, M, g, hC, hM⟩ := RelN_mono n uC uM h
  have hM1 := RM_t (x := 0) hM g
  obtain ⟨-, gRr, -, -, -, gKK, gBB, -⟩ := id g
  have gq := gK_gQ gKK gRr
  have hyn := Yn_lt n
  have hk1 := gKK.1
  have gK2 := gK_up (Z := 8000) gKK (by omega)
  unfold f_X10_ages f_X11_ages
  simp only [gm_letE]
  generalize sI uM 1 0 (0 : Int32) = u1 at *
  have bad : ∀ {x : Option (Int32 × gm_M)}, x = some ((-1 : Int32), uC) → ∃ (r : Int32) (uC' uM' : gm_M), x = some (r, uC') ∧ some ((-1 : Int32), u1) = some (r, uM') ∧ RelN n uC' uM' := fun e => ⟨-1, uC, u1, e, rfl, h0, t, R, G, S, K, B, M, g, hC, hM1⟩
  rcases wi_cases a1 9999 (by omega) with ⟨s, hs, rfl, e⟩ | ⟨e, e3⟩
  · have e' : f_X11_within (nI s) 0 9999 = nI 1 := e
    rw [e', if1, if_neg (show ¬ nI s < (0 : Int32) from nI_pos (by omega)), if_neg (show ¬ (9999 : Int32) < nI s from fun z => by rw [show (9999 : Int32) = nI 9999 from rfl, nI_ltI (by omega) (by omega)] at z; omega)]
    rcases wi1 a2 99 (by omega) (by omega) with ⟨y, m1, m2, rfl, e⟩ | ⟨e, e2⟩
    · have e' : f_X11_within (nI y) 1 99 = nI 1 := e
      rw [e', if1, if_neg (show ¬ nI y < (1 : Int32) from fun z => by rw [show (1 : Int32) = nI 1 from rfl, nI_ltI (by omega) (by omega)] at z; omega), if_neg (show ¬ (99 : Int32) < nI y from fun z => by rw [show (99 : Int32) = nI 99 from rfl, nI_ltI (by omega) (by omega)] at z; omega)]
      rcases wi_cases a3 2 (by omega) with ⟨w, hw, rfl, e⟩ | ⟨e, e3⟩
      · have e' : f_X11_within (nI w) 0 2 = nI 1 := e
        rw [e', if1, if_neg (show ¬ nI w < (0 : Int32) from nI_pos (by omega)), if_pos (show nI w ≤ (2 : Int32) from (nI_leI (b := 2) (by omega) (by omega)).mpr hw)]
        obtain ⟨D, hD⟩ := drw_ex
        have sJl : (nI s).toInt64 = lN s := nI_l (by omega)
        rw [sJl]
        have fJ : fr (fun a j => a = 1 ∧ j = 0) uC (sJ uC 1 0 (lN s)) := fr_sJ (fr_refl _ _) ⟨rfl, rfl⟩
        have hC1 := RC_fr hC gBB.1 fJ (fun a j z => .inr (.inr (.inr (.inr (.inr z)))))
        have J1 : gJ (sJ uC 1 0 (lN s)) 1 0 = lN s := gJ_eq rfl rfl
        generalize sJ uC 1 0 (lN s) = c1 at *
        have hM2 : RM (sJ u1 1 56 (lN s)) t R G S K B M := RM_q hM1 g (P := fun a j => a = 1 ∧ j = 56) (fr_sJ (fr_refl _ _) ⟨rfl, rfl⟩) (fun a j z => .inl (.inl ⟨z.1, by omega, by omega, by omega⟩)) (fun j hj => rfl)
        have J2 : gJ (sJ u1 1 56 (lN s)) 1 56 = lN s := gJ_eq rfl rfl
        generalize sJ u1 1 56 (lN s) = m1' at *
        obtain ⟨hM3, c49⟩ := m_cand hM2 g
        have J3 : gJ (sI m1' 1 49 (gI m1' 3 2)) 1 56 = lN s := J2
        generalize sI m1' 1 49 (gI m1' 3 2) = u2 at *
        have ga := fun i (hi : i ≤ y) => itL_g hD (x := (s, K)) (Y := 8000) gK2 (show s < 2147483648 by omega) gRr i (by show K.1 + i ≤ 8000; omega)
        obtain ⟨-, gb, gc, d, hd⟩ := ga y (Nat.le_refl _)
        refine two_q (if w = 0 then f_J6_bitCount_0f7a4 (nI (itL D R (s, K) y).2.2.2.1) - f_J6_bitCount_0f7a4 (nI K.2.2.1) else if w = 1 then nI (qB (itL D R (s, K) y).2.2.2.2) else nI (itL D R (s, K) y).2.1) h0 g ?_ ?_
        · refine ok_bind (c_copy (c := 40) (d := 27) hC1.2.2.2.2.1 gq (by omega)) ?_
          rintro v ⟨v1, v2⟩
          refine ok_bind (Q := fun v => RC v t R G S K B M ∧ kC v 40 (itL D R (s, K) y).2)
            (lp_ok y (fun m x => x.1 = nI m ∧ RC x.2 t R G S K B M ∧ kC x.2 40 (itL D R (s, K) m).2 ∧ gJ x.2 1 0 = lN (itL D R (s, K) m).1) (by omega) ⟨rfl, RC_fr hC1 gBB.1 v2 crt_ir, v1, (fr_J v2 (crt_no (by omega))).trans J1⟩ ?_ ?_) ?_
          · rintro m ⟨x, w⟩ hm ⟨hx, hw1, hw2, hw3⟩
            simp only at hx hw1 hw2 hw3
            subst hx
            obtain ⟨p1, p2, p3, -⟩ := ga m (by omega)
            refine ok_mono (c_year hD (a1 := nI s) (a3 := nI _) hm m2 hw1 g hw2 p2 (by rw [p3]; show K.1 + m + 1 ≤ 8000; omega) (by omega) p1 hw3) ?_
            rintro o ⟨z, rfl, z1, z2, z3⟩
            exact ⟨rfl, z1, z2, z3⟩
          · rintro ⟨x, w⟩ ⟨hx, hw1, hw2, hw3⟩
            simp only at hx hw1 hw2 hw3
            subst hx
            simp (disch := omega) only [b_X10_ages_53, nI_leI, if_pos]
            exact ok_some ⟨hw1, hw2⟩
          · rintro z ⟨z1, z2⟩
            have e1 : gI z 40 2 = nI (itL D R (s, K) y).2.2.2.1 := z2.1.2.2.1
            have e2 : gI z 27 2 = nI K.2.2.1 := z1.2.2.2.2.1.1.2.2.1
            have e3 : gI z 40 0 = nI (itL D R (s, K) y).2.1 := z2.1.1
            rcases (by omega : w = 0 ∨ w = 1 ∨ w = 2) with rfl | rfl | rfl
            · rw [if0, e1, e2, bt_more' gKK.2.2.1 gb.2.2.1 hd]
              exact ok_some ⟨rfl, z1⟩
            · rw [if1, if_pos (show nI 1 = (1 : Int32) from rfl), c_queueBits z2 (gK_gQ gb gRr)]
              exact ok_some ⟨rfl, z1⟩
            · rw [if_neg (show ¬ nI 2 = (0 : Int32) by decide), if_neg (show ¬ nI 2 = (1 : Int32) by decide), e3]
              exact ok_some ⟨rfl, z1⟩
        · refine ok_bind (m_saveA hM3.2.2.2.2.1 gq) ?_
          rintro v ⟨v1, v2, v3⟩
          refine ok_bind (Q := fun v => jA u2 v ∧ kM v 29 0 (itL D R (s, K) y).2)
            (lp_ok y (fun m x => x.1 = nI m ∧ jA u2 x.2 ∧ kM x.2 29 0 (itL D R (s, K) m).2 ∧ gI x.2 1 49 = nI (rCandle R) ∧ gJ x.2 1 56 = lN (itL D R (s, K) m).1) (by omega) ⟨rfl, v1, v2, (fr_I v3 (by omega)).trans c49, (fr_J v3 (by omega)).trans J3⟩ ?_ ?_) ?_
          · rintro m ⟨x, w⟩ hm ⟨hx, hw1, hw2, hw3, hw4⟩
            simp only at hx hw1 hw2 hw3 hw4
            subst hx
            obtain ⟨p1, p2, p3, -⟩ := ga m (by omega)
            simp (disch := omega) only [b_X11_ages_69, nI_leI, if_neg]
            refine ok_bind (m_year hD hw1 hM3.2.1 gRr hw2 p2 (by rw [p3]; show K.1 + m + 1 ≤ 8000; omega) (by omega) hw3 hM3.2.2.2.2.2.2.2 p1 hw4) ?_
            rintro z ⟨z1, z2, z3, z4⟩
            exact ok_some ⟨by rw [litI, nI_add], z1, z2, z3, z4⟩
          · rintro ⟨x, w⟩ ⟨hx, hw1, hw2, hw3, hw4⟩
            simp only at hx hw1 hw2 hw3 hw4
            subst hx
            simp (disch := omega) only [b_X11_ages_69, nI_leI, if_pos]
            exact ok_some ⟨hw1, hw2⟩
          · rintro z ⟨z1, z2⟩
            have e1 : gI z 29 3 = nI (itL D R (s, K) y).2.2.2.1 := z2.1.2.2.2
            have e3 : gI z 29 0 = nI (itL D R (s, K) y).2.1 := z2.1.1
            simp only [e1, e3, bits_n ⟨_, gb.2.2.1⟩, m_inQueue z2 (gK_gQ gb gRr), Option.bind_some]
            refine ok_bind (m_backA hM3 g z1) ?_
            intro y1 hy1
            have e4 : gI y1 29 3 = nI K.2.2.1 := hy1.2.2.2.2.1.1.2.2.2
            rcases (by omega : w = 0 ∨ w = 1 ∨ w = 2) with rfl | rfl | rfl
            · rw [if0, e4, bits_n ⟨_, gKK.2.2.1⟩]
              exact ok_some ⟨rfl, hy1⟩
            · rw [if1, if_pos (show nI 1 = (1 : Int32) from rfl)]
              exact ok_some ⟨rfl, hy1⟩
            · rw [if_neg (show ¬ nI 2 = (0 : Int32) by decide), if_neg (show ¬ nI 2 = (1 : Int32) by decide)]
              exact ok_some ⟨rfl, hy1⟩
      · have e' : f_X11_within a3 0 2 = nI 0 := e
        rw [e', if0]
        refine bad ?_
        rcases nI_cases a3 3 (by omega) with ⟨j, hj, rfl⟩ | w | ⟨j, hj, hj2, rfl⟩
        · exact absurd rfl (e3 j (by omega))
        · rw [if_pos (show a3 < (0 : Int32) from w)]
        · rw [if_neg (show ¬ nI j < (0 : Int32) from nI_pos hj2), if_neg (show ¬ nI j ≤ (2 : Int32) from fun z => by rw [show (2 : Int32) = nI 2 from rfl, nI_leI hj2 (by omega)] at z; omega)]
    · have e' : f_X11_within a2 1 99 = nI 0 := e
      rw [e', if0]
      refine bad ?_
      rcases e2 with z | ⟨z1, z2⟩
      · rw [if_pos (show a2 < (1 : Int32) from z)]
      · rw [if_neg (show ¬ a2 < (1 : Int32) from z1), if_pos (show (99 : Int32) < a2 from by
          have z2' : ¬ a2 ≤ (99 : Int32) := z2
          rw [Int32.le_iff_toInt_le] at z2'
          rw [Int32.lt_iff_toInt_lt]
          omega)]
  · have e' : f_X11_within a1 0 9999 = nI 0 := e
    rw [e', if0]
    refine bad ?_
    rcases nI_cases a1 10000 (by omega) with ⟨j, hj, rfl⟩ | w | ⟨j, hj, hj2, rfl⟩
    · exact absurd rfl (e3 j (by omega))
    · rw [if_pos (show a1 < (0 : Int32) from w)]
    · rw [if_neg (show ¬ nI j < (0 : Int32) from nI_pos hj2), if_pos (show (9999 : Int32) < nI j from (nI_ltI (a := 9999) (by omega) hj2).mpr (by omega))]
