/-! ages: draws -/
theorem litJ (n : Nat) : (@OfNat.ofNat Int64 n Int64.instOfNat) = lN (@OfNat.ofNat Nat n (instOfNatNat n)) := Eq.trans rfl rfl
theorem lN_div {a b : Nat} (ha : a < 2 ^ 63) (hb : b < 2 ^ 63) : lN a / lN b = lN (a / b) := (Int64.ofNat_div ha hb).symm
theorem lN_rem {a b : Nat} (ha : a < 2 ^ 63) (hb : b < 2 ^ 63) : lRem (lN a) (lN b) = lN (a % b) := by
  have e : a / b * b ≤ a := Nat.div_mul_le_self a b
  have e2 : a - a / b * b = a % b := by
    have := Nat.div_add_mod a b
    rw [Nat.mul_comm] at this
    omega
  show lN a - lN a / lN b * lN b = _
  rw [lN_div ha hb, lN_mul, lN_sub e, e2]
def drw (g : Nat) : Nat := (g * 1103515245 + 12345) % 2147483648
/-- the draws, as a function of which no more is known -/
def isD (D : Nat → Nat) : Prop := (∀ g, D g < 2147483648) ∧ ∀ g, g < 2147483648 → lRem (lN g * (1103515245 : Int64) + (12345 : Int64)) (2147483648 : Int64) = lN (D g)
theorem drw_ex : ∃ D, isD D := ⟨drw, fun g => Nat.mod_lt _ (by omega), fun g h => by
  rw [litJ, litJ, litJ, lN_mul, lN_add, lN_rem (by omega) (by omega)]
  rfl⟩
theorem val_n {g m : Nat} (hm : 1 ≤ m) (hm2 : m ≤ 20) (h : g < 2147483648) : (lRem (lN g / (65536 : Int64)) (nI m).toInt64).toInt32 = nI (g / 65536 % m) := by
  rw [litJ, lN_div (by omega) (by omega), nI_l (by omega), lN_rem (by omega) (by omega), lN_i]
theorem nz_n {m : Nat} (hm : 1 ≤ m) (hm2 : m ≤ 20) : ¬ (nI m).toInt64 = 0 := by
  rw [nI_l (by omega)]
  intro z
  have z2 : lN m = lN 0 := z
  rw [lN_eq (by omega) (by omega)] at z2
  omega
theorem c_draw {D : Nat → Nat} (hD : isD D) {u : gm_M} {g m : Nat} (hm : 1 ≤ m) (hm2 : m ≤ 20) (hg : g < 2147483648) (h : gJ u 1 0 = lN g) : f_X10_draw (nI m) u = some (nI (D g / 65536 % m), sJ u 1 0 (lN (D g))) := by
  have e : gJ (sJ u 1 0 (lN (D g))) 1 0 = lN (D g) := gJ_eq rfl rfl
  unfold f_X10_draw
  rw [gm_letE, h, hD.2 g hg, if_pos (show (1 : Int32) ≤ nI m from (nI_leI (a := 1) (by omega) (by omega)).mpr hm), if_pos (nz_n hm hm2), e, val_n hm hm2 (hD.1 g)]
theorem m_draws {D : Nat → Nat} (hD : isD D) {u : gm_M} {g m : Nat} (hm : 1 ≤ m) (hm2 : m ≤ 20) (hg : g < 2147483648) (h : gJ u 1 56 = lN g) : f_X11_draws (nI m) u = some (nI (D g / 65536 % m), sJ u 1 56 (lN (D g))) := by
  have e : gJ (sJ u 1 56 (lN (D g))) 1 56 = lN (D g) := gJ_eq rfl rfl
  unfold f_X11_draws
  rw [gm_letE, h, hD.2 g hg, if_pos (nz_n hm hm2), e, val_n hm hm2 (hD.1 g)]
def vsK (D : Nat → Nat) (R : pR) (g : Nat) (k : pK) : Nat × pK :=
  if rN R = 0 then (g, k)
  else if canE R k (D g / 65536 % rN R) = true then (D g, (k.1, k.2.1, k.2.2.1, k.2.2.2 ++ [(D g / 65536 % rN R, k.1, 0)]))
  else if k.2.2.2.any (fun e => e.1 == D g / 65536 % rN R) = true then (if D (D g) / 65536 % 8 = 0 then (D (D g), (k.1, k.2.1, k.2.2.1, k.2.2.2.filter (fun e => e.1 != D g / 65536 % rN R))) else (D (D g), k))
  else (D g, k)
def lmK (D : Nat → Nat) (g : Nat) (k : pK) : Nat × pK := if D g / 65536 % 6 = 0 then (D (D g), (k.1, min 60 (k.2.1 + (D (D g) / 65536 % 20 + 1)), k.2.2.1, k.2.2.2)) else (D g, k)
def lyK (D : Nat → Nat) (R : pR) (x : Nat × pK) : Nat × pK := ((lmK D (vsK D R x.1 x.2).1 (vsK D R x.1 x.2).2).1, passK R false (rCandle R) (lmK D (vsK D R x.1 x.2).1 (vsK D R x.1 x.2).2).2)
theorem vs_g {D : Nat → Nat} (hD : isD D) {R : pR} {Y g : Nat} {k : pK} (h : gK R Y k) (hg : g < 2147483648) : (vsK D R g k).1 < 2147483648 ∧ gK R Y (vsK D R g k).2 ∧ (vsK D R g k).2.1 = k.1 ∧ (vsK D R g k).2.2.2.1 = k.2.2.1 := by
  unfold vsK
  by_cases n0 : rN R = 0
  · rw [if_pos n0]; exact ⟨hg, h, rfl, rfl⟩
  · rw [if_neg n0]
    have d1 := hD.1 g
    have d2 := hD.1 (D g)
    have hp : D g / 65536 % rN R < rN R := Nat.mod_lt _ (by omega)
    by_cases q : canE R k (D g / 65536 % rN R) = true
    · rw [if_pos q]; exact ⟨d1, (gK_enter h hp q).1, rfl, rfl⟩
    · rw [if_neg q]
      by_cases q2 : k.2.2.2.any (fun e => e.1 == D g / 65536 % rN R) = true
      · rw [if_pos q2]
        by_cases q3 : D (D g) / 65536 % 8 = 0
        · rw [if_pos q3]; exact ⟨d2, gK_out h _, rfl, rfl⟩
        · rw [if_neg q3]; exact ⟨d2, h, rfl, rfl⟩
      · rw [if_neg q2]; exact ⟨d1, h, rfl, rfl⟩
theorem lm_g {D : Nat → Nat} (hD : isD D) {R : pR} {Y g : Nat} {k : pK} (h : gK R Y k) : (lmK D g k).1 < 2147483648 ∧ gK R Y (lmK D g k).2 ∧ (lmK D g k).2.1 = k.1 ∧ (lmK D g k).2.2.2.1 = k.2.2.1 := by
  unfold lmK
  by_cases q : D g / 65536 % 6 = 0
  · rw [if_pos q]; exact ⟨hD.1 _, gK_lamp h (Nat.min_le_left _ _), rfl, rfl⟩
  · rw [if_neg q]; exact ⟨hD.1 _, h, rfl, rfl⟩
theorem ly_g {D : Nat → Nat} (hD : isD D) {R : pR} {Y : Nat} {x : Nat × pK} (h : gK R Y x.2) (hg : x.1 < 2147483648) (hR : gR1 R) (hy : x.2.1 + 1 ≤ Y) : (lyK D R x).1 < 2147483648 ∧ gK R Y (lyK D R x).2 ∧ (lyK D R x).2.1 = x.2.1 + 1 ∧ ∃ d, (lyK D R x).2.2.2.1 = x.2.2.2.1 ||| d := by
  obtain ⟨a1, a2, a3, a4⟩ := vs_g hD h hg
  obtain ⟨b1, b2, b3, b4⟩ := lm_g hD (g := (vsK D R x.1 x.2).1) a2
  refine ⟨b1, gK_pass false b2 hR (by omega), ?_, ?_⟩
  · show (passK _ _ _ _).1 = _
    rw [passK_y]; omega
  · obtain ⟨d, hd⟩ := passK_h R false (rCandle R) (lmK D (vsK D R x.1 x.2).1 (vsK D R x.1 x.2).2).2
    exact ⟨d, by rw [← a4, ← b4]; exact hd⟩
/-! the class's year of draws -/
theorem c_visit {D : Nat → Nat} (hD : isD D) {u : gm_M} {n Y g : Nat} {t : List Nat} {R : pR} {G : pG} {S : pS} {K k : pK} {B : List pK} {M : pMk} (hC : RC u t R G S K B M) (ga : gA n t R G S K B M) (hk : kC u 40 k) (hgk : gK R Y k) (hY : Y < 2 ^ 30) (hg : g < 2147483648) (hJ : gJ u 1 0 = lN g) :
    ok (f_X10_drawVisit u) (fun v => RC v t R G S K B M ∧ kC v 40 (vsK D R g k).2 ∧ gJ v 1 0 = lN (vsK D R g k).1) := by
  obtain ⟨-, gRr, -, -, -, -, gBB, -⟩ := id ga
  have g1 := gRr.1
  have gq := gK_gQ hgk gRr
  obtain ⟨-, ⟨r, hr, hrC⟩, -⟩ := id hC
  obtain ⟨i1, i2, i3⟩ := isR_ok hr
  have hky : k.1 < 2 ^ 30 := Nat.lt_of_le_of_lt hgk.1 hY
  unfold f_X10_drawVisit
  rw [i3, hrC.1.1]
  rw [i3] at i1
  simp only [i1, if_true]
  by_cases n0 : rN R = 0
  · have e : vsK D R g k = (g, k) := by unfold vsK; rw [if_pos n0]
    rw [n0, if_neg (by decide), e]
    exact ok_some ⟨hC, hk, hJ⟩
  · rw [if_pos (show (0 : Int32) < nI (rN R) from (nI_ltI (a := 0) (by omega) (by omega)).mpr (by omega)), c_draw hD (by omega) (by omega) hg hJ]
    simp only [Option.bind_some]
    have fJ : fr (fun a j => a = 1 ∧ j = 0) u (sJ u 1 0 (lN (D g))) := fr_sJ (fr_refl _ _) ⟨rfl, rfl⟩
    have hC1 := RC_fr hC gBB.1 fJ (fun a j z => .inr (.inr (.inr (.inr (.inr z)))))
    have hk1 : kC (sJ u 1 0 (lN (D g))) 40 k := kC_fr hk fJ (fun a j q1 q2 q3 => by omega)
    have hJ1 : gJ (sJ u 1 0 (lN (D g))) 1 0 = lN (D g) := gJ_eq rfl rfl
    generalize sJ u 1 0 (lN (D g)) = u1 at *
    obtain ⟨-, ⟨r, hr, hrC⟩, -⟩ := id hC1
    obtain ⟨i1, i2, i3⟩ := isR_ok hr
    rw [i3] at i1 ⊢
    simp only [i1, if_true]
    have hp : D g / 65536 % rN R < rN R := Nat.mod_lt _ (by omega)
    obtain ⟨o, eo, co⟩ := c_mayEnter hrC gRr hk1 gq hky hgk.2.2.1 (nI (D g / 65536 % rN R))
    have co2 : o = nI (canE R k (D g / 65536 % rN R)).toNat := by
      rcases co with ⟨p', hp', w, z⟩ | ⟨w, -⟩
      · have : p' = D g / 65536 % rN R := by rw [nI_eq (by omega) (by omega)] at w; omega
        rw [z, this]
      · exact absurd rfl (w _ hp)
    rw [eo, co2]
    simp only [Option.bind_some]
    unfold vsK
    rw [if_neg n0]
    generalize D g / 65536 % rN R = p at *
    cases q : canE R k p
    · simp only [Bool.toNat_false, if0, Bool.false_eq_true, if_false]
      obtain ⟨o2, eo2, co2⟩ := c_isQueued hk1 gq (nI p)
      rw [eo2]
      simp only [Option.bind_some]
      rcases co2 with ⟨i, e, he, w, rfl⟩ | ⟨w, rfl⟩
      · have h6 := gQ_at gq he
        rw [nI_eq (by omega) (by omega)] at w
        have q2 : k.2.2.2.any (fun e => e.1 == p) = true := List.any_eq_true.mpr ⟨e, List.mem_of_getElem? he, by simp [w]⟩
        have d8 := c_draw hD (m := 8) (by omega) (by omega) (hD.1 g) hJ1
        have d8' : f_X10_draw (8 : Int32) u1 = _ := d8
        rw [if1, if_pos q2, d8']
        simp only [Option.bind_some]
        have fJ : fr (fun a j => a = 1 ∧ j = 0) u1 (sJ u1 1 0 (lN (D (D g)))) := fr_sJ (fr_refl _ _) ⟨rfl, rfl⟩
        have hC2 := RC_fr hC1 gBB.1 fJ (fun a j z => .inr (.inr (.inr (.inr (.inr z)))))
        have hk2 : kC (sJ u1 1 0 (lN (D (D g)))) 40 k := kC_fr hk1 fJ (fun a j q1 q2 q3 => by omega)
        have hJ2 : gJ (sJ u1 1 0 (lN (D (D g)))) 1 0 = lN (D (D g)) := gJ_eq rfl rfl
        generalize sJ u1 1 0 (lN (D (D g))) = u2 at *
        have lt8 : D (D g) / 65536 % 8 < 8 := Nat.mod_lt _ (by omega)
        by_cases q3 : D (D g) / 65536 % 8 = 0
        · rw [if_pos q3, q3, if0]
          refine ok_bind (c_goOut hk2 gq (by omega)) ?_
          rintro v ⟨v1, v2⟩
          exact ok_some ⟨RC_fr hC2 gBB.1 v2 crt_ir, v1, (fr_J v2 (crt_no (by omega))).trans hJ2⟩
        · rw [if_neg q3, if_neg (show ¬ nI (D (D g) / 65536 % 8) = (0 : Int32) from fun z => q3 ((nI_eq (b := 0) (by omega) (by omega)).mp z))]
          exact ok_some ⟨hC2, hk2, hJ2⟩
      · have q2 : ¬ k.2.2.2.any (fun e => e.1 == p) = true := fun z => by
          obtain ⟨e, he, z2⟩ := List.any_eq_true.mp z
          have z3 : e.1 = p := by simpa using z2
          exact w e he (by rw [z3])
        rw [if0, if_neg q2]
        exact ok_some ⟨hC1, hk1, hJ1⟩
    · simp only [Bool.toNat_true, if1, if_true]
      obtain ⟨gE, nE⟩ := gK_enter hgk hp q
      have lE := gQ_len (gK_gQ gE gRr)
      simp only [List.length_append, List.length_singleton] at lE
      refine ok_bind (c_enter hk1 gq (by omega) (by omega) nE) ?_
      rintro v ⟨v1, v2⟩
      exact ok_some ⟨RC_fr hC1 gBB.1 v2 crt_ir, v1, (fr_J v2 (crt_no (by omega))).trans hJ1⟩
theorem c_year {D : Nat → Nat} (hD : isD D) {u : gm_M} {n Y : Nat} {t : List Nat} {R : pR} {G : pG} {S : pS} {K : pK} {x : Nat × pK} {B : List pK} {M : pMk} {a1 a3 : Int32} {a2 i : Nat} (hi : i < a2) (h99 : a2 ≤ 99) (hC : RC u t R G S K B M) (ga : gA n t R G S K B M) (hk : kC u 40 x.2) (hgk : gK R Y x.2) (hy : x.2.1 + 1 ≤ Y) (hY : Y < 2 ^ 30) (hg : x.1 < 2147483648) (hJ : gJ u 1 0 = lN x.1) :
    ok (b_X10_ages_53 a1 (nI a2) a3 (nI i, u)) (fun o => ∃ v, o = .inl (nI (i + 1), v) ∧ RC v t R G S K B M ∧ kC v 40 (lyK D R x).2 ∧ gJ v 1 0 = lN (lyK D R x).1) := by
  obtain ⟨-, gRr, -, -, -, -, gBB, -⟩ := id ga
  obtain ⟨a1', a2', a3', a4'⟩ := vs_g hD hgk hg
  obtain ⟨b1, b2, b3, b4⟩ := lm_g hD (g := (vsK D R x.1 x.2).1) a2'
  simp (disch := omega) only [b_X10_ages_53, nI_leI, if_neg]
  refine ok_bind (c_visit hD hC ga hk hgk hY hg hJ) ?_
  rintro v ⟨v1, v2, v3⟩
  have d6 := c_draw hD (m := 6) (by omega) (by omega) a1' v3
  have d6' : f_X10_draw (6 : Int32) v = _ := d6
  rw [d6']
  simp only [Option.bind_some]
  have fJ : fr (fun a j => a = 1 ∧ j = 0) v (sJ v 1 0 (lN (D (vsK D R x.1 x.2).1))) := fr_sJ (fr_refl _ _) ⟨rfl, rfl⟩
  have hC2 := RC_fr v1 gBB.1 fJ (fun a j z => .inr (.inr (.inr (.inr (.inr z)))))
  have hk2 : kC (sJ v 1 0 (lN (D (vsK D R x.1 x.2).1))) 40 (vsK D R x.1 x.2).2 := kC_fr v2 fJ (fun a j q1 q2 q3 => by omega)
  have hJ2 : gJ (sJ v 1 0 (lN (D (vsK D R x.1 x.2).1))) 1 0 = lN (D (vsK D R x.1 x.2).1) := gJ_eq rfl rfl
  generalize sJ v 1 0 (lN (D (vsK D R x.1 x.2).1)) = u2 at *
  have fin : ∀ w, RC w t R G S K B M → kC w 40 (lmK D (vsK D R x.1 x.2).1 (vsK D R x.1 x.2).2).2 → gJ w 1 0 = lN (lmK D (vsK D R x.1 x.2).1 (vsK D R x.1 x.2).2).1 → ok (j_X10_ages_87 a1 (nI a2) a3 (nI i) w) (fun o => ∃ v, o = .inl (nI (i + 1), v) ∧ RC v t R G S K B M ∧ kC v 40 (lyK D R x).2 ∧ gJ v 1 0 = lN (lyK D R x).1) := by
    intro w w1 w2 w3
    obtain ⟨-, ⟨r, hr, hrC⟩, -⟩ := id w1
    obtain ⟨i1, i2, i3⟩ := isR_ok hr
    rw [j_X10_ages_87]
    rw [i3] at i1 ⊢
    simp only [i1, if_true]
    refine ok_bind (c_pass (jul := false) hrC gRr w2 b2 i2 (.inr rfl) (by omega) hY) ?_
    rintro ⟨o, z⟩ ⟨z1, z2⟩
    exact ok_some ⟨z, by rw [litI, nI_add], RC_fr w1 gBB.1 z1 (dayP_ir i2), z2, (fr_J z1 (fun q => by rcases q with q | q | q <;> omega)).trans w3⟩
  have lt6 : D (vsK D R x.1 x.2).1 / 65536 % 6 < 6 := Nat.mod_lt _ (by omega)
  by_cases q : D (vsK D R x.1 x.2).1 / 65536 % 6 = 0
  · have e : lmK D (vsK D R x.1 x.2).1 (vsK D R x.1 x.2).2 = (D (D (vsK D R x.1 x.2).1), ((vsK D R x.1 x.2).2.1, min 60 ((vsK D R x.1 x.2).2.2.1 + (D (D (vsK D R x.1 x.2).1) / 65536 % 20 + 1)), (vsK D R x.1 x.2).2.2.2.1, (vsK D R x.1 x.2).2.2.2.2)) := by
      unfold lmK; rw [if_pos q]
    have d20 := c_draw hD (m := 20) (by omega) (by omega) (hD.1 _) hJ2
    have d20' : f_X10_draw (20 : Int32) u2 = _ := d20
    rw [q, if0, d20']
    simp only [Option.bind_some]
    have fJ2 : fr (fun a j => a = 1 ∧ j = 0) u2 (sJ u2 1 0 (lN (D (D (vsK D R x.1 x.2).1)))) := fr_sJ (fr_refl _ _) ⟨rfl, rfl⟩
    have hC3 := RC_fr hC2 gBB.1 fJ2 (fun a j z => .inr (.inr (.inr (.inr (.inr z)))))
    have hk3 : kC (sJ u2 1 0 (lN (D (D (vsK D R x.1 x.2).1)))) 40 (vsK D R x.1 x.2).2 := kC_fr hk2 fJ2 (fun a j q1 q2 q3 => by omega)
    have hJ3 : gJ (sJ u2 1 0 (lN (D (D (vsK D R x.1 x.2).1)))) 1 0 = lN (D (D (vsK D R x.1 x.2).1)) := gJ_eq rfl rfl
    generalize sJ u2 1 0 (lN (D (D (vsK D R x.1 x.2).1))) = u3 at *
    have lt20 : D (D (vsK D R x.1 x.2).1) / 65536 % 20 < 20 := Nat.mod_lt _ (by omega)
    rw [show nI (D (D (vsK D R x.1 x.2).1) / 65536 % 20) + (1 : Int32) = nI (D (D (vsK D R x.1 x.2).1) / 65536 % 20 + 1) from nI_add _ 1]
    refine ok_bind (c_light hk3 a2'.2.1 (by omega)) ?_
    rintro w ⟨w1, w2⟩
    refine fin w (RC_fr hC3 gBB.1 w2 crt_ir) ?_ ?_
    · rw [e]; exact w1
    · rw [e]; exact (fr_J w2 (crt_no (by omega))).trans hJ3
  · have e : lmK D (vsK D R x.1 x.2).1 (vsK D R x.1 x.2).2 = (D (vsK D R x.1 x.2).1, (vsK D R x.1 x.2).2) := by unfold lmK; rw [if_neg q]
    rw [if_neg (show ¬ nI (D (vsK D R x.1 x.2).1 / 65536 % 6) = (0 : Int32) from fun z => q ((nI_eq (b := 0) (by omega) (by omega)).mp z))]
    refine fin u2 hC2 ?_ ?_
    · rw [e]; exact hk2
    · rw [e]; exact hJ2
