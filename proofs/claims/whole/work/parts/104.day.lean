/-! the DAY: order, hearing -/
/-- how far the one who comes last goes ahead -/
def cutN (g : Nat → Bool) : Nat → Nat
  | 0 => 0
  | n + 1 => if g n then cutN g n else n + 1
theorem cutN_le (g : Nat → Bool) : ∀ n, cutN g n ≤ n := by
  intro n
  induction n with
  | zero => exact Nat.le_refl _
  | succ n ih =>
    simp only [cutN]
    by_cases h : g n = true
    · rw [if_pos h]; omega
    · rw [if_neg h]; exact Nat.le_refl _
def qat (L : List pQ) (i : Nat) : pQ := L[i]?.getD (0, 0, 0)
theorem qat_some {L : List pQ} {i : Nat} {e : pQ} (h : L[i]? = some e) : qat L i = e := by simp [qat, h]
theorem qat_lt {L : List pQ} {i : Nat} (h : i < L.length) : L[i]? = some (qat L i) := by simp [qat, h]
/-- a place in the order by the law -/
def rk (R : pR) (y : Nat) (e : pQ) : Int32 := rEv R (nI y - nI e.2.1) (nI (rPlea R e.1)) (nI y - nI (rBorn R e.1)) (nI e.2.2)
/-- e is called ahead of f, who came earlier -/
def ah (R : pR) (y : Nat) (e f : pQ) : Bool := if (rKind R e.1 = 1) = (rKind R f.1 = 1) then decide (rk R y f < rk R y e) else decide (rKind R e.1 = 1)
def ins (R : pR) (y : Nat) (L : List pQ) (e : pQ) : List pQ := L.take (cutN (fun i => ah R y e (qat L i)) L.length) ++ e :: L.drop (cutN (fun i => ah R y e (qat L i)) L.length)
def callL (R : pR) (y : Nat) (q : List pQ) : List pQ := q.foldl (ins R y) []
theorem ins_perm (R : pR) (y : Nat) (L : List pQ) (e : pQ) : (ins R y L e).Perm (e :: L) := by
  have h := List.perm_middle (a := e) (l₁ := L.take (cutN (fun i => ah R y e (qat L i)) L.length)) (l₂ := L.drop (cutN (fun i => ah R y e (qat L i)) L.length))
  rw [List.take_append_drop] at h
  exact h
theorem callL_app (R : pR) (y : Nat) (q : List pQ) (e : pQ) : callL R y (q ++ [e]) = ins R y (callL R y q) e := by simp [callL, List.foldl_append]
theorem callL_perm (R : pR) (y : Nat) (q : List pQ) : (callL R y q).Perm q := by
  have g : ∀ (l L : List pQ), (l.foldl (ins R y) L).Perm (l ++ L) := by
    intro l
    induction l with
    | nil => intro L; exact List.Perm.refl _
    | cons e l ih =>
      intro L
      rw [List.foldl_cons]
      refine (ih (ins R y L e)).trans ?_
      refine ((ins_perm R y L e).append_left l).trans ?_
      exact List.perm_middle
  have := g q []
  simpa [callL] using this
theorem callL_len (R : pR) (y : Nat) (q : List pQ) : (callL R y q).length = q.length := (callL_perm R y q).length_eq
theorem callL_mem {R : pR} {y : Nat} {q : List pQ} {e : pQ} (h : e ∈ callL R y q) : e ∈ q := (callL_perm R y q).mem_iff.mp h
/-- the class's rank of one in the queue -/
def rk64 (R : pR) (y : Nat) (e : pQ) : Int64 := (if rKind R e.1 = 1 then (8589934592 : Int64) else (0 : Int64)) + (rk R y e).toInt64
theorem rk64_lt (R : pR) (y : Nat) (e f : pQ) : rk64 R y f < rk64 R y e ↔ ah R y e f = true := by
  have b : ∀ x : Int32, ∀ z : Int64, (z = (8589934592 : Int64) ∨ z = (0 : Int64)) → (z + x.toInt64).toInt = z.toInt + x.toInt := by
    intro x z hz
    have h1 := Int32.toInt_lt x
    have h2 := Int32.le_toInt x
    have h3 : (8589934592 : Int64).toInt = 8589934592 := by decide
    have h4 : (0 : Int64).toInt = 0 := by decide
    rw [Int64.toInt_add, Int32.toInt_toInt64]
    rcases hz with rfl | rfl
    · rw [h3]; exact Int.bmod_eq_of_le (by omega) (by omega)
    · rw [h4]; exact Int.bmod_eq_of_le (by omega) (by omega)
  have h3 : (8589934592 : Int64).toInt = 8589934592 := by decide
  have h4 : (0 : Int64).toInt = 0 := by decide
  have e1 := Int32.toInt_lt (rk R y e)
  have e2 := Int32.le_toInt (rk R y e)
  have f1 := Int32.toInt_lt (rk R y f)
  have f2 := Int32.le_toInt (rk R y f)
  by_cases he : rKind R e.1 = 1
  · by_cases hf : rKind R f.1 = 1
    · simp only [rk64, ah, he, hf, if_true]
      rw [Int64.lt_iff_toInt_lt, b _ _ (.inl rfl), b _ _ (.inl rfl)]
      simp only [decide_eq_true_eq, Int32.lt_iff_toInt_lt]
      omega
    · simp only [rk64, ah, he, hf, if_true, if_false]
      rw [Int64.lt_iff_toInt_lt, b _ _ (.inl rfl), b _ _ (.inr rfl), h3, h4]
      simp
      omega
  · by_cases hf : rKind R f.1 = 1
    · simp only [rk64, ah, he, hf, if_true, if_false]
      rw [Int64.lt_iff_toInt_lt, b _ _ (.inl rfl), b _ _ (.inr rfl), h3, h4]
      simp
      omega
    · simp only [rk64, ah, he, hf, if_true, if_false]
      rw [Int64.lt_iff_toInt_lt, b _ _ (.inr rfl), b _ _ (.inr rfl)]
      simp only [decide_eq_true_eq, Int32.lt_iff_toInt_lt]
      omega
theorem cmp_ge (x y : Int64) : (nI 0 ≤ lg_cmp x y) ↔ ¬ x < y := by
  unfold lg_cmp
  by_cases h1 : x > y
  · rw [if_pos h1]
    have h2 : y.toInt < x.toInt := Int64.lt_iff_toInt_lt.mp h1
    refine ⟨fun _ h3 => ?_, fun _ => by decide⟩
    have h4 := Int64.lt_iff_toInt_lt.mp h3
    omega
  · rw [if_neg h1]
    by_cases h2 : x = y
    · rw [if_pos h2]
      subst h2
      exact ⟨fun _ => h1, fun _ => by decide⟩
    · rw [if_neg h2]
      refine ⟨fun h => absurd h (by decide), fun h => absurd ?_ h⟩
      rw [Int64.lt_iff_toInt_lt]
      have h3 : ¬ y.toInt < x.toInt := fun z => h1 (Int64.lt_iff_toInt_lt.mpr z)
      have h4 : x.toInt ≠ y.toInt := fun z => h2 (Int64.toInt_inj.mp z)
      omega
theorem c_rankOf {u : gm_M} {r c : Nat} {R : pR} {k : pK} (h : rC u r R) (hg : gR1 R) (hk : kC u c k) {e : pQ} {i : Nat} (he : k.2.2.2[i]? = some e) (hp : e.1 < rN R) :
    ok (f_X2_rankOf r c (nI e.1) u) (fun o => o.1 = rk64 R k.1 e ∧ fr (fun b _ => b = r + 7) u o.2) := by
  have g1 := hg.1
  obtain ⟨⟨h0, h1, h2, h3⟩, h4⟩ := id hk
  obtain ⟨a1, a2, a3⟩ := h4 i e he
  have s1 : f_X1_stoodOf c (nI e.1) u = some (nI k.1 - nI e.2.1) := by simp (disch := omega) only [f_X1_stoodOf, gm_let, litI, ib_nI, ix_nI, nI_leI, nI_ltI, h0, a2, if_pos, if_neg]
  have s2 : f_X1_daysOf c (nI e.1) u = some (nI e.2.2) := by simp (disch := omega) only [f_X1_daysOf, gm_let, litI, ib_nI, ix_nI, nI_leI, nI_ltI, a3, if_pos, if_neg]
  simp only [f_X2_rankOf, c_bornOf h g1 hp, s1, c_pleaOf h g1 hp, s2, Option.bind_some, gm_let, h0]
  refine ok_bind (h.2.2 u rfl (fun _ => rfl) (nI k.1 - nI e.2.1) (nI (rPlea R e.1)) (nI k.1 - nI (rBorn R e.1)) (nI e.2.2)) ?_
  rintro ⟨w, v⟩ ⟨hw, hf⟩
  simp only at hw hf
  have hv : rC v r R := rC_fr h hf (fun a j q1 q2 q3 => by omega)
  obtain ⟨kk, -, -⟩ := hg.2.2.2.2 e.1 hp
  simp only [c_kindOf hv g1 hp, Option.bind_some, litI]
  by_cases q : rKind R e.1 = 1
  · rw [if_pos (by rw [q])]
    exact ok_some ⟨by simp only [rk64, q, if_true, hw]; rfl, hf⟩
  · rw [if_neg (by rw [nI_eq (by omega) (by omega)]; exact q)]
    exact ok_some ⟨by simp only [rk64, q, if_false, hw]; rfl, hf⟩
/-- the cells that an order may change -/
def ordP (r : Nat) : Nat → Nat → Prop := fun a _ => a = r + 7 ∨ (35 ≤ a ∧ a ≤ 37)
theorem c_putInOrder {u : gm_M} {r c : Nat} {R : pR} {k : pK} (h : rC u r R) (hg : gR1 R) (hk : kC u c k) (hq : gQ k.2.2.2) (hp : ∀ e ∈ k.2.2.2, e.1 < rN R) (hr : r = 5 ∨ r = 13) (hc : c = 27 ∨ c = 40) :
    ok (f_X2_putInOrder r c u) (fun v => fr (ordP r) u v ∧ gI v 35 2 = nI k.2.2.2.length ∧ ∀ i e, (callL R k.1 k.2.2.2)[i]? = some e → gI v 36 i = nI e.1) := by
  have g1 := hg.1
  have hl := gQ_len hq
  simp only [f_X2_putInOrder, gm_let]
  refine ok_bind (Q := fun v => fr (ordP r) u v ∧ gI v 35 2 = nI k.2.2.2.length ∧ ∀ i e, (callL R k.1 k.2.2.2)[i]? = some e → gI v 36 i = nI e.1)
    (lp_ok k.2.2.2.length (fun j x => x.1 = nI j ∧ fr (ordP r) u x.2 ∧ gI x.2 35 2 = nI j ∧ ∀ i e, (callL R k.1 (k.2.2.2.take j))[i]? = some e → gI x.2 36 i = nI e.1 ∧ gJ x.2 37 i = rk64 R k.1 e) (by omega) ?_ ?_ ?_) (fun v hv => ok_some hv)
  · exact ⟨rfl, fr_sI (fr_refl _ _) (.inr ⟨by omega, by omega⟩), gI_eq rfl rfl, fun i e hi => by simp [callL] at hi⟩
  · rintro j ⟨x, v⟩ hj ⟨hx, hfr, hn, hi⟩
    simp only at hx hfr hn hi
    subst hx
    obtain ⟨e, he⟩ : ∃ e, k.2.2.2[j]? = some e := ⟨_, List.getElem?_eq_getElem hj⟩
    have hkv : kC v c k := kC_fr hk hfr (fun a j q1 q2 q3 => by rcases q3 with q3 | q3 <;> omega)
    have hrv : rC v r R := rC_fr h hfr (fun a j q1 q2 q3 => by rcases q3 with q3 | q3 <;> omega)
    have e1 : gI v c 3 = nI k.2.2.2.length := hkv.1.2.2.2
    have e2 := (hkv.2 j e he).1
    have hpe := hp e (List.mem_of_getElem? he)
    have pa : f_X1_personAt c (nI j) v = some (nI e.1) := by simp (disch := omega) only [f_X1_personAt, gm_let, litI, ib_nI, ix_nI, nI_leI, nI_ltI, nI_eq, nI_add, nI_sub, nI_mul, nI_div, nI_rem, nI_m1, nI_eqm, nI_gem, nI_ltm, nI_mlt, nI_lem, Option.bind_some, Option.bind_none, e1, e2, if_pos, if_neg]
    have hLl : (callL R k.1 (k.2.2.2.take j)).length = j := by rw [callL_len, List.length_take]; omega
    have ht : k.2.2.2.take (j + 1) = k.2.2.2.take j ++ [e] := by rw [List.take_add_one, he]; rfl
    generalize hL : callL R k.1 (k.2.2.2.take j) = L at hi hLl
    have hL2 : callL R k.1 (k.2.2.2.take (j + 1)) = ins R k.1 L e := by rw [ht, callL_app, hL]
    simp (disch := omega) only [b_X2_putInOrder_7, litI, nI_leI, hn, e1, pa, if_neg, Option.bind_some]
    refine ok_bind (c_rankOf hrv hg hkv he hpe) ?_
    rintro ⟨w, v2⟩ ⟨hw, hf2⟩
    simp only at hw hf2
    subst hw
    have hn2 : gI v2 35 2 = nI j := (fr_I hf2 (by omega)).trans hn
    have hi2 : ∀ i f, L[i]? = some f → gI v2 36 i = nI f.1 ∧ gJ v2 37 i = rk64 R k.1 f := fun i f hf => ⟨(fr_I hf2 (by omega)).trans (hi i f hf).1, (fr_J hf2 (by omega)).trans (hi i f hf).2⟩
    simp only [gm_let, hn2]
    refine ok_bind (Q := fun o => fr (fun a _ => 36 ≤ a ∧ a ≤ 37) v2 o.2 ∧ o.1 = nI (cutN (fun i => ah R k.1 e (qat L i)) j) ∧ (∀ i f, i < cutN (fun i => ah R k.1 e (qat L i)) j → L[i]? = some f → gI o.2 36 i = nI f.1 ∧ gJ o.2 37 i = rk64 R k.1 f) ∧ ∀ i f, cutN (fun i => ah R k.1 e (qat L i)) j ≤ i → L[i]? = some f → gI o.2 36 (i + 1) = nI f.1 ∧ gJ o.2 37 (i + 1) = rk64 R k.1 f)
      (lp_ok j (fun m x => x.1 = nI (j - m) ∧ fr (fun a _ => 36 ≤ a ∧ a ≤ 37) v2 x.2 ∧ cutN (fun i => ah R k.1 e (qat L i)) j = cutN (fun i => ah R k.1 e (qat L i)) (j - m) ∧ (∀ i f, i < j - m → L[i]? = some f → gI x.2 36 i = nI f.1 ∧ gJ x.2 37 i = rk64 R k.1 f) ∧ ∀ i f, j - m ≤ i → L[i]? = some f → gI x.2 36 (i + 1) = nI f.1 ∧ gJ x.2 37 (i + 1) = rk64 R k.1 f) (by omega) ?_ ?_ ?_) ?_
    · refine ⟨rfl, fr_refl _ _, rfl, fun i f _ hf => hi2 i f hf, fun i f hij hf => ?_⟩
      have := (List.getElem?_eq_some_iff.mp hf).1
      omega
    · rintro m ⟨x, w⟩ hm ⟨hx, hfw, hcut, hlo, hup⟩
      simp only at hx hfw hcut hlo hup
      subst hx
      obtain ⟨t, ht2⟩ : ∃ t, j - m = t + 1 := ⟨j - m - 1, by omega⟩
      have ht3 : j - (m + 1) = t := by omega
      rw [ht2] at hcut hlo hup ⊢
      rw [ht3]
      obtain ⟨f, hf⟩ : ∃ f, L[t]? = some f := ⟨_, List.getElem?_eq_getElem (by omega)⟩
      obtain ⟨l1, l2⟩ := hlo t f (by omega) hf
      simp (disch := omega) only [b_X2_putInOrder_50, gm_let, litI, ib_nI, ix_nI, nI_leI, nI_ltI, nI_eq, nI_add, nI_sub, nI_mul, nI_div, nI_rem, nI_m1, nI_eqm, nI_gem, nI_ltm, nI_mlt, nI_lem, Option.bind_some, Option.bind_none, gI_eq, gI_ne, gI_sJ, gI_sR, gJ_sI, gJ_sR, gR_sI, gR_sJ, if_pos, if_neg, Nat.add_sub_cancel, l1, l2, cmp_ge, rk64_lt, gJ_eq, gJ_ne]
      by_cases q : ah R k.1 e f = true
      · rw [if_neg (by simp [q])]
        refine ok_some ⟨rfl, fr_sI (fr_sJ hfw ⟨by omega, by omega⟩) ⟨by omega, by omega⟩, ?_, fun i f' hi' hf' => ?_, fun i f' hi' hf' => ?_⟩
        · rw [hcut]
          simp only [cutN]
          rw [if_pos (by rw [qat_some hf]; exact q)]
        · obtain ⟨m1, m2⟩ := hlo i f' (by omega) hf'
          simp (disch := omega) only [gI_eq, gI_ne, gI_sJ, gI_sR, gJ_sI, gJ_sR, gR_sI, gR_sJ, gJ_ne, m1, m2, and_self]
        · rcases Nat.eq_or_lt_of_le hi' with z | z
          · subst z
            rw [hf] at hf'
            cases hf'
            simp (disch := omega) only [gI_eq, gI_ne, gI_sJ, gI_sR, gJ_sI, gJ_sR, gR_sI, gR_sJ, gJ_eq, and_self]
          · obtain ⟨m1, m2⟩ := hup i f' (by omega) hf'
            simp (disch := omega) only [gI_eq, gI_ne, gI_sJ, gI_sR, gJ_sI, gJ_sR, gR_sI, gR_sJ, gJ_ne, m1, m2, and_self]
      · rw [if_pos q]
        have hcc : cutN (fun i => ah R k.1 e (qat L i)) j = t + 1 := by
          rw [hcut]
          simp only [cutN]
          rw [if_neg (by rw [qat_some hf]; exact q)]
        refine ok_some ⟨hfw, ?_, ?_, ?_⟩
        · rw [hcc]
        · rw [hcc]; exact hlo
        · rw [hcc]; exact hup
    · rintro ⟨x, w⟩ ⟨hx, hfw, hcut, hlo, hup⟩
      simp only at hx hfw hcut hlo hup
      subst hx
      rw [Nat.sub_self] at hcut hlo hup ⊢
      simp (disch := omega) only [b_X2_putInOrder_50, gm_let, litI, ib_nI, ix_nI, nI_leI, nI_ltI, nI_eq, nI_add, nI_sub, nI_mul, nI_div, nI_rem, nI_m1, nI_eqm, nI_gem, nI_ltm, nI_mlt, nI_lem, Option.bind_some, Option.bind_none, if_pos]
      have hcc : cutN (fun i => ah R k.1 e (qat L i)) j = 0 := hcut
      refine ok_some ⟨hfw, ?_, ?_, ?_⟩
      · rw [hcc]
      · rw [hcc]; exact hlo
      · rw [hcc]; exact hup
    · rintro ⟨x, w⟩ ⟨hfw, hx, hlo, hup⟩
      simp only at hx hfw hlo hup
      subst hx
      have hcl := cutN_le (fun i => ah R k.1 e (qat L i)) j
      have hins : ins R k.1 L e = L.take (cutN (fun i => ah R k.1 e (qat L i)) j) ++ e :: L.drop (cutN (fun i => ah R k.1 e (qat L i)) j) := by simp only [ins, hLl]
      generalize hT : cutN (fun i => ah R k.1 e (qat L i)) j = T at hlo hup hcl hins
      have hn3 : gI w 35 2 = nI j := (fr_I hfw (by omega)).trans hn2
      simp (disch := omega) only [j_X2_putInOrder_108, gm_let, litI, ib_nI, ix_nI, nI_leI, nI_ltI, nI_eq, nI_add, nI_sub, nI_mul, nI_div, nI_rem, nI_m1, nI_eqm, nI_gem, nI_ltm, nI_mlt, nI_lem, Option.bind_some, Option.bind_none, gI_eq, gI_ne, gI_sJ, gI_sR, gJ_sI, gJ_sR, gR_sI, gR_sJ, if_pos, hn3]
      refine ok_some ⟨rfl, ?_, ?_, fun i f hif => ?_⟩
      · exact fr_sI (fr_sI (fr_sJ (fr_trans hfr (fr_trans (fr_mono hf2 (fun a _ q => .inl q)) (fr_mono hfw (fun a _ q => .inr ⟨by omega, by omega⟩)))) (.inr ⟨by omega, by omega⟩)) (.inr ⟨by omega, by omega⟩)) (.inr ⟨by omega, by omega⟩)
      · exact gI_eq rfl rfl
      · simp only [hL2, hins] at hif
        rcases Nat.lt_trichotomy i T with z | z | z
        · rw [List.getElem?_append_left (by rw [List.length_take]; omega), List.getElem?_take_of_lt z] at hif
          obtain ⟨m1, m2⟩ := hlo i f z hif
          simp (disch := omega) only [gI_eq, gI_ne, gI_sJ, gI_sR, gJ_sI, gJ_sR, gR_sI, gR_sJ, gJ_ne, m1, m2, and_self]
        · subst z
          rw [List.getElem?_append_right (by rw [List.length_take]; omega), List.length_take, Nat.min_eq_left (by omega), Nat.sub_self] at hif
          cases hif
          simp (disch := omega) only [gI_eq, gI_ne, gI_sJ, gI_sR, gJ_sI, gJ_sR, gR_sI, gR_sJ, gJ_eq, and_self]
        · obtain ⟨i', rfl⟩ : ∃ i', i = i' + 1 := ⟨i - 1, by omega⟩
          rw [List.getElem?_append_right (by rw [List.length_take]; omega), List.length_take, Nat.min_eq_left (by omega)] at hif
          have z2 : i' + 1 - T = (i' - T) + 1 := by omega
          rw [z2, List.getElem?_cons_succ, List.getElem?_drop] at hif
          have z3 : T + (i' - T) = i' := by omega
          rw [z3] at hif
          obtain ⟨m1, m2⟩ := hup i' f (by omega) hif
          simp (disch := omega) only [gI_eq, gI_ne, gI_sJ, gI_sR, gJ_sI, gJ_sR, gR_sI, gR_sJ, gJ_ne, m1, m2, and_self]
  · rintro ⟨x, v⟩ ⟨hx, hfr, hn, hi⟩
    simp only at hx hfr hn hi
    subst hx
    have hkv : kC v c k := kC_fr hk hfr (fun a j q1 q2 q3 => by rcases q3 with q3 | q3 <;> omega)
    have e1 : gI v c 3 = nI k.2.2.2.length := hkv.1.2.2.2
    simp (disch := omega) only [b_X2_putInOrder_7, gm_let, litI, ib_nI, ix_nI, nI_leI, nI_ltI, nI_eq, nI_add, nI_sub, nI_mul, nI_div, nI_rem, nI_m1, nI_eqm, nI_gem, nI_ltm, nI_mlt, nI_lem, Option.bind_some, Option.bind_none, e1, if_pos]
    rw [List.take_length] at hi
    exact ok_some ⟨hfr, hn, fun i e he => (hi i e he).1⟩
