/-! coming: how many are heard by a row -/
theorem nd_sub : ∀ (l m : List Nat), l.Nodup → (∀ x ∈ l, x ∈ m) → l.length ≤ m.length := by
  intro l
  induction l with
  | nil => intro m _ _; exact Nat.zero_le _
  | cons a l ih =>
    intro m h1 h2
    have h3 := List.nodup_cons.mp h1
    have ha := h2 a List.mem_cons_self
    have h4 := ih (m.erase a) h3.2 (fun x hx => by
      have hne : x ≠ a := fun e => h3.1 (e ▸ hx)
      exact (List.mem_erase_of_ne hne).mpr (h2 x (List.mem_cons_of_mem _ hx)))
    rw [List.length_erase_of_mem ha] at h4
    have := List.length_pos_of_mem ha
    simp only [List.length_cons]
    omega
theorem ride_pc {R : pR} {Y C : Nat} {k : pK} (h : gK R Y k) (hg : gR1 R) (hy : k.1 + 8 ≤ Y) : pc (rideK R C k).2.2.1 + (rideK R C k).2.2.2.length ≤ pc k.2.2.1 + k.2.2.2.length := by
  have gE : gK R Y (killK R (nxt k.1) k) := gK_kill h (by have := gap_le k.1; unfold nxt; omega)
  have hlt := dayH_lt (C := C) gE hg
  have hlen : (killK R (nxt k.1) k).2.2.2.length ≤ k.2.2.2.length := List.length_filter_le _ _
  show pc (k.2.2.1 ||| (dayH R C (killK R (nxt k.1) k)).2) + (((killK R (nxt k.1) k).2.2.2.filter (fun e => !(dayH R C (killK R (nxt k.1) k)).2.testBit e.1)).map (fun e => (e.1, e.2.1, e.2.2 + 1))).length ≤ _
  rw [List.length_map]
  have hm := fun i => (hearL_mem R i (callL R (nxt k.1) (killK R (nxt k.1) k).2.2.2) (C + k.2.1) false 0).1
  have hmem : ∀ i, (dayH R C (killK R (nxt k.1) k)).2.testBit i = true → ∃ e ∈ (killK R (nxt k.1) k).2.2.2, e.1 = i := fun i hi => by
    rcases hm i hi with z | ⟨e, he, z⟩
    · simp at z
    · exact ⟨e, callL_mem he, z⟩
  generalize killK R (nxt k.1) k = k2 at *
  generalize (dayH R C k2).2 = H at *
  have h1 := pc_or ⟨k.2.2.1, h.2.2.1⟩ ⟨H, hlt⟩
  simp only at h1
  have h2 : pc H ≤ (k2.2.2.2.filter (fun e => H.testBit e.1)).length := by
    have := nd_sub ((List.range 6).filter (fun i => H.testBit i)) ((k2.2.2.2.filter (fun e => H.testBit e.1)).map (fun e => e.1)) (List.Nodup.sublist List.filter_sublist List.nodup_range) (fun x hx => by
      have hx2 := (List.mem_filter.mp hx).2
      obtain ⟨e, he, z⟩ := hmem x hx2
      exact List.mem_map.mpr ⟨e, List.mem_filter.mpr ⟨he, by rw [z]; exact hx2⟩, z⟩)
    rw [List.length_map] at this
    exact this
  have h3 : (k2.2.2.2.filter (fun e => H.testBit e.1)).length + (k2.2.2.2.filter (fun e => !H.testBit e.1)).length = k2.2.2.2.length := by
    have := List.length_eq_countP_add_countP (fun e : pQ => H.testBit e.1) (l := k2.2.2.2)
    rw [← List.countP_eq_length_filter, ← List.countP_eq_length_filter, this]
    congr 1
    apply List.countP_congr
    intro x _
    simp
  omega
theorem itR_pc {R : pR} {Y : Nat} {k : pK} (h : gK R Y k) (hg : gR1 R) (i : Nat) (hy : k.1 + 8 * i ≤ Y) : pc (itR R k i).2.2.1 + (itR R k i).2.2.2.length ≤ pc k.2.2.1 + k.2.2.2.length := by
  induction i with
  | zero => exact Nat.le_refl _
  | succ i ih =>
    have := itR_y R k i
    have h1 := ride_pc (C := rCandle R) (itR_g h hg i (by omega)) hg (by omega)
    have h2 := ih (by omega)
    show pc (rideK R (rCandle R) (itR R k i)).2.2.1 + (rideK R (rCandle R) (itR R k i)).2.2.2.length ≤ _
    omega
theorem ride_nil {R : pR} {C : Nat} {k : pK} (h : k.2.2.2 = []) : (rideK R C k).2.2.1 = k.2.2.1 ∧ (rideK R C k).2.2.2 = [] := by
  have e : (killK R (nxt k.1) k).2.2.2 = [] := by show k.2.2.2.filter _ = []; rw [h]; rfl
  constructor
  · show k.2.2.1 ||| (hearL R (callL R _ (killK R (nxt k.1) k).2.2.2) _ _ _).2 = _
    rw [e]
    exact Nat.or_zero _
  · show ((killK R (nxt k.1) k).2.2.2.filter _).map _ = []
    rw [e]; rfl
theorem itR_nil {R : pR} {k : pK} {m : Nat} (h : (itR R k m).2.2.2 = []) : ∀ j, (itR R k (m + j)).2.2.1 = (itR R k m).2.2.1 ∧ (itR R k (m + j)).2.2.2 = [] := by
  intro j
  induction j with
  | zero => exact ⟨rfl, h⟩
  | succ j ih =>
    have := ride_nil (R := R) (C := rCandle R) ih.2
    exact ⟨this.1.trans ih.1, this.2⟩
theorem itR_h (R : pR) (k : pK) (i : Nat) : ∃ d, (itR R k i).2.2.1 = k.2.2.1 ||| d := by
  induction i with
  | zero => exact ⟨0, (Nat.or_zero _).symm⟩
  | succ i ih =>
    obtain ⟨d, hd⟩ := ih
    refine ⟨d ||| (dayH R (rCandle R) (killK R (nxt (itR R k i).1) (itR R k i))).2, ?_⟩
    show (itR R k i).2.2.1 ||| _ = _
    rw [hd, Nat.or_assoc]
def enK (K : pK) (row : List Nat) : pK := (K.1, K.2.1, K.2.2.1, K.2.2.2 ++ row.map (fun p => (p, K.1, 0)))
def gRow (R : pR) (K : pK) (row : List Nat) : Prop := row.Nodup ∧ ∀ p ∈ row, p < rN R ∧ canE R K p = true
theorem gRow_take {R : pR} {K : pK} {row : List Nat} (h : gRow R K row) (i : Nat) : gRow R K (row.take i) := ⟨h.1.sublist (List.take_sublist _ _), fun p hp => h.2 p (List.mem_of_mem_take hp)⟩
theorem canE_q {R : pR} {K : pK} {p : Nat} (h : canE R K p = true) : (∀ e ∈ K.2.2.2, e.1 ≠ p) ∧ K.2.2.1.testBit p = false := by
  simp only [canE, Bool.and_eq_true, List.all_eq_true, Bool.not_eq_true'] at h
  exact ⟨fun e he => by have := h.1.1.1 e he; simpa using this, h.1.1.2⟩
theorem gK_en {R : pR} {Y : Nat} {K : pK} {row : List Nat} (h : gK R Y K) (hr : gRow R K row) : gK R Y (enK K row) := by
  refine ⟨h.1, h.2.1, h.2.2.1, ?_, fun e he => ?_⟩
  · show ((K.2.2.2 ++ row.map (fun p => (p, K.1, 0))).map (fun e : pQ => e.1)).Nodup
    rw [List.map_append, List.map_map]
    have e1 : row.map ((fun e : pQ => e.1) ∘ (fun p => (p, K.1, 0))) = row := by
      rw [show ((fun e : pQ => e.1) ∘ (fun p => (p, K.1, 0))) = id from rfl, List.map_id]
    rw [e1, List.nodup_append]
    refine ⟨h.2.2.2.1, hr.1, fun a ha b hb => ?_⟩
    obtain ⟨e, he, rfl⟩ := List.mem_map.mp ha
    exact (canE_q (hr.2 b hb).2).1 e he
  · rcases List.mem_append.mp he with z | z
    · exact h.2.2.2.2 e z
    · obtain ⟨p, hp, rfl⟩ := List.mem_map.mp z
      exact ⟨(hr.2 p hp).1, (canE_q (hr.2 p hp).2).2⟩
theorem en_succ {K : pK} {row : List Nat} {i p : Nat} (h : row[i]? = some p) : enK K (row.take (i + 1)) = ((enK K (row.take i)).1, (enK K (row.take i)).2.1, (enK K (row.take i)).2.2.1, (enK K (row.take i)).2.2.2 ++ [(p, (enK K (row.take i)).1, 0)]) := by
  have ht : row.take (i + 1) = row.take i ++ [p] := by rw [List.take_add_one, h]; rfl
  unfold enK
  rw [ht, List.map_append, List.append_assoc]
  rfl
theorem en_new {R : pR} {Y : Nat} {K : pK} {row : List Nat} {i p : Nat} (hk : gK R Y K) (hg : gR1 R) (hr : gRow R K row) (h : row[i]? = some p) : (enK K (row.take i)).2.2.2.length < 6 ∧ ∀ e ∈ (enK K (row.take i)).2.2.2, e.1 ≠ p := by
  have g2 := gK_en hk (gRow_take hr (i + 1))
  have hl := gQ_len (gK_gQ g2 hg)
  rw [en_succ h] at hl g2
  simp only [List.length_append, List.length_singleton] at hl
  refine ⟨by omega, fun e he z => ?_⟩
  have nd := g2.2.2.2.1
  simp only [List.map_append, List.map_cons, List.map_nil] at nd
  rw [List.nodup_append] at nd
  exact nd.2.2 e.1 (List.mem_map.mpr ⟨e, he, rfl⟩) p List.mem_cons_self z
/-- how many are heard by a row, in all -/
def sN (R : pR) (K : pK) (days : Nat) (row : List Nat) : Nat := pc (itR R (enK K row) days).2.2.1
theorem sN_le {R : pR} {K : pK} {days : Nat} {row : List Nat} {Y : Nat} (hk : gK R Y K) (hg : gR1 R) (hr : gRow R K row) (hy : K.1 + 8 * days ≤ Y) : sN R K days row ≤ pc K.2.2.1 + (K.2.2.2.length + row.length) := by
  have := itR_pc (gK_en hk hr) hg days hy
  have e : (enK K row).2.2.2.length = K.2.2.2.length + row.length := by simp [enK]
  have e2 : (enK K row).2.2.1 = K.2.2.1 := rfl
  rw [e, e2] at this
  unfold sN
  omega
theorem pc_mono : ∀ h d : Fin 64, pc h.1 ≤ pc (h.1 ||| d.1) := by decide +kernel
theorem sN_ge {R : pR} {K : pK} {days : Nat} {row : List Nat} {Y : Nat} (hk : gK R Y K) (hg : gR1 R) (hr : gRow R K row) (hy : K.1 + 8 * days ≤ Y) : pc K.2.2.1 ≤ sN R K days row ∧ (itR R (enK K row) days).2.2.1 < 64 := by
  have g2 := itR_g (gK_en hk hr) hg days hy
  obtain ⟨d, hd⟩ := itR_h R (enK K row) days
  obtain ⟨e, he, ee⟩ := or_both (d := d) hk.2.2.1 (by
    have : (enK K row).2.2.1 = K.2.2.1 := rfl
    rw [← this, ← hd]; exact g2.2.2.1)
  refine ⟨?_, g2.2.2.1⟩
  unfold sN
  have e1 : (enK K row).2.2.1 = K.2.2.1 := rfl
  rw [hd, e1, ee]
  exact pc_mono ⟨_, hk.2.2.1⟩ ⟨e, he⟩
def rowC (u : gm_M) (a : Nat) (row : List Nat) : Prop := ∀ i x, row[i]? = some x → gI u a i = nI x
theorem c_heardByRow {u : gm_M} {n days : Nat} {t : List Nat} {R : pR} {G : pG} {S : pS} {K : pK} {B : List pK} {M : pMk} {row : List Nat} (hC : RC u t R G S K B M) (g : gA n t R G S K B M) (hr : gRow R K row) (hl : row.length ≤ 6) (hrow : rowC u 44 row) (hd : days ≤ 4) :
    ok (f_X10_heardByRow (nI row.length) (nI days) u) (fun o => o.1 = nI (sN R K days row - pc K.2.2.1) ∧ RC o.2 t R G S K B M ∧ (∀ j, gI o.2 44 j = gI u 44 j) ∧ ∀ j, gI o.2 45 j = gI u 45 j) := by
  obtain ⟨-, gRr, -, -, -, gKK, gBB, -⟩ := id g
  have gq := gK_gQ gKK gRr
  have h40 := gRr.2.2.1.2
  have hyn := Yn_lt n
  have gK2 := gK_up (Z := 8000) gKK (by omega)
  have hk1 := gKK.1
  unfold f_X10_heardByRow
  refine ok_bind (c_copy (c := 40) (d := 27) hC.2.2.2.2.1 gq (by omega)) ?_
  rintro v ⟨v1, v2⟩
  have same : ∀ {w : gm_M}, fr irC u w → True := fun _ => trivial
  refine ok_bind (Q := fun w => RC w t R G S K B M ∧ kC w 40 (enK K row) ∧ (∀ j, gI w 44 j = gI u 44 j) ∧ ∀ j, gI w 45 j = gI u 45 j)
    (lp_ok row.length (fun m x => x.1 = nI m ∧ RC x.2 t R G S K B M ∧ kC x.2 40 (enK K (row.take m)) ∧ (∀ j, gI x.2 44 j = gI u 44 j) ∧ ∀ j, gI x.2 45 j = gI u 45 j) (by omega) ⟨rfl, RC_fr hC gBB.1 v2 crt_ir, ?_, fun j => fr_I v2 (crt_no (by omega)), fun j => fr_I v2 (crt_no (by omega))⟩ ?_ ?_) ?_
  · have e : enK K (row.take 0) = K := by simp [enK]
    rw [e]; exact v1
  · rintro m ⟨x, w⟩ hm ⟨hx, w1, w2, w3, w4⟩
    simp only at hx w1 w2 w3 w4
    subst hx
    obtain ⟨p, hp⟩ : ∃ p, row[m]? = some p := ⟨_, List.getElem?_eq_getElem hm⟩
    have e44 : gI w 44 m = nI p := (w3 m).trans (hrow m p hp)
    have hp6 : p < 6 := Nat.lt_of_lt_of_le (hr.2 p (List.mem_of_getElem? hp)).1 gRr.1
    obtain ⟨l6, nw⟩ := en_new gKK gRr hr hp
    have gq2 := gK_gQ (gK_en gKK (gRow_take hr m)) gRr
    simp (disch := omega) only [b_X10_heardByRow_13, litI, nI_leI, if_neg, ib_nI, ix_nI, if_pos, e44]
    refine ok_bind (c_enter w2 gq2 hp6 l6 nw) ?_
    rintro z ⟨z1, z2⟩
    refine ok_some ⟨by rw [nI_add], RC_fr w1 gBB.1 z2 crt_ir, ?_, fun j => (fr_I z2 (crt_no (by omega))).trans (w3 j), fun j => (fr_I z2 (crt_no (by omega))).trans (w4 j)⟩
    rw [en_succ hp]; exact z1
  · rintro ⟨x, w⟩ ⟨hx, w1, w2, w3, w4⟩
    simp only at hx w1 w2 w3 w4
    subst hx
    simp (disch := omega) only [b_X10_heardByRow_13, litI, nI_leI, if_pos]
    rw [List.take_length] at w2
    exact ok_some ⟨w1, w2, w3, w4⟩
  · rintro w ⟨w1, w2, w3, w4⟩
    have gE := gK_en gK2 hr
    have ky : (enK K row).1 = K.1 := rfl
    simp only [j_X10_heardByRow_46]
    refine ok_bind (Q := fun z => RC z t R G S K B M ∧ gI z 40 2 = nI (itR R (enK K row) days).2.2.1 ∧ (∀ j, gI z 44 j = gI u 44 j) ∧ ∀ j, gI z 45 j = gI u 45 j)
      (lp_ok days (fun m x => x.1 = nI m ∧ RC x.2 t R G S K B M ∧ kC x.2 40 (itR R (enK K row) m) ∧ (∀ j, gI x.2 44 j = gI u 44 j) ∧ ∀ j, gI x.2 45 j = gI u 45 j) (by omega) ⟨rfl, w1, w2, w3, w4⟩ ?_ ?_) ?_
    · rintro m ⟨x, z⟩ hm ⟨hx, z1, z2, z3, z4⟩
      simp only at hx z1 z2 z3 z4
      subst hx
      have iy := itR_y R (enK K row) m
      have ig := itR_g gE gRr m (by omega)
      have e3 : gI z 40 3 = nI (itR R (enK K row) m).2.2.2.length := z2.1.2.2.2
      have hl2 := gQ_len (gK_gQ ig gRr)
      obtain ⟨-, ⟨r, hr, hrC⟩, -⟩ := id z1
      obtain ⟨i1, i2, i3⟩ := isR_ok hr
      rw [b_X10_heardByRow_48]
      simp only
      rw [i3] at i1 ⊢
      simp (disch := omega) only [litI, nI_leI, if_neg, e3, i1, if_true, hrC.1.2.2.1]
      by_cases q : (itR R (enK K row) m).2.2.2.length ≤ 0
      · rw [if_pos q]
        have qn : (itR R (enK K row) m).2.2.2 = [] := List.length_eq_zero_iff.mp (by omega)
        have := (itR_nil qn (days - m)).1
        rw [show m + (days - m) = days by omega] at this
        exact ok_some ⟨z1, by rw [this]; exact z2.1.2.2.1, z3, z4⟩
      · rw [if_neg q]
        refine ok_bind (c_passToDay hrC gRr z2 ig i2 (.inr rfl) (by omega) (by omega) (by omega)) ?_
        rintro ⟨o, y⟩ ⟨y1, -, y3, -⟩
        exact ok_some ⟨by rw [nI_add], RC_fr z1 gBB.1 y1 (dayP_ir i2), y3, fun j => (fr_I y1 (fun q => by rcases q with q | q | q <;> omega)).trans (z3 j), fun j => (fr_I y1 (fun q => by rcases q with q | q | q <;> omega)).trans (z4 j)⟩
    · rintro ⟨x, z⟩ ⟨hx, z1, z2, z3, z4⟩
      simp only at hx z1 z2 z3 z4
      subst hx
      simp (disch := omega) only [b_X10_heardByRow_48, nI_leI, if_pos]
      exact ok_some ⟨z1, z2.1.2.2.1, z3, z4⟩
    · rintro z ⟨z1, z2, z3, z4⟩
      have e27 : gI z 27 2 = nI K.2.2.1 := z1.2.2.2.2.1.1.2.2.1
      obtain ⟨d, hd2⟩ := itR_h R (enK K row) days
      obtain ⟨s1, s2⟩ := sN_ge gK2 gRr hr (days := days) (by omega)
      simp only [j_X10_heardByRow_92, gm_letE, z2, e27]
      rw [bt_more' gKK.2.2.1 s2 hd2, pc_bits ⟨_, s2⟩, pc_bits ⟨_, gKK.2.2.1⟩]
      refine ok_some ⟨?_, z1, z3, z4⟩
      exact nI_sub s1
theorem c_keepRow {u : gm_M} {row : List Nat} (hl : row.length ≤ 6) (hrow : rowC u 44 row) : ok (f_X10_keepRow (nI row.length) u) (fun v => rowC v 45 row ∧ fr (fun a _ => a = 45) u v) := by
  unfold f_X10_keepRow
  refine ok_bind (Q := fun v => rowC v 45 row ∧ fr (fun a _ => a = 45) u v)
    (lp_ok row.length (fun m x => x.1 = nI m ∧ (∀ i y, i < m → row[i]? = some y → gI x.2 45 i = nI y) ∧ fr (fun a _ => a = 45) u x.2) (by omega) ⟨rfl, fun i y hi => absurd hi (by omega), fr_refl _ _⟩ ?_ ?_) (fun v hv => ok_some hv)
  · rintro m ⟨x, v⟩ hm ⟨hx, h1, h2⟩
    simp only at hx h1 h2
    subst hx
    obtain ⟨p, hp⟩ : ∃ p, row[m]? = some p := ⟨_, List.getElem?_eq_getElem hm⟩
    have e : gI v 44 m = nI p := (fr_I h2 (by omega)).trans (hrow m p hp)
    simp (disch := omega) only [b_X10_keepRow_2, litI, nI_leI, if_neg, ib_nI, ix_nI, if_pos, e, gm_let, nI_add]
    refine ok_some ⟨rfl, fun i y hi hy => ?_, fr_sI h2 rfl⟩
    by_cases q : i = m
    · subst q
      rw [hp] at hy
      cases hy
      exact gI_eq rfl rfl
    · rw [gI_ne (by omega)]
      exact h1 i y (by omega) hy
  · rintro ⟨x, v⟩ ⟨hx, h1, h2⟩
    simp only at hx h1 h2
    subst hx
    simp (disch := omega) only [b_X10_keepRow_2, nI_leI, if_pos]
    exact ok_some ⟨fun i y hy => h1 i y (List.getElem?_eq_some_iff.mp hy).1 hy, h2⟩
