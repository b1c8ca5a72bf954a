/-! coming: the best row -/
abbrev pBst : Type := Option (Nat × List Nat)
def stB (f : List Nat → Nat) (b : pBst) (row : List Nat) : pBst := match b with
  | none => some (f row, row)
  | some (m, r) => if m < f row then some (f row, row) else some (m, r)
def bst (f : List Nat → Nat) (P : List (List Nat)) : pBst := P.foldl (stB f) none
theorem bst_stay {f : List Nat → Nat} {m : Nat} {r : List Nat} : ∀ (P : List (List Nat)), (∀ x ∈ P, f x ≤ m) → P.foldl (stB f) (some (m, r)) = some (m, r) := by
  intro P
  induction P with
  | nil => intro _; rfl
  | cons a t ih =>
    intro h
    have h1 := h a List.mem_cons_self
    rw [List.foldl_cons, show stB f (some (m, r)) a = some (m, r) from if_neg (by omega)]
    exact ih (fun x hx => h x (List.mem_cons_of_mem _ hx))
theorem bst_take {f : List Nat → Nat} {P : List (List Nat)} {i : Nat} {row : List Nat} (h : P[i]? = some row) : bst f (P.take (i + 1)) = stB f (bst f (P.take i)) row := by
  unfold bst
  rw [List.take_add_one, h, List.foldl_append]
  rfl
theorem bst_split (f : List Nat → Nat) (P : List (List Nat)) (i : Nat) : bst f P = (P.drop i).foldl (stB f) (bst f (P.take i)) := by
  unfold bst
  rw [← List.foldl_append, List.take_append_drop]
theorem bst_mem {f : List Nat → Nat} : ∀ (P : List (List Nat)) (b : pBst), (∀ m r, b = some (m, r) → m = f r) → ∀ m r, P.foldl (stB f) b = some (m, r) → m = f r ∧ (r ∈ P ∨ b = some (m, r)) := by
  intro P
  induction P with
  | nil => intro b hb m r h; exact ⟨hb m r h, .inr h⟩
  | cons a t ih =>
    intro b hb m r h
    rw [List.foldl_cons] at h
    have hs : ∀ m r, stB f b a = some (m, r) → m = f r := fun m r e => by
      cases b with
      | none => simp only [stB, Option.some.injEq, Prod.mk.injEq] at e; rw [← e.1, ← e.2]
      | some x =>
        obtain ⟨m1, r1⟩ := x
        simp only [stB] at e
        split at e
        · simp only [Option.some.injEq, Prod.mk.injEq] at e; rw [← e.1, ← e.2]
        · exact hb m r e
    obtain ⟨h1, h2⟩ := ih _ hs m r h
    refine ⟨h1, ?_⟩
    rcases h2 with h2 | h2
    · exact .inl (List.mem_cons_of_mem _ h2)
    · cases b with
      | none => simp only [stB, Option.some.injEq, Prod.mk.injEq] at h2; exact .inl (by rw [← h2.2]; exact List.mem_cons_self)
      | some x =>
        obtain ⟨m1, r1⟩ := x
        simp only [stB] at h2
        split at h2
        · simp only [Option.some.injEq, Prod.mk.injEq] at h2; exact .inl (by rw [← h2.2]; exact List.mem_cons_self)
        · exact .inr h2
def bC (u : gm_M) (x : Int32) (h : Nat) (b : pBst) : Prop := (b = none ∧ x = -nI 1) ∨ ∃ m r, b = some (m, r) ∧ h ≤ m ∧ m ≤ 60 ∧ x = nI (m - h) ∧ rowC u 45 r
def bM (u : gm_M) (b : pBst) : Prop := (b = none ∧ gI u 1 54 = -nI 1) ∨ ∃ m r, b = some (m, r) ∧ m ≤ 60 ∧ gI u 1 54 = nI m ∧ rowC u 38 r
theorem pc_le6 (R : pR) (K : pK) (days : Nat) (row : List Nat) : sN R K days row ≤ 6 := pc_le _
/-- the rows: of those who can come -/
def cmf (R : pR) (K : pK) (p : Nat) : Bool := canE R K p
theorem c_firstRow {u : gm_M} {n : Nat} {t : List Nat} {R : pR} {G : pG} {S : pS} {K : pK} {B : List pK} {M : pMk} (hC : RC u t R G S K B M) (g : gA n t R G S K B M) :
    ok (f_X10_firstRow u) (fun o => o.1 = nI ((List.range 6).filter (fun p => (fB (canE R K) (rN R)).testBit p)).length ∧ RC o.2 t R G S K B M ∧ rowC o.2 44 ((List.range 6).filter (fun p => (fB (canE R K) (rN R)).testBit p))) := by
  obtain ⟨-, gRr, -, -, -, gKK, gBB, -⟩ := id g
  have g1 := gRr.1
  have gq := gK_gQ gKK gRr
  have hyn := Yn_lt n
  have hk1 := gKK.1
  generalize hf : (fun p => (fB (canE R K) (rN R)).testBit p) = f
  have ff : ∀ p, f p = (decide (p < rN R) && canE R K p) := fun p => by rw [← hf]; exact fB_test _ _ _
  unfold f_X10_firstRow
  refine ok_bind (Q := fun o => o.1 = nI ((List.range 6).filter f).length ∧ RC o.2 t R G S K B M ∧ rowC o.2 44 ((List.range 6).filter f))
    (lp_ok 6 (fun m x => x.1 = nI ((List.range m).filter f).length ∧ x.2.1 = nI m ∧ RC x.2.2 t R G S K B M ∧ rowC x.2.2 44 ((List.range m).filter f)) (by omega) ⟨rfl, rfl, hC, fun i y h => by simp at h⟩ ?_ ?_) ?_
  · rintro m ⟨x1, x2, v⟩ hm ⟨h1, h2, h3, h4⟩
    simp only at h1 h2 h3 h4
    subst h1 h2
    have ll : ((List.range m).filter f).length ≤ m := by
      have := List.length_filter_le f (List.range m)
      simpa using this
    have es : (List.range (m + 1)).filter f = (List.range m).filter f ++ (if f m = true then [m] else []) := by
      rw [List.range_succ, List.filter_append]
      congr 1
      by_cases q : f m = true
      · rw [if_pos q]; simp [q]
      · rw [if_neg q]; simp [q]
    obtain ⟨-, ⟨r, hr, hrC⟩, -, -, hkC, -⟩ := id h3
    obtain ⟨i1, i2, i3⟩ := isR_ok hr
    obtain ⟨o, eo, co⟩ := c_mayEnter hrC gRr hkC gq (by omega) gKK.2.2.1 (nI m)
    have co2 : o = nI (f m).toNat := by
      rw [ff]
      rcases co with ⟨p', hp', w, z⟩ | ⟨w, z⟩
      · have : p' = m := by rw [nI_eq (by omega) (by omega)] at w; omega
        rw [this] at z hp'
        rw [z]; simp [hp']
      · have : ¬ m < rN R := fun q => w m q rfl
        rw [z]; simp [this]
    generalize hL : (List.range m).filter f = L at *
    rw [b_X10_firstRow_4]
    rw [i3] at i1 ⊢
    simp (disch := omega) only [litI, nI_leI, if_neg, i1, if_true, eo, Option.bind_some, co2]
    cases q : f m
    · simp only [Bool.toNat_false, if0n]
      rw [q] at es
      simp only [Bool.false_eq_true, if_false, List.append_nil] at es
      refine ok_some ⟨?_, by rw [nI_add], h3, ?_⟩
      · rw [es]
      · rw [es]; exact h4
    · simp only [Bool.toNat_true, if1n]
      rw [q] at es
      simp only [if_true] at es
      simp (disch := omega) only [ib_nI, ix_nI, if_pos, gm_let, nI_add]
      have f4 : fr (fun a _ => a = 44) v (sI v 44 L.length (nI m)) := fr_sI (fr_refl _ _) rfl
      refine ok_some ⟨?_, rfl, RC_fr h3 gBB.1 f4 (fun a j z => .inr (.inr (.inr (.inr (.inl ⟨by omega, by omega⟩))))), ?_⟩
      · rw [es, List.length_append]; rfl
      · rw [es]
        intro i y hy
        rcases Nat.lt_or_ge i L.length with z | z
        · rw [List.getElem?_append_left z] at hy
          rw [gI_ne (by omega)]
          exact h4 i y hy
        · rw [List.getElem?_append_right z] at hy
          obtain ⟨z2, hz⟩ := List.getElem?_eq_some_iff.mp hy
          simp only [List.length_singleton] at z2
          have z3 : i = L.length := by omega
          subst z3
          simp only [Nat.sub_self, List.getElem_cons_zero] at hz
          rw [gI_eq rfl rfl, hz]
  · rintro ⟨x1, x2, v⟩ ⟨h1, h2, h3, h4⟩
    simp only at h1 h2 h3 h4
    subst h1 h2
    simp (disch := omega) only [b_X10_firstRow_4, litI, nI_leI, if_pos]
    exact ok_some ⟨rfl, h3, h4⟩
  · rintro ⟨o, v⟩ h
    exact ok_some h
theorem c_comeLoop {u : gm_M} {n days : Nat} {a2 : Int32} {t : List Nat} {R : pR} {G : pG} {S : pS} {K : pK} {B : List pK} {M : pMk} (hC : RC u t R G S K B M) (g : gA n t R G S K B M) (hd : days ≤ 4) (hrow : rowC u 44 ((List.range 6).filter (fun p => (fB (canE R K) (rN R)).testBit p))) :
    ok (gm_lp (b_X10_coming_40 (nI days) a2 (nI (pc (fB (canE R K) (rN R))))) gm_FU ((-1 : Int32), (1 : Int32), (0 : Int32), u)) (fun o => RC o.2 t R G S K B M ∧ bC o.2 o.1 (pc K.2.2.1) (bst (sN R K days) (prm (rN R) 8 (fB (canE R K) (rN R))))) := by
  obtain ⟨-, gRr, -, -, -, gKK, gBB, -⟩ := id g
  have g1 := gRr.1
  have gq := gK_gQ gKK gRr
  have hl6 := gQ_len gq
  have hyn := Yn_lt n
  have hk1 := gKK.1
  have gK2 := gK_up (Z := 8000) gKK (by omega)
  obtain ⟨p1, p2, p3, p4⟩ := chk_ok g1 (fB_lt2 (canE R K) (rN R))
  have fl := fB_lt (canE R K) (rN R) g1
  have ft := fB_test (canE R K) (rN R)
  generalize fB (canE R K) (rN R) = s at *
  generalize hP : prm (rN R) 8 s = P at *
  have hz := pc_le s
  have grow : ∀ r ∈ P, gRow R K r := fun r hr => ⟨(p4 r hr).2.1, fun p hp => by
    have h1 := (p4 r hr).2.2 p hp
    rw [ft] at h1
    simpa using h1⟩
  have row6 : ∀ r ∈ P, ∀ x, rwF r x < 6 := fun r hr x => by
    unfold rwF
    cases e : r[x]? with
    | none => simp
    | some y =>
      have := ((grow r hr).2 y (List.mem_of_getElem? e)).1
      simp; omega
  refine lp_ok P.length (fun i x => x.2.2.1 = nI i ∧ RC x.2.2.2 t R G S K B M ∧ bC x.2.2.2 x.1 (pc K.2.2.1) (bst (sN R K days) (P.take i)) ∧ ((x.2.1 = nI 1 ∧ ∃ r, P[i]? = some r ∧ rowC x.2.2.2 44 r) ∨ (x.2.1 = nI 0 ∧ bst (sN R K days) (P.take i) = bst (sN R K days) P))) (by omega) ⟨rfl, hC, .inl ⟨rfl, rfl⟩, .inl ⟨rfl, _, p2, hrow⟩⟩ ?_ ?_
  · rintro i ⟨x1, x2, x3, v⟩ hi ⟨h1, h2, h3, h4⟩
    simp only at h1 h2 h3 h4
    subst h1
    rcases h4 with ⟨rfl, r, er, hr⟩ | ⟨rfl, hb⟩
    · have hrm := List.mem_of_getElem? er
      have hlen := (p4 r hrm).1
      obtain ⟨s1, s2⟩ := sN_ge gK2 gRr (grow r hrm) (days := days) (by omega)
      have s3 := pc_le6 R K days r
      obtain ⟨⟨o, w⟩, eo, o1, o2, o3, o4⟩ := c_heardByRow h2 g (grow r hrm) (by omega) hr hd
      simp only at o1 o2 o3 o4
      subst o1
      rw [hlen] at eo
      have hr2 : rowC w 44 r := fun j x hx => (o3 j).trans (hr j x hx)
      have bt := bst_take (f := sN R K days) er
      have fin : ∀ (y1 : Int32) (z : gm_M), RC z t R G S K B M → rowC z 44 r → bC z y1 (pc K.2.2.1) (bst (sN R K days) (P.take (i + 1))) → ok (j_X10_coming_77 (nI days) a2 (nI (pc s)) y1 (nI i) z) (stp (fun x => x.2.2.1 = nI (i + 1) ∧ RC x.2.2.2 t R G S K B M ∧ bC x.2.2.2 x.1 (pc K.2.2.1) (bst (sN R K days) (P.take (i + 1))) ∧ ((x.2.1 = nI 1 ∧ ∃ r, P[i + 1]? = some r ∧ rowC x.2.2.2 44 r) ∨ (x.2.1 = nI 0 ∧ bst (sN R K days) (P.take (i + 1)) = bst (sN R K days) P))) (fun o => RC o.2 t R G S K B M ∧ bC o.2 o.1 (pc K.2.2.1) (bst (sN R K days) P))) := by
        intro y1 z z1 z2 z3
        have e27 : gI z 27 3 = nI K.2.2.2.length := z1.2.2.2.2.1.1.2.2.2
        rw [j_X10_coming_77, e27, nI_add]
        by_cases q : nI (pc s + K.2.2.2.length) ≤ y1
        · rw [if_pos q]
          refine ok_some ⟨nI_add i 1, z1, z3, .inr ⟨rfl, ?_⟩⟩
          rcases z3 with ⟨e, rfl⟩ | ⟨m, r', e, q1, q2, rfl, -⟩
          · exact absurd q (by rw [show (-nI 1 : Int32) = -nI 1 from rfl, nI_lem (by omega)]; exact id)
          · rw [nI_leI (by omega) (by omega)] at q
            rw [bst_split (sN R K days) P (i + 1), e]
            refine (bst_stay _ (fun x hx => ?_)).symm
            have hx2 := List.mem_of_mem_drop hx
            have := sN_le gK2 gRr (grow x hx2) (days := days) (by omega)
            rw [(p4 x hx2).1] at this
            omega
        · rw [if_neg q]
          have hrF : rowF z (rwF r) (pc s) := fun j hj => by
            have hj2 : j < r.length := by omega
            have e2 : r[j]? = some (r[j]) := List.getElem?_eq_getElem hj2
            rw [z2 j _ e2]
            unfold rwF
            rw [e2]; rfl
          refine ok_bind (c_nextRow hrF (by omega) (row6 r hrm)) ?_
          rintro ⟨o, y⟩ ⟨y1', y2⟩
          have f44' : ∀ a j, f44 a j → irC a j := fun a j z => .inr (.inr (.inr (.inr (.inl ⟨by unfold f44 at z; omega, by unfold f44 at z; omega⟩))))
          have z3' : bC y y1 (pc K.2.2.1) (bst (sN R K days) (P.take (i + 1))) := by
            rcases z3 with h | ⟨m, r', e, q1, q2, q3, q4⟩
            · exact .inl h
            · exact .inr ⟨m, r', e, q1, q2, q3, fun j x hx => (fr_I y1' (by unfold f44; omega)).trans (q4 j x hx)⟩
          have hn := p3 i r er
          unfold nxL at hn
          rw [hlen] at hn
          rcases y2 with ⟨e, e2⟩ | ⟨r', e, e2, e3⟩
          · simp only at e2
            subst e2
            rw [e] at hn
            simp only [Option.map_none] at hn
            simp only
            rw [if0]
            refine ok_some ⟨nI_add i 1, RC_fr z1 gBB.1 y1' f44', z3', .inr ⟨rfl, ?_⟩⟩
            have : P.length ≤ i + 1 := List.getElem?_eq_none_iff.mp hn.symm
            rw [List.take_of_length_le this]
          · simp only at e2 e3
            subst e2
            rw [e] at hn
            simp only [Option.map_some] at hn
            simp only
            rw [if1]
            refine ok_some ⟨nI_add i 1, RC_fr z1 gBB.1 y1' f44', z3', .inl ⟨rfl, _, hn.symm, ?_⟩⟩
            intro j x hx
            rw [List.getElem?_map] at hx
            obtain ⟨j', ej, ex⟩ := Option.map_eq_some_iff.mp hx
            obtain ⟨hj, ej2⟩ := List.getElem?_eq_some_iff.mp ej
            rw [List.getElem_range] at ej2
            rw [List.length_range] at hj
            rw [e3 j hj, ← ex, ← ej2]
      simp (disch := omega) only [b_X10_coming_40, litI, nI_leI, if_neg, nI_eq, eo, Option.bind_some]
      rcases h3 with ⟨e, rfl⟩ | ⟨m, r', e, q1, q2, rfl, q4⟩
      · rw [if_neg (show ¬ nI (sN R K days r - pc K.2.2.1) ≤ -nI 1 from fun z => (nI_lem (by omega)).mp z)]
        refine ok_bind (hlen ▸ c_keepRow (by omega) hr2) ?_
        rintro z ⟨z1, z2⟩
        refine fin _ z (RC_fr o2 gBB.1 z2 (fun a j z => .inr (.inr (.inr (.inr (.inl ⟨by omega, by omega⟩)))))) (fun j x hx => (fr_I z2 (by omega)).trans (hr2 j x hx)) ?_
        rw [bt, e]
        exact .inr ⟨_, _, rfl, s1, by omega, rfl, z1⟩
      · by_cases q : sN R K days r - pc K.2.2.1 ≤ m - pc K.2.2.1
        · rw [if_pos ((nI_leI (by omega) (by omega)).mpr q)]
          refine fin _ w o2 hr2 ?_
          rw [bt, e]
          refine .inr ⟨m, r', if_neg (by omega), q1, q2, rfl, fun j x hx => (o4 j).trans (q4 j x hx)⟩
        · rw [if_neg (fun w => q ((nI_leI (by omega) (by omega)).mp w))]
          refine ok_bind (hlen ▸ c_keepRow (by omega) hr2) ?_
          rintro z ⟨z1, z2⟩
          refine fin _ z (RC_fr o2 gBB.1 z2 (fun a j z => .inr (.inr (.inr (.inr (.inl ⟨by omega, by omega⟩)))))) (fun j x hx => (fr_I z2 (by omega)).trans (hr2 j x hx)) ?_
          rw [bt, e]
          exact .inr ⟨_, _, if_pos (by omega), s1, by omega, rfl, z1⟩
    · rw [hb] at h3
      simp (disch := omega) only [b_X10_coming_40, litI, nI_leI, if_neg, if_true]
      exact ok_some ⟨h2, h3⟩
  · rintro ⟨x1, x2, x3, v⟩ ⟨h1, h2, h3, h4⟩
    simp only at h1 h2 h3 h4
    subst h1
    rw [List.take_length] at h3
    rcases h4 with ⟨-, r, er, -⟩ | ⟨rfl, hb⟩
    · rw [List.getElem?_eq_none_iff.mpr (Nat.le_refl _)] at er
      cases er
    · rw [b_X10_coming_40]
      simp only
      by_cases q : (720 : Int32) ≤ nI P.length
      · rw [if_pos q]
        exact ok_some ⟨h2, h3⟩
      · rw [if_neg q, if0]
        exact ok_some ⟨h2, h3⟩
