/-! coming: the reference's rows -/
def qoP : Nat → Nat → Prop := fun a j => (a = 29 ∧ j < 22) ∨ (a = 1 ∧ (j = 49 ∨ j = 50 ∨ j = 51 ∨ j = 54)) ∨ (13 ≤ a ∧ a ≤ 22) ∨ (35 ≤ a ∧ a ≤ 38) ∨ a = 31
theorem qoP_ok (a j : Nat) (z : qoP a j) : irM a j ∨ (a = 29 ∧ j < 22) := by
  rcases z with z | z | z | z | z
  · exact .inr z
  · exact .inl (.inl ⟨z.1, by omega, by omega, by omega⟩)
  · exact .inl (.inr (.inl ⟨by omega, by omega⟩))
  · exact .inl (.inr (.inr (.inr (.inr (.inl (by omega))))))
  · exact .inl (.inr (.inr (.inr (.inl z))))
theorem qm_qo (a j : Nat) (z : qmP a j) : qoP a j := by
  rcases z with z | z | z | z | z
  · exact .inl z
  · exact .inr (.inl ⟨z.1, by omega⟩)
  · exact .inr (.inr (.inl z))
  · exact .inr (.inr (.inr (.inl ⟨by omega, by omega⟩)))
  · exact .inr (.inr (.inr (.inr z)))
/-- between the rows all is as at first -/
def oM (u v : gm_M) (C : Nat) : Prop := fr qoP u v ∧ (∀ j, j < 22 → gI v 29 j = gI u 29 j) ∧ gI v 1 49 = nI C
theorem m_leaf {u v : gm_M} {n days : Nat} {t : List Nat} {R : pR} {G : pG} {S : pS} {K : pK} {B : List pK} {M : pMk} {row : List Nat} {b : pBst} {rp : Int32 → Int32 → Int32 → gm_M → Option gm_M} (hM : RM u t R G S K B M) (g : gA n t R G S K B M) (hO : oM u v (rCandle R)) (hr : gRow R K row) (hl : row.length ≤ 6) (hrow : rowC v 37 row) (hd : days ≤ 4) (hb : bM v b) :
    ok (f_X11_ordersO rp (nI row.length) (nI 0) (nI days) v) (fun w => oM u w (rCandle R) ∧ bM w (stB (sN R K days) b row) ∧ ∀ j, gI w 37 j = gI v 37 j) := by
  obtain ⟨-, gRr, -, -, -, gKK, gBB, -⟩ := id g
  have gq := gK_gQ gKK gRr
  have h40 := gRr.2.2.1.2
  have hyn := Yn_lt n
  have gK2 := gK_up (Z := 8000) gKK (by omega)
  have hk1 := gKK.1
  obtain ⟨o1, o2, o3⟩ := hO
  have hMv : RM v t R G S K B M := RM_q hM g o1 qoP_ok o2
  have hrV := hMv.2.1
  unfold f_X11_ordersO
  rw [if_pos (show nI 0 = (0 : Int32) from rfl)]
  refine ok_bind (m_save hMv.2.2.2.2.1 gq) ?_
  rintro x ⟨x1, x2, x3⟩
  refine ok_bind (Q := fun w => jM v w ∧ kM w 29 0 (enK K row) ∧ gI w 1 49 = nI (rCandle R))
    (lp_ok row.length (fun m y => y.1 = nI m ∧ jM v y.2 ∧ kM y.2 29 0 (enK K (row.take m)) ∧ gI y.2 1 49 = nI (rCandle R)) (by omega) ⟨rfl, x1, ?_, (fr_I x3 (by omega)).trans o3⟩ ?_ ?_) ?_
  · have e : enK K (row.take 0) = K := by simp [enK]
    rw [e]; exact x2
  · rintro m ⟨y, w⟩ hm ⟨hy, w1, w2, w3⟩
    simp only at hy w1 w2 w3
    subst hy
    obtain ⟨p, hp⟩ : ∃ p, row[m]? = some p := ⟨_, List.getElem?_eq_getElem hm⟩
    have e37 : gI w 37 m = nI p := (fr_I w1.2 (fun z => by rcases z with z | z | z | z | z <;> omega)).trans (hrow m p hp)
    have hp6 : p < 6 := Nat.lt_of_lt_of_le (hr.2 p (List.mem_of_getElem? hp)).1 gRr.1
    obtain ⟨l6, nw⟩ := en_new gKK gRr hr hp
    have gq2 := gK_gQ (gK_en gKK (gRow_take hr m)) gRr
    simp (disch := omega) only [b_X11_orders_20, litI, nI_leI, if_neg, ib_nI, ix_nI, if_pos, e37]
    refine ok_bind (m_comes w2 hp6 l6 nw gq2) ?_
    rintro z ⟨z1, z2⟩
    refine ok_some ⟨by rw [nI_add], jM_step w1 (fr_mono z2 (fun _ _ z => .inl z)), ?_, (fr_I z2 (by omega)).trans w3⟩
    rw [en_succ hp]; exact z1
  · rintro ⟨y, w⟩ ⟨hy, w1, w2, w3⟩
    simp only at hy w1 w2 w3
    subst hy
    simp (disch := omega) only [b_X11_orders_20, nI_leI, if_pos]
    rw [List.take_length] at w2
    exact ok_some ⟨w1, w2, w3⟩
  · rintro w ⟨w1, w2, w3⟩
    have gE := gK_en gK2 hr
    have ky : (enK K row).1 = K.1 := rfl
    refine ok_bind (Q := fun z => jM v z ∧ kM z 29 0 (itR R (enK K row) days) ∧ gI z 1 49 = nI (rCandle R))
      (lp_ok days (fun m y => y.1 = nI m ∧ jM v y.2 ∧ kM y.2 29 0 (itR R (enK K row) m) ∧ gI y.2 1 49 = nI (rCandle R)) (by omega) ⟨rfl, w1, w2, w3⟩ ?_ ?_) ?_
    · rintro m ⟨y, z⟩ hm ⟨hy, z1, z2, z3⟩
      simp only at hy z1 z2 z3
      subst hy
      have iy := itR_y R (enK K row) m
      have ig := itR_g gE gRr m (by omega)
      simp (disch := omega) only [b_X11_orders_46, nI_leI, if_neg]
      refine ok_bind (j_ride z1 hrV gRr z2 ig (by omega) (by omega) (by omega) z3 hMv.2.2.2.2.2.2.2) ?_
      rintro y ⟨y1, y2, y3, -⟩
      exact ok_some ⟨by rw [litI, nI_add], y1, y2, y3⟩
    · rintro ⟨y, z⟩ ⟨hy, z1, z2, z3⟩
      simp only at hy z1 z2 z3
      subst hy
      simp (disch := omega) only [b_X11_orders_46, nI_leI, if_pos]
      exact ok_some ⟨z1, z2, z3⟩
    · rintro z ⟨z1, z2, z3⟩
      have ig := itR_g gE gRr days (by omega)
      have e3 : gI z 29 3 = nI (itR R (enK K row) days).2.2.1 := z2.1.2.2.2
      have s6 := pc_le6 R K days row
      simp only [e3, pc_m ig.2.2.1, Option.bind_some]
      refine ok_bind (m_back0 z1) ?_
      rintro y ⟨y1, y2, y3⟩
      have y4 : gI y 1 49 = nI (rCandle R) := (y3 49).trans z3
      have y5 : gI y 1 54 = gI v 1 54 := fr_I y2 (fun z => by rcases z with z | z | z | z | z <;> omega)
      have y37 : ∀ j, gI y 37 j = gI v 37 j := fun j => fr_I y2 (fun z => by rcases z with z | z | z | z | z <;> omega)
      have y38 : ∀ j, gI y 38 j = gI v 38 j := fun j => fr_I y2 (fun z => by rcases z with z | z | z | z | z <;> omega)
      have oy : oM u y (rCandle R) := ⟨fr_trans o1 (fr_mono y2 qm_qo), fun j hj => (y1 j hj).trans (o2 j hj), y4⟩
      have keep : ok ((gm_lp (b_X11_orders_105 rp (nI row.length) (nI 0) (nI days)) gm_FU ((0 : Int32), sI y 1 54 (nI (sN R K days row)))).bind fun o => some o) (fun w => oM u w (rCandle R) ∧ bM w (some (sN R K days row, row)) ∧ ∀ j, gI w 37 j = gI v 37 j) := by
        have f54 : fr (fun a j => a = 1 ∧ j = 54) y (sI y 1 54 (nI (sN R K days row))) := fr_sI (fr_refl _ _) ⟨rfl, rfl⟩
        have e54 : gI (sI y 1 54 (nI (sN R K days row))) 1 54 = nI (sN R K days row) := gI_eq rfl rfl
        generalize sI y 1 54 (nI (sN R K days row)) = y' at *
        have r37 : rowC y' 37 row := fun j x hx => (fr_I f54 (by omega)).trans ((y37 j).trans (hrow j x hx))
        refine ok_bind (Q := fun w => fr (fun a j => a = 38) y' w ∧ ∀ j, j < 6 → gI w 38 j = gI y' 37 j)
          (lp_ok 6 (fun m x => x.1 = nI m ∧ fr (fun a j => a = 38) y' x.2 ∧ ∀ j, j < m → gI x.2 38 j = gI y' 37 j) (by omega) ⟨rfl, fr_refl _ _, fun j hj => absurd hj (by omega)⟩ ?_ ?_) ?_
        · rintro m ⟨x, q⟩ hm ⟨hx, q1, q2⟩
          simp only at hx q1 q2
          subst hx
          have e : gI q 37 m = gI y' 37 m := fr_I q1 (by omega)
          simp (disch := omega) only [b_X11_orders_105, litI, nI_leI, if_neg, ib_nI, ix_nI, if_pos, gm_let, nI_add, e]
          refine ok_some ⟨rfl, fr_sI q1 rfl, fun j hj => ?_⟩
          by_cases z : j = m
          · rw [z]; exact gI_eq rfl rfl
          · rw [gI_ne (by omega)]; exact q2 j (by omega)
        · rintro ⟨x, q⟩ ⟨hx, q1, q2⟩
          simp only at hx q1 q2
          subst hx
          simp (disch := omega) only [b_X11_orders_105, litI, nI_leI, if_pos]
          exact ok_some ⟨q1, q2⟩
        · rintro q ⟨q1, q2⟩
          refine ok_some ⟨⟨fr_trans oy.1 (fr_trans (fr_mono f54 (fun a j z => .inr (.inl ⟨z.1, by omega⟩))) (fr_mono q1 (fun a j z => .inr (.inr (.inr (.inl ⟨by omega, by omega⟩)))))), fun j hj => ?_, ?_⟩, .inr ⟨_, _, rfl, by omega, (fr_I q1 (by omega)).trans e54, fun j x hx => ?_⟩, fun j => ?_⟩
          · exact (fr_I q1 (by omega)).trans ((fr_I f54 (by omega)).trans (oy.2.1 j hj))
          · exact (fr_I q1 (by omega)).trans ((fr_I f54 (by omega)).trans y4)
          · have := (List.getElem?_eq_some_iff.mp hx).1
            rw [q2 j (by omega)]; exact r37 j x hx
          · exact (fr_I q1 (by omega)).trans ((fr_I f54 (by omega)).trans (y37 j))
      have skeep : pc (itR R (enK K row) days).2.2.1 = sN R K days row := rfl
      rw [y5, skeep]
      rcases hb with ⟨rfl, e⟩ | ⟨m, r', rfl, q1, e, q2⟩
      · rw [e, if_pos (show (-nI 1 : Int32) < nI (sN R K days row) from (nI_mlt (by omega)).mpr trivial), gm_letE]
        exact keep
      · rw [e]
        by_cases q : m < sN R K days row
        · rw [if_pos ((nI_ltI (by omega) (by omega)).mpr q), gm_letE, show stB (sN R K days) (some (m, r')) row = some (sN R K days row, row) from if_pos q]
          exact keep
        · rw [if_neg (fun w => q ((nI_ltI (by omega) (by omega)).mp w)), show stB (sN R K days) (some (m, r')) row = some (m, r') from if_neg q]
          exact ok_some ⟨oy, .inr ⟨m, r', rfl, q1, y5.trans e, fun j x hx => (y38 j).trans (q2 j x hx)⟩, y37⟩
theorem nI_and1 : ∀ s : Fin 64, ∀ p : Fin 6, nI s.1 &&& ((nI 1 <<< (nI p.1 &&& nI 31)) ^^^ -nI 1) = nI (s.1 &&& (63 - 2 ^ p.1)) := by decide +kernel
theorem m_orders {u : gm_M} {n days : Nat} {t : List Nat} {R : pR} {G : pG} {S : pS} {K : pK} {B : List pK} {M : pMk} (hM : RM u t R G S K B M) (g : gA n t R G S K B M) (hd : days ≤ 4) :
    ∀ (F s : Nat) (pre : List Nat) (v : gm_M) (b : pBst), s < 64 → pc s < F → pre.Nodup → (∀ p ∈ pre, p < rN R ∧ canE R K p = true ∧ s.testBit p = false) → (∀ p, p < 6 → s.testBit p = true → p < rN R ∧ canE R K p = true) → oM u v (rCandle R) → rowC v 37 pre → bM v b →
    ok (n_X11_orders F (nI pre.length) (nI s) (nI days) v) (fun w => oM u w (rCandle R) ∧ bM w (((prm (rN R) F s).map (fun r => pre ++ r)).foldl (stB (sN R K days)) b) ∧ ∀ j, j < pre.length → gI w 37 j = gI v 37 j) := by
  have g1 : rN R ≤ 6 := g.2.1.1
  intro F
  induction F with
  | zero => intro s pre v b _ h; omega
  | succ F ih =>
    intro s pre v b hs hpc hnd hpre hset hO hrow hb
    have grow : gRow R K pre := ⟨hnd, fun p hp => ⟨(hpre p hp).1, (hpre p hp).2.1⟩⟩
    have hl : pre.length ≤ 6 := nd_len 6 pre hnd (fun x hx => by have := (hpre x hx).1; omega)
    show ok (f_X11_ordersO (n_X11_orders F) (nI pre.length) (nI s) (nI days) v) _
    by_cases s0 : s = 0
    · subst s0
      refine ok_mono (m_leaf hM g hO grow hl hrow hd hb) ?_
      rintro w ⟨w1, w2, w3⟩
      refine ⟨w1, ?_, fun j _ => w3 j⟩
      have e : prm (rN R) (F + 1) 0 = [[]] := by simp [prm]
      rw [e]
      simp only [List.map_cons, List.map_nil, List.append_nil, List.foldl_cons, List.foldl_nil]
      exact w2
    · unfold f_X11_ordersO
      rw [if_neg (show ¬ nI s = (0 : Int32) from fun z => s0 ((nI_eq (b := 0) (by omega) (by omega)).mp z))]
      have e : prm (rN R) (F + 1) s = (List.range (rN R)).flatMap (fun p => if s.testBit p then (prm (rN R) F (s &&& (63 - 2 ^ p))).map (fun r => p :: r) else []) := by simp only [prm, if_neg s0]
      rw [e]
      generalize hH : (fun p => if s.testBit p then (prm (rN R) F (s &&& (63 - 2 ^ p))).map (fun r => p :: r) else []) = H
      refine ok_bind (Q := fun w => oM u w (rCandle R) ∧ bM w ((((List.range (rN R)).flatMap H).map (fun r => pre ++ r)).foldl (stB (sN R K days)) b) ∧ ∀ j, j < pre.length → gI w 37 j = gI v 37 j)
        (lp_ok (rN R) (fun m x => x.1 = nI m ∧ oM u x.2 (rCandle R) ∧ bM x.2 ((((List.range m).flatMap H).map (fun r => pre ++ r)).foldl (stB (sN R K days)) b) ∧ ∀ j, j < pre.length → gI x.2 37 j = gI v 37 j) (by omega) ⟨rfl, hO, by simpa using hb, fun j _ => rfl⟩ ?_ ?_) (fun w hw => ok_some hw)
      · rintro m ⟨x, w⟩ hm ⟨hx, w1, w2, w3⟩
        simp only at hx w1 w2 w3
        subst hx
        have m6 : m < 6 := by omega
        have e30 : gI w 3 0 = nI (rN R) := (fr_I w1.1 (fun z => by rcases z with z | z | z | z | z <;> omega)).trans hM.2.1.1.1
        have er : (List.range (m + 1)).flatMap H = (List.range m).flatMap H ++ H m := by
          rw [List.range_succ, List.flatMap_append]; simp
        rw [er, List.map_append, List.foldl_append]
        generalize (((List.range m).flatMap H).map (fun r => pre ++ r)).foldl (stB (sN R K days)) b = b' at *
        have hHm : H m = if s.testBit m then (prm (rN R) F (s &&& (63 - 2 ^ m))).map (fun r => m :: r) else [] := by rw [← hH]
        rw [hHm]
        simp (disch := omega) only [b_X11_orders_136, litI, e30, nI_leI, if_neg, nI_sh hs m6]
        cases q : s.testBit m
        · simp only [Bool.toNat_false, if0n, Bool.false_eq_true, if_false, List.map_nil, List.foldl_nil]
          exact ok_some ⟨by rw [nI_add], w1, w2, w3⟩
        · obtain ⟨t1, t2⟩ := pc_sub ⟨s, hs⟩ ⟨m, m6⟩ q
          simp only at t1 t2
          have t3 := fun i (hi : i < 6) => pc_sub2 ⟨s, hs⟩ ⟨m, m6⟩ ⟨i, hi⟩
          simp only at t3
          obtain ⟨c1, c2⟩ := hset m m6 q
          have hnd2 : (pre ++ [m]).Nodup := by
            rw [List.nodup_append]
            refine ⟨hnd, by simp, fun a ha b' hb' z => ?_⟩
            have hbm : b' = m := by simpa using hb'
            have := (hpre a ha).2.2
            rw [z, hbm, q] at this
            cases this
          have hl2 : (pre ++ [m]).length ≤ 6 := nd_len 6 _ hnd2 (fun x hx => by
            rcases List.mem_append.mp hx with z | z
            · have := (hpre x z).1; omega
            · have : x = m := by simpa using z
              omega)
          simp only [List.length_append, List.length_singleton] at hl2
          simp only [Bool.toNat_true, if1n, if_true]
          simp (disch := omega) only [ib_nI, ix_nI, if_pos, gm_letE, nI_add]
          have ea : nI s &&& ((nI 1 <<< (nI m &&& nI 31)) ^^^ -nI 1) = nI (s &&& (63 - 2 ^ m)) := nI_and1 ⟨s, hs⟩ ⟨m, m6⟩
          rw [ea]
          have f37 : fr (fun a j => a = 37 ∧ j = pre.length) w (sI w 37 pre.length (nI m)) := fr_sI (fr_refl _ _) ⟨rfl, rfl⟩
          have e37 : gI (sI w 37 pre.length (nI m)) 37 pre.length = nI m := gI_eq rfl rfl
          generalize sI w 37 pre.length (nI m) = w' at *
          have oW : oM u w' (rCandle R) := ⟨fr_trans w1.1 (fr_mono f37 (fun a j z => .inr (.inr (.inr (.inl ⟨by omega, by omega⟩))))), fun j hj => (fr_I f37 (by omega)).trans (w1.2.1 j hj), (fr_I f37 (by omega)).trans w1.2.2⟩
          have rW : rowC w' 37 (pre ++ [m]) := fun i x hx => by
            rcases Nat.lt_or_ge i pre.length with z | z
            · rw [List.getElem?_append_left z] at hx
              exact (fr_I f37 (by omega)).trans ((w3 i z).trans (hrow i x hx))
            · rw [List.getElem?_append_right z] at hx
              obtain ⟨z2, hz⟩ := List.getElem?_eq_some_iff.mp hx
              simp only [List.length_singleton] at z2
              have z3 : i = pre.length := by omega
              subst z3
              simp only [Nat.sub_self, List.getElem_cons_zero] at hz
              rw [e37, hz]
          have bW : bM w' b' := by
            rcases w2 with ⟨z1, z2⟩ | ⟨k, r', z1, z2, z3, z4⟩
            · exact .inl ⟨z1, (fr_I f37 (by omega)).trans z2⟩
            · exact .inr ⟨k, r', z1, z2, (fr_I f37 (by omega)).trans z3, fun j x hx => (fr_I f37 (by omega)).trans (z4 j x hx)⟩
          have := ih (s &&& (63 - 2 ^ m)) (pre ++ [m]) w' b' t2 (by omega) hnd2 (fun p hp => by
            rcases List.mem_append.mp hp with z | z
            · obtain ⟨y1, y2, y3⟩ := hpre p z
              refine ⟨y1, y2, ?_⟩
              rw [t3 p (by omega), y3]; rfl
            · have z2 : p = m := by simpa using z
              rw [z2]
              refine ⟨c1, c2, ?_⟩
              rw [t3 m m6]; simp) (fun p hp hq => by
            rw [t3 p hp, Bool.and_eq_true] at hq
            exact hset p hp hq.1) oW rW bW
          rw [List.length_append, List.length_singleton] at this
          refine ok_bind this ?_
          rintro y ⟨y1, y2, y3⟩
          refine ok_some ⟨rfl, y1, ?_, fun j hj => ?_⟩
          · rw [List.map_map]
            have ef : ((fun r => pre ++ r) ∘ fun r => m :: r) = (fun r => (pre ++ [m]) ++ r) := by
              funext r
              simp
            rw [ef]
            exact y2
          · exact (y3 j (by omega)).trans ((fr_I f37 (by omega)).trans (w3 j hj))
      · rintro ⟨x, w⟩ ⟨hx, w1, w2, w3⟩
        simp only at hx w1 w2 w3
        subst hx
        have e30 : gI w 3 0 = nI (rN R) := (fr_I w1.1 (fun z => by rcases z with z | z | z | z | z <;> omega)).trans hM.2.1.1.1
        simp (disch := omega) only [b_X11_orders_136, e30, nI_leI, if_pos]
        exact ok_some ⟨w1, w2, w3⟩
theorem m_may {u : gm_M} {a1 a2 : Int32} {n : Nat} {t : List Nat} {R : pR} {G : pG} {S : pS} {K : pK} {B : List pK} {M : pMk} (hM : RM u t R G S K B M) (g : gA n t R G S K B M) : gm_lp (b_X11_coming_10 a1 a2 u) gm_FU ((0 : Int32), (0 : Int32)) = some (nI (fB (canE R K) (rN R))) := by
  obtain ⟨-, gRr, -, -, -, gKK, gBB, -⟩ := id g
  have g1 := gRr.1
  have gq := gK_gQ gKK gRr
  have hyn := Yn_lt n
  have hk1 := gKK.1
  have h0 := hM.2.1.1.1
  have gg : gm_lp (b_X11_coming_10 a1 a2 u) gm_FU ((fun j => (nI (fB (canE R K) j), nI j)) 0) = some (nI (fB (canE R K) (rN R))) := by
    refine lp_for (rN R) (fun j => (nI (fB (canE R K) j), nI j)) _ (by omega) (fun j hj => ?_) ?_
    · have b1 := fB_lt (canE R K) j (by omega)
      have b2 := lt_two (p := j) (by omega)
      simp (disch := omega) only [b_X11_coming_10, gm_let, litI, ib_nI, ix_nI, nI_leI, nI_ltI, nI_eq, nI_add, nI_sub, nI_mul, nI_div, nI_rem, nI_m1, nI_eqm, nI_gem, nI_ltm, nI_mlt, nI_lem, Option.bind_some, Option.bind_none, h0, if_pos, if_neg, m_canCome hM.2.1 gRr hM.2.2.2.2.1 gq hj (by omega) gKK.2.2.1, nI_one, nI_or, fB_succ]
      cases q : canE R K j
      · simp only [Bool.toNat_false, if_false, Bool.false_eq_true, Nat.or_zero]
        rw [if_pos (by decide)]
      · simp only [Bool.toNat_true, if_true]
        rw [if_neg (by decide)]
    · simp (disch := omega) only [b_X11_coming_10, gm_let, litI, ib_nI, ix_nI, nI_leI, nI_ltI, nI_eq, nI_add, nI_sub, nI_mul, nI_div, nI_rem, nI_m1, nI_eqm, nI_gem, nI_ltm, nI_mlt, nI_lem, Option.bind_some, Option.bind_none, h0, if_pos, if_neg]
  exact gg
theorem st_coming (n : Nat) : St_coming (RelN (n + 1)) (RelN n) := by
  intro uC uM h a1 a2
  obtain ⟨h0, t, R, G, S, K, B, M, g, hC, hM⟩ := RelN_mono n uC uM h
  have hM1 := RM_t (x := 0) hM g
  obtain ⟨-, gRr, -, -, -, gKK, gBB, -⟩ := id g
  have g1 := gRr.1
  have gq := gK_gQ gKK gRr
  have hyn := Yn_lt n
  have hk1 := gKK.1
  have gK2 := gK_up (Z := 8000) gKK (by omega)
  unfold f_X10_coming f_X11_coming
  simp only [gm_letE]
  generalize sI uM 1 0 (0 : Int32) = u1 at *
  rw [m_may hM1 g]
  simp only [Option.bind_some]
  have fl := fB_lt (canE R K) (rN R) g1
  have ft := fB_test (canE R K) (rN R)
  obtain ⟨p1, p2, p3, p4⟩ := chk_ok g1 (fB_lt2 (canE R K) (rN R))
  have hz := pc_le (fB (canE R K) (rN R))
  have elen : ((List.range 6).filter (fun p => (fB (canE R K) (rN R)).testBit p)).length = pc (fB (canE R K) (rN R)) := rfl
  rcases wi1 a1 4 (by omega) (by omega) with ⟨d, m1, m2, rfl, e⟩ | ⟨e, e2⟩
  · have e' : f_X11_within (nI d) 1 4 = nI 1 := e
    rw [e', if1, if_neg (show ¬ nI d < (1 : Int32) from fun z => by rw [show (1 : Int32) = nI 1 from rfl, nI_ltI (by omega) (by omega)] at z; omega), if_neg (show ¬ (4 : Int32) < nI d from fun z => by rw [show (4 : Int32) = nI 4 from rfl, nI_ltI (by omega) (by omega)] at z; omega), pc_m fl]
    simp only [Option.bind_some]
    obtain ⟨⟨o, v⟩, ev, v1, v2, v3⟩ := c_firstRow hC g
    simp only at v1 v2 v3
    subst v1
    rw [elen] at ev
    have bad : ∀ {x : Option (Int32 × gm_M)}, (x = some ((-2 : Int32), uC) ∨ x = some ((-2 : Int32), v)) → ∃ (r : Int32) (uC' uM' : gm_M), x = some (r, uC') ∧ some ((-2 : Int32), u1) = some (r, uM') ∧ RelN n uC' uM' := fun e => by
      rcases e with e | e
      · exact ⟨-2, uC, u1, e, rfl, h0, t, R, G, S, K, B, M, g, hC, hM1⟩
      · exact ⟨-2, v, u1, e, rfl, h0, t, R, G, S, K, B, M, g, v2, hM1⟩
    by_cases q1 : a2 < (-1 : Int32)
    · have w1 : f_X11_within a2 (-1) (nI (pc (fB (canE R K) (rN R))) - 1) = nI 0 := if_pos q1
      rw [w1, if0]
      refine bad (.inl ?_)
      rw [if_neg]
      rw [Int32.le_iff_toInt_le]
      rw [Int32.lt_iff_toInt_lt] at q1
      omega
    · have q1' : (-1 : Int32) ≤ a2 := by
        rw [Int32.le_iff_toInt_le]
        rw [Int32.lt_iff_toInt_lt] at q1
        omega
      rw [if_pos q1', ev]
      simp only [Option.bind_some]
      by_cases q2 : a2 < nI (pc (fB (canE R K) (rN R)))
      · have w1 : f_X11_within a2 (-1) (nI (pc (fB (canE R K) (rN R))) - 1) = nI 1 := by
          unfold f_X11_within
          rw [if_neg q1, if_neg]
          · rfl
          · rw [Int32.lt_iff_toInt_lt] at q2 ⊢
            rw [show (1 : Int32) = nI 1 from rfl, nI_subi (by omega) (by omega)]
            rw [nI_toInt (by omega)] at q2
            omega
        rw [w1, if1, if_pos q2]
        obtain ⟨⟨cb, cv⟩, cl, cR, cB⟩ := c_comeLoop (a2 := a2) v2 g m2 v3
        simp only at cR cB
        obtain ⟨hM2, c49⟩ := m_cand hM1 g
        generalize sI u1 1 49 (gI u1 3 2) = u2 at *
        have f54 : fr (fun a j => a = 1 ∧ j = 54) u2 (sI u2 1 54 (-1 : Int32)) := fr_sI (fr_refl _ _) ⟨rfl, rfl⟩
        have e54 : gI (sI u2 1 54 (-1 : Int32)) 1 54 = -nI 1 := gI_eq rfl rfl
        have oM0 : oM u2 (sI u2 1 54 (-1 : Int32)) (rCandle R) := ⟨fr_mono f54 (fun a j z => .inr (.inl ⟨z.1, by omega⟩)), fun j hj => fr_I f54 (by omega), (fr_I f54 (by omega)).trans c49⟩
        generalize sI u2 1 54 (-1 : Int32) = u3 at *
        obtain ⟨w, ew, w1', w2, -⟩ := m_orders hM2 g m2 8 (fB (canE R K) (rN R)) [] u3 none fl (by omega) List.nodup_nil (fun p hp => by cases hp) (fun p hp hq => by rw [ft] at hq; simpa using hq) oM0 (fun i x hx => by simp at hx) (.inl ⟨rfl, e54⟩)
        have ew' : f_X11_orders (0 : Int32) (nI (fB (canE R K) (rN R))) (nI d) u3 = some w := ew
        rw [ew', cl]
        simp only [Option.bind_some]
        have eid : (prm (rN R) 8 (fB (canE R K) (rN R))).map (fun r => [] ++ r) = prm (rN R) 8 (fB (canE R K) (rN R)) := by
          rw [show (fun r : List Nat => [] ++ r) = id from rfl, List.map_id]
        rw [eid] at w2
        have hMw : RM w t R G S K B M := RM_q hM2 g w1'.1 qoP_ok w1'.2.1
        have bb : ∃ m r, bst (sN R K d) (prm (rN R) 8 (fB (canE R K) (rN R))) = some (m, r) := by
          cases hP : prm (rN R) 8 (fB (canE R K) (rN R)) with
          | nil => rw [hP] at p2; simp at p2
          | cons x P =>
            unfold bst
            rw [List.foldl_cons]
            have : ∀ (P : List (List Nat)) (m : Nat) (r : List Nat), ∃ m' r', P.foldl (stB (sN R K d)) (some (m, r)) = some (m', r') := by
              intro P
              induction P with
              | nil => intro m r; exact ⟨m, r, rfl⟩
              | cons y P ih =>
                intro m r
                rw [List.foldl_cons]
                by_cases q : m < sN R K d y
                · rw [show stB (sN R K d) (some (m, r)) y = some (sN R K d y, y) from if_pos q]; exact ih _ _
                · rw [show stB (sN R K d) (some (m, r)) y = some (m, r) from if_neg q]; exact ih _ _
            exact this P _ _
        obtain ⟨m, r, hb⟩ := bb
        obtain ⟨hb1, hb2⟩ := bst_mem _ none (fun _ _ e => by cases e) m r hb
        have hrP : r ∈ prm (rN R) 8 (fB (canE R K) (rN R)) := by
          rcases hb2 with z | z
          · exact z
          · cases z
        have hrl := (p4 r hrP).1
        have w2' : bM w (bst (sN R K d) (prm (rN R) 8 (fB (canE R K) (rN R)))) := w2
        rw [hb] at cB w2'
        rcases cB with ⟨z, -⟩ | ⟨m', r', z, z1, z2, z3, z4⟩
        · cases z
        rcases w2' with ⟨y, -⟩ | ⟨m'', r'', y, y1, y2, y3⟩
        · cases y
        cases z
        cases y
        subst z3
        unfold j_X10_coming_112
        by_cases q3 : a2 = (-1 : Int32)
        · rw [if_pos q3, if_pos q3]
          have e3 : gI w 29 3 = nI K.2.2.1 := hMw.2.2.2.2.1.1.2.2.2
          rw [e3, pc_m gKK.2.2.1]
          simp only [Option.bind_some]
          refine two_q (nI (m - pc K.2.2.1)) h0 g (ok_some ⟨rfl, cR⟩) (ok_some ⟨?_, hMw⟩)
          show gI w 1 54 - nI _ = _
          rw [y2, nI_sub z1]
        · rw [if_neg q3, if_neg q3]
          have hp0 : ¬ a2 < 0 := by
            intro z
            apply q3
            rw [← Int32.toInt_inj]
            rw [Int32.lt_iff_toInt_lt] at z q1
            have e1 : (-1 : Int32).toInt = -1 := by decide
            have e0 : (0 : Int32).toInt = 0 := by decide
            omega
          obtain ⟨i, hi, rfl⟩ := nI_of hp0
          rw [nI_ltI hi (by omega)] at q2
          obtain ⟨x, hx⟩ : ∃ x, r[i]? = some x := ⟨_, List.getElem?_eq_getElem (by omega)⟩
          rw [if_neg (show ¬ (6 : Int32) ≤ nI i from fun z => by rw [show (6 : Int32) = nI 6 from rfl, nI_leI (by omega) (by omega)] at z; omega)]
          simp (disch := omega) only [ib_nI, ix_nI, if_pos, z4 i x hx, y3 i x hx]
          exact two_q (nI x) h0 g (ok_some ⟨rfl, cR⟩) (ok_some ⟨rfl, hMw⟩)
      · have w1 : f_X11_within a2 (-1) (nI (pc (fB (canE R K) (rN R))) - 1) = nI 0 := by
          unfold f_X11_within
          rw [if_neg q1, if_pos]
          · rfl
          · rw [Int32.lt_iff_toInt_lt] at q2 ⊢
            rw [show (1 : Int32) = nI 1 from rfl, nI_subi (by omega) (by omega)]
            rw [nI_toInt (by omega)] at q2
            omega
        rw [w1, if0, if_neg q2]
        exact bad (.inr rfl)
  · have e' : f_X11_within a1 1 4 = nI 0 := e
    rw [e', if0]
    refine ⟨-2, uC, u1, ?_, rfl, h0, t, R, G, S, K, B, M, g, hC, hM1⟩
    rcases e2 with z | ⟨z1, z2⟩
    · rw [if_pos (show a1 < (1 : Int32) from z)]
    · rw [if_neg (show ¬ a1 < (1 : Int32) from z1), if_pos (show (4 : Int32) < a1 from by
        have z2' : ¬ a1 ≤ (4 : Int32) := z2
        rw [Int32.le_iff_toInt_le] at z2'
        rw [Int32.lt_iff_toInt_lt]
        omega)]
