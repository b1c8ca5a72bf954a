/-! the E, read by both -/
def finR : gm_M ⊕ (gm_M ⊕ (Int32 × gm_M)) → Option (Int32 × gm_M)
  | .inl u => (f_X11_fails (1 : Int32) u).bind fun o => some (o.1 &&& 1, o.2)
  | .inr (.inl u) => (f_X11_fails (5 : Int32) u).bind fun o => some (o.1 &&& 1, o.2)
  | .inr (.inr (w, u)) => j_X11_reads_399 w u
def elP (a : Nat) : Nat → Nat → Prop := fun x j => tkP x j ∨ (x = 2 ∧ j = 1) ∨ (x = a ∧ j = 1) ∨ x = a + 1
def emP : Nat → Nat → Prop := fun x j => (x = 1 ∧ ((4 ≤ j ∧ j ≤ 9) ∨ j = 18)) ∨ x = 11 ∨ x = 12 ∨ (x = 10 ∧ 1000 ≤ j)
def rGo (k : Nat) (x y : Int32 × Int32 × gm_M) : Prop := ∀ G, gm_lp b_X11_reads_11 (k + G) x = gm_lp b_X11_reads_11 G y
def rFl (k : Nat) (x : Int32 × Int32 × gm_M) (u : gm_M) (F : Nat) : Prop := ∀ G, ok ((gm_lp b_X11_reads_11 (k + G) x).bind finR) (fun o => o.1 = nI 0 ∧ gI o.2 1 9 = nI F ∧ fr emP u o.2)
theorem rGo_tr {m n : Nat} {x y z : Int32 × Int32 × gm_M} (h : rGo m x y) (g : rGo n y z) : rGo (m + n) x z := fun G => by rw [Nat.add_assoc, h, g]
theorem rGo_1 {x y : Int32 × Int32 × gm_M} (h : b_X11_reads_11 x = some (.inl y)) : rGo 1 x y := fun G => by
  rw [Nat.add_comm]
  simp only [gm_lp, h, Option.bind_some]
theorem rFl_tr {m n F : Nat} {x y : Int32 × Int32 × gm_M} {u v : gm_M} (h : rGo m x y) (f : fr emP u v) (g : rFl n y v F) : rFl (m + n) x u F := fun G => by
  rw [Nat.add_assoc, h]
  refine ok_mono (g G) ?_
  rintro o ⟨a, b, c⟩
  exact ⟨a, b, fr_trans f c⟩
theorem rFl_1 {x : Int32 × Int32 × gm_M} {r : gm_M ⊕ (gm_M ⊕ (Int32 × gm_M))} {u : gm_M} {F : Nat} (h : b_X11_reads_11 x = some (.inr r)) (g : ok (finR r) (fun o => o.1 = nI 0 ∧ gI o.2 1 9 = nI F ∧ fr emP u o.2)) : rFl 1 x u F := fun G => by
  rw [Nat.add_comm]
  simp only [gm_lp, h, Option.bind_some]
  exact g
def opM (u : gm_M) : List Nat → Prop
  | [] => True
  | o :: l => gI u 11 (l.length + 1) = nI (if o = 1 then 1 else 2) ∧ opM u l
theorem opM_eq {u v : gm_M} : ∀ (l : List Nat), opM u l → (∀ i, i ≤ l.length → gI v 11 i = gI u 11 i) → opM v l := by
  intro l
  induction l with
  | nil => intro _ _; trivial
  | cons o l ih =>
    intro h hf
    exact ⟨(hf _ (by simp)).trans h.1, ih h.2 (fun i hi => hf i (by simp only [List.length_cons]; omega))⟩
theorem r_pop {u : gm_M} : ∀ (ro : List Nat) (G : Nat), opM u ro → ro.length ≤ 6 → gm_lp (b_X11_reads_152 u) (ro.length + 1 + G) (nI ro.length) = some (nI (bs ro).length) := by
  intro ro
  induction ro with
  | nil =>
    intro G _ _
    rw [show ([] : List Nat).length + 1 + G = G + 1 by simp; omega]
    have : b_X11_reads_152 u (nI ([] : List Nat).length) = some (.inr (nI ([] : List Nat).length)) := by
      rw [b_X11_reads_152, if_pos (show nI ([] : List Nat).length ≤ (0 : Int32) by decide)]
    simp only [gm_lp, this, Option.bind_some]
    rfl
  | cons o l ih =>
    intro G h hl
    simp only [List.length_cons] at hl
    rw [show (o :: l).length + 1 + G = (l.length + 1 + G) + 1 by simp only [List.length_cons]; omega]
    have e0 : (o :: l).length = l.length + 1 := rfl
    rw [e0]
    have h1 := h.1
    by_cases q : o = 1
    · rw [if_pos q] at h1
      have : b_X11_reads_152 u (nI (l.length + 1)) = some (.inl (nI l.length)) := by
        rw [b_X11_reads_152, if_neg (show ¬ nI (l.length + 1) ≤ (0 : Int32) from fun z => by rw [show (0 : Int32) = nI 0 from rfl, nI_leI (by omega) (by omega)] at z; omega)]
        simp (disch := omega) only [ib_nI, ix_nI, if_pos, h1]
        rw [if_pos (show nI 1 = (1 : Int32) from rfl), show nI (l.length + 1) + (-1 : Int32) = nI l.length by rw [show (-1 : Int32) = -nI 1 from rfl, nI_m1 (by omega), Nat.add_sub_cancel]]
      simp only [gm_lp, this, Option.bind_some]
      rw [ih G h.2 (by omega)]
      simp only [bs, if_pos q]
    · rw [if_neg q] at h1
      have : b_X11_reads_152 u (nI (l.length + 1)) = some (.inr (nI (l.length + 1))) := by
        rw [b_X11_reads_152, if_neg (show ¬ nI (l.length + 1) ≤ (0 : Int32) from fun z => by rw [show (0 : Int32) = nI 0 from rfl, nI_leI (by omega) (by omega)] at z; omega)]
        simp (disch := omega) only [ib_nI, ix_nI, if_pos, h1]
        rw [if_neg (show ¬ nI 2 = (1 : Int32) by decide)]
      simp only [gm_lp, this, Option.bind_some]
      simp only [bs, if_neg q]
      rfl
theorem r_popF {u : gm_M} {ro : List Nat} (h : opM u ro) (hl : ro.length ≤ 6) : gm_lp (b_X11_reads_152 u) gm_FU (nI ro.length) = some (nI (bs ro).length) := by
  have := r_pop ro (100000 - (ro.length + 1)) h hl
  rw [show ro.length + 1 + (100000 - (ro.length + 1)) = gm_FU by unfold gm_FU; omega] at this
  exact this
theorem r_popF2 {u : gm_M} {x : Int32} {ro : List Nat} (h : opM u ro) (hl : ro.length ≤ 6) : gm_lp (b_X11_reads_379 x u) gm_FU (nI ro.length) = some (nI (bs ro).length) := r_popF h hl
section
variable {t : List Nat} {a : Nat}
def eC (t : List Nat) (a : Nat) (u : gm_M) (p n : Nat) : Prop := cuC u t p ∧ gI u 2 1 = 0 ∧ gI u a 1 = nI n ∧ n + 1 ≤ p ∧ p ≤ t.length
def eM (t : List Nat) (u : gm_M) (p : Nat) (ro : List Nat) (m : Nat) : Prop := cuM u t p ∧ gI u 1 18 = nI (1000 + m) ∧ opM u ro ∧ m + 1 ≤ p
/-- both go on: from the states at p (depth x, wants y) to those at p' -/
def GDw (t : List Nat) (a : Nat) (ro : List Nat) (y : Nat) (cl H : Nat) (rt ct : List Int32) (SP : List Int32 → pEv → Prop) (ec : Nat → gm_M → Prop) (uC uM : gm_M) (p n m : Nat) (vC vM : gm_M) (p' : Nat) (rs cs : List Int32) (v : pEv) (k : Nat) : Prop :=
  p < p' ∧ k ≤ p' - p ∧ rs.length + rt.length ≤ p' - p ∧ cs.length + ct.length ≤ p' - p ∧ eC t a vC p' (n + (rs.length + rt.length)) ∧ (∀ i c, (rs ++ rt)[i]? = some c → gI vC (a + 1) (n + i) = c) ∧ (∀ i, i < n → gI vC (a + 1) i = gI uC (a + 1) i) ∧
  eM t vM p' ro (m + (ct.length + cs.length)) ∧ (∀ i c, (ct ++ cs)[i]? = some c → gI vM 10 (1000 + m + i) = c) ∧ (∀ i, i < m → gI vM 10 (1000 + i) = gI uM 10 (1000 + i)) ∧ rGo k (nI ro.length, nI y, uM) (nI (bs ro).length, nI 0, vM) ∧ fr emP uM vM ∧ (∀ i, i < cl → gI vM 12 i = gI uM 12 i) ∧ (∀ i, i ≤ ro.length → gI vM 11 i = gI uM 11 i) ∧ ec p' vM ∧ RP H rs v ∧ SP cs v
def GD (t : List Nat) (a : Nat) (ro : List Nat) (y : Nat) (cl H : Nat) (rt ct : List Int32) (SP : List Int32 → pEv → Prop) (ec : Nat → gm_M → Prop) (uC uM : gm_M) (p n m : Nat) (vC : gm_M) : Prop :=
  ∃ vM p' rs cs v k, GDw t a ro y cl H rt ct SP ec uC uM p n m vC vM p' rs cs v k
/-- how many steps are there, in fault or not: at most 1000 -/
def szA (u : gm_M) (a : Nat) : Prop := ∃ n, gI u a 1 = nI n ∧ n ≤ 1000
def BD (t : List Nat) (a : Nat) (ro : List Nat) (y : Nat) (uM : gm_M) (p : Nat) (vC : gm_M) : Prop := ∃ F k, gI vC 2 1 = nI F ∧ 1 ≤ F ∧ F ≤ 17000 ∧ k ≤ t.length + 1 - p ∧ rFl k (nI ro.length, nI y, uM) uM F ∧ szA vC a
def PX (t : List Nat) (a : Nat) (f : gm_M → Option gm_M) (ro : List Nat) (cl H : Nat) (st : gm_M → Prop) (SP : List Int32 → pEv → Prop) (ec : Nat → gm_M → Prop) : Prop :=
  ∀ uC uM p n m, eC t a uC p n → eM t uM p ro m → st uM → ok (f uC) (fun vC => fr (elP a) uC vC ∧ (BD t a ro 1 uM p vC ∨ GD t a ro 1 cl H [] [] SP ec uC uM p n m vC))
theorem elP_tk {u v : gm_M} (h : fr tkP u v) : fr (elP a) u v := fr_mono h (fun _ _ z => .inl z)
theorem elP_4 {u : gm_M} {x : Int32} : fr (elP a) u (sI u 2 1 x) := fr_sI (fr_refl _ _) (.inr (.inl ⟨rfl, rfl⟩))
theorem emP_tm {u v : gm_M} (h : fr tmP u v) : fr emP u v := fr_mono h (fun _ _ z => .inl ⟨z.1, by unfold tmP at z; omega⟩)
theorem emP_9 {u : gm_M} {x : Int32} : fr emP u (sI u 1 9 x) := fr_sI (fr_refl _ _) (.inl ⟨rfl, by omega⟩)
theorem emP_put {m : Nat} (x j : Nat) (z : (x = 10 ∧ j = 1000 + m) ∨ (x = 1 ∧ j = 18)) : emP x j := by
  rcases z with z | z
  · exact .inr (.inr (.inr ⟨z.1, by omega⟩))
  · exact .inl ⟨z.1, .inr z.2⟩
theorem m_puts {u : gm_M} {m : Nat} (c : Int32) (h : gI u 1 18 = nI (1000 + m)) (hm : m < 1000) : f_X11_puts c u = some (sI (sI u 10 (1000 + m) c) 1 18 (nI (1000 + m + 1))) := by
  unfold f_X11_puts
  rw [h, if_pos (show ib (nI (1000 + m)) 2000 = true from (ib_nI (by omega)).mpr (by omega)), ix_nI (by omega), gm_letE, gm_letE]
  have e : gI (sI u 10 (1000 + m) c) 1 18 = nI (1000 + m) := (gI_ne (by omega)).trans h
  rw [e, show nI (1000 + m) + (1 : Int32) = nI (1000 + m + 1) from nI_add _ 1]
/-- what puts leaves -/
theorem m_putsF {u : gm_M} {m : Nat} (c : Int32) (h : gI u 1 18 = nI (1000 + m)) (hm : m < 1000) : ok (f_X11_puts c u) (fun v => fr (fun x j => (x = 10 ∧ j = 1000 + m) ∨ (x = 1 ∧ j = 18)) u v ∧ gI v 10 (1000 + m) = c ∧ gI v 1 18 = nI (1000 + (m + 1))) := by
  rw [m_puts c h hm]
  exact ok_some ⟨fr_sI (fr_sI (fr_refl _ _) (.inl ⟨rfl, rfl⟩)) (.inr ⟨rfl, rfl⟩), (gI_ne (by omega)).trans (gI_eq rfl rfl), gI_eq rfl rfl⟩
theorem c_ladd {u : gm_M} {n : Nat} (x : Int32) (h : gI u a 1 = nI n) (hn : n ≤ 1000) : ok (f_X3_add a x u) (fun v => fr (fun y j => (y = a ∧ j = 1) ∨ y = a + 1) u v ∧ szA v a ∧ (n < 1000 → gI v a 1 = nI (n + 1) ∧ gI v (a + 1) n = x ∧ ∀ i, i < n → gI v (a + 1) i = gI u (a + 1) i)) := by
  unfold f_X3_add
  rw [h, if_neg (nI_pos (by omega))]
  by_cases q : n < 1000
  · rw [if_neg (show ¬ (1000 : Int32) ≤ nI n from fun z => by rw [show (1000 : Int32) = nI 1000 from rfl, nI_leI (by omega) (by omega)] at z; omega)]
    have e1 : gI (sI u (a + 1) n x) a 1 = nI n := (gI_ne (by omega)).trans h
    simp (disch := omega) only [ib_nI, ix_nI, if_pos, gm_let, e1, litI, nI_add]
    refine ok_some ⟨fr_sI (fr_sI (fr_refl _ _) (.inr rfl)) (.inl ⟨rfl, rfl⟩), ⟨n + 1, gI_eq rfl rfl, by omega⟩, fun _ => ⟨gI_eq rfl rfl, ?_, fun i hi => ?_⟩⟩
    · rw [gI_ne (by omega)]; exact gI_eq rfl rfl
    · rw [gI_ne (by omega), gI_ne (by omega)]
  · rw [if_pos (show (1000 : Int32) ≤ nI n from (nI_leI (a := 1000) (by omega) (by omega)).mpr (by omega))]
    exact ok_some ⟨fr_refl _ _, ⟨n, h, hn⟩, fun z => absurd z q⟩
theorem cuC_fr {P : Nat → Nat → Prop} {u v : gm_M} {p : Nat} (h : cuC u t p) (f : fr P u v) (h2 : ∀ j, ¬ P 3 j) (h3 : ∀ j, ¬ P 4 j) : cuC v t p := by
  obtain ⟨c1, c2, c3, c4, c5, c6⟩ := h
  exact ⟨tC_fr c1 f (h2 1) h3, (fr_I f (h2 2)).trans c2, (fr_I f (h2 4)).trans c3, fun z => (fr_I f (h2 3)).trans (c4 z), fun z => ⟨(fr_J f (h2 6)).trans (c5 z).1, (fr_I f (h2 5)).trans (c5 z).2⟩, fun z => (fr_I f (h2 5)).trans (c6 z)⟩
/-- an op, then a piece, then the op's step -/
theorem chain {f : gm_M → Option gm_M} {ro : List Nat} {cl cl2 H : Nat} {st : gm_M → Prop} {SP : List Int32 → pEv → Prop} {ec : Nat → gm_M → Prop} {uC uM uM2 : gm_M} {p n m : Nat} {c c' : Int32} (ha : a = 10 ∨ a = 18) (gt : gT t) (hbs : bs ro = ro) (hP : PX t a f ro cl2 H st SP ec) (hcl : cl ≤ cl2)
    (hC : eC t a uC p n) (hM : eM t uM p ro m) (hs : kS t p ≠ 0)
    (hstep : b_X11_reads_11 (nI ro.length, nI 0, uM) = some (.inl (nI ro.length, nI 1, uM2))) (h1 : eM t uM2 (kE t p) ro (m + 1)) (h2 : gI uM2 10 (1000 + m) = c) (h3 : ∀ i, i < m → gI uM2 10 (1000 + i) = gI uM 10 (1000 + i)) (h4 : fr emP uM uM2) (h5 : st uM2) (h6 : ∀ i, i < cl → gI uM2 12 i = gI uM 12 i) (h7 : ∀ i, i ≤ ro.length → gI uM2 11 i = gI uM 11 i)
    :
    ok ((f_X9_advance uC).bind fun u7 => (f u7).bind fun u9 => (f_X3_add a c' u9).bind fun z => some z) (fun z => fr (elP a) uC z ∧ (BD t a ro 0 uM p z ∨ GD t a ro 0 cl H [c'] [c] SP ec uC uM p n m z)) := by
  have gl := gt.1
  obtain ⟨hC1, hC2, hC3, hC4, hC5⟩ := hC
  have hE := kE_le hC5 hs
  refine ok_bind (c_step hC1 gt hC5 hs) ?_
  rintro v ⟨v1, v2⟩
  have eCv : eC t a v (kE t p) n := ⟨v1, (fr_I v2 (by unfold tkP; omega)).trans hC2, (fr_I v2 (by unfold tkP; omega)).trans hC3, by omega, hE.2.1⟩
  obtain ⟨w, ew, w1, w2⟩ := hP v uM2 (kE t p) n (m + 1) eCv h1 h5
  rw [ew]
  simp only [Option.bind_some]
  have fw : fr (elP a) uC w := fr_trans (elP_tk v2) w1
  rcases w2 with ⟨F, k, b1, b2, b3, b4, b5, ⟨n', hn1, hn2⟩⟩ | ⟨vM, p', rs, cs, ev, k, g1, g2, g3, g4, g5, g6, g7, g8, g9, g10, g11, g12, g13, g14, g15, g16, g17⟩
  · refine ok_bind (c_ladd c' hn1 hn2) ?_
    rintro z ⟨z1, z2, -⟩
    refine ok_some ⟨fr_trans fw (fr_mono z1 (fun x j q => .inr (.inr q))), .inl ⟨F, 1 + k, (fr_I z1 (by omega)).trans b1, b2, b3, by omega, rFl_tr (rGo_1 hstep) h4 b5, z2⟩⟩
  · obtain ⟨c1, c2, c3, c4, c5⟩ := g5
    simp only [List.length_nil, Nat.add_zero, Nat.zero_add, List.append_nil, List.nil_append] at g3 g4 c3 c4 g6 g8 g9
    refine ok_bind (c_ladd c' c3 (by omega)) ?_
    rintro z ⟨z1, -, z2⟩
    obtain ⟨y1, y2, y3⟩ := z2 (by omega)
    have cz : cuC z t p' := cuC_fr c1 z1 (fun j => by omega) (fun j => by omega)
    refine ok_some ⟨fr_trans fw (fr_mono z1 (fun x j q => .inr (.inr q))), .inr ⟨vM, p', rs, cs, ev, 1 + k, by omega, by omega, by simp only [List.length_singleton]; omega, by simp only [List.length_singleton]; omega, ⟨cz, (fr_I z1 (by omega)).trans c2, ?_, by simp only [List.length_singleton]; omega, c5⟩, fun i x hx => ?_, fun i hi => ?_, ?_, fun i x hx => ?_, fun i hi => ?_, rGo_tr (rGo_1 hstep) (by rw [hbs] at g11 ⊢; exact g11), fr_trans h4 g12, fun i hi => (g13 i (by omega)).trans (h6 i hi), fun i hi => (g14 i hi).trans (h7 i hi), g15, g16, g17⟩⟩
    · rw [y1, List.length_singleton, Nat.add_assoc]
    · rcases Nat.lt_or_ge i rs.length with q | q
      · rw [List.getElem?_append_left q] at hx
        rw [y3 _ (by omega)]; exact g6 i x hx
      · rw [List.getElem?_append_right q] at hx
        obtain ⟨q2, hq⟩ := List.getElem?_eq_some_iff.mp hx
        simp only [List.length_singleton] at q2
        have q3 : i = rs.length := by omega
        subst q3
        simp only [Nat.sub_self, List.getElem_cons_zero] at hq
        rw [y2, hq]
    · rw [y3 i (by omega), g7 i hi]
      exact fr_I v2 (by unfold tkP; omega)
    · obtain ⟨d1, d2, d3, d4⟩ := g8
      exact ⟨d1, by rw [d2, List.length_singleton, Nat.add_assoc], d3, by simp only [List.length_singleton]; omega⟩
    · cases i with
      | zero =>
        simp only [List.singleton_append, List.getElem?_cons_zero, Option.some.injEq] at hx
        rw [Nat.add_zero, g10 m (by omega), h2, hx]
      | succ i =>
        simp only [List.singleton_append, List.getElem?_cons_succ] at hx
        have := g9 i x hx
        rw [show 1000 + m + (i + 1) = 1000 + (m + 1) + i by omega]; exact this
    · rw [g10 i (by omega), h3 i hi]
end
