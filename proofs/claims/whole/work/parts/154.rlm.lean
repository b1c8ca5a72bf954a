/-! realm: the law's line -/
theorem C_ne {v : pEv} (h : CWhole [] [] v) : False := by
  have key : ∀ (u : gm_M), gI u 20 0 = 0 → gI u 17 0 = 0 → gI u 18 0 = (20 : Int32) → gI u 16 0 = 0 → gI u 14 0 = 0 → gI u 9 0 = nI 0 → gI u 19 0 = Vv u v := by
    intro u h1 h2 h3 h4 h5 h6
    obtain ⟨w, g1, g2, g3, g4⟩ := h u 0 0 trivial ⟨h1, h2, h3, h4, h5⟩ ⟨h6, by omega, by simp, fun i c hc => by simp at hc⟩
    have ex : ∀ x : gm_M, gI x 9 0 = nI 0 → gm_lp (b_X11_worked_14 0) 1 (nI ([] : List Nat).length, nI 0, x) = some x := by
      intro x hx
      have eb : b_X11_worked_14 0 (nI ([] : List Nat).length, nI 0, x) = some (.inr x) := by
        rw [b_X11_worked_14]
        rw [if_pos (show ib (0 : Int32) 2 = true by decide), show ix (0 : Int32) = 0 by decide, hx, if_pos (by decide)]
      simp only [gm_lp, eb, Option.bind_some]
    have e1 := g1 1
    have e2 := ex u h6
    have e3 := ex w ((fr_I g2 (by unfold evP; omega)).trans h6)
    have e4 : gm_lp (b_X11_worked_14 0) 1 (nI ([] : List Nat).length, nI 0, u) = gm_lp (b_X11_worked_14 0) 1 (nI ([] : List Nat).length, nI 0, w) := e1
    rw [e2, e3, Option.some.injEq] at e4
    subst e4
    have g4' : wvu u 0 = Vv u v := g4
    rw [← g4']
    unfold wvu tvu cbu cbv tvv wvv
    rw [h5, h4, h3, h2]
    rw [if_neg (show ¬ (0 : Int32) = (27 : Int32) by decide), if_neg (show ¬ (0 : Int32) = (26 : Int32) by decide), if_neg (show ¬ (0 : Int32) = (25 : Int32) by decide), if_neg (show ¬ (0 : Int32) = (24 : Int32) by decide), if_neg (show ¬ (20 : Int32) = (21 : Int32) by decide), Int32.zero_add]
  -- two memories that differ in the term alone
  have mk : ∀ (u : gm_M) (x : Int32), x = Vv (sI (sI (sI (sI (sI (sI (sI u 20 0 0) 17 0 0) 18 0 20) 16 0 0) 14 0 0) 9 0 (nI 0)) 19 0 x) v := by
    intro u x
    have := key (sI (sI (sI (sI (sI (sI (sI u 20 0 0) 17 0 0) 18 0 20) 16 0 0) 14 0 0) 9 0 (nI 0)) 19 0 x) ?_ ?_ ?_ ?_ ?_ ?_
    · rw [gI_eq rfl rfl] at this
      exact this
    · rw [gI_ne (by omega), gI_ne (by omega), gI_ne (by omega), gI_ne (by omega), gI_ne (by omega), gI_ne (by omega)]; exact gI_eq rfl rfl
    · rw [gI_ne (by omega), gI_ne (by omega), gI_ne (by omega), gI_ne (by omega), gI_ne (by omega)]; exact gI_eq rfl rfl
    · rw [gI_ne (by omega), gI_ne (by omega), gI_ne (by omega), gI_ne (by omega)]; exact gI_eq rfl rfl
    · rw [gI_ne (by omega), gI_ne (by omega), gI_ne (by omega)]; exact gI_eq rfl rfl
    · rw [gI_ne (by omega), gI_ne (by omega)]; exact gI_eq rfl rfl
    · rw [gI_ne (by omega)]; exact gI_eq rfl rfl
  have same : ∀ (u : gm_M) (x y : Int32), Vv (sI u 19 0 x) v = Vv (sI u 19 0 y) v := by
    intro u x y
    unfold Vv
    rw [gI_ne (by omega), gI_ne (by omega), gI_ne (by omega), gI_ne (by omega), gI_ne (by omega), gI_ne (by omega), gI_ne (by omega), gI_ne (by omega)]
  have a := mk uM0 0
  have b := mk uM0 1
  rw [same _ (0 : Int32) (1 : Int32)] at a
  exact absurd (a.trans b.symm) (by decide)
/-- in fault the law's reading does nothing -/
theorem cf_part {rp : Nat → Int32 → gm_M → Option gm_M} {a : Nat} {d : Int32} {u : gm_M} (h : ¬ gI u 2 1 = 0) : f_X8_readPartO rp a d u = some u := by
  have e81 : ∀ x y z : Int32, j_X8_readPart_81 rp a d x y z u = some u := fun x y z => by unfold j_X8_readPart_81; rw [if_neg h]
  have e71 : ∀ x y z : Int32, j_X8_readPart_71 rp a d x y z u = some u := fun x y z => by
    unfold j_X8_readPart_71
    rw [cf_refuse h]
    simp only [Option.bind_some, e81, ite_self]
  have e16 : ∀ x : Int32, j_X8_readPart_16 rp a d x u = some u := fun x => by
    unfold j_X8_readPart_16
    rw [cf_refuse h]
    simp only [gm_letE, Option.bind_some, e81, e71, ite_self]
  unfold f_X8_readPartO
  simp only [e16, ite_self]
theorem cf_whole {a : Nat} {d : Int32} {u : gm_M} (h : ¬ gI u 2 1 = 0) : f_X8_readWhole a d u = some u := by
  have e1 : n_X8_readPart 8 a d u = some u := cf_part h
  have ep : f_X8_readProductO (n_X8_readPart 8) a d u = some u := by
    unfold f_X8_readProductO
    rw [e1]
    simp only [Option.bind_some]
    have := lp_for (b := b_X8_readProduct_8 (n_X8_readPart 8) a d) 0 (fun _ => ((0 : Int32), u)) u (by omega) (fun k hk => absurd hk (by omega)) (by rw [b_X8_readProduct_8, if_neg (by decide), if_neg h])
    rw [this]; rfl
  have es : f_X8_readSumO (n_X8_readPart 8) a d u = some u := by
    unfold f_X8_readSumO
    rw [ep]
    simp only [Option.bind_some]
    have := lp_for (b := b_X8_readSum_8 (n_X8_readPart 8) a d) 0 (fun _ => ((0 : Int32), u)) (.inr u) (by omega) (fun k hk => absurd hk (by omega)) (by rw [b_X8_readSum_8, if_neg (by decide), if_neg h])
    rw [this]; rfl
  have et : f_X8_readTestO (n_X8_readPart 8) a d u = some u := by
    unfold f_X8_readTestO
    rw [es]
    simp only [Option.bind_some, gm_letE]
    rw [if_neg h]
  show f_X8_readWholeO (n_X8_readPart 8) a d u = some u
  unfold f_X8_readWholeO
  rw [et]
  simp only [Option.bind_some]
  have := lp_for (b := b_X8_readWhole_8 (n_X8_readPart 8) a d) 0 (fun _ => ((0 : Int32), u)) (.inr u) (by omega) (fun k hk => absurd hk (by omega)) (by rw [b_X8_readWhole_8, if_neg (by decide), if_neg h])
  rw [this]; rfl
/-- the draft of a law: told (true) or not -/
def lwD (uC uM : gm_M) (a : Nat) (b : Bool) (ev : pEv) : Prop :=
  (b = false ∧ gI uC a 1 = nI 1 ∧ gI uC (a + 1) 0 = (-1 : Int32) ∧ gI uM 8 1 = nI 1000 ∧ gI uM 9 1 = nI 1000 ∧ gI uM 1 18 = nI 1000 ∧ ev = fun s _ _ _ => s) ∨
  (b = true ∧ ∃ rs cs, gI uC a 1 = nI rs.length ∧ rs.length ≤ 1000 ∧ (∀ i c, rs[i]? = some c → gI uC (a + 1) i = c) ∧ RP 0 rs ev ∧ gI uM 8 1 = nI 1000 ∧ gI uM 9 1 = nI (1000 + cs.length) ∧ 0 < cs.length ∧ cs.length ≤ 1000 ∧ (∀ i c, cs[i]? = some c → gI uM 10 (1000 + i) = c) ∧ CWhole [] cs ev)
theorem lwD_eq {uC uM vC vM : gm_M} {a : Nat} {b : Bool} {ev : pEv} (h : lwD uC uM a b ev) (hC : ∀ j, gI vC a j = gI uC a j ∧ gI vC (a + 1) j = gI uC (a + 1) j) (hM : ∀ x j, x = 8 ∨ x = 9 ∨ x = 10 ∨ (x = 1 ∧ j = 18) → gI vM x j = gI uM x j) : lwD vC vM a b ev := by
  rcases h with ⟨h1, h2, h3, h4, h5, h6, h7⟩ | ⟨h1, rs, cs, h2, h3, h4, h5, h6, h7, h8, h9, h10, h11⟩
  · exact .inl ⟨h1, (hC _).1.trans h2, (hC _).2.trans h3, (hM _ _ (by omega)).trans h4, (hM _ _ (by omega)).trans h5, (hM _ _ (by omega)).trans h6, h7⟩
  · exact .inr ⟨h1, rs, cs, (hC _).1.trans h2, h3, fun i c hc => (hC _).2.trans (h4 i c hc), h5, (hM _ _ (by omega)).trans h6, (hM _ _ (by omega)).trans h7, h8, h9, fun i c hc => (hM _ _ (by omega)).trans (h10 i c hc), h11⟩
/-- the state of both within a realm's text -/
def DS (t : List Nat) (r : Nat) (uC uM : gm_M) (p : Nat) (R : pR) (T : Nat) : Prop := cuC uC t p ∧ cuM uM t p ∧ p ≤ t.length ∧ gI uC 2 1 = 0 ∧ rC0 uC r R ∧ rD uM R ∧ gR1 R ∧ gNm R ∧ T < 128 ∧ gI uC 2 2 = nI T ∧ gI uM 1 19 = nI (T / 4 % 16) ∧ lwD uC uM (r + 5) (T.testBit 6) (rEv R)
def LQ (t : List Nat) (r : Nat) (uC uM : gm_M) (p : Nat) (vC : gm_M) (o : gm_M ⊕ (gm_M ⊕ gm_M)) : Prop := fr (rlP r) uC vC ∧ ((∃ F vM, gI vC 2 1 = nI F ∧ 1 ≤ F ∧ F ≤ 17000 ∧ o = .inr (.inl vM) ∧ gI vM 1 9 = nI F ∧ fr rmP uM vM) ∨ (∃ vM p' R' T', o = .inl vM ∧ p < p' ∧ fr rmP uM vM ∧ DS t r vC vM p' R' T'))
def rLaw (R : pR) (ev : pEv) : pR := (R.1, R.2.1, R.2.2.1, R.2.2.2.1, ev)
theorem elP_rl {r : Nat} {u v : gm_M} (h : fr (elP (r + 5)) u v) : fr (rlP r) u v := fr_mono h (fun a j z => by
  rcases z with z | z | z | z
  · exact .inl (.inl z)
  · exact .inl (.inr z)
  · exact .inr (.inr ⟨by omega, by omega⟩)
  · exact .inr (.inr ⟨by omega, by omega⟩))
theorem emP_rm {u v : gm_M} (h : fr emP u v) : fr rmP u v := fr_mono h (fun a j z => by
  rcases z with z | z | z | z
  · exact .inl ⟨z.1, by omega⟩
  · exact .inr (.inr (.inr (.inr (.inr (.inl z)))))
  · exact .inr (.inr (.inr (.inr (.inr (.inr z)))))
  · exact .inr (.inr (.inr (.inr (.inl z)))))
theorem line_first {t : List Nat} {r p T : Nat} {R : pR} {uC uM : gm_M} (hr : r = 5 ∨ r = 13) (gt : gT t) (h : DS t r uC uM p R T) (hw : tWd t p = 6) : ∃ vC o, ((f_X8_takeOnce uC).bind fun u_39 => (f_X3_clear (r + 5) u_39).bind fun u_42 => (f_X8_readWhole (r + 5) (0 : Int32) u_42).bind fun u_45 => j_X8_readRealmLine_139 r u_45) = some vC ∧ ((f_X11_readsFirst uM).bind fun o => j_X11_readsAll_149 o.1 o.2) = some o ∧ LQ t r uC uM p vC o := by
  obtain ⟨h1, h2, h3, h4, h5, h6, h7, h8, h9, h10, h11, h12⟩ := h
  have gl := gt.1
  have hS : kS t p ≠ 0 := by have := wd_S (t := t) (p := p) (by omega); omega
  have hE := kE_le h3 hS
  have no42 : ∀ {a j : Nat}, a ≠ 3 → a ≠ 2 → ¬ tk42 a j := fun h1 h2 z => by
    rcases z with (z | z) | z
    · exact h1 z.1
    · exact h2 z.1
    · exact h2 z.1
  have tkrl : ∀ {u v : gm_M}, fr tk42 u v → fr (rlP r) u v := fun h => fr_mono h (fun a j z => by
    rcases z with z | z
    · exact .inl z
    · exact .inr (.inl z))
  obtain ⟨v1, e1, k1, t1, f1⟩ := cs_once gt h1 h4 h3 hw (by omega) h10 h9
  rw [e1]
  simp only [Option.bind_some]
  have ecl : f_X3_clear (r + 5) v1 = some (sI v1 (r + 5) 1 0) := rfl
  rw [ecl]
  simp only [Option.bind_some]
  have f2 : fr (fun a j => a = r + 5 ∧ j = 1) v1 (sI v1 (r + 5) 1 0) := fr_sI (fr_refl _ _) ⟨rfl, rfl⟩
  have e2 : gI (sI v1 (r + 5) 1 0) (r + 5) 1 = nI 0 := gI_eq rfl rfl
  generalize sI v1 (r + 5) 1 0 = v2 at *
  have F2 : fr (rlP r) uC v2 := fr_trans (tkrl f1) (fr_mono f2 (fun a j z => .inr (.inr ⟨by omega, by omega⟩)))
  unfold f_X11_readsFirst
  by_cases q : T.testBit 6 = true
  · -- told already
    have hx : sOn t T 6 p = .inl (flt 3 t p) := by unfold sOn; rw [if_pos q]
    rw [hx] at k1
    rcases k1 with ⟨F, hF, b1, b2, b3⟩ | ⟨q', hF, -⟩
    · cases hF
      have b1' : gI v2 2 1 = nI (flt 3 t p) := (fr_I f2 (by omega)).trans b1
      have ne := CS_ne (t := t) b1' b2 b3
      rw [cf_whole ne]
      simp only [Option.bind_some]
      unfold j_X8_readRealmLine_139
      rw [cf_takeSign ne]
      rcases h12 with ⟨z, -⟩ | ⟨-, rs, cs, c2, c3, c4, c5, c6, c7, c8, c9, c10, c11⟩
      · rw [q] at z; cases z
      · have ef : f_X11_fails (3 : Int32) uM = some (0, sI uM 1 9 (nI (flt 3 t p))) := m_fails h2 3
        rw [c6, c7, if_neg (fun z => by rw [nI_leI (by omega) (by omega)] at z; omega), ef]
        simp only [Option.bind_some]
        rw [j_X11_readsAll_149, if_pos (show ((0 : Int32) &&& 1) = 0 from and0)]
        exact ⟨v2, _, rfl, rfl, F2, .inl ⟨flt 3 t p, _, b1', b2, b3, rfl, gI_eq rfl rfl, rmP_9⟩⟩
    · cases hF
  · have qf : T.testBit 6 = false := by simpa using q
    have hx : sOn t T 6 p = .inr (kE t p) := by unfold sOn; rw [if_neg q]
    rw [hx] at k1
    rcases k1 with ⟨F, hF, -⟩ | ⟨q', hF, b1, b2, b3⟩
    · cases hF
    · cases hF
      rcases h12 with ⟨-, c1, c2, c3, c4, c5, c6⟩ | ⟨z, -⟩
      · have eCv : eC t (r + 5) v2 (kE t p) 0 := ⟨cuC_fr b1 f2 (fun j => by omega) (fun j => by omega), (fr_I f2 (by omega)).trans b2, e2, by omega, hE.2.1⟩
        rw [c3, c4, if_pos ((nI_leI (by omega) (by omega)).mpr (Nat.le_refl _))]
        obtain ⟨w1, ew1, cw1, fw1⟩ := m_step h2 gt h3 hS
        rw [ew1]
        simp only [Option.bind_some, gm_letE]
        have k18 : gI w1 1 18 = nI 1000 := (fr_I fw1 (by unfold tmP; omega)).trans c5
        rw [k18]
        have f8 : fr (fun a j => a = 8 ∧ j = 1) w1 (sI w1 8 1 (nI 1000)) := fr_sI (fr_refl _ _) ⟨rfl, rfl⟩
        have e8 : gI (sI w1 8 1 (nI 1000)) 8 1 = nI 1000 := gI_eq rfl rfl
        generalize sI w1 8 1 (nI 1000) = w2 at *
        have er : f_X11_reads w2 = (gm_lp b_X11_reads_11 gm_FU ((0 : Int32), (1 : Int32), sI w2 12 0 ((0 : Int32) &&& 1))).bind finR := by
          unfold f_X11_reads
          rw [gm_letE]
          congr 1
        rw [er]
        have f12 : fr (fun a j => a = 12 ∧ j = 0) w2 (sI w2 12 0 ((0 : Int32) &&& 1)) := fr_sI (fr_refl _ _) ⟨rfl, rfl⟩
        have e12 : gI (sI w2 12 0 ((0 : Int32) &&& 1)) 12 0 = 0 := (gI_eq rfl rfl).trans and0
        generalize sI w2 12 0 ((0 : Int32) &&& 1) = w3 at *
        have F3 : fr rmP uM w3 := fr_trans (rmP_tm fw1) (fr_trans (fr_mono f8 (fun a j z => .inr (.inr (.inr (.inl ⟨.inl z.1, z.2⟩))))) (fr_mono f12 (fun a j z => .inr (.inr (.inr (.inr (.inr (.inr z.1))))))))
        have cw3 : cuM w3 t (kE t p) := cuM_fr (cuM_fr cw1 f8 (fun j _ _ => by omega) (fun j => by omega)) f12 (fun j _ _ => by omega) (fun j => by omega)
        have k18' : gI w3 1 18 = nI (1000 + 0) := (fr_I f12 (by omega)).trans ((fr_I f8 (by omega)).trans k18)
        obtain ⟨x, ex, x1, x2⟩ := E_all (a := r + 5) (by omega) gt v2 w3 (kE t p) 0 0 eCv ⟨cw3, k18', trivial, by omega⟩ e12
        have ex' : f_X8_readWhole (r + 5) (0 : Int32) v2 = some x := ex
        rw [ex']
        simp only [Option.bind_some]
        have Fx : fr (rlP r) uC x := fr_trans F2 (elP_rl x1)
        have x42 : gI x 2 2 = nI (T ||| 64) := by
          rw [fr_I x1 (fun z => by rcases z with z | z | z | z; unfold tkP at z; omega; omega; omega; omega), fr_I f2 (by omega)]; exact t1
        unfold j_X8_readRealmLine_139
        rcases x2 with ⟨F, k, d1, d2, d3, d4, d5, -⟩ | ⟨vM, p', rs, cs, ev, k, g1, g2, g3, g4, g5, g6, g7, g8, g9, g10, g11, g12, g13, g14, g15, g16, g17⟩
        · rw [cf_takeSign (CS_ne (t := t) d1 d2 d3)]
          have d5' := d5 (100000 - k)
          rw [show k + (100000 - k) = gm_FU by unfold gm_FU; omega] at d5'
          obtain ⟨⟨o, y⟩, ey, y1, y2, y3⟩ := d5'
          simp only at y1 y2 y3
          subst y1
          have ey' : (gm_lp b_X11_reads_11 gm_FU ((0 : Int32), (1 : Int32), w3)).bind finR = some (nI 0, y) := ey
          rw [ey']
          simp only [Option.bind_some]
          rw [if0]
          exact ⟨x, _, rfl, rfl, Fx, .inl ⟨F, y, d1, d2, d3, rfl, y2, fr_trans F3 (emP_rm y3)⟩⟩
        · simp only [List.length_nil, Nat.add_zero, Nat.zero_add, List.append_nil, List.nil_append] at g3 g4 g5 g6 g8 g9
          have hp' := g5.2.2.2.2
          -- the reference behind the E
          have g11' := g11 (100000 - k)
          rw [show k + (100000 - k) = gm_FU by unfold gm_FU; omega] at g11'
          have me := m_end g8.1 gt hp' (by omega) g15
          have elp : gm_lp b_X11_reads_11 gm_FU ((0 : Int32), (1 : Int32), w3) = some (.inr (.inr (nI 0, vM))) := by
            have g0 : gm_lp b_X11_reads_11 gm_FU ((0 : Int32), (1 : Int32), w3) = gm_lp b_X11_reads_11 (100000 - k) (nI 0, nI 0, vM) := g11'
            rw [g0, show 100000 - k = (99999 - k) + 1 by omega]
            have eb : b_X11_reads_11 (nI 0, nI 0, vM) = some (.inr (.inr (.inr (nI 0, vM)))) := by
              have me' : b_X11_reads_11 (nI 0, nI 0, vM) = _ := me
              rw [me']
              by_cases z : tSg t p' = 41
              · rw [decide_eq_true z]
                refine Eq.trans if1 ?_
                exact if_pos (by decide)
              · rw [decide_eq_false z]
                exact if0
            simp only [gm_lp, eb, Option.bind_some]
          rw [elp]
          simp only [Option.bind_some]
          have efin : finR (.inr (.inr (nI 0, vM))) = j_X11_reads_399 (nI 0) vM := rfl
          rw [efin, j_X11_reads_399, if_pos (show nI 0 = (0 : Int32) from rfl)]
          have s59 : f_X11_isSign (59 : Int32) vM = some (nI (decide (tSg t p' = 59)).toNat) := m_isSign (c := 59) g8.1 gt hp' (by omega) (by omega)
          rw [s59]
          simp only [Option.bind_some]
          have FvM : fr rmP uM vM := fr_trans F3 (emP_rm g12)
          rcases co_sign (c := 59) g5.1 gt hp' g5.2.1 (by omega) (by omega) with ⟨q59, hok⟩ | ⟨q59, en⟩
          · have hok' : ok (f_X8_takeSign (59 : Int32) x) _ := hok
            obtain ⟨z, ez, z1, z2⟩ := hok'
            have hS3 := sg_S (t := t) (p := p') (by omega)
            have hE3 := kE_le hp' hS3
            rw [ez, decide_eq_true q59]
            obtain ⟨y, ey, y1, y2⟩ := m_step g8.1 gt hp' hS3
            rw [show (if nI (true).toNat = 0 then j_X11_reads_418 vM else (f_X11_nextToken vM).bind fun u_10 => some ((1 : Int32), u_10)) = some ((1 : Int32), y) by rw [ey]; exact if1]
            simp only [Option.bind_some]
            rw [if_neg (show ¬ (1 : Int32) = 0 by decide)]
            simp only [Option.bind_some, gm_letE]
            have ky18 : gI y 1 18 = nI (1000 + cs.length) := (fr_I y2 (by unfold tmP; omega)).trans g8.2.1
            rw [ky18]
            have f9 : fr (fun a j => a = 9 ∧ j = 1) y (sI y 9 1 (nI (1000 + cs.length))) := fr_sI (fr_refl _ _) ⟨rfl, rfl⟩
            have e9 : gI (sI y 9 1 (nI (1000 + cs.length))) 9 1 = nI (1000 + cs.length) := gI_eq rfl rfl
            generalize sI y 9 1 (nI (1000 + cs.length)) = y' at *
            rw [j_X11_readsAll_149, if_neg (show ¬ (1 : Int32) = 0 by decide)]
            have Fy : fr rmP uM y' := fr_trans FvM (fr_trans (rmP_tm y2) (fr_mono f9 (fun a j z => .inr (.inr (.inr (.inl ⟨.inr z.1, z.2⟩))))))
            have cpos : 0 < cs.length := by
              rcases Nat.eq_zero_or_pos cs.length with z0 | z0
              · have : cs = [] := List.length_eq_zero_iff.mp z0
                rw [this] at g17
                exact (C_ne g17).elim
              · exact z0
            have or6 := (T_or ⟨T, h9⟩ ⟨6, by omega⟩).2
            have t6 := T_6 ⟨T, h9⟩
            simp only at or6 t6
            have kz : ∀ a j, a ≠ 3 → gI z a j = gI x a j := fun a j q1 => fr_I z2 (by unfold tkP; omega)
            have kC : ∀ a j, r ≤ a → a ≤ r + 4 → gI z a j = gI uC a j ∧ gJ z a j = gJ uC a j := fun a j q1 q2 => by
              have ne1 : ¬ elP (r + 5) a j := elP_no (by omega) (by omega) (by omega) (by omega) (by omega)
              exact ⟨(kz a j (by omega)).trans ((fr_I x1 ne1).trans ((fr_I f2 (by omega)).trans (fr_I f1 (no42 (by omega) (by omega))))), (fr_J z2 (by unfold tkP; omega)).trans ((fr_J x1 ne1).trans ((fr_J f2 (by omega)).trans (fr_J f1 (no42 (by omega) (by omega)))))⟩
            have kM : ∀ a j, 3 ≤ a → a ≤ 7 → gI y' a j = gI uM a j ∧ gJ y' a j = gJ uM a j := fun a j q1 q2 => by
              have ne1 : ¬ emP a j := fun z => by unfold emP at z; omega
              exact ⟨(fr_I f9 (by omega)).trans ((fr_I y2 (by unfold tmP; omega)).trans ((fr_I g12 ne1).trans ((fr_I f12 (by omega)).trans ((fr_I f8 (by omega)).trans (fr_I fw1 (by unfold tmP; omega)))))), (fr_J f9 (by omega)).trans ((fr_J y2 (by unfold tmP; omega)).trans ((fr_J g12 ne1).trans ((fr_J f12 (by omega)).trans ((fr_J f8 (by omega)).trans (fr_J fw1 (by unfold tmP; omega))))))⟩
            refine ⟨z, _, rfl, rfl, fr_trans Fx (rlP_4 (tk4_tk z2)), .inr ⟨y', kE t p', rLaw R ev, T ||| 64, rfl, by omega, Fy, z1, cuM_fr y1 f9 (fun j _ _ => by omega) (fun j => by omega), hE3.2.1, (kz 2 1 (by omega)).trans g5.2.1, ⟨⟨((kC r 0 (by omega) (by omega)).1).trans h5.1.1, ((kC r 5 (by omega) (by omega)).1).trans h5.1.2.1, ((kC r 6 (by omega) (by omega)).1).trans h5.1.2.2.1, ((kC r 7 (by omega) (by omega)).1).trans h5.1.2.2.2⟩, fun q hq => ?_⟩, ⟨⟨((kM 3 4 (by omega) (by omega)).1).trans h6.1.1, ((kM 3 5 (by omega) (by omega)).1).trans h6.1.2.1, ((kM 3 6 (by omega) (by omega)).1).trans h6.1.2.2.1, ((kM 3 7 (by omega) (by omega)).1).trans h6.1.2.2.2⟩, fun q hq => ?_⟩, h7, h8, or6, (kz 2 2 (by omega)).trans x42, ?_, .inr ⟨t6.2, rs, cs, ?_, by omega, fun i c hc => ?_, g16, ?_, e9, cpos, by omega, fun i c hc => ?_, g17⟩⟩⟩
            · obtain ⟨b1, b2, b3, b4⟩ := h5.2 q hq
              exact ⟨((kC (r + 1) q (by omega) (by omega)).2).trans b1, ((kC (r + 2) q (by omega) (by omega)).1).trans b2, ((kC (r + 3) q (by omega) (by omega)).1).trans b3, ((kC (r + 4) q (by omega) (by omega)).1).trans b4⟩
            · obtain ⟨b1, b2, b3, b4⟩ := h6.2 q hq
              exact ⟨((kM 4 (6 + q) (by omega) (by omega)).2).trans b1, ((kM 5 (6 + q) (by omega) (by omega)).1).trans b2, ((kM 6 (6 + q) (by omega) (by omega)).1).trans b3, ((kM 7 (6 + q) (by omega) (by omega)).1).trans b4⟩
            · rw [t6.1, fr_I f9 (by omega), fr_I y2 (by unfold tmP; omega), fr_I g12 (fun z => by unfold emP at z; omega), fr_I f12 (by omega), fr_I f8 (by omega), fr_I fw1 (by unfold tmP; omega)]
              exact h11
            · rw [kz _ _ (by omega)]; exact g5.2.2.1
            · rw [kz _ _ (by omega)]
              have := g6 i c hc
              exact this
            · rw [fr_I f9 (by omega), fr_I y2 (by unfold tmP; omega), fr_I g12 (fun z => by unfold emP at z; omega), fr_I f12 (by omega)]
              exact e8
            · rw [fr_I f9 (by omega), fr_I y2 (by unfold tmP; omega)]
              have := g9 i c hc
              exact this
          · have hb := flt_b (k := 1) (by omega) (by omega) hp' gt
            have en' : f_X8_takeSign (59 : Int32) x = some (sI x 2 1 (nI (flt 1 t p'))) := en
            have ef : f_X11_fails (1 : Int32) vM = some (0, sI vM 1 9 (nI (flt 1 t p'))) := m_fails g8.1 1
            rw [en', decide_eq_false q59]
            rw [show (if nI (false).toNat = 0 then j_X11_reads_418 vM else (f_X11_nextToken vM).bind fun u_10 => some ((1 : Int32), u_10)) = some (nI 0, sI vM 1 9 (nI (flt 1 t p'))) by
              refine Eq.trans if0 ?_
              rw [j_X11_reads_418, ef]
              show some ((0 : Int32) &&& 1, _) = _
              rw [and0]]
            simp only [Option.bind_some]
            rw [if0]
            exact ⟨_, _, rfl, rfl, fr_trans Fx (rlP_4 tk4_4), .inl ⟨flt 1 t p', _, gI_eq rfl rfl, hb.1, hb.2, rfl, gI_eq rfl rfl, fr_trans FvM rmP_9⟩⟩
      · rw [qf] at z; cases z
