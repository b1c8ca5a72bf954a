/-! reign: a line -/
abbrev pX : Type := Nat ⊕ (Nat × (Nat × Nat))
def cls (t : List Nat) (p : Nat) (l : Nat × Nat) : pX := if tSg t p = 59 then .inr (kE t p, l) else .inl (flt 1 t p)
noncomputable def rdL (t : List Nat) (R : pR) (n p : Nat) : pX :=
  if ¬ (7 ≤ tWd t p ∧ tWd t p ≤ 11) then .inl (flt 1 t p)
  else if n = 40 then .inl (flt 5 t p)
  else if tWd t p ≤ 8 then (if ¬ (19 ≤ tWd t (kE t p) ∧ tWd t (kE t p) ≤ 23) then .inl (flt 1 t (kE t p)) else if fnd R (kW t (kE t p)) = 9 then .inl (flt 2 t (kE t p)) else cls t (kE t (kE t p)) (tWd t p - 7, fnd R (kW t (kE t p))))
  else if tWd t p = 9 then (if kS t (kE t p) ≠ 2 then .inl (flt 1 t (kE t p)) else if ¬ (1 ≤ kV t (kE t p) ∧ kV t (kE t p) ≤ 20) then .inl (flt 4 t (kE t p)) else cls t (kE t (kE t p)) (2, kV t (kE t p)))
  else cls t (kE t p) (tWd t p - 7, 0)
def lnP (g : Nat) : Nat → Nat → Prop := fun a j => tkP a j ∨ (a = 2 ∧ j = 1) ∨ (g ≤ a ∧ a ≤ g + 2)
def lnQ (t : List Nat) (g : Nat) (L : pG) (u : gm_M) (p : Nat) (x : pX) (v : gm_M) : Prop := fr (lnP g) u v ∧ ((∃ F, x = .inl F ∧ gI v 2 1 = nI F ∧ 1 ≤ F ∧ F ≤ 17000) ∨ (∃ p' l, x = .inr (p', l) ∧ p < p' ∧ p' ≤ t.length ∧ gI v 2 1 = 0 ∧ cuC v t p' ∧ gC v g (L ++ [l])))
theorem lnQ_up {t : List Nat} {g p0 p : Nat} {L : pG} {u0 u v : gm_M} {x : pX} (f : fr (lnP g) u0 u) (hp : p0 ≤ p) (h : lnQ t g L u p x v) : lnQ t g L u0 p0 x v := by
  obtain ⟨h1, h2⟩ := h
  refine ⟨fr_trans f h1, ?_⟩
  rcases h2 with h2 | ⟨p', l, a, b, c⟩
  · exact .inl h2
  · exact .inr ⟨p', l, a, by omega, c⟩
theorem lnP_tk {g : Nat} {u v : gm_M} (h : fr tkP u v) : fr (lnP g) u v := fr_mono h (fun _ _ z => .inl z)
theorem lnP_4 {g : Nat} {u : gm_M} {x : Int32} : fr (lnP g) u (sI u 2 1 x) := fr_sI (fr_refl _ _) (.inr (.inl ⟨rfl, rfl⟩))
theorem fm {g : Nat} {u : gm_M} {F : Nat} (h1 : 1 ≤ F) (h2 : F ≤ 17000) (h : gI u 2 1 = nI F) : ¬ gI u 2 1 = 0 := by rw [h]; exact flt_ne h1 h2
theorem c_gadd {u : gm_M} {g n : Nat} {x y : Int32} (hg : g = 21 ∨ g = 24) (h : gI u g 2 = nI n) (hn : n ≤ 40) : ok (f_X6_add g x y u) (fun v => fr (fun a _ => g ≤ a ∧ a ≤ g + 2) u v ∧ (n < 40 → gI v g 2 = nI (n + 1) ∧ gI v (g + 1) n = x ∧ gI v (g + 2) n = y ∧ ∀ i, i < n → gI v (g + 1) i = gI u (g + 1) i ∧ gI v (g + 2) i = gI u (g + 2) i)) := by
  unfold f_X6_add
  rw [h, if_neg (nI_pos (by omega))]
  by_cases q : n < 40
  · rw [if_neg (show ¬ (40 : Int32) ≤ nI n from fun z => by rw [show (40 : Int32) = nI 40 from rfl, nI_leI (by omega) (by omega)] at z; omega)]
    have e1 : gI (sI u (g + 1) n x) g 2 = nI n := (gI_ne (by omega)).trans h
    have e2 : gI (sI (sI u (g + 1) n x) (g + 2) n y) g 2 = nI n := (gI_ne (by omega)).trans e1
    simp (disch := omega) only [ib_nI, ix_nI, if_pos, gm_let, e1, e2, litI, nI_add]
    refine ok_some ⟨fr_sI (fr_sI (fr_sI (fr_refl _ _) ⟨by omega, by omega⟩) ⟨by omega, by omega⟩) ⟨by omega, by omega⟩, fun _ => ⟨gI_eq rfl rfl, ?_, ?_, fun i hi => ⟨?_, ?_⟩⟩⟩
    · rw [gI_ne (by omega), gI_ne (by omega)]; exact gI_eq rfl rfl
    · rw [gI_ne (by omega)]; exact gI_eq rfl rfl
    · rw [gI_ne (by omega), gI_ne (by omega), gI_ne (by omega)]
    · rw [gI_ne (by omega), gI_ne (by omega), gI_ne (by omega)]
  · rw [if_pos (show (40 : Int32) ≤ nI n from (nI_leI (a := 40) (by omega) (by omega)).mpr (by omega))]
    exact ok_some ⟨fr_refl _ _, fun z => absurd z q⟩
section
variable {t : List Nat} {R : pR} {r g : Nat} {L : pG}
theorem cf_116 {u : gm_M} {p F : Nat} {x y : Int32} (hg : g = 21 ∨ g = 24) (hL : L.length ≤ 40) (hG : gI u g 2 = nI L.length) (hF : gI u 2 1 = nI F) (h1 : 1 ≤ F) (h2 : F ≤ 17000) : ok (j_X8_readReignLine_116 r g x y u) (lnQ t g L u p (.inl F)) := by
  unfold j_X8_readReignLine_116
  rw [cf_takeSign (fm (g := g) h1 h2 hF)]
  simp only [Option.bind_some]
  refine ok_bind (c_gadd (x := x) (y := y) hg hG hL) ?_
  rintro v ⟨v1, -⟩
  exact ok_some ⟨fr_mono v1 (fun a j z => .inr (.inr z)), .inl ⟨F, rfl, (fr_I v1 (by omega)).trans hF, h1, h2⟩⟩
theorem cf_93 {u : gm_M} {p F : Nat} {x y : Int32} (hg : g = 21 ∨ g = 24) (hL : L.length ≤ 40) (hG : gI u g 2 = nI L.length) (hF : gI u 2 1 = nI F) (h1 : 1 ≤ F) (h2 : F ≤ 17000) : ok (j_X8_readReignLine_93 r g x y u) (lnQ t g L u p (.inl F)) := by
  unfold j_X8_readReignLine_93
  rw [cf_takeName (fm (g := g) h1 h2 hF)]
  simp only [Option.bind_some]
  exact cf_116 hg hL hG hF h1 h2
theorem cf_59 {u : gm_M} {p F : Nat} {x : Int32} (hr : rC u r R) (hn : rN R ≤ 6) (hg : g = 21 ∨ g = 24) (hL : L.length ≤ 40) (hG : gI u g 2 = nI L.length) (hF : gI u 2 1 = nI F) (h1 : 1 ≤ F) (h2 : F ≤ 17000) : ok (j_X8_readReignLine_59 r g x u) (lnQ t g L u p (.inl F)) := by
  unfold j_X8_readReignLine_59
  refine ok_bind (c_find hr.1.1 hn (fun q hq => (hr.2.1 q hq).1) (gJ u 3 6)) ?_
  intro o _
  rw [gm_letE, cf_refuse (fm (g := g) h1 h2 hF)]
  simp only [Option.bind_some]
  by_cases q : f_X9_isName u = 0
  · rw [if_pos q]; exact cf_93 hg hL hG hF h1 h2
  · rw [if_neg q]
    by_cases q2 : o = (-1 : Int32)
    · rw [if_pos q2]; exact cf_93 hg hL hG hF h1 h2
    · rw [if_neg q2]; exact cf_93 hg hL hG hF h1 h2
theorem cf_39 {u : gm_M} {p F : Nat} {x : Int32} (hr : rC u r R) (hn : rN R ≤ 6) (hg : g = 21 ∨ g = 24) (hL : L.length ≤ 40) (hG : gI u g 2 = nI L.length) (hF : gI u 2 1 = nI F) (h1 : 1 ≤ F) (h2 : F ≤ 17000) : ok (j_X8_readReignLine_39 r g x u) (lnQ t g L u p (.inl F)) := by
  unfold j_X8_readReignLine_39
  rw [cf_takeWord (fm (g := g) h1 h2 hF)]
  simp only [Option.bind_some]
  by_cases q1 : x = (7 : Int32)
  · rw [if_pos q1]; exact cf_59 hr hn hg hL hG hF h1 h2
  · rw [if_neg q1]
    by_cases q2 : x = (8 : Int32)
    · rw [if_pos q2]; exact cf_59 hr hn hg hL hG hF h1 h2
    · rw [if_neg q2]
      by_cases q3 : x = (9 : Int32)
      · rw [if_pos q3, cf_takeNumber (fm (g := g) h1 h2 hF)]
        simp only [Option.bind_some]
        exact cf_116 hg hL hG hF h1 h2
      · rw [if_neg q3]; exact cf_116 hg hL hG hF h1 h2
theorem cf_25 {u : gm_M} {p F : Nat} {x : Int32} (hr : rC u r R) (hn : rN R ≤ 6) (hg : g = 21 ∨ g = 24) (hL : L.length ≤ 40) (hG : gI u g 2 = nI L.length) (hF : gI u 2 1 = nI F) (h1 : 1 ≤ F) (h2 : F ≤ 17000) : ok (j_X8_readReignLine_25 r g x u) (lnQ t g L u p (.inl F)) := by
  unfold j_X8_readReignLine_25
  rw [cf_refuse (fm (g := g) h1 h2 hF)]
  simp only [Option.bind_some]
  by_cases q1 : gI u g 2 < (40 : Int32)
  · rw [if_pos q1]; exact cf_39 hr hn hg hL hG hF h1 h2
  · rw [if_neg q1]; exact cf_39 hr hn hg hL hG hF h1 h2
theorem co_116 {u : gm_M} {p : Nat} {x y : Int32} {l : Nat × Nat} (hg : g = 21 ∨ g = 24) (hL : L.length < 40) (hG : gC u g L) (hcu : cuC u t p) (gt : gT t) (hp : p ≤ t.length) (h0 : gI u 2 1 = 0) (hx : x = nI (l.1 + 7)) (hy : l.1 < 3 → y = nI l.2) : ok (j_X8_readReignLine_116 r g x y u) (lnQ t g L u p (cls t p l)) := by
  unfold cls
  rcases co_sign (c := 59) hcu gt hp h0 (by omega) (by omega) with ⟨q, hok⟩ | ⟨q, e⟩
  · rw [if_pos q]
    unfold j_X8_readReignLine_116
    have hs := kE_le hp (sg_S (t := t) (p := p) (by omega))
    refine ok_bind hok ?_
    rintro v ⟨v1, v2⟩
    have hGv : gC v g L := gC_fr hG v2 (fun a j q1 q2 z => by unfold tkP at z; omega)
    refine ok_bind (c_gadd (x := x) (y := y) hg hGv.1 (by omega)) ?_
    rintro w ⟨w1, w2⟩
    obtain ⟨a1, a2, a3, a4⟩ := w2 hL
    have cw : cuC w t (kE t p) := by
      obtain ⟨c1, c2, c3, c4, c5, c6⟩ := v1
      exact ⟨tC_fr c1 w1 (by omega) (fun j => by omega), (fr_I w1 (by omega)).trans c2, (fr_I w1 (by omega)).trans c3, fun z => (fr_I w1 (by omega)).trans (c4 z), fun z => ⟨(fr_J w1 (by omega)).trans (c5 z).1, (fr_I w1 (by omega)).trans (c5 z).2⟩, fun z => (fr_I w1 (by omega)).trans (c6 z)⟩
    refine ok_some ⟨fr_trans (lnP_tk v2) (fr_mono w1 (fun a j z => .inr (.inr z))), .inr ⟨kE t p, l, rfl, hs.1, hs.2.1, ?_, cw, ?_, fun i m hm => ?_⟩⟩
    · rw [fr_I w1 (by omega), fr_I v2 (by unfold tkP; omega)]; exact h0
    · rw [a1, List.length_append, List.length_singleton]
    · rcases Nat.lt_or_ge i L.length with z | z
      · rw [List.getElem?_append_left z] at hm
        obtain ⟨b1, b2⟩ := hGv.2 i m hm
        exact ⟨(a4 i z).1.trans b1, fun zz => (a4 i z).2.trans (b2 zz)⟩
      · rw [List.getElem?_append_right z] at hm
        obtain ⟨z2, hz⟩ := List.getElem?_eq_some_iff.mp hm
        simp only [List.length_singleton] at z2
        have z3 : i = L.length := by omega
        subst z3
        simp only [Nat.sub_self, List.getElem_cons_zero] at hz
        subst hz
        exact ⟨a2.trans hx, fun zz => a3.trans (hy zz)⟩
  · rw [if_neg q]
    have hb := flt_b (k := 1) (by omega) (by omega) hp gt
    unfold j_X8_readReignLine_116
    have e' : f_X8_takeSign (59 : Int32) u = some (sI u 2 1 (nI (flt 1 t p))) := e
    rw [e']
    simp only [Option.bind_some]
    refine ok_bind (c_gadd (x := x) (y := y) (n := L.length) hg ((gI_ne (by omega)).trans hG.1) (by omega)) ?_
    rintro v ⟨v1, -⟩
    exact ok_some ⟨fr_trans lnP_4 (fr_mono v1 (fun a j z => .inr (.inr z))), .inl ⟨_, rfl, (fr_I v1 (by omega)).trans (gI_eq rfl rfl), hb.1, hb.2⟩⟩
theorem c_line {u : gm_M} {p : Nat} (hr : rC u r R) (hr2 : r = 5 ∨ r = 13) (hn : rN R ≤ 6) (hnm : gNm R) (hg : g = 21 ∨ g = 24) (hL : L.length ≤ 40) (hG : gC u g L) (hcu : cuC u t p) (gt : gT t) (hp : p ≤ t.length) (h0 : gI u 2 1 = 0) : ok (f_X8_readReignLine r g u) (lnQ t g L u p (rdL t R L.length p)) := by
  have h4G : ∀ x, gI (sI u 2 1 x) g 2 = nI L.length := fun x => (gI_ne (by omega)).trans hG.1
  have h4r : ∀ x, rC (sI u 2 1 x) r R := fun x => rC_fr hr (P := fun a j => a = 2 ∧ j = 1) (fr_sI (fr_refl _ _) ⟨rfl, rfl⟩) (fun a j q1 q2 z => by omega)
  have wl : tWd t p ≤ 24 := by
    unfold tWd
    have := wIx_le (kW t p)
    split <;> omega
  unfold f_X8_readReignLine
  rw [gm_letE, c_word hcu]
  by_cases qw : 7 ≤ tWd t p ∧ tWd t p ≤ 11
  · rw [if_pos (show tWd t p < 23 by omega), if_neg (show ¬ nI (tWd t p) < (7 : Int32) from fun z => by rw [show (7 : Int32) = nI 7 from rfl, nI_ltI (by omega) (by omega)] at z; omega), if_pos (show nI (tWd t p) ≤ (11 : Int32) from (nI_leI (b := 11) (by omega) (by omega)).mpr qw.2)]
    unfold j_X8_readReignLine_25
    rw [hG.1]
    by_cases q40 : L.length = 40
    · have e : rdL t R L.length p = .inl (flt 5 t p) := by unfold rdL; rw [if_neg (fun z => z qw), if_pos q40]
      have hb := flt_b (k := 5) (by omega) (by omega) hp gt
      rw [if_neg (show ¬ nI L.length < (40 : Int32) from fun z => by rw [show (40 : Int32) = nI 40 from rfl, nI_ltI (by omega) (by omega)] at z; omega), e]
      have er : f_X8_refuse (5 : Int32) u = some (sI u 2 1 (nI (flt 5 t p))) := co_refuse hcu h0 5
      rw [er]
      simp only [Option.bind_some]
      refine ok_mono (cf_39 (t := t) (p := p) (h4r _) hn hg hL (h4G _) (gI_eq rfl rfl) hb.1 hb.2) ?_
      intro v hv
      exact lnQ_up lnP_4 (Nat.le_refl _) hv
    · rw [if_pos (show nI L.length < (40 : Int32) from (nI_ltI (b := 40) (by omega) (by omega)).mpr (by omega))]
      have hs1 : kS t p = 1 := wd_S (by omega)
      have hE := kE_le hp (show kS t p ≠ 0 by omega)
      unfold j_X8_readReignLine_39
      rcases co_word (k := tWd t p) hcu gt hp h0 (by omega) with ⟨-, hok⟩ | ⟨q, -⟩
      · refine ok_bind hok ?_
        rintro v ⟨v1, v2⟩
        have h0v : gI v 2 1 = 0 := (fr_I v2 (by unfold tkP; omega)).trans h0
        have hGv : gC v g L := gC_fr hG v2 (fun a j q1 q2 z => by unfold tkP at z; omega)
        have hrv : rC v r R := rC_fr hr v2 (fun a j q1 q2 z => by unfold tkP at z; omega)
        have c59 : tWd t p ≤ 8 → ok (j_X8_readReignLine_59 r g (nI (tWd t p)) v) (lnQ t g L u p (rdL t R L.length p)) := by
          intro q8
          have e : rdL t R L.length p = if ¬ (19 ≤ tWd t (kE t p) ∧ tWd t (kE t p) ≤ 23) then .inl (flt 1 t (kE t p)) else if fnd R (kW t (kE t p)) = 9 then .inl (flt 2 t (kE t p)) else cls t (kE t (kE t p)) (tWd t p - 7, fnd R (kW t (kE t p))) := by
            unfold rdL; rw [if_neg (fun z => z qw), if_neg q40, if_pos q8]
          rw [e]
          unfold j_X8_readReignLine_59
          obtain ⟨o, eo, co⟩ := c_find hrv.1.1 hn (fun q hq => (hrv.2.1 q hq).1) (gJ v 3 6)
          rw [eo]
          simp only [Option.bind_some]
          rw [gm_letE, c_isName v1]
          by_cases qn : 19 ≤ tWd t (kE t p) ∧ tWd t (kE t p) ≤ 23
          · have hs2 : kS t (kE t p) = 1 := wd_S (by omega)
            have hE2 := kE_le hE.2.1 (show kS t (kE t p) ≠ 0 by omega)
            rw [decide_eq_true qn, if_neg (show ¬ ¬ (19 ≤ tWd t (kE t p) ∧ tWd t (kE t p) ≤ 23) from fun z => z qn)]
            show ok (if nI 1 = 0 then _ else _) _
            rw [if1]
            rw [(v1.2.2.2.2.1 hs2).1] at co
            have hw := kW_1 hs2
            rcases co with ⟨q, hq, ew, rfl⟩ | ⟨hq, rfl⟩
            · rw [nmC_inj (hnm.1 q hq) hw] at ew
              have ef := fnd_in hnm hq ew
              rw [if_neg (show ¬ nI q = (-1 : Int32) from fun z => (nI_eqm (a := q) (by omega)).mp z), if_neg (show ¬ fnd R (kW t (kE t p)) = 9 by omega), ef]
              unfold j_X8_readReignLine_93
              rcases co_name v1 gt hE.2.1 h0v with ⟨-, hok2⟩ | ⟨z, -⟩
              · refine ok_bind hok2 ?_
                rintro ⟨o2, w⟩ ⟨w1, w2, w3⟩
                simp only at w1 w2 w3
                refine ok_mono (co_116 (l := (tWd t p - 7, q)) hg (by omega) (gC_fr hGv w3 (fun a j q1 q2 z => by unfold tkP at z; omega)) w2 gt hE2.2.1 ((fr_I w3 (by unfold tkP; omega)).trans h0v) (by show nI (tWd t p) = nI (tWd t p - 7 + 7); congr 1; omega) (fun _ => rfl)) ?_
                intro y hy
                exact lnQ_up (fr_trans (lnP_tk v2) (lnP_tk w3)) (by omega) hy
              · exact absurd qn z
            · have ef := fnd_out (R := R) (w := kW t (kE t p)) (fun q hq2 z => hq q hq2 (by rw [z]))
              have hb := flt_b (k := 2) (by omega) (by omega) hE.2.1 gt
              have er : f_X8_refuse (2 : Int32) v = some (sI v 2 1 (nI (flt 2 t (kE t p)))) := co_refuse v1 h0v 2
              rw [if_pos (show (-nI 1 : Int32) = (-1 : Int32) from rfl), if_pos ef, er]
              simp only [Option.bind_some]
              refine ok_mono (cf_93 (t := t) (p := p) hg hL ((gI_ne (by omega)).trans hGv.1) (gI_eq rfl rfl) hb.1 hb.2) ?_
              intro y hy
              exact lnQ_up (fr_trans (lnP_tk v2) lnP_4) (Nat.le_refl _) hy
          · have hb := flt_b (k := 1) (by omega) (by omega) hE.2.1 gt
            rw [decide_eq_false qn, if_pos qn]
            show ok (if nI 0 = 0 then _ else _) _
            rw [if0]
            unfold j_X8_readReignLine_93
            rcases co_name v1 gt hE.2.1 h0v with ⟨z, -⟩ | ⟨-, en⟩
            · exact absurd z qn
            · rw [en]
              simp only [Option.bind_some]
              refine ok_mono (cf_116 (t := t) (p := p) hg hL ((gI_ne (by omega)).trans hGv.1) (gI_eq rfl rfl) hb.1 hb.2) ?_
              intro y hy
              exact lnQ_up (fr_trans (lnP_tk v2) lnP_4) (Nat.le_refl _) hy
        by_cases q7 : tWd t p = 7
        · rw [if_pos (show nI (tWd t p) = (7 : Int32) from by rw [q7]; rfl)]
          exact c59 (by omega)
        · rw [if_neg (show ¬ nI (tWd t p) = (7 : Int32) from fun z => q7 ((nI_eq (b := 7) (by omega) (by omega)).mp z))]
          by_cases q8 : tWd t p = 8
          · rw [if_pos (show nI (tWd t p) = (8 : Int32) from by rw [q8]; rfl)]
            exact c59 (by omega)
          · rw [if_neg (show ¬ nI (tWd t p) = (8 : Int32) from fun z => q8 ((nI_eq (b := 8) (by omega) (by omega)).mp z))]
            by_cases q9 : tWd t p = 9
            · have e : rdL t R L.length p = if kS t (kE t p) ≠ 2 then .inl (flt 1 t (kE t p)) else if ¬ (1 ≤ kV t (kE t p) ∧ kV t (kE t p) ≤ 20) then .inl (flt 4 t (kE t p)) else cls t (kE t (kE t p)) (2, kV t (kE t p)) := by
                unfold rdL; rw [if_neg (fun z => z qw), if_neg q40, if_neg (by omega), if_pos q9]
              rw [if_pos (show nI (tWd t p) = (9 : Int32) from by rw [q9]; rfl), e]
              rcases co_number (lo := 1) (hi := 20) v1 gt hE.2.1 h0v (by omega) (by omega) with ⟨z1, z2, z3, hok2⟩ | ⟨z1, en⟩ | ⟨z1, z2, en⟩
              · have hE2 := kE_le hE.2.1 (show kS t (kE t p) ≠ 0 by omega)
                have hok2' : ok (f_X8_takeNumber (1 : Int32) (20 : Int32) v) _ := hok2
                rw [if_neg (fun z => z z1), if_neg (fun z => z ⟨z2, z3⟩)]
                refine ok_bind hok2' ?_
                rintro ⟨o2, w⟩ ⟨w1, w2, w3⟩
                simp only at w1 w2 w3
                subst w1
                refine ok_mono (co_116 (l := (2, kV t (kE t p))) hg (by omega) (gC_fr hGv w3 (fun a j q1 q2 z => by unfold tkP at z; omega)) w2 gt hE2.2.1 ((fr_I w3 (by unfold tkP; omega)).trans h0v) (by rw [q9]) (fun _ => rfl)) ?_
                intro y hy
                exact lnQ_up (fr_trans (lnP_tk v2) (lnP_tk w3)) (by omega) hy
              · have hb := flt_b (k := 1) (by omega) (by omega) hE.2.1 gt
                have en' : f_X8_takeNumber (1 : Int32) (20 : Int32) v = _ := en
                rw [if_pos z1, en']
                simp only [Option.bind_some]
                refine ok_mono (cf_116 (t := t) (p := p) hg hL ((gI_ne (by omega)).trans hGv.1) (gI_eq rfl rfl) hb.1 hb.2) ?_
                intro y hy
                exact lnQ_up (fr_trans (lnP_tk v2) lnP_4) (Nat.le_refl _) hy
              · have hb := flt_b (k := 4) (by omega) (by omega) hE.2.1 gt
                have en' : f_X8_takeNumber (1 : Int32) (20 : Int32) v = _ := en
                rw [if_neg (fun z => z z1), if_pos z2, en']
                simp only [Option.bind_some]
                refine ok_mono (cf_116 (t := t) (p := p) hg hL ((gI_ne (by omega)).trans hGv.1) (gI_eq rfl rfl) hb.1 hb.2) ?_
                intro y hy
                exact lnQ_up (fr_trans (lnP_tk v2) lnP_4) (Nat.le_refl _) hy
            · have e : rdL t R L.length p = cls t (kE t p) (tWd t p - 7, 0) := by
                unfold rdL; rw [if_neg (fun z => z qw), if_neg q40, if_neg (by omega), if_neg q9]
              rw [if_neg (show ¬ nI (tWd t p) = (9 : Int32) from fun z => q9 ((nI_eq (b := 9) (by omega) (by omega)).mp z)), e]
              refine ok_mono (co_116 (l := (tWd t p - 7, 0)) hg (by omega) hGv v1 gt hE.2.1 h0v (by show nI (tWd t p) = nI (tWd t p - 7 + 7); congr 1; omega) (fun z => by simp only at z; omega)) ?_
              intro y hy
              exact lnQ_up (lnP_tk v2) (by omega) hy
      · exact absurd rfl q
  · have e : rdL t R L.length p = .inl (flt 1 t p) := by unfold rdL; rw [if_pos qw]
    have hb := flt_b (k := 1) (by omega) (by omega) hp gt
    have er : f_X8_refuse (1 : Int32) u = some (sI u 2 1 (nI (flt 1 t p))) := co_refuse hcu h0 1
    have c20 : ∀ x, ok (j_X8_readReignLine_20 r g x u) (lnQ t g L u p (.inl (flt 1 t p))) := by
      intro x
      unfold j_X8_readReignLine_20
      rw [er]
      simp only [Option.bind_some]
      refine ok_mono (cf_25 (t := t) (p := p) (h4r _) hn hg hL (h4G _) (gI_eq rfl rfl) hb.1 hb.2) ?_
      intro v hv
      exact lnQ_up lnP_4 (Nat.le_refl _) hv
    rw [e]
    by_cases q23 : tWd t p < 23
    · rw [if_pos q23]
      by_cases q7 : tWd t p < 7
      · rw [if_pos (show nI (tWd t p) < (7 : Int32) from (nI_ltI (b := 7) (by omega) (by omega)).mpr q7)]
        exact c20 _
      · rw [if_neg (show ¬ nI (tWd t p) < (7 : Int32) from fun z => q7 ((nI_ltI (b := 7) (by omega) (by omega)).mp z)), if_neg (show ¬ nI (tWd t p) ≤ (11 : Int32) from fun z => by rw [show (11 : Int32) = nI 11 from rfl, nI_leI (by omega) (by omega)] at z; omega)]
        exact c20 _
    · rw [if_neg q23, if_pos (show (-nI 1 : Int32) < (7 : Int32) by decide)]
      exact c20 _
end
