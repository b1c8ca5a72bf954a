/-! reign: the reference's line, and both -/
def rgP : Nat → Nat → Prop := fun a j => (a = 1 ∧ ((4 ≤ j ∧ j ≤ 9) ∨ j = 32)) ∨ (a = 23 ∧ j = 5) ∨ ((a = 24 ∨ a = 25) ∧ 200 ≤ j ∧ j < 240)
def lnM (t : List Nat) (L : pG) (u : gm_M) (x : pX) (o : Int32 × gm_M) : Prop := fr rgP u o.2 ∧ ((∃ F, x = .inl F ∧ o.1 = nI 0 ∧ gI o.2 1 9 = nI F) ∨ (∃ p' l, x = .inr (p', l) ∧ o.1 = nI 1 ∧ cuM o.2 t p' ∧ gMm o.2 5 (L ++ [l])))
theorem lnM_up {t : List Nat} {L : pG} {u0 u : gm_M} {x : pX} {o : Int32 × gm_M} (f : fr rgP u0 u) (h : lnM t L u x o) : lnM t L u0 x o := ⟨fr_trans f h.1, h.2⟩
theorem rgP_tm {u v : gm_M} (h : fr tmP u v) : fr rgP u v := fr_mono h (fun _ _ z => .inl ⟨z.1, .inl ⟨z.2.1, by have := z.2.2; omega⟩⟩)
theorem rgP_9 {u : gm_M} {x : Int32} : fr rgP u (sI u 1 9 x) := fr_sI (fr_refl _ _) (.inl ⟨rfl, .inl ⟨by omega, by omega⟩⟩)
theorem cuM_fr {P : Nat → Nat → Prop} {u v : gm_M} {t : List Nat} {p : Nat} (h : cuM u t p) (f : fr P u v) (h1 : ∀ j, 3 ≤ j → j ≤ 8 → ¬ P 1 j) (h2 : ∀ j, ¬ P 2 j) : cuM v t p := by
  obtain ⟨⟨a1, a2⟩, c2, c3, c4, c5, c6⟩ := h
  exact ⟨⟨(fr_I f (h1 3 (by omega) (by omega))).trans a1, fun i s hs => (fr_I f (h2 i)).trans (a2 i s hs)⟩, (fr_I f (h1 5 (by omega) (by omega))).trans c2, (fr_I f (h1 6 (by omega) (by omega))).trans c3, fun z => (fr_I f (h1 4 (by omega) (by omega))).trans (c4 z), fun z => (fr_J f (h1 7 (by omega) (by omega))).trans (c5 z), fun z => (fr_I f (h1 8 (by omega) (by omega))).trans (c6 z)⟩
theorem and_n : ∀ b : Fin 2, nI b.1 &&& (1 : Int32) = nI b.1 := by decide
theorem gMm_fr {P : Nat → Nat → Prop} {u v : gm_M} {L : pG} (h : gMm u 5 L) (hL : L.length ≤ 40) (f : fr P u v) (h1 : ¬ P 23 5) (h2 : ∀ j, 200 ≤ j → j < 240 → ¬ P 24 j ∧ ¬ P 25 j) : gMm v 5 L := gMm_eq h hL (fr_I f h1) (fun i hi => ⟨fr_I f (h2 _ (by omega) (by omega)).1, fr_I f (h2 _ (by omega) (by omega)).2⟩)
section
variable {t : List Nat} {R : pR} {L : pG}
theorem mo_199 {u : gm_M} {p : Nat} {l : Nat × Nat} (hL : L.length < 40) (hG : gMm u 5 L) (hcu : cuM u t p) (gt : gT t) (hp : p ≤ t.length) (hx : gI u 24 (200 + L.length) = nI l.1) (hy : l.1 < 3 → gI u 25 (200 + L.length) = nI l.2) : ok (j_X11_readsLine_199 u) (lnM t L u (cls t p l)) := by
  unfold j_X11_readsLine_199 cls
  rw [gm_letE, hG.1]
  have f0 : fr (fun a j => a = 23 ∧ j = 5) u (sI u 23 5 (nI L.length + 1)) := fr_sI (fr_refl _ _) ⟨rfl, rfl⟩
  have e0 : gI (sI u 23 5 (nI L.length + 1)) 23 5 = nI (L.length + 1) := (gI_eq rfl rfl).trans (nI_add L.length 1)
  generalize sI u 23 5 (nI L.length + 1) = u' at *
  have cu' : cuM u' t p := cuM_fr hcu f0 (fun j _ _ => by omega) (fun j => by omega)
  have fr' : fr rgP u u' := fr_mono f0 (fun a j z => .inr (.inl z))
  rcases m_closes cu' gt hp with ⟨q, hok⟩ | ⟨q, e⟩
  · rw [if_pos q]
    refine ok_bind hok ?_
    rintro ⟨o, v⟩ ⟨v1, v2, v3⟩
    simp only at v1 v2 v3
    subst v1
    refine ok_some ⟨fr_trans fr' (rgP_tm v3), .inr ⟨kE t p, l, rfl, and_n ⟨1, by omega⟩, v2, ?_, fun i m hm => ?_⟩⟩
    · show gI v 23 5 = _
      rw [fr_I v3 (by unfold tmP; omega), e0, List.length_append, List.length_singleton]
    · have k24 : ∀ j, gI v 24 j = gI u 24 j := fun j => (fr_I v3 (by unfold tmP; omega)).trans (fr_I f0 (by omega))
      have k25 : ∀ j, gI v 25 j = gI u 25 j := fun j => (fr_I v3 (by unfold tmP; omega)).trans (fr_I f0 (by omega))
      show gI v 24 (40 * 5 + i) = _ ∧ (_ → gI v 25 (40 * 5 + i) = _)
      rw [k24, k25]
      rcases Nat.lt_or_ge i L.length with z | z
      · rw [List.getElem?_append_left z] at hm
        exact hG.2 i m hm
      · rw [List.getElem?_append_right z] at hm
        obtain ⟨z2, hz⟩ := List.getElem?_eq_some_iff.mp hm
        simp only [List.length_singleton] at z2
        have z3 : i = L.length := by omega
        subst z3
        simp only [Nat.sub_self, List.getElem_cons_zero] at hz
        subst hz
        exact ⟨hx, hy⟩
  · rw [if_neg q, e]
    simp only [Option.bind_some]
    exact ok_some ⟨fr_trans fr' rgP_9, .inl ⟨_, rfl, and_n ⟨0, by omega⟩, gI_eq rfl rfl⟩⟩
theorem mo_71 {u : gm_M} {p k : Nat} (hr : rM u R) (hn : rN R ≤ 6) (hnm : gNm R) (hL : L.length ≤ 40) (hG : gMm u 5 L) (hcu : cuM u t p) (gt : gT t) (hp : p ≤ t.length) (hk : tWd t p = k + 7) (hk4 : k ≤ 4) : ok (j_X11_readsLine_71 (nI k) u) (lnM t L u (rdL t R L.length p)) := by
  have hs1 : kS t p = 1 := wd_S (by omega)
  have hE := kE_le hp (show kS t p ≠ 0 by omega)
  unfold j_X11_readsLine_71
  rw [if_pos (nI_pos' (by omega)), hG.1]
  by_cases q40 : L.length = 40
  · have e : rdL t R L.length p = .inl (flt 5 t p) := by unfold rdL; rw [if_neg (fun z => z (by omega)), if_pos q40]
    have ef : f_X11_fails (5 : Int32) u = some (0, sI u 1 9 (nI (flt 5 t p))) := m_fails hcu 5
    rw [if_pos (by rw [q40]; rfl), ef, e]
    simp only [Option.bind_some]
    exact ok_some ⟨rgP_9, .inl ⟨_, rfl, and0, gI_eq rfl rfl⟩⟩
  · rw [if_neg (show ¬ nI L.length = (40 : Int32) from fun z => q40 ((nI_eq (b := 40) (by omega) (by omega)).mp z))]
    refine ok_bind (m_step hcu gt hp (by omega)) ?_
    rintro v ⟨v1, v2⟩
    have hGv : gMm v 5 L := gMm_fr hG hL v2 (by unfold tmP; omega) (fun j _ _ => ⟨by unfold tmP; omega, by unfold tmP; omega⟩)
    have hrv : rM v R := rM_fr hr hn v2 (fun a j q z => by unfold tmP at z; rcases q with q | q | q | q <;> omega)
    rw [gm_letE, hGv.1, show (200 : Int32) + nI L.length = nI (200 + L.length) from nI_add 200 _]
    simp (disch := omega) only [ib_nI, ix_nI, if_pos, gm_letE]
    have f0 : fr (fun a j => a = 24 ∧ j = 200 + L.length) v (sI v 24 (200 + L.length) (nI k)) := fr_sI (fr_refl _ _) ⟨rfl, rfl⟩
    have e24 : gI (sI v 24 (200 + L.length) (nI k)) 24 (200 + L.length) = nI k := gI_eq rfl rfl
    generalize sI v 24 (200 + L.length) (nI k) = w at *
    have cw : cuM w t (kE t p) := cuM_fr v1 f0 (fun j _ _ => by omega) (fun j => by omega)
    have fw : fr rgP u w := fr_trans (rgP_tm v2) (fr_mono f0 (fun a j z => .inr (.inr ⟨.inl z.1, by omega, by omega⟩)))
    have hGw : gMm w 5 L := ⟨(fr_I f0 (by omega)).trans hGv.1, fun i m hm => by
      have := (List.getElem?_eq_some_iff.mp hm).1
      exact ⟨(fr_I f0 (by omega)).trans (hGv.2 i m hm).1, fun z => (fr_I f0 (by omega)).trans ((hGv.2 i m hm).2 z)⟩⟩
    have hrw : rM w R := rM_fr hrv hn f0 (fun a j q z => by rcases q with q | q | q | q <;> omega)
    by_cases q2 : 2 ≤ k
    · rw [if_pos (show (2 : Int32) ≤ nI k from (nI_leI (a := 2) (by omega) (by omega)).mpr q2)]
      by_cases q3 : k = 2
      · have e : rdL t R L.length p = if kS t (kE t p) ≠ 2 then .inl (flt 1 t (kE t p)) else if ¬ (1 ≤ kV t (kE t p) ∧ kV t (kE t p) ≤ 20) then .inl (flt 4 t (kE t p)) else cls t (kE t (kE t p)) (2, kV t (kE t p)) := by
          unfold rdL; rw [if_neg (fun z => z (by omega)), if_neg q40, if_neg (by omega), if_pos (by omega)]
        rw [if_pos (show nI k = (2 : Int32) from by rw [q3]; rfl), e]
        rcases m_needs (lo := 1) (hi := 20) cw gt hE.2.1 (by omega) (by omega) with ⟨z1, z2, z3, hok⟩ | ⟨z1, en⟩ | ⟨z1, z2, en⟩
        · have hE2 := kE_le hE.2.1 (show kS t (kE t p) ≠ 0 by omega)
          have hok' : ok (f_X11_needsNumber (1 : Int32) (20 : Int32) w) _ := hok
          rw [if_neg (fun z => z z1), if_neg (fun z => z ⟨z2, z3⟩)]
          refine ok_bind hok' ?_
          rintro ⟨o, x⟩ ⟨x1, x2, x3, x4⟩
          simp only at x1 x2 x3 x4
          subst x1
          simp only
          rw [if1, x3]
          have f1 : fr (fun a j => a = 25 ∧ j = 200 + L.length) x (sI x 25 (200 + L.length) (nI (kV t (kE t p)))) := fr_sI (fr_refl _ _) ⟨rfl, rfl⟩
          have e25 : gI (sI x 25 (200 + L.length) (nI (kV t (kE t p)))) 25 (200 + L.length) = nI (kV t (kE t p)) := gI_eq rfl rfl
          generalize sI x 25 (200 + L.length) (nI (kV t (kE t p))) = y at *
          have hGx : gMm x 5 L := gMm_fr hGw hL x4 (fun z => by unfold tmP at z; omega) (fun j _ _ => ⟨fun z => by unfold tmP at z; omega, fun z => by unfold tmP at z; omega⟩)
          have hGy : gMm y 5 L := ⟨(fr_I f1 (by omega)).trans hGx.1, fun i m hm => by
            have := (List.getElem?_eq_some_iff.mp hm).1
            exact ⟨(fr_I f1 (by omega)).trans (hGx.2 i m hm).1, fun z => (fr_I f1 (by omega)).trans ((hGx.2 i m hm).2 z)⟩⟩
          have cy : cuM y t (kE t (kE t p)) := cuM_fr x2 f1 (fun j _ _ => by omega) (fun j => by omega)
          refine ok_mono (mo_199 (l := (2, kV t (kE t p))) (by omega) hGy cy gt hE2.2.1 ?_ (fun _ => e25)) ?_
          · rw [fr_I f1 (by omega), fr_I x4 (fun z => by unfold tmP at z; omega), e24, q3]
          · intro z hz
            exact lnM_up (fr_trans fw (fr_trans (fr_mono x4 (fun a j z => by
              rcases z with z | z
              · unfold tmP at z; exact .inl ⟨z.1, by omega⟩
              · exact .inl ⟨z.1, by omega⟩)) (fr_mono f1 (fun a j z => .inr (.inr ⟨.inr z.1, by omega, by omega⟩))))) hz
        · have en' : f_X11_needsNumber (1 : Int32) (20 : Int32) w = _ := en
          rw [if_pos z1, en']
          simp only [Option.bind_some]
          rw [if0]
          exact ok_some ⟨fr_trans fw rgP_9, .inl ⟨_, rfl, rfl, gI_eq rfl rfl⟩⟩
        · have en' : f_X11_needsNumber (1 : Int32) (20 : Int32) w = _ := en
          rw [if_neg (fun z => z z1), if_pos z2, en']
          simp only [Option.bind_some]
          rw [if0]
          exact ok_some ⟨fr_trans fw rgP_9, .inl ⟨_, rfl, rfl, gI_eq rfl rfl⟩⟩
      · have e : rdL t R L.length p = cls t (kE t p) (tWd t p - 7, 0) := by
          unfold rdL; rw [if_neg (fun z => z (by omega)), if_neg q40, if_neg (by omega), if_neg (by omega)]
        rw [if_neg (show ¬ nI k = (2 : Int32) from fun z => q3 ((nI_eq (b := 2) (by omega) (by omega)).mp z)), e]
        refine ok_mono (mo_199 (l := (tWd t p - 7, 0)) (by omega) hGw cw gt hE.2.1 (by rw [e24]; congr 1; show k = tWd t p - 7; omega) (fun z => by simp only at z; omega)) ?_
        intro z hz
        exact lnM_up fw hz
    · have e : rdL t R L.length p = if ¬ (19 ≤ tWd t (kE t p) ∧ tWd t (kE t p) ≤ 23) then .inl (flt 1 t (kE t p)) else if fnd R (kW t (kE t p)) = 9 then .inl (flt 2 t (kE t p)) else cls t (kE t (kE t p)) (tWd t p - 7, fnd R (kW t (kE t p))) := by
        unfold rdL; rw [if_neg (fun z => z (by omega)), if_neg q40, if_pos (by omega)]
      rw [if_neg (show ¬ (2 : Int32) ≤ nI k from fun z => q2 ((nI_leI (a := 2) (by omega) (by omega)).mp z)), e, m_isKept cw]
      by_cases qn : 19 ≤ tWd t (kE t p) ∧ tWd t (kE t p) ≤ 23
      · have hs2 : kS t (kE t p) = 1 := wd_S (by omega)
        have hE2 := kE_le hE.2.1 (show kS t (kE t p) ≠ 0 by omega)
        have hw := kW_1 hs2
        rw [if_neg (show ¬ ¬ (19 ≤ tWd t (kE t p) ∧ tWd t (kE t p) ≤ 23) from fun z => z qn), decide_eq_false (show ¬ ¬ (19 ≤ tWd t (kE t p) ∧ tWd t (kE t p) ≤ 23) from fun z => z qn)]
        show ok (if nI 0 = 0 then _ else _) _
        rw [if0]
        obtain ⟨o, eo, co⟩ := m_named (b := 0) (n := rN R) (nm := fun q => nmM (ps R q).1) (x := nmM (kW t (kE t p))) (by omega) hrw.1.1 hn (fun q hq => by rw [Nat.mul_zero, Nat.zero_add]; exact (hrw.2.1 q hq).1) (cw.2.2.2.2.1 hs2)
        have eo' : f_X11_personNamed (0 : Int32) w = some o := eo
        rw [eo']
        simp only [Option.bind_some]
        have f1 : fr (fun a j => a = 25 ∧ j = 200 + L.length) w (sI w 25 (200 + L.length) o) := fr_sI (fr_refl _ _) ⟨rfl, rfl⟩
        have e25 : gI (sI w 25 (200 + L.length) o) 25 (200 + L.length) = o := gI_eq rfl rfl
        generalize sI w 25 (200 + L.length) o = y at *
        have hGy : gMm y 5 L := ⟨(fr_I f1 (by omega)).trans hGw.1, fun i m hm => by
          have := (List.getElem?_eq_some_iff.mp hm).1
          exact ⟨(fr_I f1 (by omega)).trans (hGw.2 i m hm).1, fun z => (fr_I f1 (by omega)).trans ((hGw.2 i m hm).2 z)⟩⟩
        have cy : cuM y t (kE t p) := cuM_fr cw f1 (fun j _ _ => by omega) (fun j => by omega)
        have fy : fr rgP u y := fr_trans fw (fr_mono f1 (fun a j z => .inr (.inr ⟨.inr z.1, by omega, by omega⟩)))
        rw [e25]
        rcases co with ⟨q, hq, ew, rfl⟩ | ⟨hq, rfl⟩
        · rw [nmM_inj (hnm.1 q hq) hw] at ew
          have ef := fnd_in hnm hq ew
          rw [if_pos (nI_pos' (by omega)), if_neg (show ¬ fnd R (kW t (kE t p)) = 9 by omega), ef]
          refine ok_bind (m_step cy gt hE.2.1 (by omega)) ?_
          rintro x ⟨x1, x2⟩
          refine ok_mono (mo_199 (l := (tWd t p - 7, q)) (by omega) (gMm_fr hGy hL x2 (by unfold tmP; omega) (fun j _ _ => ⟨by unfold tmP; omega, by unfold tmP; omega⟩)) x1 gt hE2.2.1 ?_ (fun _ => ?_)) ?_
          · rw [fr_I x2 (by unfold tmP; omega), fr_I f1 (by omega), e24]; congr 1; show k = tWd t p - 7; omega
          · rw [fr_I x2 (by unfold tmP; omega), e25]
          · intro z hz
            exact lnM_up (fr_trans fy (rgP_tm x2)) hz
        · have ef := fnd_out (R := R) (w := kW t (kE t p)) (fun q hq2 z => hq q hq2 (by show nmM (ps R q).1 = _; rw [z]))
          have efl : f_X11_fails (2 : Int32) y = some (0, sI y 1 9 (nI (flt 2 t (kE t p)))) := m_fails cy 2
          rw [if_neg (show ¬ (0 : Int32) ≤ -nI 1 by decide), if_pos ef, efl]
          simp only [Option.bind_some]
          exact ok_some ⟨fr_trans fy rgP_9, .inl ⟨_, rfl, and0, gI_eq rfl rfl⟩⟩
      · rw [if_pos qn, decide_eq_true qn]
        show ok (if nI 1 = 0 then _ else _) _
        have efl : f_X11_fails (1 : Int32) w = some (0, sI w 1 9 (nI (flt 1 t (kE t p)))) := m_fails cw 1
        rw [if1, efl]
        simp only [Option.bind_some]
        exact ok_some ⟨fr_trans fw rgP_9, .inl ⟨_, rfl, and0, gI_eq rfl rfl⟩⟩
theorem m_line {u : gm_M} {p : Nat} (hr : rM u R) (hn : rN R ≤ 6) (hnm : gNm R) (hL : L.length ≤ 40) (hG : gMm u 5 L) (hcu : cuM u t p) (gt : gT t) (hp : p ≤ t.length) : ok (f_X11_readsLine u) (lnM t L u (rdL t R L.length p)) := by
  unfold f_X11_readsLine
  simp only [gm_letE]
  rw [m_isWord hcu wx7 (by omega), m_isWord hcu wx8 (by omega), m_isWord hcu wx9 (by omega), m_isWord hcu wx10 (by omega), m_isWord hcu wx11 (by omega)]
  by_cases q7 : tWd t p = 7
  · rw [decide_eq_true q7]
    show ok (if nI 1 = 0 then _ else _) _
    rw [if1]
    exact mo_71 (k := 0) hr hn hnm hL hG hcu gt hp (by omega) (by omega)
  · rw [decide_eq_false q7]
    show ok (if nI 0 = 0 then _ else _) _
    rw [if0]
    by_cases q8 : tWd t p = 8
    · rw [decide_eq_true q8]
      show ok (if nI 1 = 0 then _ else _) _
      rw [if1]
      exact mo_71 (k := 1) hr hn hnm hL hG hcu gt hp (by omega) (by omega)
    · rw [decide_eq_false q8]
      show ok (if nI 0 = 0 then _ else _) _
      rw [if0]
      by_cases q9 : tWd t p = 9
      · rw [decide_eq_true q9]
        show ok (if nI 1 = 0 then _ else _) _
        rw [if1]
        exact mo_71 (k := 2) hr hn hnm hL hG hcu gt hp (by omega) (by omega)
      · rw [decide_eq_false q9]
        show ok (if nI 0 = 0 then _ else _) _
        rw [if0]
        by_cases q10 : tWd t p = 10
        · rw [decide_eq_true q10]
          show ok (if nI 1 = 0 then _ else _) _
          rw [if1]
          exact mo_71 (k := 3) hr hn hnm hL hG hcu gt hp (by omega) (by omega)
        · rw [decide_eq_false q10]
          show ok (if nI 0 = 0 then _ else _) _
          rw [if0]
          by_cases q11 : tWd t p = 11
          · rw [decide_eq_true q11]
            show ok (if nI 1 = 0 then _ else _) _
            rw [if1]
            exact mo_71 (k := 4) hr hn hnm hL hG hcu gt hp (by omega) (by omega)
          · rw [decide_eq_false q11]
            show ok (if nI 0 = 0 then _ else _) _
            rw [if0]
            have e : rdL t R L.length p = .inl (flt 1 t p) := by unfold rdL; rw [if_pos (by omega)]
            have efl : f_X11_fails (1 : Int32) u = some (0, sI u 1 9 (nI (flt 1 t p))) := m_fails hcu 1
            unfold j_X11_readsLine_71
            rw [if_neg (show ¬ (0 : Int32) ≤ (-1 : Int32) by decide), efl, e]
            simp only [Option.bind_some]
            exact ok_some ⟨rgP_9, .inl ⟨_, rfl, and0, gI_eq rfl rfl⟩⟩
end
theorem rdL_g {t : List Nat} {R : pR} {n p p' : Nat} {l : Nat × Nat} (hnm : gNm R) (h : rdL t R n p = .inr (p', l)) : n ≠ 40 ∧ gLn R l := by
  have cl : ∀ q m, cls t q m = .inr (p', l) → m = l := fun q m e => by
    unfold cls at e
    split at e
    · simp only [Sum.inr.injEq, Prod.mk.injEq] at e; exact e.2
    · cases e
  unfold rdL at h
  split at h
  · cases h
  · rename_i q1
    split at h
    · cases h
    · rename_i q2
      refine ⟨q2, ?_⟩
      split at h
      · rename_i q3
        split at h
        · cases h
        · split at h
          · cases h
          · rename_i q4
            have e := cl _ _ h
            rw [← e]
            have hf : ∃ q, q < rN R ∧ (ps R q).1 = kW t (kE t p) := by
              by_cases w : ∃ q, q < rN R ∧ (ps R q).1 = kW t (kE t p)
              · exact w
              · exact absurd (fnd_out (fun q hq z => w ⟨q, hq, z⟩)) q4
            obtain ⟨q, hq, hw⟩ := hf
            rw [fnd_in hnm hq hw]
            exact ⟨by show tWd t p - 7 ≤ 4; omega, fun _ => hq, fun z => by simp only at z; omega⟩
      · rename_i q3
        split at h
        · rename_i q4
          split at h
          · cases h
          · split at h
            · cases h
            · rename_i q5
              have e := cl _ _ h
              rw [← e]
              exact ⟨by show 2 ≤ 4; omega, fun z => by simp only at z; omega, fun _ => Classical.not_not.mp q5⟩
        · have e := cl _ _ h
          rw [← e]
          exact ⟨by show tWd t p - 7 ≤ 4; omega, fun z => by simp only at z; omega, fun z => by simp only at z; omega⟩
noncomputable def rdA (t : List Nat) (R : pR) : Nat → Nat → pG → Nat ⊕ pG
  | 0, _, _ => .inl 0
  | F + 1, p, L => if kS t p = 0 then .inr L else match rdL t R L.length p with
    | .inl f => .inl f
    | .inr (p', l) => rdA t R F p' (L ++ [l])
