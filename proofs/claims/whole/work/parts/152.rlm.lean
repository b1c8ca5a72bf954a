/-! realm: a person in the reference; year, candle, lives in both -/
def rmP : Nat → Nat → Prop := fun a j => (a = 1 ∧ ((4 ≤ j ∧ j ≤ 9) ∨ j = 18 ∨ j = 19 ∨ j = 32)) ∨ (a = 3 ∧ 4 ≤ j) ∨ (4 ≤ a ∧ a ≤ 7 ∧ 6 ≤ j) ∨ ((a = 8 ∨ a = 9) ∧ j = 1) ∨ (a = 10 ∧ 1000 ≤ j) ∨ a = 11 ∨ a = 12
theorem rmP_tm {u v : gm_M} (h : fr tmP u v) : fr rmP u v := fr_mono h (fun _ _ z => .inl ⟨z.1, by unfold tmP at z; omega⟩)
theorem rmP_9 {u : gm_M} {x : Int32} : fr rmP u (sI u 1 9 x) := fr_sI (fr_refl _ _) (.inl ⟨rfl, by omega⟩)
def tm9 : Nat → Nat → Prop := fun a j => a = 1 ∧ ((4 ≤ j ∧ j ≤ 9) ∨ j = 32)
theorem tm9_rm {u v : gm_M} (h : fr tm9 u v) : fr rmP u v := fr_mono h (fun _ _ z => .inl ⟨z.1, by unfold tm9 at z; omega⟩)
theorem tm9_tm {u v : gm_M} (h : fr tmP u v) : fr tm9 u v := fr_mono h (fun _ _ z => ⟨z.1, by unfold tmP at z; omega⟩)
theorem tm9_9 {u : gm_M} {x : Int32} : fr tm9 u (sI u 1 9 x) := fr_sI (fr_refl _ _) ⟨rfl, by omega⟩
theorem m_num1 {t : List Nat} {u : gm_M} {p lo hi : Nat} (h : cuM u t p) (g : gT t) (hp : p ≤ t.length) (hl : lo < 10000) (hh : hi < 10000) : ok (f_X11_needsNumber (nI lo) (nI hi) u) (fun o => fr tm9 u o.2 ∧ ((∃ F, sNu t lo hi p = .inl F ∧ o.1 = nI 0 ∧ gI o.2 1 9 = nI F) ∨ (∃ q, sNu t lo hi p = .inr q ∧ o.1 = nI 1 ∧ cuM o.2 t q ∧ q ≤ t.length ∧ gI o.2 1 32 = nI (kV t p)))) := by
  unfold sNu
  rcases m_needs h g hp hl hh with ⟨q1, q2, q3, hok⟩ | ⟨q1, e⟩ | ⟨q1, q2, e⟩
  · rw [if_neg (fun z => z q1), if_neg (fun z => z ⟨q2, q3⟩)]
    refine ok_mono hok ?_
    rintro o ⟨o1, o2, o3, o4⟩
    exact ⟨fr_mono o4 (fun a j z => by rcases z with z | z; exact ⟨z.1, by unfold tmP at z; omega⟩; exact ⟨z.1, by omega⟩), .inr ⟨_, rfl, o1, o2, kE_ok hp (by omega), o3⟩⟩
  · rw [if_pos q1, e]
    exact ok_some ⟨tm9_9, .inl ⟨_, rfl, rfl, gI_eq rfl rfl⟩⟩
  · rw [if_neg (fun z => z q1), if_pos q2, e]
    exact ok_some ⟨tm9_9, .inl ⟨_, rfl, rfl, gI_eq rfl rfl⟩⟩
theorem and_o {o : Int32} (h : o = nI 0 ∨ o = nI 1) : o &&& 1 = o := by
  rcases h with rfl | rfl
  · exact and_n ⟨0, by omega⟩
  · exact and_n ⟨1, by omega⟩
theorem m_both {t : List Nat} {u : gm_M} {p lo hi k : Nat} {x : Int64} (h : cuM u t p) (g : gT t) (hp : p ≤ t.length) (hl : lo < 10000) (hh : hi < 10000) (hx : ∀ {w : List Nat}, wrd w → ((nmM w = x) ↔ wIx w = k)) (hk : k < 23) : ok (f_X11_needsBoth x (nI lo) (nI hi) u) (fun o => fr tm9 u o.2 ∧ ((∃ F, bX (sWd t k p) (sNu t lo hi) = .inl F ∧ o.1 = nI 0 ∧ gI o.2 1 9 = nI F) ∨ (∃ q, bX (sWd t k p) (sNu t lo hi) = .inr q ∧ o.1 = nI 1 ∧ cuM o.2 t q ∧ q ≤ t.length ∧ gI o.2 1 32 = nI (kV t (kE t p))))) := by
  unfold f_X11_needsBoth sWd
  rw [gm_letE, m_isWord h hx hk]
  by_cases q : tWd t p = k
  · have hS : kS t p ≠ 0 := by have := wd_S (t := t) (p := p) (by omega); omega
    rw [decide_eq_true q, if_pos q]
    show ok (if nI 1 = 0 then _ else _) _
    rw [if1]
    refine ok_bind (m_step h g hp hS) ?_
    rintro v ⟨v1, v2⟩
    refine ok_bind (m_num1 v1 g (kE_ok hp hS) hl hh) ?_
    rintro ⟨o, w⟩ ⟨w1, w2⟩
    simp only at w1 w2
    refine ok_some ⟨fr_trans (tm9_tm v2) w1, ?_⟩
    rcases w2 with ⟨F, a1, a2, a3⟩ | ⟨q', a1, a2, a3, a4, a5⟩
    · exact .inl ⟨F, a1, by show o &&& 1 = _; rw [and_o (.inl a2), a2], a3⟩
    · exact .inr ⟨q', a1, by show o &&& 1 = _; rw [and_o (.inr a2), a2], a3, a4, a5⟩
  · have e : f_X11_fails (1 : Int32) u = some (0, sI u 1 9 (nI (flt 1 t p))) := m_fails h 1
    rw [decide_eq_false q, if_neg q]
    show ok (if nI 0 = 0 then _ else _) _
    rw [if0, e]
    exact ok_some ⟨tm9_9, .inl ⟨_, rfl, and0, gI_eq rfl rfl⟩⟩
def MO (t : List Nat) (u : gm_M) (x : pT) (Q : gm_M → Prop) (o : Int32 × gm_M) : Prop := fr rmP u o.2 ∧ ((∃ F, x = .inl F ∧ o.1 = nI 0 ∧ gI o.2 1 9 = nI F) ∨ (∃ p', x = .inr p' ∧ o.1 = nI 1 ∧ cuM o.2 t p' ∧ p' ≤ t.length ∧ Q o.2))
theorem m_person {t : List Nat} {u : gm_M} {p : Nat} {R : pR} (gt : gT t) (hR : rD u R) (hn : rN R ≤ 6) (hnm : gNm R) (hcu : cuM u t p) (hp : p ≤ t.length) (hw : tWd t p = 0) :
    ok (f_X11_readsPerson u) (MO t u (xP t R p) (fun v => rD v (rAdd R (newP t p)) ∧ ∀ a j, a = 8 ∨ a = 9 ∨ a = 10 ∨ (a = 1 ∧ (j = 18 ∨ j = 19)) → gI v a j = gI u a j)) := by
  have hS : kS t p ≠ 0 := by have := wd_S (t := t) (p := p) (by omega); omega
  have hE := kE_le hp hS
  unfold f_X11_readsPerson
  rw [gm_letE, hR.1.1, show (6 : Int32) + nI (rN R) = nI (6 + rN R) from nI_add 6 _]
  by_cases q6 : rN R = 6
  · have e : xP t R p = .inl (flt 5 t p) := by unfold xP x7P x5P x2P x1P; rw [if_pos q6]; rfl
    have ef : f_X11_fails (5 : Int32) u = some (0, sI u 1 9 (nI (flt 5 t p))) := m_fails hcu 5
    rw [if_pos (by rw [q6]; rfl), ef, e]
    exact ok_some ⟨rmP_9, .inl ⟨_, rfl, and0, gI_eq rfl rfl⟩⟩
  · have x1 : x1P t R p = .inr (pP1 t p) := by unfold x1P; rw [if_neg q6]; show sWd t 0 p = _; unfold sWd; rw [if_pos hw]; rfl
    rw [if_neg (show ¬ nI (6 + rN R) = (12 : Int32) from fun z => by have := (nI_eq (b := 12) (by omega) (by omega)).mp z; omega)]
    refine ok_bind (m_step hcu gt hp hS) ?_
    rintro v ⟨v1, v2⟩
    have v1' : cuM v t (pP1 t p) := v1
    rw [gm_letE, m_isKept v1']
    have hl1 : pP1 t p ≤ t.length := hE.2.1
    by_cases qn : 19 ≤ tWd t (pP1 t p) ∧ tWd t (pP1 t p) ≤ 23
    · rw [decide_eq_false (show ¬ ¬ (19 ≤ tWd t (pP1 t p) ∧ tWd t (pP1 t p) ≤ 23) from fun z => z qn)]
      show ok (if nI 0 = 0 then _ else _) _
      rw [if0]
      have hk1 := wd_S (t := t) (p := pP1 t p) (by omega)
      have hwd := kW_1 hk1
      have rdv : rD v R := rD_fr hR hn v2 (fun a j q1 q2 z => by unfold tmP at z; omega)
      obtain ⟨o, eo, co⟩ := m_named (b := 1) (n := rN R) (nm := fun q => nmM (ps R q).1) (x := nmM (kW t (pP1 t p))) (by omega) rdv.1.1 hn (fun q hq => (rdv.2 q hq).1) (v1'.2.2.2.2.1 hk1)
      have eo' : f_X11_personNamed (1 : Int32) v = some o := eo
      rw [eo']
      simp only [Option.bind_some]
      rcases co with ⟨j, hj, ew, rfl⟩ | ⟨hj, rfl⟩
      · have ew' : (ps R j).1 = kW t (pP1 t p) := (nmM_inj (hnm.1 j hj) hwd).mp ew
        have x2 : x2P t R p = .inl (flt 3 t (pP1 t p)) := by
          unfold x2P
          rw [x1]
          show (haveI := Classical.propDecidable (fndD R (kW t (pP1 t p))); if (19 ≤ tWd t (pP1 t p) ∧ tWd t (pP1 t p) ≤ 23) ∧ fndD R (kW t (pP1 t p)) then (.inl (flt 3 t (pP1 t p)) : pT) else .inr (pP1 t p)) = _
          rw [if_pos (show (19 ≤ tWd t (pP1 t p) ∧ tWd t (pP1 t p) ≤ 23) ∧ fndD R (kW t (pP1 t p)) from ⟨qn, j, hj, ew'⟩)]
        have e : xP t R p = .inl (flt 3 t (pP1 t p)) := by unfold xP x7P x5P; rw [x2]; rfl
        have ef : f_X11_fails (3 : Int32) v = some (0, sI v 1 9 (nI (flt 3 t (pP1 t p)))) := m_fails v1' 3
        rw [if_neg (nI_pos (by omega)), ef, e]
        exact ok_some ⟨fr_trans (rmP_tm v2) rmP_9, .inl ⟨_, rfl, and0, gI_eq rfl rfl⟩⟩
      · have x2 : x2P t R p = .inr (pP1 t p) := by
          unfold x2P
          rw [x1]
          show (haveI := Classical.propDecidable (fndD R (kW t (pP1 t p))); if (19 ≤ tWd t (pP1 t p) ∧ tWd t (pP1 t p) ≤ 23) ∧ fndD R (kW t (pP1 t p)) then (.inl (flt 3 t (pP1 t p)) : pT) else .inr (pP1 t p)) = _
          rw [if_neg (show ¬ ((19 ≤ tWd t (pP1 t p) ∧ tWd t (pP1 t p) ≤ 23) ∧ fndD R (kW t (pP1 t p))) from fun ⟨_, j, a1, a2⟩ => hj j a1 (by show nmM (ps R j).1 = _; rw [a2]))]
        have x3 : bX (x2P t R p) (sNm t) = .inr (pP2 t p) := by rw [x2]; show sNm t (pP1 t p) = _; unfold sNm; rw [if_pos qn]; rfl
        rw [if_pos (show (-nI 1 : Int32) < 0 by decide), gm_letE, v1'.2.2.2.2.1 hk1]
        have hE1 := kE_le hl1 (show kS t (pP1 t p) ≠ 0 by omega)
        have hl2 : pP2 t p ≤ t.length := hE1.2.1
        refine ok_bind (m_step v1' gt hl1 (by omega)) ?_
        rintro w ⟨w1, w2⟩
        have w1' : cuM w t (pP2 t p) := w1
        have Fw : fr tmP u w := fr_trans v2 w2
        rw [gm_letE, gm_letE, gm_letE, gm_letE, m_isWord w1' wx12 (by omega), m_isWord w1' wx13 (by omega), m_isWord w1' wx14 (by omega), m_isWord w1' wx15 (by omega)]
        -- the rest, by its kind
        have rest : (12 ≤ tWd t (pP2 t p) ∧ tWd t (pP2 t p) ≤ 15) → ∀ kd : Nat, kd = tWd t (pP2 t p) - 12 → ok (j_X11_readsPerson_124 (nI (6 + rN R)) (nmM (kW t (pP1 t p))) (nI (6 + rN R)) (nI kd) w) (MO t u (xP t R p) (fun v => rD v (rAdd R (newP t p)) ∧ ∀ a j, a = 8 ∨ a = 9 ∨ a = 10 ∨ (a = 1 ∧ (j = 18 ∨ j = 19)) → gI v a j = gI u a j)) := by
          intro qk kd hkd
          have x4 : bX (bX (x2P t R p) (sNm t)) (sKd t) = .inr (kE t (pP2 t p)) := by rw [x3]; show sKd t (pP2 t p) = _; unfold sKd; rw [if_pos qk]
          unfold j_X11_readsPerson_124
          rw [if_pos (show ib (nI (6 + rN R)) 12 = true from (ib_nI (by omega)).mpr (by omega)), gm_letE, if_pos (show ib (nI (6 + rN R)) 12 = true from (ib_nI (by omega)).mpr (by omega)), ix_nI (by omega)]
          have f5 : fr (fun a j => a = 5 ∧ j = 6 + rN R) w (sI w 5 (6 + rN R) (nI kd)) := fr_sI (fr_refl _ _) ⟨rfl, rfl⟩
          have e5 : gI (sI w 5 (6 + rN R) (nI kd)) 5 (6 + rN R) = nI kd := gI_eq rfl rfl
          generalize sI w 5 (6 + rN R) (nI kd) = w5 at *
          rw [e5, if_pos (nI_pos' (by omega))]
          have c5 : cuM w5 t (pP2 t p) := cuM_fr w1' f5 (fun j _ _ => by omega) (fun j => by omega)
          have hS2 : kS t (pP2 t p) ≠ 0 := by have := wd_S (t := t) (p := pP2 t p) (by omega); omega
          have hE2 := kE_le hl2 hS2
          refine ok_bind (m_step c5 gt hl2 hS2) ?_
          rintro w6 ⟨a1, a2⟩
          have hb : ok (f_X11_needsBoth (50801 : Int64) (1 : Int32) (3000 : Int32) w6) _ := m_both (lo := 1) (hi := 3000) (k := 1) a1 gt hE2.2.1 (by omega) (by omega) wx1 (by omega)
          obtain ⟨⟨o7, w7⟩, e7, b7, c7⟩ := hb
          simp only at b7 c7
          rw [e7]
          simp only [Option.bind_some]
          have F7 : fr rmP u w7 := fr_trans (rmP_tm Fw) (fr_trans (fr_mono f5 (fun a j z => .inr (.inr (.inl ⟨by omega, by omega, by omega⟩)))) (fr_trans (rmP_tm a2) (tm9_rm b7)))
          have x6 : bX (x5P t R p) (sNu t 1 3000) = bX (sWd t 1 (kE t (pP2 t p))) (sNu t 1 3000) := by unfold x5P; rw [x4]; rfl
          rcases c7 with ⟨F, y1, rfl, y3⟩ | ⟨q7, y1, rfl, y3, y4, y5⟩
          · have e : xP t R p = .inl F := by unfold xP x7P; rw [x6, y1]; rfl
            rw [if0, e]
            exact ok_some ⟨F7, .inl ⟨F, rfl, rfl, y3⟩⟩
          · rw [if1, gm_letE, y5]
            obtain ⟨z0, z1, z2⟩ := bX_inr y1
            obtain ⟨z3, z4⟩ := sWd_inr z1
            subst z4
            obtain ⟨z5, z6, z7⟩ := sNu_inr z2
            have hq7 : q7 = kE t (pP4 t p) := z7
            have f8 : fr (fun a j => a = 6 ∧ j = 6 + rN R) w7 (sI w7 6 (6 + rN R) (nI (kV t (kE t (kE t (pP2 t p)))))) := fr_sI (fr_refl _ _) ⟨rfl, rfl⟩
            have e8 : gI (sI w7 6 (6 + rN R) (nI (kV t (kE t (kE t (pP2 t p)))))) 6 (6 + rN R) = nI (kV t (pP4 t p)) := gI_eq rfl rfl
            generalize sI w7 6 (6 + rN R) (nI (kV t (kE t (kE t (pP2 t p))))) = w8 at *
            have c8 : cuM w8 t q7 := cuM_fr y3 f8 (fun j _ _ => by omega) (fun j => by omega)
            have hb2 : ok (f_X11_needsBoth (323812 : Int64) (1 : Int32) (20 : Int32) w8) _ := m_both (lo := 1) (hi := 20) (k := 2) c8 gt y4 (by omega) (by omega) wx2 (by omega)
            obtain ⟨⟨o9, w9⟩, e9, b9, c9⟩ := hb2
            simp only at b9 c9
            rw [e9]
            simp only [Option.bind_some]
            have F9 : fr rmP u w9 := fr_trans F7 (fr_trans (fr_mono f8 (fun a j z => .inr (.inr (.inl ⟨by omega, by omega, by omega⟩)))) (tm9_rm b9))
            have x8 : x7P t R p = bX (sWd t 2 q7) (sNu t 1 20) := by unfold x7P; rw [x6, y1]; rfl
            rcases c9 with ⟨F, i1, rfl, i3⟩ | ⟨q9, i1, rfl, i3, i4, i5⟩
            · have e : xP t R p = .inl F := by unfold xP; rw [x8, i1]; rfl
              rw [if0, e]
              exact ok_some ⟨F9, .inl ⟨F, rfl, rfl, i3⟩⟩
            · rw [if1, gm_letE, gm_letE, gm_letE, i5]
              obtain ⟨j0, j1, j2⟩ := bX_inr i1
              obtain ⟨j3, j4⟩ := sWd_inr j1
              have ep6 : kE t q7 = pP6 t p := by rw [hq7]; rfl
              -- the count
              have k34 : gI w9 3 4 = nI (rN R) := by
                rw [fr_I b9 (fun z => by unfold tm9 at z; omega), fr_I f8 (by omega), fr_I b7 (fun z => by unfold tm9 at z; omega), fr_I a2 (fun z => by unfold tmP at z; omega), fr_I f5 (by omega), fr_I Fw (fun z => by unfold tmP at z; omega)]
                exact hR.1.1
              have e34 : gI (sJ (sI w9 7 (6 + rN R) (nI (kV t (kE t q7)))) 4 (6 + rN R) (nmM (kW t (pP1 t p)))) 3 4 = nI (rN R) := by
                show gI (sI w9 7 (6 + rN R) (nI (kV t (kE t q7)))) 3 4 = nI (rN R)
                rw [gI_ne (by omega)]
                exact k34
              rw [e34, show nI (rN R) + (1 : Int32) = nI (rN R + 1) from nI_add _ 1, ep6]
              have fx : fr (fun a j => (a = 3 ∧ j = 4) ∨ ((a = 4 ∨ a = 7) ∧ j = 6 + rN R)) w9 (sI (sJ (sI w9 7 (6 + rN R) (nI (kV t (pP6 t p)))) 4 (6 + rN R) (nmM (kW t (pP1 t p)))) 3 4 (nI (rN R + 1))) := fr_sI (fr_sJ (fr_sI (fr_refl _ _) (.inr ⟨.inr rfl, rfl⟩)) (.inr ⟨.inl rfl, rfl⟩)) (.inl ⟨rfl, rfl⟩)
              have ex3 : gI (sI (sJ (sI w9 7 (6 + rN R) (nI (kV t (pP6 t p)))) 4 (6 + rN R) (nmM (kW t (pP1 t p)))) 3 4 (nI (rN R + 1))) 3 4 = nI (rN R + 1) := gI_eq rfl rfl
              have ex4 : gJ (sI (sJ (sI w9 7 (6 + rN R) (nI (kV t (pP6 t p)))) 4 (6 + rN R) (nmM (kW t (pP1 t p)))) 3 4 (nI (rN R + 1))) 4 (6 + rN R) = nmM (kW t (pP1 t p)) := gJ_eq rfl rfl
              have ex7 : gI (sI (sJ (sI w9 7 (6 + rN R) (nI (kV t (pP6 t p)))) 4 (6 + rN R) (nmM (kW t (pP1 t p)))) 3 4 (nI (rN R + 1))) 7 (6 + rN R) = nI (kV t (pP6 t p)) := by
                rw [gI_ne (by omega)]
                exact gI_eq rfl rfl
              generalize sI (sJ (sI w9 7 (6 + rN R) (nI (kV t (pP6 t p)))) 4 (6 + rN R) (nmM (kW t (pP1 t p)))) 3 4 (nI (rN R + 1)) = wx at *
              have cx : cuM wx t q9 := cuM_fr i3 fx (fun j _ _ => by omega) (fun j => by omega)
              have Fx : fr rmP u wx := fr_trans F9 (fr_mono fx (fun a j z => by rcases z with z | z; exact .inr (.inl ⟨z.1, by omega⟩); exact .inr (.inr (.inl ⟨by omega, by omega, by omega⟩))))
              have x9 : xP t R p = sSg t 59 q9 := by unfold xP; rw [x8, i1]; rfl
              rw [x9]
              unfold sSg
              rcases m_closes cx gt i4 with ⟨q59, hok⟩ | ⟨q59, ec⟩
              · rw [if_pos q59]
                obtain ⟨⟨oc, wc⟩, ecc, oc1, oc2, oc3⟩ := hok
                simp only at oc1 oc2 oc3
                subst oc1
                rw [ecc]
                have all : ∀ a j, ¬ tm9 a j → ¬ (a = 5 ∧ j = 6 + rN R) → ¬ (a = 6 ∧ j = 6 + rN R) → ¬ ((a = 3 ∧ j = 4) ∨ ((a = 4 ∨ a = 7) ∧ j = 6 + rN R)) → gI wc a j = gI u a j ∧ gJ wc a j = gJ u a j := fun a j n1 n2 n3 n4 => by
                  have nt : ¬ tmP a j := fun z => n1 ⟨z.1, by unfold tmP at z; omega⟩
                  exact ⟨(fr_I oc3 nt).trans ((fr_I fx n4).trans ((fr_I b9 n1).trans ((fr_I f8 n3).trans ((fr_I b7 n1).trans ((fr_I a2 nt).trans ((fr_I f5 n2).trans (fr_I Fw nt))))))), (fr_J oc3 nt).trans ((fr_J fx n4).trans ((fr_J b9 n1).trans ((fr_J f8 n3).trans ((fr_J b7 n1).trans ((fr_J a2 nt).trans ((fr_J f5 n2).trans (fr_J Fw nt)))))))⟩
                have n9 : ∀ {a j : Nat}, a ≠ 1 → ¬ tm9 a j := fun h z => h z.1
                have nT : ∀ {a j : Nat}, a ≠ 1 → ¬ tmP a j := fun h z => h z.1
                refine ok_some ⟨fr_trans Fx (rmP_tm oc3), .inr ⟨kE t q9, rfl, and_n ⟨1, by omega⟩, oc2, kE_ok i4 (sg_S (by omega)), ⟨⟨?_, ?_, ?_, ?_⟩, fun q hq => ?_⟩, fun a j hj => (all a j (fun z => by unfold tm9 at z; omega) (by omega) (by omega) (by omega)).1⟩⟩
                · rw [rAdd_n]; exact (fr_I oc3 (nT (by omega))).trans ex3
                · exact ((all 3 5 (n9 (by omega)) (by omega) (by omega) (by omega)).1).trans hR.1.2.1
                · exact ((all 3 6 (n9 (by omega)) (by omega) (by omega) (by omega)).1).trans hR.1.2.2.1
                · exact ((all 3 7 (n9 (by omega)) (by omega) (by omega) (by omega)).1).trans hR.1.2.2.2
                · rw [rAdd_n] at hq
                  unfold rKind rBorn rPlea
                  rcases Nat.lt_or_ge q (rN R) with z | z
                  · rw [rAdd_lt z]
                    obtain ⟨r1, r2, r3, r4⟩ := hR.2 q z
                    exact ⟨((all 4 (6 + q) (n9 (by omega)) (by omega) (by omega) (by omega)).2).trans r1, ((all 5 (6 + q) (n9 (by omega)) (by omega) (by omega) (by omega)).1).trans r2, ((all 6 (6 + q) (n9 (by omega)) (by omega) (by omega) (by omega)).1).trans r3, ((all 7 (6 + q) (n9 (by omega)) (by omega) (by omega) (by omega)).1).trans r4⟩
                  · have z2 : q = rN R := by omega
                    subst z2
                    rw [rAdd_eq]
                    refine ⟨(fr_J oc3 (nT (by omega))).trans ex4, ?_, ?_, (fr_I oc3 (nT (by omega))).trans ex7⟩
                    · show gI wc 5 (6 + rN R) = nI (tWd t (pP2 t p) - 12)
                      rw [fr_I oc3 (nT (by omega)), fr_I fx (by omega), fr_I b9 (n9 (by omega)), fr_I f8 (by omega), fr_I b7 (n9 (by omega)), fr_I a2 (nT (by omega)), e5, hkd]
                    · show gI wc 6 (6 + rN R) = nI (kV t (pP4 t p))
                      rw [fr_I oc3 (nT (by omega)), fr_I fx (by omega), fr_I b9 (n9 (by omega)), e8]
              · rw [if_neg q59, ec]
                exact ok_some ⟨fr_trans Fx rmP_9, .inl ⟨_, rfl, and_n ⟨0, by omega⟩, gI_eq rfl rfl⟩⟩
        by_cases q12 : tWd t (pP2 t p) = 12
        · rw [decide_eq_true q12]
          show ok (if nI 1 = 0 then _ else _) _
          rw [if1]
          exact rest (by omega) 0 (by omega)
        · rw [decide_eq_false q12]
          show ok (if nI 0 = 0 then _ else _) _
          rw [if0]
          by_cases q13 : tWd t (pP2 t p) = 13
          · rw [decide_eq_true q13]
            show ok (if nI 1 = 0 then _ else _) _
            rw [if1]
            exact rest (by omega) 1 (by omega)
          · rw [decide_eq_false q13]
            show ok (if nI 0 = 0 then _ else _) _
            rw [if0]
            by_cases q14 : tWd t (pP2 t p) = 14
            · rw [decide_eq_true q14]
              show ok (if nI 1 = 0 then _ else _) _
              rw [if1]
              exact rest (by omega) 2 (by omega)
            · rw [decide_eq_false q14]
              show ok (if nI 0 = 0 then _ else _) _
              rw [if0]
              by_cases q15 : tWd t (pP2 t p) = 15
              · rw [decide_eq_true q15]
                show ok (if nI 1 = 0 then _ else _) _
                rw [if1]
                exact rest (by omega) 3 (by omega)
              · rw [decide_eq_false q15]
                show ok (if nI 0 = 0 then _ else _) _
                rw [if0]
                have x4 : bX (bX (x2P t R p) (sNm t)) (sKd t) = .inl (flt 1 t (pP2 t p)) := by rw [x3]; show sKd t (pP2 t p) = _; unfold sKd; rw [if_neg (by omega)]
                have e : xP t R p = .inl (flt 1 t (pP2 t p)) := by unfold xP x7P x5P; rw [x4]; rfl
                unfold j_X11_readsPerson_124
                rw [if_pos (show ib (nI (6 + rN R)) 12 = true from (ib_nI (by omega)).mpr (by omega)), gm_letE, if_pos (show ib (nI (6 + rN R)) 12 = true from (ib_nI (by omega)).mpr (by omega)), ix_nI (by omega)]
                have f5 : fr (fun a j => a = 5 ∧ j = 6 + rN R) w (sI w 5 (6 + rN R) (-1 : Int32)) := fr_sI (fr_refl _ _) ⟨rfl, rfl⟩
                have e5 : gI (sI w 5 (6 + rN R) (-1 : Int32)) 5 (6 + rN R) = (-1 : Int32) := gI_eq rfl rfl
                generalize sI w 5 (6 + rN R) (-1 : Int32) = w5 at *
                have c5 : cuM w5 t (pP2 t p) := cuM_fr w1' f5 (fun j _ _ => by omega) (fun j => by omega)
                have ef : f_X11_fails (1 : Int32) w5 = some (0, sI w5 1 9 (nI (flt 1 t (pP2 t p)))) := m_fails c5 1
                rw [e5, if_neg (show ¬ (0 : Int32) ≤ (-1 : Int32) by decide), ef, e]
                exact ok_some ⟨fr_trans (rmP_tm Fw) (fr_trans (fr_mono f5 (fun a j z => .inr (.inr (.inl ⟨by omega, by omega, by omega⟩)))) rmP_9), .inl ⟨_, rfl, and0, gI_eq rfl rfl⟩⟩
    · have x2 : x2P t R p = .inr (pP1 t p) := by
        unfold x2P
        rw [x1]
        show (haveI := Classical.propDecidable (fndD R (kW t (pP1 t p))); if (19 ≤ tWd t (pP1 t p) ∧ tWd t (pP1 t p) ≤ 23) ∧ fndD R (kW t (pP1 t p)) then (.inl (flt 3 t (pP1 t p)) : pT) else .inr (pP1 t p)) = _
        rw [if_neg (show ¬ ((19 ≤ tWd t (pP1 t p) ∧ tWd t (pP1 t p) ≤ 23) ∧ fndD R (kW t (pP1 t p))) from fun y => qn y.1)]
      have x3 : bX (x2P t R p) (sNm t) = .inl (flt 1 t (pP1 t p)) := by rw [x2]; show sNm t (pP1 t p) = _; unfold sNm; rw [if_neg qn]
      have e : xP t R p = .inl (flt 1 t (pP1 t p)) := by unfold xP x7P x5P; rw [x3]; rfl
      have ef : f_X11_fails (1 : Int32) v = some (0, sI v 1 9 (nI (flt 1 t (pP1 t p)))) := m_fails v1' 1
      rw [decide_eq_true (show ¬ (19 ≤ tWd t (pP1 t p) ∧ tWd t (pP1 t p) ≤ 23) from qn)]
      show ok (if nI 1 = 0 then _ else _) _
      rw [if1, ef, e]
      exact ok_some ⟨fr_trans (rmP_tm v2) rmP_9, .inl ⟨_, rfl, and0, gI_eq rfl rfl⟩⟩
