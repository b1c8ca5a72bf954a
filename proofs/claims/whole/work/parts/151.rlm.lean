/-! realm: a person, in the class -/
def rlP (r : Nat) : Nat → Nat → Prop := fun a j => tk4 a j ∨ (a = 2 ∧ j = 2) ∨ (r ≤ a ∧ a ≤ r + 6)
theorem rlP_4 {r : Nat} {u v : gm_M} (h : fr tk4 u v) : fr (rlP r) u v := fr_mono h (fun _ _ z => .inl z)
def pP1 (t : List Nat) (p : Nat) : Nat := kE t p
def pP2 (t : List Nat) (p : Nat) : Nat := kE t (kE t p)
def pP4 (t : List Nat) (p : Nat) : Nat := kE t (kE t (kE t (kE t p)))
def pP6 (t : List Nat) (p : Nat) : Nat := kE t (kE t (kE t (kE t (kE t (kE t p)))))
def newP (t : List Nat) (p : Nat) : pP := (kW t (pP1 t p), tWd t (pP2 t p) - 12, kV t (pP4 t p), kV t (pP6 t p))
theorem bX_inr {x : pT} {f : Nat → pT} {p : Nat} (h : bX x f = .inr p) : ∃ q, x = .inr q ∧ f q = .inr p := by
  cases x with
  | inl F => cases h
  | inr q => exact ⟨q, rfl, h⟩
theorem sWd_inr {t : List Nat} {k p q : Nat} (h : sWd t k p = .inr q) : tWd t p = k ∧ q = kE t p := by
  unfold sWd at h
  by_cases z : tWd t p = k
  · rw [if_pos z] at h; cases h; exact ⟨z, rfl⟩
  · rw [if_neg z] at h; cases h
theorem sSg_inr {t : List Nat} {k p q : Nat} (h : sSg t k p = .inr q) : tSg t p = k ∧ q = kE t p := by
  unfold sSg at h
  by_cases z : tSg t p = k
  · rw [if_pos z] at h; cases h; exact ⟨z, rfl⟩
  · rw [if_neg z] at h; cases h
theorem sNm_inr {t : List Nat} {p q : Nat} (h : sNm t p = .inr q) : (19 ≤ tWd t p ∧ tWd t p ≤ 23) ∧ q = kE t p := by
  unfold sNm at h
  by_cases z : 19 ≤ tWd t p ∧ tWd t p ≤ 23
  · rw [if_pos z] at h; cases h; exact ⟨z, rfl⟩
  · rw [if_neg z] at h; cases h
theorem sKd_inr {t : List Nat} {p q : Nat} (h : sKd t p = .inr q) : (12 ≤ tWd t p ∧ tWd t p ≤ 15) ∧ q = kE t p := by
  unfold sKd at h
  by_cases z : 12 ≤ tWd t p ∧ tWd t p ≤ 15
  · rw [if_pos z] at h; cases h; exact ⟨z, rfl⟩
  · rw [if_neg z] at h; cases h
theorem sNu_inr {t : List Nat} {lo hi p q : Nat} (h : sNu t lo hi p = .inr q) : kS t p = 2 ∧ (lo ≤ kV t p ∧ kV t p ≤ hi) ∧ q = kE t p := by
  unfold sNu at h
  by_cases z : kS t p = 2
  · rw [if_neg (fun w => w z)] at h
    by_cases y : lo ≤ kV t p ∧ kV t p ≤ hi
    · rw [if_neg (fun w => w y)] at h; cases h; exact ⟨z, y, rfl⟩
    · rw [if_pos y] at h; cases h
  · rw [if_pos z] at h; cases h
theorem x1P_inr {t : List Nat} {R : pR} {p q : Nat} (h : x1P t R p = .inr q) : rN R ≠ 6 ∧ tWd t p = 0 ∧ q = kE t p := by
  obtain ⟨a, h1, h2⟩ := bX_inr h
  by_cases z : rN R = 6
  · rw [if_pos z] at h1; cases h1
  · rw [if_neg z] at h1; cases h1
    exact ⟨z, sWd_inr h2⟩
theorem x2P_inr {t : List Nat} {R : pR} {p q : Nat} (h : x2P t R p = .inr q) : x1P t R p = .inr q ∧ ¬ ((19 ≤ tWd t q ∧ tWd t q ≤ 23) ∧ fndD R (kW t q)) := by
  obtain ⟨a, h1, h2⟩ := bX_inr h
  split at h2
  · cases h2
  · rename_i z
    cases h2
    exact ⟨h1, z⟩
theorem x5P_inr {t : List Nat} {R : pR} {p q : Nat} (h : x5P t R p = .inr q) : x2P t R p = .inr (pP1 t p) ∧ (19 ≤ tWd t (pP1 t p) ∧ tWd t (pP1 t p) ≤ 23) ∧ (12 ≤ tWd t (pP2 t p) ∧ tWd t (pP2 t p) ≤ 15) ∧ tWd t (kE t (pP2 t p)) = 1 ∧ q = pP4 t p := by
  obtain ⟨a, h1, h2⟩ := bX_inr h
  obtain ⟨b, h3, h4⟩ := bX_inr h1
  obtain ⟨c, h5, h6⟩ := bX_inr h3
  obtain ⟨i1, i2⟩ := sWd_inr h2
  obtain ⟨i3, i4⟩ := sKd_inr h4
  obtain ⟨i5, i6⟩ := sNm_inr h6
  have i7 := (x1P_inr (x2P_inr h5).1).2.2
  subst i7
  subst i6
  subst i4
  exact ⟨h5, i5, i3, i1, i2⟩
theorem x7P_inr {t : List Nat} {R : pR} {p q : Nat} (h : x7P t R p = .inr q) : x5P t R p = .inr (pP4 t p) ∧ (kS t (pP4 t p) = 2 ∧ (1 ≤ kV t (pP4 t p) ∧ kV t (pP4 t p) ≤ 3000)) ∧ tWd t (kE t (pP4 t p)) = 2 ∧ (kS t (pP6 t p) = 2 ∧ (1 ≤ kV t (pP6 t p) ∧ kV t (pP6 t p) ≤ 20)) ∧ q = kE t (pP6 t p) := by
  obtain ⟨a, h1, h2⟩ := bX_inr h
  obtain ⟨b, h3, h4⟩ := bX_inr h1
  obtain ⟨c, h5, h6⟩ := bX_inr h3
  obtain ⟨i1, i2, i3⟩ := sNu_inr h2
  obtain ⟨i4, i5⟩ := sWd_inr h4
  obtain ⟨i6, i7, i8⟩ := sNu_inr h6
  have i9 := (x5P_inr h5).2.2.2.2
  subst i9
  subst i8
  subst i5
  exact ⟨h5, ⟨i6, i7⟩, i4, ⟨i1, i2⟩, i3⟩
theorem xP_inr {t : List Nat} {R : pR} {p q : Nat} (h : xP t R p = .inr q) : x7P t R p = .inr (kE t (pP6 t p)) ∧ tSg t (kE t (pP6 t p)) = 59 ∧ q = kE t (kE t (pP6 t p)) := by
  obtain ⟨a, h1, h2⟩ := bX_inr h
  obtain ⟨i1, i2⟩ := sSg_inr h2
  have i3 := (x7P_inr h1).2.2.2.2
  subst i3
  exact ⟨h1, i1, i2⟩
theorem c_addP {u : gm_M} {r n : Nat} {nm : Int64} {k b l : Int32} (h : gI u r 0 = nI n) (hn : n ≤ 6) : ok (f_X5_addPerson r nm k b l u) (fun v => fr (fun a _ => r ≤ a ∧ a ≤ r + 4) u v ∧ (n < 6 → gI v r 0 = nI (n + 1) ∧ gJ v (r + 1) n = nm ∧ gI v (r + 2) n = k ∧ gI v (r + 3) n = b ∧ gI v (r + 4) n = l ∧ (∀ j, j ≠ 0 → gI v r j = gI u r j) ∧ ∀ i, i < n → gJ v (r + 1) i = gJ u (r + 1) i ∧ gI v (r + 2) i = gI u (r + 2) i ∧ gI v (r + 3) i = gI u (r + 3) i ∧ gI v (r + 4) i = gI u (r + 4) i)) := by
  unfold f_X5_addPerson
  rw [h, if_neg (nI_pos (by omega))]
  by_cases q : n < 6
  · rw [if_neg (show ¬ (6 : Int32) ≤ nI n from fun z => by rw [show (6 : Int32) = nI 6 from rfl, nI_leI (by omega) (by omega)] at z; omega)]
    have e1 : gI (sJ u (r + 1) n nm) r 0 = nI n := h
    have e2 : gI (sI (sJ u (r + 1) n nm) (r + 2) n k) r 0 = nI n := (gI_ne (by omega)).trans e1
    have e3 : gI (sI (sI (sJ u (r + 1) n nm) (r + 2) n k) (r + 3) n b) r 0 = nI n := (gI_ne (by omega)).trans e2
    have e4 : gI (sI (sI (sI (sJ u (r + 1) n nm) (r + 2) n k) (r + 3) n b) (r + 4) n l) r 0 = nI n := (gI_ne (by omega)).trans e3
    simp (disch := omega) only [ib_nI, ix_nI, if_pos, gm_letE, e1, e2, e3, e4]
    rw [show nI n + (1 : Int32) = nI (n + 1) from nI_add n 1]
    refine ok_some ⟨fr_sI (fr_sI (fr_sI (fr_sI (fr_sJ (fr_refl _ _) ⟨by omega, by omega⟩) ⟨by omega, by omega⟩) ⟨by omega, by omega⟩) ⟨by omega, by omega⟩) ⟨by omega, by omega⟩, fun _ => ⟨gI_eq rfl rfl, gJ_eq rfl rfl, ?_, ?_, ?_, fun j hj => ?_, fun i hi => ⟨gJ_ne (by omega), ?_, ?_, ?_⟩⟩⟩
    · rw [gI_ne (by omega), gI_ne (by omega), gI_ne (by omega)]; exact gI_eq rfl rfl
    · rw [gI_ne (by omega), gI_ne (by omega)]; exact gI_eq rfl rfl
    · rw [gI_ne (by omega)]; exact gI_eq rfl rfl
    · rw [gI_ne (by omega), gI_ne (by omega), gI_ne (by omega), gI_ne (by omega)]; rfl
    · rw [gI_ne (by omega), gI_ne (by omega), gI_ne (by omega), gI_ne (by omega)]; rfl
    · rw [gI_ne (by omega), gI_ne (by omega), gI_ne (by omega), gI_ne (by omega)]; rfl
    · rw [gI_ne (by omega), gI_ne (by omega), gI_ne (by omega), gI_ne (by omega)]; rfl
  · rw [if_pos (show (6 : Int32) ≤ nI n from (nI_leI (a := 6) (by omega) (by omega)).mpr (by omega))]
    exact ok_some ⟨fr_refl _ _, fun z => absurd z q⟩
theorem c_person {t : List Nat} {u : gm_M} {r p : Nat} {R : pR} (hr : r = 5 ∨ r = 13) (gt : gT t) (hR : rC0 u r R) (hn : rN R ≤ 6) (hnm : gNm R) (hcu : cuC u t p) (hp : p ≤ t.length) (h0 : gI u 2 1 = 0) :
    ok ((f_X8_readPerson r u).bind fun v => j_X8_readRealmLine_139 r v) (fun w => fr (rlP r) u w ∧ gI w 2 2 = gI u 2 2 ∧ (∀ j, gI w (r + 5) j = gI u (r + 5) j ∧ gI w (r + 6) j = gI u (r + 6) j) ∧ CS t w (xP t R p) ∧ (∀ p', xP t R p = .inr p' → rC0 w r (rAdd R (newP t p)))) := by
  have noT : ∀ {a j : Nat}, a ≠ 3 → ¬ (a = 2 ∧ j = 1) → ¬ tk4 a j := fun h1 h2 z => by
    rcases z with z | z
    · exact h1 z.1
    · exact h2 z
  -- the seventh
  have s0 : ∃ v, CS t v (if rN R = 6 then .inl (flt 5 t p) else .inr p) ∧ fr tk4 u v ∧ f_X8_readPerson r u = j_X8_readPerson_14 r v := by
    unfold f_X8_readPerson
    rw [hR.1.1]
    by_cases q : rN R = 6
    · have er : f_X8_refuse (5 : Int32) u = some (sI u 2 1 (nI (flt 5 t p))) := co_refuse hcu h0 5
      rw [if_neg (show ¬ nI (rN R) < (6 : Int32) from fun z => by rw [show (6 : Int32) = nI 6 from rfl, nI_ltI (by omega) (by omega)] at z; omega), if_pos q, er]
      exact ⟨_, CS_flt gt hp (by omega) (by omega), tk4_4, rfl⟩
    · rw [if_pos (show nI (rN R) < (6 : Int32) from (nI_ltI (b := 6) (by omega) (by omega)).mpr (by omega)), if_neg q]
      exact ⟨u, .inr ⟨p, rfl, hcu, h0, hp⟩, fr_refl _ _, rfl⟩
  obtain ⟨v0, k0, f0, e0⟩ := s0
  rw [e0]
  unfold j_X8_readPerson_14
  have hwd : ok (f_X8_takeWord (0 : Int32) v0) _ := cs_word gt k0 (k := 0) (by omega)
  obtain ⟨v1, e1, k1, f1⟩ := hwd
  have k1' : CS t v1 (x1P t R p) := k1
  have f1' : fr tk4 u v1 := fr_trans f0 f1
  have R1 : rC0 v1 r R := rC0_fr hR f1' (fun a j q1 q2 => noT (by omega) (by omega))
  rw [e1]
  simp only [Option.bind_some]
  -- told already
  have s2 : ∃ v, CS t v (x2P t R p) ∧ fr tk4 v1 v ∧ (gm_let (f_X9_isName v1) fun r_28 => if r_28 = 0 then j_X8_readPerson_49 r v1 else (f_X5_find r (gJ v1 3 6) v1).bind fun r_29 => if r_29 = (-1 : Int32) then j_X8_readPerson_49 r v1 else (f_X8_refuse (3 : Int32) v1).bind fun u_31 => j_X8_readPerson_49 r u_31) = j_X8_readPerson_49 r v := by
    rw [gm_letE]
    obtain ⟨o, eo, co⟩ := c_find R1.1.1 hn (fun q hq => (R1.2 q hq).1) (gJ v1 3 6)
    rw [eo]
    simp only [Option.bind_some]
    unfold x2P
    rcases k1' with ⟨F, hx, b1, b2, b3⟩ | ⟨q, hx, b1, b2, b3⟩
    · rw [hx, cf_refuse (CS_ne (t := t) b1 b2 b3)]
      simp only [Option.bind_some, ite_self]
      exact ⟨v1, .inl ⟨F, rfl, b1, b2, b3⟩, fr_refl _ _, rfl⟩
    · rw [hx, c_isName b1]
      show ∃ v, CS t v (haveI := Classical.propDecidable (fndD R (kW t q)); if (19 ≤ tWd t q ∧ tWd t q ≤ 23) ∧ fndD R (kW t q) then .inl (flt 3 t q) else .inr q) ∧ _
      by_cases z : 19 ≤ tWd t q ∧ tWd t q ≤ 23
      · rw [decide_eq_true z]
        have hk := wd_S (t := t) (p := q) (by omega)
        have hw := kW_1 hk
        rw [(b1.2.2.2.2.1 hk).1] at co
        rcases co with ⟨j, hj, ew, rfl⟩ | ⟨hj, rfl⟩
        · rw [nmC_inj (hnm.1 j hj) hw] at ew
          have er : f_X8_refuse (3 : Int32) v1 = some (sI v1 2 1 (nI (flt 3 t q))) := co_refuse b1 b2 3
          rw [if_pos (show (19 ≤ tWd t q ∧ tWd t q ≤ 23) ∧ fndD R (kW t q) from ⟨z, j, hj, ew⟩), er]
          refine ⟨sI v1 2 1 (nI (flt 3 t q)), CS_flt gt b3 (by omega) (by omega), tk4_4, ?_⟩
          refine Eq.trans if1 ?_
          rw [if_neg (show ¬ nI j = (-1 : Int32) from fun y => (nI_eqm (a := j) (by omega)).mp y)]
          rfl
        · rw [if_neg (show ¬ ((19 ≤ tWd t q ∧ tWd t q ≤ 23) ∧ fndD R (kW t q)) from fun ⟨_, j, a1, a2⟩ => hj j a1 (by rw [a2]))]
          refine ⟨v1, .inr ⟨q, rfl, b1, b2, b3⟩, fr_refl _ _, ?_⟩
          refine Eq.trans if1 ?_
          rw [if_pos (show (-nI 1 : Int32) = (-1 : Int32) from rfl)]
      · rw [decide_eq_false z, if_neg (show ¬ ((19 ≤ tWd t q ∧ tWd t q ≤ 23) ∧ fndD R (kW t q)) from fun y => z y.1)]
        exact ⟨v1, .inr ⟨q, rfl, b1, b2, b3⟩, fr_refl _ _, if0⟩
  obtain ⟨v2, k2, f2, e2⟩ := s2
  rw [e2]
  unfold j_X8_readPerson_49
  obtain ⟨⟨nm, v3⟩, e3, n3, k3, f3⟩ := cs_name gt k2
  simp only at n3 k3 f3
  rw [e3]
  simp only [Option.bind_some]
  obtain ⟨⟨kd, v4⟩, e4, n4, k4, f4⟩ := cs_kind gt k3
  simp only at n4 k4 f4
  rw [e4]
  simp only [Option.bind_some]
  have hw1 : ok (f_X8_takeWord (1 : Int32) v4) _ := cs_word gt k4 (k := 1) (by omega)
  obtain ⟨v5, e5, k5, f5⟩ := hw1
  rw [e5]
  simp only [Option.bind_some]
  have hb1 : ok (f_X8_takeNumber (1 : Int32) (3000 : Int32) v5) _ := cs_num gt k5 (lo := 1) (hi := 3000) (by omega) (by omega)
  obtain ⟨⟨bn, v6⟩, e6, n6, k6, f6⟩ := hb1
  simp only at n6 k6 f6
  rw [e6]
  simp only [Option.bind_some]
  have hw2 : ok (f_X8_takeWord (2 : Int32) v6) _ := cs_word gt k6 (k := 2) (by omega)
  obtain ⟨v7, e7, k7, f7⟩ := hw2
  rw [e7]
  simp only [Option.bind_some]
  have hb2 : ok (f_X8_takeNumber (1 : Int32) (20 : Int32) v7) _ := cs_num gt k7 (lo := 1) (hi := 20) (by omega) (by omega)
  obtain ⟨⟨pl, v8⟩, e8, n8, k8, f8⟩ := hb2
  simp only at n8 k8 f8
  rw [e8]
  simp only [Option.bind_some]
  have F8 : fr tk4 u v8 := fr_trans f1' (fr_trans f2 (fr_trans f3 (fr_trans f4 (fr_trans f5 (fr_trans f6 (fr_trans f7 f8))))))
  have R8 : rC0 v8 r R := rC0_fr hR F8 (fun a j q1 q2 => noT (by omega) (by omega))
  obtain ⟨v9, e9, f9, a9⟩ := c_addP (nm := nm) (k := kd) (b := bn) (l := pl) R8.1.1 hn
  rw [e9]
  simp only [Option.bind_some]
  unfold j_X8_readRealmLine_139
  have k9 : CS t v9 (x7P t R p) := by
    have k8' : CS t v8 (x7P t R p) := k8
    rcases k8' with ⟨F, hx, b1, b2, b3⟩ | ⟨q, hx, b1, b2, b3⟩
    · exact .inl ⟨F, hx, (fr_I f9 (by omega)).trans b1, b2, b3⟩
    · exact .inr ⟨q, hx, cuC_fr b1 f9 (fun j => by omega) (fun j => by omega), (fr_I f9 (by omega)).trans b2, b3⟩
  have hs : ok (f_X8_takeSign (59 : Int32) v9) _ := cs_sign gt k9 (c := 59) (by omega) (by omega)
  obtain ⟨w, ew, kw, fw⟩ := hs
  rw [ew]
  have fall : ∀ a j, a ≠ 3 → ¬ (a = 2 ∧ j = 1) → ¬ (r ≤ a ∧ a ≤ r + 4) → gI w a j = gI u a j := fun a j q1 q2 q3 => (fr_I fw (noT q1 q2)).trans ((fr_I f9 (by omega)).trans (fr_I F8 (noT q1 q2)))
  refine ok_some ⟨fr_trans (rlP_4 F8) (fr_trans (fr_mono f9 (fun a j z => .inr (.inr ⟨z.1, by omega⟩))) (rlP_4 fw)), fall 2 2 (by omega) (by omega) (by omega), fun j => ⟨fall _ _ (by omega) (by omega) (by omega), fall _ _ (by omega) (by omega) (by omega)⟩, kw, fun p' hx => ?_⟩
  obtain ⟨g1, g2, g3⟩ := xP_inr hx
  obtain ⟨g4, g5, g6, g7, g8⟩ := x7P_inr g1
  obtain ⟨g9, g10, g11, g12, g13⟩ := x5P_inr g4
  obtain ⟨g14, g15⟩ := x2P_inr g9
  have g16 := (x1P_inr g14).1
  have hk1 := wd_S (t := t) (p := pP1 t p) (by omega)
  obtain ⟨a1, a2, a3, a4, a5, a6, a7⟩ := a9 (by omega)
  -- the values
  have vn : nm = nmC (kW t (pP1 t p)) := n3 _ g9 hk1
  have x3 : bX (x2P t R p) (sNm t) = .inr (pP2 t p) := by rw [g9]; show sNm t (pP1 t p) = _; unfold sNm; rw [if_pos g10]; rfl
  have vk : kd = nI (tWd t (pP2 t p) - 12) := n4 _ x3 g11
  have vb : bn = nI (kV t (pP4 t p)) := n6 _ (kE t (pP4 t p)) g4 (by unfold sNu; rw [if_neg (fun z => z g5.1), if_neg (fun z => z g5.2)])
  have x6 : bX (bX (x5P t R p) (sNu t 1 3000)) (sWd t 2) = .inr (pP6 t p) := by
    rw [g4]
    show bX (sNu t 1 3000 (pP4 t p)) (sWd t 2) = _
    have : sNu t 1 3000 (pP4 t p) = .inr (kE t (pP4 t p)) := by unfold sNu; rw [if_neg (fun z => z g5.1), if_neg (fun z => z g5.2)]
    rw [this]
    show sWd t 2 (kE t (pP4 t p)) = _
    unfold sWd
    rw [if_pos g6]; rfl
  have vp : pl = nI (kV t (pP6 t p)) := n8 _ (kE t (pP6 t p)) x6 (by unfold sNu; rw [if_neg (fun z => z g7.1), if_neg (fun z => z g7.2)])
  have kw' : ∀ a j, r ≤ a → a ≤ r + 4 → gI w a j = gI v9 a j ∧ gJ w a j = gJ v9 a j := fun a j q1 q2 => ⟨fr_I fw (noT (by omega) (by omega)), fr_J fw (noT (by omega) (by omega))⟩
  refine ⟨⟨?_, ?_, ?_, ?_⟩, fun q hq => ?_⟩
  · rw [(kw' r 0 (by omega) (by omega)).1, a1, rAdd_n]
  · rw [(kw' r 5 (by omega) (by omega)).1, a6 5 (by omega)]; exact R8.1.2.1
  · rw [(kw' r 6 (by omega) (by omega)).1, a6 6 (by omega)]; exact R8.1.2.2.1
  · rw [(kw' r 7 (by omega) (by omega)).1, a6 7 (by omega)]; exact R8.1.2.2.2
  · rw [rAdd_n] at hq
    rw [(kw' (r + 1) q (by omega) (by omega)).2, (kw' (r + 2) q (by omega) (by omega)).1, (kw' (r + 3) q (by omega) (by omega)).1, (kw' (r + 4) q (by omega) (by omega)).1]
    unfold rKind rBorn rPlea
    rcases Nat.lt_or_ge q (rN R) with z | z
    · rw [rAdd_lt z]
      obtain ⟨b1, b2, b3, b4⟩ := a7 q z
      obtain ⟨c1, c2, c3, c4⟩ := R8.2 q z
      exact ⟨b1.trans c1, b2.trans c2, b3.trans c3, b4.trans c4⟩
    · have z2 : q = rN R := by omega
      subst z2
      rw [rAdd_eq]
      exact ⟨a2.trans vn, a3.trans vk, a4.trans vb, a5.trans vp⟩
