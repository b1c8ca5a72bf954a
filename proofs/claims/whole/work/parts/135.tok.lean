/-! tokens: the reference's nextToken -/
def tR (u : gm_M) (t : List Nat) : Prop := gI u 1 3 = nI t.length ∧ ∀ i s, t[i]? = some s → gI u 2 i = nI s
def cuM (u : gm_M) (t : List Nat) (p : Nat) : Prop := tR u t ∧ gI u 1 5 = nI (kB t p) ∧ gI u 1 6 = nI (kS t p) ∧ (kS t p ≠ 0 → gI u 1 4 = nI (kE t p)) ∧ (kS t p = 1 → gJ u 1 7 = nmM (kW t p)) ∧ (kS t p = 2 → gI u 1 8 = nI (kV t p))
def tmP : Nat → Nat → Prop := fun a j => a = 1 ∧ 4 ≤ j ∧ j ≤ 8
theorem tR_tm {u v : gm_M} {t : List Nat} (h : tR u t) (f : fr tmP u v) : tR v t := ⟨(fr_I f (by unfold tmP; omega)).trans h.1, fun i s hs => (fr_I f (by unfold tmP; omega)).trans (h.2 i s hs)⟩
theorem m_signAt {u : gm_M} {t : List Nat} {i : Nat} (h : tR u t) (g : gT t) (hi : i < 2 ^ 31) : f_X11_signAt (nI i) u = some (nI (if i < t.length then sgA t i else 0)) := by
  have gl := g.1
  unfold f_X11_signAt
  rw [h.1]
  by_cases q : i < t.length
  · rw [if_neg (fun z => by rw [nI_leI (by omega) (by omega)] at z; omega), if_pos q]
    simp (disch := omega) only [ib_nI, ix_nI, if_pos, h.2 i _ (sgA_at q)]
  · rw [if_pos ((nI_leI (by omega) (by omega)).mpr (by omega)), if_neg q]
    rfl
theorem nmM_app (w : List Nat) (c : Nat) : nmM (w ++ [c]) = nmM w * 27 + lN c := by simp [nmM, List.foldl_append]; rfl
theorem lN_let2 {x : Int64} {c : Nat} (h : 97 ≤ c) : x + lN c - 96 = x + lN (c - 96) := by
  rw [Int64.sub_eq_add_neg, Int64.add_assoc, ← Int64.sub_eq_add_neg, show (96 : Int64) = lN 96 from rfl, lN_sub (by omega)]
theorem m_word {u : gm_M} {t : List Nat} {b : Nat} (h : tR u t) (g : gT t) (h4 : gI u 1 4 = nI b) (h5 : gI u 1 5 = nI b) (h7 : gJ u 1 7 = 0) (hbl : b < t.length) :
    ok (gm_lp b_X11_nextToken_109 gm_FU u) (fun v => fr tmP u v ∧ gI v 1 5 = nI b ∧ gI v 1 4 = nI (b + rnl isL (t.drop b)) ∧ (rnl isL (t.drop b) ≤ 8 → gJ v 1 7 = nmM (((t.drop b).take (rnl isL (t.drop b))).map (fun c => c - 96)))) := by
  have gl := g.1
  have rl := run_le (f := isL) (show b ≤ t.length by omega)
  generalize hn : rnl isL (t.drop b) = n at *
  refine lp_ok n (fun j v => fr tmP u v ∧ gI v 1 5 = nI b ∧ gI v 1 4 = nI (b + j) ∧ (j ≤ 8 → gJ v 1 7 = nmM (((t.drop b).take j).map (fun c => c - 96)))) (by omega) ⟨fr_refl _ _, h5, h4, fun _ => by rw [h7]; rfl⟩ ?_ ?_
  · rintro j v hj ⟨h1, h2, h3, h6⟩
    have tv := tR_tm h h1
    obtain ⟨c, hc, ql⟩ := run_in (t := t) (b := b) (i := b + j) (f := isL) (by omega) (by omega)
    have hlt := (List.getElem?_eq_some_iff.mp hc).1
    have hc2 := sgA_some hc
    have c97 : 97 ≤ c ∧ c ≤ 122 := by simpa [isL] using ql
    have sa := m_signAt (i := b + j) tv g (by omega)
    rw [if_pos hlt, hc2] at sa
    rw [b_X11_nextToken_109]
    rw [h3, sa]
    simp only [Option.bind_some]
    rw [if_neg (show ¬ nI c < (97 : Int32) from fun z => by rw [show (97 : Int32) = nI 97 from rfl, nI_ltI (by omega) (by omega)] at z; omega), if_neg (show ¬ (122 : Int32) < nI c from fun z => by rw [show (122 : Int32) = nI 122 from rfl, nI_ltI (by omega) (by omega)] at z; omega), h2, nI_sub (by omega), show b + j - b = j by omega]
    by_cases q : 8 ≤ j
    · rw [if_pos (show (8 : Int32) ≤ nI j from (nI_leI (a := 8) (by omega) (by omega)).mpr q), j_X11_nextToken_175, gm_letE, h3]
      refine ok_some ⟨fr_sI h1 ⟨rfl, by omega, by omega⟩, (gI_ne (by omega)).trans h2, ?_, fun z => by omega⟩
      rw [gI_eq rfl rfl]; exact nI_add (b + j) 1
    · rw [if_neg (show ¬ (8 : Int32) ≤ nI j from fun z => q ((nI_leI (a := 8) (by omega) (by omega)).mp z)), gm_letE, j_X11_nextToken_175, gm_letE]
      have e4 : ∀ x, gI (sJ v 1 7 x) 1 4 = nI (b + j) := fun x => h3
      rw [e4]
      refine ok_some ⟨fr_sI (fr_sJ h1 ⟨rfl, by omega, by omega⟩) ⟨rfl, by omega, by omega⟩, (gI_ne (by omega)).trans h2, ?_, fun z => ?_⟩
      · rw [gI_eq rfl rfl]; exact nI_add (b + j) 1
      · show gJ (sJ v 1 7 _) 1 7 = _
        rw [gJ_eq rfl rfl, h6 (by omega), take_at hc, List.map_append, List.map_cons, List.map_nil, nmM_app, nI_l (by omega), lN_let2 c97.1]
  · rintro v ⟨h1, h2, h3, h6⟩
    have tv := tR_tm h h1
    have sa := m_signAt (i := b + n) tv g (by omega)
    rw [b_X11_nextToken_109]
    rw [h3, sa]
    simp only [Option.bind_some]
    by_cases q : b + n < t.length
    · have hs := sgA_lt g (b + n)
      have qe : isL (sgA t (b + n)) = false := run_end (t := t) (b := b) (f := isL) (by rw [hn]; exact sgA_at q)
      have qe2 : ¬ (97 ≤ sgA t (b + n) ∧ sgA t (b + n) ≤ 122) := by simpa [isL] using qe
      rw [if_pos q]
      by_cases z : sgA t (b + n) < 97
      · rw [if_pos (show nI (sgA t (b + n)) < (97 : Int32) from (nI_ltI (b := 97) (by omega) (by omega)).mpr z)]
        exact ok_some ⟨h1, h2, h3, h6⟩
      · rw [if_neg (show ¬ nI (sgA t (b + n)) < (97 : Int32) from fun w => z ((nI_ltI (b := 97) (by omega) (by omega)).mp w)), if_pos (show (122 : Int32) < nI (sgA t (b + n)) from (nI_ltI (a := 122) (by omega) (by omega)).mpr (by omega))]
        exact ok_some ⟨h1, h2, h3, h6⟩
    · rw [if_neg q, if_pos (show nI 0 < (97 : Int32) by decide)]
      exact ok_some ⟨h1, h2, h3, h6⟩
theorem m_num {u : gm_M} {t : List Nat} {b : Nat} (h : tR u t) (g : gT t) (h4 : gI u 1 4 = nI b) (h5 : gI u 1 5 = nI b) (h7 : gI u 1 8 = nI 0) (hbl : b < t.length) :
    ok (gm_lp b_X11_nextToken_224 gm_FU u) (fun v => fr tmP u v ∧ gI v 1 5 = nI b ∧ gI v 1 4 = nI (b + rnl isD' (t.drop b)) ∧ (rnl isD' (t.drop b) ≤ 4 → gI v 1 8 = nI (num ((t.drop b).take (rnl isD' (t.drop b)))))) := by
  have gl := g.1
  have rl := run_le (f := isD') (show b ≤ t.length by omega)
  generalize hn : rnl isD' (t.drop b) = n at *
  refine lp_ok n (fun j v => fr tmP u v ∧ gI v 1 5 = nI b ∧ gI v 1 4 = nI (b + j) ∧ (j ≤ 4 → gI v 1 8 = nI (num ((t.drop b).take j)))) (by omega) ⟨fr_refl _ _, h5, h4, fun _ => h7⟩ ?_ ?_
  · rintro j v hj ⟨h1, h2, h3, h6⟩
    have tv := tR_tm h h1
    obtain ⟨c, hc, ql⟩ := run_in (t := t) (b := b) (i := b + j) (f := isD') (by omega) (by omega)
    have hlt := (List.getElem?_eq_some_iff.mp hc).1
    have hc2 := sgA_some hc
    have c97 : 48 ≤ c ∧ c ≤ 57 := by simpa [isD'] using ql
    have sa := m_signAt (i := b + j) tv g (by omega)
    rw [if_pos hlt, hc2] at sa
    rw [b_X11_nextToken_224]
    rw [h3, sa]
    simp only [Option.bind_some]
    rw [if_neg (show ¬ nI c < (48 : Int32) from fun z => by rw [show (48 : Int32) = nI 48 from rfl, nI_ltI (by omega) (by omega)] at z; omega), if_neg (show ¬ (57 : Int32) < nI c from fun z => by rw [show (57 : Int32) = nI 57 from rfl, nI_ltI (by omega) (by omega)] at z; omega), h2, nI_sub (by omega), show b + j - b = j by omega]
    by_cases q : 4 ≤ j
    · rw [if_pos (show (4 : Int32) ≤ nI j from (nI_leI (a := 4) (by omega) (by omega)).mpr q), j_X11_nextToken_286, gm_letE, h3]
      refine ok_some ⟨fr_sI h1 ⟨rfl, by omega, by omega⟩, (gI_ne (by omega)).trans h2, ?_, fun z => by omega⟩
      rw [gI_eq rfl rfl]; exact nI_add (b + j) 1
    · rw [if_neg (show ¬ (4 : Int32) ≤ nI j from fun z => q ((nI_leI (a := 4) (by omega) (by omega)).mp z)), gm_letE, j_X11_nextToken_286, gm_letE]
      have e4 : ∀ x, gI (sI v 1 8 x) 1 4 = nI (b + j) := fun x => (gI_ne (by omega)).trans h3
      rw [e4]
      refine ok_some ⟨fr_sI (fr_sI h1 ⟨rfl, by omega, by omega⟩) ⟨rfl, by omega, by omega⟩, ?_, ?_, fun z => ?_⟩
      · rw [gI_ne (by omega), gI_ne (by omega)]; exact h2
      · rw [gI_eq rfl rfl]; exact nI_add (b + j) 1
      · rw [gI_ne (by omega), gI_eq rfl rfl, h6 (by omega), take_at hc, num_app, nI_dig c97.1]
  · rintro v ⟨h1, h2, h3, h6⟩
    have tv := tR_tm h h1
    have sa := m_signAt (i := b + n) tv g (by omega)
    rw [b_X11_nextToken_224]
    rw [h3, sa]
    simp only [Option.bind_some]
    by_cases q : b + n < t.length
    · have hs := sgA_lt g (b + n)
      have qe : isD' (sgA t (b + n)) = false := run_end (t := t) (b := b) (f := isD') (by rw [hn]; exact sgA_at q)
      have qe2 : ¬ (48 ≤ sgA t (b + n) ∧ sgA t (b + n) ≤ 57) := by simpa [isD'] using qe
      rw [if_pos q]
      by_cases z : sgA t (b + n) < 48
      · rw [if_pos (show nI (sgA t (b + n)) < (48 : Int32) from (nI_ltI (b := 48) (by omega) (by omega)).mpr z)]
        exact ok_some ⟨h1, h2, h3, h6⟩
      · rw [if_neg (show ¬ nI (sgA t (b + n)) < (48 : Int32) from fun w => z ((nI_ltI (b := 48) (by omega) (by omega)).mp w)), if_pos (show (57 : Int32) < nI (sgA t (b + n)) from (nI_ltI (a := 57) (by omega) (by omega)).mpr (by omega))]
        exact ok_some ⟨h1, h2, h3, h6⟩
    · rw [if_neg q, if_pos (show nI 0 < (48 : Int32) by decide)]
      exact ok_some ⟨h1, h2, h3, h6⟩
/-- comparisons of a sign with numbers -/
theorem lt_r {c k : Nat} (h : c < 1000) (hk : k < 1000) : (nI c < nI k) ↔ c < k := nI_ltI (by omega) (by omega)
theorem m_sg {c : Nat} (h : c < 127) (h1 : isL c = false) (h2 : isD' c = false) (v : gm_M) : j_X11_nextToken_322 (nI c) v = some (sI (sI v 1 4 (gI v 1 4 + 1)) 1 6 (nI (if isG c = true then 3 else 4))) := by
  simp only [j_X11_nextToken_322, gm_letE, j_X11_nextToken_345, j_X11_nextToken_363, j_X11_nextToken_367, j_X11_nextToken_368]
  have e1 : (nI c < (40 : Int32)) ↔ c < 40 := nI_ltI (b := 40) (by omega) (by omega)
  have e2 : (nI c ≤ (43 : Int32)) ↔ c ≤ 43 := nI_leI (b := 43) (by omega) (by omega)
  have e3 : (nI c = (45 : Int32)) ↔ c = 45 := nI_eq (b := 45) (by omega) (by omega)
  have e4 : (nI c < (59 : Int32)) ↔ c < 59 := nI_ltI (b := 59) (by omega) (by omega)
  have e5 : ((61 : Int32) < nI c) ↔ 61 < c := nI_ltI (a := 61) (by omega) (by omega)
  simp only [e1, e2, e3, e4, e5]
  have eg : isG c = decide (c = 40 ∨ c = 41 ∨ c = 60 ∨ c = 61 ∨ c = 43 ∨ c = 45 ∨ c = 42 ∨ c = 59) := rfl
  rw [eg]
  simp only [decide_eq_true_eq]
  by_cases q1 : c < 40
  · rw [if_pos q1, if_neg (by omega), if_pos (by omega), if_neg (by omega)]; rfl
  · rw [if_neg q1]
    by_cases q2 : c ≤ 43
    · rw [if_pos q2, if_pos (by omega)]; rfl
    · rw [if_neg q2]
      by_cases q3 : c = 45
      · rw [if_pos q3, if_pos (by omega)]; rfl
      · rw [if_neg q3]
        by_cases q4 : c < 59
        · rw [if_pos q4, if_neg (by omega)]; rfl
        · rw [if_neg q4]
          by_cases q5 : 61 < c
          · rw [if_pos q5, if_neg (by omega)]; rfl
          · rw [if_neg q5, if_pos (by omega)]; rfl
theorem m_next {u : gm_M} {t : List Nat} {p : Nat} (h : tR u t) (g : gT t) (hp : gI u 1 4 = nI p) (hpl : p ≤ t.length) : ok (f_X11_nextToken u) (fun v => cuM v t p ∧ fr tmP u v) := by
  have gl := g.1
  obtain ⟨b1, b2⟩ := kB_le hpl
  unfold f_X11_nextToken
  refine ok_bind (Q := fun v => gI v 1 4 = nI (kB t p) ∧ fr tmP u v)
    (lp_ok (kB t p - p) (fun j v => gI v 1 4 = nI (p + j) ∧ fr tmP u v) (by omega) ⟨hp, fr_refl _ _⟩ ?_ ?_) ?_
  · rintro j v hj ⟨h1, h2⟩
    have tv := tR_tm h h2
    obtain ⟨c, hc, ql⟩ := kB_in (t := t) (p := p) (i := p + j) (by omega) (by omega)
    have hlt := (List.getElem?_eq_some_iff.mp hc).1
    have e2 := tv.2 (p + j) c hc
    have hb : c = 10 ∨ c = 32 := by simpa [isB] using ql
    have fin : ok (j_X11_nextToken_39 v) (stp (fun v => gI v 1 4 = nI (p + (j + 1)) ∧ fr tmP u v) (fun v => gI v 1 4 = nI (kB t p) ∧ fr tmP u v)) := by
      rw [j_X11_nextToken_39, gm_letE, h1]
      refine ok_some ⟨?_, fr_sI h2 ⟨rfl, by omega, by omega⟩⟩
      rw [gI_eq rfl rfl]; exact nI_add (p + j) 1
    rw [b_X11_nextToken_0]
    rw [h1, tv.1, if_neg (fun z => by rw [nI_leI (by omega) (by omega)] at z; omega)]
    simp (disch := omega) only [ib_nI, ix_nI, if_pos, e2]
    rcases hb with rfl | rfl
    · rw [if_neg (show ¬ nI 10 = (32 : Int32) by decide), if_pos (show nI 10 = (10 : Int32) by decide)]
      exact fin
    · rw [if_pos (show nI 32 = (32 : Int32) by decide)]
      exact fin
  · rintro v ⟨h1, h2⟩
    have tv := tR_tm h h2
    rw [show p + (kB t p - p) = kB t p by omega] at h1
    rw [b_X11_nextToken_0]
    rw [h1, tv.1]
    by_cases q : kB t p < t.length
    · have hs := sgA_lt g (kB t p)
      have qe : isB (sgA t (kB t p)) = false := kB_end (sgA_at q)
      have qe2 : ¬ (sgA t (kB t p) = 10 ∨ sgA t (kB t p) = 32) := by simpa [isB] using qe
      rw [if_neg (fun z => by rw [nI_leI (by omega) (by omega)] at z; omega)]
      simp (disch := omega) only [ib_nI, ix_nI, if_pos, tv.2 _ _ (sgA_at q)]
      rw [if_neg (show ¬ nI (sgA t (kB t p)) = (32 : Int32) from fun z => qe2 (.inr ((nI_eq (b := 32) (by omega) (by omega)).mp z))), if_neg (show ¬ nI (sgA t (kB t p)) = (10 : Int32) from fun z => qe2 (.inl ((nI_eq (b := 10) (by omega) (by omega)).mp z)))]
      exact ok_some ⟨h1, h2⟩
    · rw [if_pos ((nI_leI (by omega) (by omega)).mpr (by omega))]
      exact ok_some ⟨h1, h2⟩
  · rintro v ⟨h1, h2⟩
    simp only [j_X11_nextToken_52, gm_letE]
    have f0 : fr tmP u (sI (sJ (sI v 1 5 (gI v 1 4)) 1 7 0) 1 8 0) := fr_sI (fr_sJ (fr_sI h2 ⟨rfl, by omega, by omega⟩) ⟨rfl, by omega, by omega⟩) ⟨rfl, by omega, by omega⟩
    have e4 : gI (sI (sJ (sI v 1 5 (gI v 1 4)) 1 7 0) 1 8 0) 1 4 = nI (kB t p) := by
      rw [gI_ne (by omega)]
      show gI (sI v 1 5 (gI v 1 4)) 1 4 = _
      rw [gI_ne (by omega)]; exact h1
    have e5 : gI (sI (sJ (sI v 1 5 (gI v 1 4)) 1 7 0) 1 8 0) 1 5 = nI (kB t p) := by
      rw [gI_ne (by omega)]
      show gI (sI v 1 5 (gI v 1 4)) 1 5 = _
      rw [gI_eq rfl rfl]; exact h1
    have e7 : gJ (sI (sJ (sI v 1 5 (gI v 1 4)) 1 7 0) 1 8 0) 1 7 = 0 := by
      show gJ (sJ (sI v 1 5 (gI v 1 4)) 1 7 0) 1 7 = 0
      exact gJ_eq rfl rfl
    have e8 : gI (sI (sJ (sI v 1 5 (gI v 1 4)) 1 7 0) 1 8 0) 1 8 = nI 0 := gI_eq rfl rfl
    generalize sI (sJ (sI v 1 5 (gI v 1 4)) 1 7 0) 1 8 0 = u0 at *
    have t0 := tR_tm h f0
    rw [e4, t0.1]
    by_cases q : kB t p < t.length
    · have hs := sgA_lt g (kB t p)
      rw [if_neg (fun z => by rw [nI_eq (by omega) (by omega)] at z; omega)]
      simp (disch := omega) only [ib_nI, ix_nI, if_pos, t0.2 _ _ (sgA_at q)]
      cases ql : isL (sgA t (kB t p))
      · have no97 : ¬ (97 ≤ sgA t (kB t p) ∧ sgA t (kB t p) ≤ 122) := by simpa [isL] using ql
        have e212 : (if nI (sgA t (kB t p)) < (97 : Int32) then j_X11_nextToken_212 (nI (sgA t (kB t p))) u0 else if (122 : Int32) < nI (sgA t (kB t p)) then j_X11_nextToken_212 (nI (sgA t (kB t p))) u0 else (gm_lp b_X11_nextToken_109 gm_FU u0).bind fun o => j_X11_nextToken_188 o) = j_X11_nextToken_212 (nI (sgA t (kB t p))) u0 := by
          by_cases z : sgA t (kB t p) < 97
          · rw [if_pos (show nI (sgA t (kB t p)) < (97 : Int32) from (nI_ltI (b := 97) (by omega) (by omega)).mpr z)]
          · rw [if_neg (show ¬ nI (sgA t (kB t p)) < (97 : Int32) from fun w => z ((nI_ltI (b := 97) (by omega) (by omega)).mp w)), if_pos (show (122 : Int32) < nI (sgA t (kB t p)) from (nI_ltI (a := 122) (by omega) (by omega)).mpr (by omega))]
        refine Eq.mpr (congrArg (fun x => ok x (fun v => cuM v t p ∧ fr tmP u v)) e212) ?_
        rw [j_X11_nextToken_212]
        cases qd : isD' (sgA t (kB t p))
        · have no48 : ¬ (48 ≤ sgA t (kB t p) ∧ sgA t (kB t p) ≤ 57) := by simpa [isD'] using qd
          have e322 : (if nI (sgA t (kB t p)) < (48 : Int32) then j_X11_nextToken_322 (nI (sgA t (kB t p))) u0 else if (57 : Int32) < nI (sgA t (kB t p)) then j_X11_nextToken_322 (nI (sgA t (kB t p))) u0 else (gm_lp b_X11_nextToken_224 gm_FU u0).bind fun o => j_X11_nextToken_299 o) = j_X11_nextToken_322 (nI (sgA t (kB t p))) u0 := by
            by_cases z : sgA t (kB t p) < 48
            · rw [if_pos (show nI (sgA t (kB t p)) < (48 : Int32) from (nI_ltI (b := 48) (by omega) (by omega)).mpr z)]
            · rw [if_neg (show ¬ nI (sgA t (kB t p)) < (48 : Int32) from fun w => z ((nI_ltI (b := 48) (by omega) (by omega)).mp w)), if_pos (show (57 : Int32) < nI (sgA t (kB t p)) from (nI_ltI (a := 57) (by omega) (by omega)).mpr (by omega))]
          refine Eq.mpr (congrArg (fun x => ok x (fun v => cuM v t p ∧ fr tmP u v)) e322) ?_
          rw [m_sg hs ql qd, e4]
          have eN : kN t p = 1 := by unfold kN; rw [ql, qd]; rfl
          have eS : kS t p = if isG (sgA t (kB t p)) = true then 3 else 4 := by unfold kS; rw [if_pos q, ql, qd]; rfl
          rw [← eS]
          have ff : fr tmP u (sI (sI u0 1 4 (nI (kB t p) + 1)) 1 6 (nI (kS t p))) := fr_sI (fr_sI f0 ⟨rfl, by omega, by omega⟩) ⟨rfl, by omega, by omega⟩
          refine ok_some ⟨⟨tR_tm h ff, ?_, gI_eq rfl rfl, fun _ => ?_, fun z => ?_, fun z => ?_⟩, ff⟩
          · rw [gI_ne (by omega), gI_ne (by omega)]; exact e5
          · rw [gI_ne (by omega), gI_eq rfl rfl]
            unfold kE
            rw [eN]
            exact nI_add _ 1
          · rw [eS] at z; split at z <;> omega
          · rw [eS] at z; split at z <;> omega
        · have is48 : 48 ≤ sgA t (kB t p) ∧ sgA t (kB t p) ≤ 57 := by simpa [isD'] using qd
          rw [if_neg (show ¬ nI (sgA t (kB t p)) < (48 : Int32) from fun w => by rw [show (48 : Int32) = nI 48 from rfl, nI_ltI (by omega) (by omega)] at w; omega), if_neg (show ¬ (57 : Int32) < nI (sgA t (kB t p)) from fun w => by rw [show (57 : Int32) = nI 57 from rfl, nI_ltI (by omega) (by omega)] at w; omega)]
          have eN : kN t p = rnl isD' (t.drop (kB t p)) := by unfold kN; rw [ql, qd]; rfl
          have eS : kS t p = if kN t p ≤ 4 then 2 else 4 := by unfold kS; rw [if_pos q, ql, qd]; rfl
          refine ok_bind (m_num t0 g e4 e5 e8 q) ?_
          rintro w ⟨w1, w2, w3, w4⟩
          rw [← eN] at w3 w4
          have rl := run_le (f := isD') (show kB t p ≤ t.length by omega)
          rw [← eN] at rl
          have fin : ∀ s : Nat, kS t p = s → (s = 2 → kN t p ≤ 4) → s ≠ 1 → ok (j_X11_nextToken_318 (nI s) w) (fun v => cuM v t p ∧ fr tmP u v) := by
            intro s es hs2 hs1
            rw [j_X11_nextToken_318, gm_letE]
            have ff : fr tmP u (sI w 1 6 (nI s)) := fr_sI (fr_trans f0 w1) ⟨rfl, by omega, by omega⟩
            refine ok_some ⟨⟨tR_tm h ff, (gI_ne (by omega)).trans w2, ?_, fun _ => (gI_ne (by omega)).trans w3, fun z => by omega, fun z => ?_⟩, ff⟩
            · rw [gI_eq rfl rfl, es]
            · have e2 : kV t p = num (kL t p) := by unfold kV; rw [if_pos z]
              rw [gI_ne (by omega), e2]
              exact w4 (hs2 (by omega))
          rw [j_X11_nextToken_299, w3, w2, nI_sub (by omega), show kB t p + kN t p - kB t p = kN t p by omega]
          by_cases z : kN t p ≤ 4
          · rw [if_pos (show nI (kN t p) ≤ (4 : Int32) from (nI_leI (b := 4) (by omega) (by omega)).mpr z)]
            exact fin 2 (by rw [eS, if_pos z]) (fun _ => z) (by omega)
          · rw [if_neg (show ¬ nI (kN t p) ≤ (4 : Int32) from fun w => z ((nI_leI (b := 4) (by omega) (by omega)).mp w))]
            exact fin 4 (by rw [eS, if_neg z]) (fun w => by omega) (by omega)
      · have is97 : 97 ≤ sgA t (kB t p) ∧ sgA t (kB t p) ≤ 122 := by simpa [isL] using ql
        rw [if_neg (show ¬ nI (sgA t (kB t p)) < (97 : Int32) from fun w => by rw [show (97 : Int32) = nI 97 from rfl, nI_ltI (by omega) (by omega)] at w; omega), if_neg (show ¬ (122 : Int32) < nI (sgA t (kB t p)) from fun w => by rw [show (122 : Int32) = nI 122 from rfl, nI_ltI (by omega) (by omega)] at w; omega)]
        have eN : kN t p = rnl isL (t.drop (kB t p)) := by unfold kN; rw [ql]; rfl
        have eS : kS t p = if kN t p ≤ 8 then 1 else 4 := by unfold kS; rw [if_pos q, ql]; rfl
        refine ok_bind (m_word t0 g e4 e5 e7 q) ?_
        rintro w ⟨w1, w2, w3, w4⟩
        rw [← eN] at w3 w4
        have rl := run_le (f := isL) (show kB t p ≤ t.length by omega)
        rw [← eN] at rl
        have fin : ∀ s : Nat, kS t p = s → (s = 1 → kN t p ≤ 8) → s ≠ 2 → ok (j_X11_nextToken_208 (nI s) w) (fun v => cuM v t p ∧ fr tmP u v) := by
          intro s es hs2 hs1
          rw [j_X11_nextToken_208, gm_letE]
          have ff : fr tmP u (sI w 1 6 (nI s)) := fr_sI (fr_trans f0 w1) ⟨rfl, by omega, by omega⟩
          refine ok_some ⟨⟨tR_tm h ff, (gI_ne (by omega)).trans w2, ?_, fun _ => (gI_ne (by omega)).trans w3, fun z => ?_, fun z => by omega⟩, ff⟩
          · rw [gI_eq rfl rfl, es]
          · exact w4 (hs2 (by omega))
        rw [j_X11_nextToken_188, w3, w2, nI_sub (by omega), show kB t p + kN t p - kB t p = kN t p by omega]
        by_cases z : kN t p ≤ 8
        · rw [if_pos (show nI (kN t p) ≤ (8 : Int32) from (nI_leI (b := 8) (by omega) (by omega)).mpr z)]
          exact fin 1 (by rw [eS, if_pos z]) (fun _ => z) (by omega)
        · rw [if_neg (show ¬ nI (kN t p) ≤ (8 : Int32) from fun w => z ((nI_leI (b := 8) (by omega) (by omega)).mp w))]
          exact fin 4 (by rw [eS, if_neg z]) (fun w => by omega) (by omega)
    · have eS : kS t p = 0 := by unfold kS; rw [if_neg q]
      have eb : kB t p = t.length := by omega
      rw [if_pos (by rw [eb])]
      have ff : fr tmP u (sI u0 1 6 0) := fr_sI f0 ⟨rfl, by omega, by omega⟩
      refine ok_some ⟨⟨tR_tm h ff, (gI_ne (by omega)).trans e5, ?_, fun z => absurd eS z, fun z => by omega, fun z => by omega⟩, ff⟩
      rw [gI_eq rfl rfl, eS]; rfl
theorem kS_le (t : List Nat) (p : Nat) : kS t p ≤ 4 := by
  unfold kS
  split
  · split
    · split <;> omega
    · split
      · split <;> omega
      · split <;> omega
  · omega
theorem kE_le {t : List Nat} {p : Nat} (h : p ≤ t.length) (hs : kS t p ≠ 0) : p < kE t p ∧ kE t p ≤ t.length ∧ kB t p < kE t p := by
  obtain ⟨b1, b2⟩ := kB_le h
  have q : kB t p < t.length := by
    rcases Nat.lt_or_ge (kB t p) t.length with z | z
    · exact z
    · exact absurd (by unfold kS; rw [if_neg (by omega)]) hs
  have one : ∀ f : Nat → Bool, f (sgA t (kB t p)) = true → 1 ≤ rnl f (t.drop (kB t p)) := fun f hf => by
    rcases Nat.eq_zero_or_pos (rnl f (t.drop (kB t p))) with z | z
    · have := run_end (t := t) (b := kB t p) (f := f) (c := sgA t (kB t p)) (by rw [z, Nat.add_zero]; exact sgA_at q)
      rw [hf] at this
      cases this
    · exact z
  have l1 := run_le (t := t) (b := kB t p) (f := isL) b2
  have l2 := run_le (t := t) (b := kB t p) (f := isD') b2
  unfold kE kN
  by_cases ql : isL (sgA t (kB t p)) = true
  · have := one isL ql
    rw [if_pos ql]; omega
  · rw [if_neg ql]
    by_cases qd : isD' (sgA t (kB t p)) = true
    · have := one isD' qd
      rw [if_pos qd]; omega
    · rw [if_neg qd]; omega
theorem kV_2 {t : List Nat} {p : Nat} (h : kS t p = 2) : kV t p ≤ 9999 := by
  have hn : kN t p ≤ 4 ∧ ∀ c ∈ kL t p, c ≤ 57 := by
    unfold kS at h
    by_cases q : kB t p < t.length
    · rw [if_pos q] at h
      by_cases ql : isL (sgA t (kB t p)) = true
      · rw [if_pos ql] at h; split at h <;> omega
      · rw [if_neg ql] at h
        by_cases qd : isD' (sgA t (kB t p)) = true
        · rw [if_pos qd] at h
          have eN : kN t p = rnl isD' (t.drop (kB t p)) := by unfold kN; rw [if_neg ql, if_pos qd]
          refine ⟨by split at h <;> omega, fun c hc => ?_⟩
          unfold kL at hc
          obtain ⟨j, hj⟩ := List.mem_iff_getElem?.mp hc
          rw [List.getElem?_take] at hj
          by_cases w : j < kN t p
          · rw [if_pos w] at hj
            obtain ⟨c', hc', qc⟩ := rnl_in isD' (t.drop (kB t p)) j (by omega)
            rw [hj] at hc'
            cases hc'
            have : 48 ≤ c ∧ c ≤ 57 := by simpa [isD'] using qc
            omega
          · rw [if_neg w] at hj; cases hj
        · rw [if_neg qd] at h; split at h <;> omega
    · rw [if_neg q] at h; omega
  have hv : kV t p = num (kL t p) := by unfold kV; rw [if_pos h]
  have hl : (kL t p).length ≤ 4 := by
    unfold kL
    rw [List.length_take]; omega
  rw [hv]
  obtain ⟨-, hc⟩ := hn
  generalize kL t p = l at *
  rcases l with _ | ⟨a, _ | ⟨b, _ | ⟨c, _ | ⟨d, _ | ⟨e, l⟩⟩⟩⟩⟩
  · simp [num]
  · have h1 := hc a (by simp)
    simp only [num, List.foldl_cons, List.foldl_nil]; omega
  · have h1 := hc a (by simp)
    have h2 := hc b (by simp)
    simp only [num, List.foldl_cons, List.foldl_nil]; omega
  · have h1 := hc a (by simp)
    have h2 := hc b (by simp)
    have h3 := hc c (by simp)
    simp only [num, List.foldl_cons, List.foldl_nil]; omega
  · have h1 := hc a (by simp)
    have h2 := hc b (by simp)
    have h3 := hc c (by simp)
    have h4 := hc d (by simp)
    simp only [num, List.foldl_cons, List.foldl_nil]; omega
  · simp only [List.length_cons] at hl; omega
theorem kW_1 {t : List Nat} {p : Nat} (h : kS t p = 1) : wrd (kW t p) := by
  unfold kS at h
  by_cases q : kB t p < t.length
  · rw [if_pos q] at h
    by_cases ql : isL (sgA t (kB t p)) = true
    · rw [if_pos ql] at h
      have n8 : kN t p ≤ 8 := by split at h <;> omega
      have eN : kN t p = rnl isL (t.drop (kB t p)) := by unfold kN; rw [if_pos ql]
      have rl := run_le (t := t) (b := kB t p) (f := isL) (by omega)
      have n1 : 1 ≤ kN t p := by
        rcases Nat.eq_zero_or_pos (kN t p) with z | z
        · have := run_end (t := t) (b := kB t p) (f := isL) (c := sgA t (kB t p)) (by rw [← eN, z, Nat.add_zero]; exact sgA_at q)
          rw [ql] at this
          cases this
        · exact z
      have hl : (kL t p).length = kN t p := by
        unfold kL
        rw [List.length_take, List.length_drop]; omega
      refine ⟨fun z => ?_, ?_, fun c hc => ?_⟩
      · have : (kW t p).length = 0 := by rw [z]; rfl
        unfold kW at this
        rw [List.length_map] at this
        omega
      · unfold kW
        rw [List.length_map]; omega
      · unfold kW at hc
        obtain ⟨d, hd, rfl⟩ := List.mem_map.mp hc
        unfold kL at hd
        obtain ⟨j, hj⟩ := List.mem_iff_getElem?.mp hd
        rw [List.getElem?_take] at hj
        by_cases w : j < kN t p
        · rw [if_pos w] at hj
          obtain ⟨c', hc', qc⟩ := rnl_in isL (t.drop (kB t p)) j (by omega)
          rw [hj] at hc'
          cases hc'
          have : 97 ≤ d ∧ d ≤ 122 := by simpa [isL] using qc
          omega
        · rw [if_neg w] at hj; cases hj
    · rw [if_neg ql] at h
      split at h
      · split at h <;> omega
      · split at h <;> omega
  · rw [if_neg q] at h; omega
