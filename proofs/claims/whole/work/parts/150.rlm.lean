/-! realm: lines, step by step -/
abbrev pT : Type := Nat ⊕ Nat
def bX (x : pT) (f : Nat → pT) : pT := match x with
  | .inl F => .inl F
  | .inr p => f p
def sWd (t : List Nat) (k p : Nat) : pT := if tWd t p = k then .inr (kE t p) else .inl (flt 1 t p)
def sSg (t : List Nat) (c p : Nat) : pT := if tSg t p = c then .inr (kE t p) else .inl (flt 1 t p)
def sNm (t : List Nat) (p : Nat) : pT := if 19 ≤ tWd t p ∧ tWd t p ≤ 23 then .inr (kE t p) else .inl (flt 1 t p)
def sKd (t : List Nat) (p : Nat) : pT := if 12 ≤ tWd t p ∧ tWd t p ≤ 15 then .inr (kE t p) else .inl (flt 1 t p)
def sNu (t : List Nat) (lo hi p : Nat) : pT := if kS t p ≠ 2 then .inl (flt 1 t p) else if ¬ (lo ≤ kV t p ∧ kV t p ≤ hi) then .inl (flt 4 t p) else .inr (kE t p)
def CS (t : List Nat) (u : gm_M) (x : pT) : Prop := (∃ F, x = .inl F ∧ gI u 2 1 = nI F ∧ 1 ≤ F ∧ F ≤ 17000) ∨ (∃ p, x = .inr p ∧ cuC u t p ∧ gI u 2 1 = 0 ∧ p ≤ t.length)
def tk4 : Nat → Nat → Prop := fun a j => tkP a j ∨ (a = 2 ∧ j = 1)
theorem tk4_tk {u v : gm_M} (h : fr tkP u v) : fr tk4 u v := fr_mono h (fun _ _ z => .inl z)
theorem tk4_4 {u : gm_M} {x : Int32} : fr tk4 u (sI u 2 1 x) := fr_sI (fr_refl _ _) (.inr ⟨rfl, rfl⟩)
theorem CS_ne {t : List Nat} {u : gm_M} {F : Nat} (h1 : gI u 2 1 = nI F) (h2 : 1 ≤ F) (h3 : F ≤ 17000) : ¬ gI u 2 1 = 0 := by rw [h1]; exact flt_ne h2 h3
section
variable {t : List Nat} {u : gm_M} {x : pT}
theorem CS_flt {u : gm_M} {p k : Nat} (gt : gT t) (hp : p ≤ t.length) (hk : 1 ≤ k) (hk2 : k ≤ 5) : CS t (sI u 2 1 (nI (flt k t p))) (.inl (flt k t p)) := by
  have hb := flt_b hk hk2 hp gt
  exact .inl ⟨_, rfl, gI_eq rfl rfl, hb.1, hb.2⟩
theorem cs_word (gt : gT t) (h : CS t u x) {k : Nat} (hk : k < 23) : ok (f_X8_takeWord (nI k) u) (fun v => CS t v (bX x (sWd t k)) ∧ fr tk4 u v) := by
  rcases h with ⟨F, rfl, h1, h2, h3⟩ | ⟨p, rfl, h1, h2, h3⟩
  · rw [cf_takeWord (CS_ne (t := t) h1 h2 h3)]
    exact ok_some ⟨.inl ⟨F, rfl, h1, h2, h3⟩, fr_refl _ _⟩
  · show ok _ (fun v => CS t v (sWd t k p) ∧ _)
    unfold sWd
    rcases co_word h1 gt h3 h2 hk with ⟨q, hok⟩ | ⟨q, e⟩
    · rw [if_pos q]
      refine ok_mono hok ?_
      rintro v ⟨v1, v2⟩
      exact ⟨.inr ⟨_, rfl, v1, (fr_I v2 (by unfold tkP; omega)).trans h2, kE_ok h3 (by have := wd_S (t := t) (p := p) (by omega); omega)⟩, tk4_tk v2⟩
    · rw [if_neg q, e]
      exact ok_some ⟨CS_flt gt h3 (by omega) (by omega), tk4_4⟩
theorem cs_sign (gt : gT t) (h : CS t u x) {c : Nat} (hc : 0 < c) (hc2 : c < 200) : ok (f_X8_takeSign (nI c) u) (fun v => CS t v (bX x (sSg t c)) ∧ fr tk4 u v) := by
  rcases h with ⟨F, rfl, h1, h2, h3⟩ | ⟨p, rfl, h1, h2, h3⟩
  · rw [cf_takeSign (CS_ne (t := t) h1 h2 h3)]
    exact ok_some ⟨.inl ⟨F, rfl, h1, h2, h3⟩, fr_refl _ _⟩
  · show ok _ (fun v => CS t v (sSg t c p) ∧ _)
    unfold sSg
    rcases co_sign h1 gt h3 h2 hc hc2 with ⟨q, hok⟩ | ⟨q, e⟩
    · rw [if_pos q]
      refine ok_mono hok ?_
      rintro v ⟨v1, v2⟩
      exact ⟨.inr ⟨_, rfl, v1, (fr_I v2 (by unfold tkP; omega)).trans h2, kE_ok h3 (sg_S (by omega))⟩, tk4_tk v2⟩
    · rw [if_neg q, e]
      exact ok_some ⟨CS_flt gt h3 (by omega) (by omega), tk4_4⟩
theorem cs_name (gt : gT t) (h : CS t u x) : ok (f_X8_takeName u) (fun o => (∀ p, x = .inr p → kS t p = 1 → o.1 = nmC (kW t p)) ∧ CS t o.2 (bX x (sNm t)) ∧ fr tk4 u o.2) := by
  rcases h with ⟨F, rfl, h1, h2, h3⟩ | ⟨p, rfl, h1, h2, h3⟩
  · rw [cf_takeName (CS_ne (t := t) h1 h2 h3)]
    exact ok_some ⟨(fun p z => by cases z), .inl ⟨F, rfl, h1, h2, h3⟩, fr_refl _ _⟩
  · show ok _ (fun o : Int64 × gm_M => _ ∧ CS t o.2 (sNm t p) ∧ _)
    unfold sNm
    rcases co_name h1 gt h3 h2 with ⟨q, hok⟩ | ⟨q, e⟩
    · rw [if_pos (show 19 ≤ tWd t p ∧ tWd t p ≤ 23 from q)]
      refine ok_mono hok ?_
      rintro v ⟨v0, v1, v2⟩
      refine ⟨fun p' z _ => ?_, .inr ⟨_, rfl, v1, (fr_I v2 (by unfold tkP; omega)).trans h2, kE_ok h3 ?_⟩, tk4_tk v2⟩
      · simp only [Sum.inr.injEq] at z; rw [← z]; exact v0
      · have := wd_S (t := t) (p := p) (by unfold nmd at q; omega); omega
    · rw [if_neg (show ¬ (19 ≤ tWd t p ∧ tWd t p ≤ 23) from q), e]
      refine ok_some ⟨fun p' z hk => ?_, CS_flt gt h3 (by omega) (by omega), tk4_4⟩
      simp only [Sum.inr.injEq] at z
      subst z
      exact (h1.2.2.2.2.1 hk).1
theorem cs_kind (gt : gT t) (h : CS t u x) : ok (f_X8_takeKind u) (fun o => (∀ p, x = .inr p → 12 ≤ tWd t p ∧ tWd t p ≤ 15 → o.1 = nI (tWd t p - 12)) ∧ CS t o.2 (bX x (sKd t)) ∧ fr tk4 u o.2) := by
  unfold f_X8_takeKind
  rw [gm_letE]
  rcases h with ⟨F, rfl, h1, h2, h3⟩ | ⟨p, rfl, h1, h2, h3⟩
  · have e37 : ∀ a b : Int32, j_X8_takeKind_37 a b u = some (a, u) := fun a b => by
      unfold j_X8_takeKind_37
      rw [cf_take (CS_ne (t := t) h1 h2 h3)]; rfl
    have e36 : ∀ a : Int32, j_X8_takeKind_36 a u = some (a, u) := fun a => e37 a 0
    simp only [e36, e37, ite_self]
    exact ok_some ⟨(fun p z => by cases z), .inl ⟨F, rfl, h1, h2, h3⟩, fr_refl _ _⟩
  · show ok _ (fun o : Int32 × gm_M => _ ∧ CS t o.2 (sKd t p) ∧ _)
    have hs := kS_le t p
    have bad : ∀ a : Int32, ¬ (12 ≤ tWd t p ∧ tWd t p ≤ 15) → ok (j_X8_takeKind_36 a u) (fun o => (∀ p', (Sum.inr p : pT) = .inr p' → 12 ≤ tWd t p' ∧ tWd t p' ≤ 15 → o.1 = nI (tWd t p' - 12)) ∧ CS t o.2 (sKd t p) ∧ fr tk4 u o.2) := by
      intro a q
      unfold j_X8_takeKind_36 j_X8_takeKind_37 sKd
      have e : f_X8_take (0 : Int32) u = some (sI u 2 1 (nI (flt 1 t p))) := co_take0 h1 gt h3 h2
      rw [e, if_neg q]
      exact ok_some ⟨fun p' z w => (by simp only [Sum.inr.injEq] at z; subst z; exact absurd w q), CS_flt gt h3 (by omega) (by omega), tk4_4⟩
    rw [h1.2.2.1]
    by_cases q : kS t p = 1
    · have hl := wIx_le (kW t p)
      rw [← tWd_1 q] at hl
      rw [if_pos (show nI (kS t p) = (1 : Int32) from by rw [q]; rfl), c_val h1 q]
      unfold pv
      by_cases z23 : tWd t p = 23
      · rw [if_pos z23, if_pos (by decide)]
        exact bad _ (by omega)
      · rw [if_neg z23]
        have e12 : (nI (tWd t p) - (12 : Int32)).toInt = (tWd t p : Int) - 12 := nI_subi (b := 12) (by omega) (by omega)
        by_cases q1 : tWd t p < 12
        · have z0 : (0 : Int32).toInt = 0 := by decide
          have lt0 : nI (tWd t p) - (12 : Int32) < 0 := by
            rw [Int32.lt_iff_toInt_lt, e12]
            omega
          rw [if_pos lt0]
          exact bad _ (by omega)
        · have es : nI (tWd t p) - (12 : Int32) = nI (tWd t p - 12) := nI_sub (b := 12) (by omega)
          rw [es, if_neg (nI_pos (by omega))]
          by_cases q2 : 15 < tWd t p
          · rw [if_pos (show (3 : Int32) < nI (tWd t p - 12) from (nI_ltI (a := 3) (by omega) (by omega)).mpr (by omega))]
            exact bad _ (by omega)
          · rw [if_neg (show ¬ (3 : Int32) < nI (tWd t p - 12) from fun z => by rw [show (3 : Int32) = nI 3 from rfl, nI_ltI (by omega) (by omega)] at z; omega)]
            unfold j_X8_takeKind_37 sKd
            rw [if_pos (show 12 ≤ tWd t p ∧ tWd t p ≤ 15 by omega)]
            have e : ok (f_X8_take (1 : Int32) u) _ := co_take1 h1 gt h3 h2 (by omega)
            refine ok_bind e ?_
            rintro v ⟨v1, v2⟩
            exact ok_some ⟨fun p' z _ => (by simp only [Sum.inr.injEq] at z; rw [← z]), .inr ⟨_, rfl, v1, (fr_I v2 (by unfold tkP; omega)).trans h2, kE_ok h3 (by omega)⟩, tk4_tk v2⟩
    · rw [if_neg (show ¬ nI (kS t p) = (1 : Int32) from fun z => q ((nI_eq (b := 1) (by omega) (by omega)).mp z))]
      have := tWd_0 q
      exact bad _ (by omega)
theorem cs_num (gt : gT t) (h : CS t u x) {lo hi : Nat} (hl : lo < 10000) (hh : hi < 10000) : ok (f_X8_takeNumber (nI lo) (nI hi) u) (fun o => (∀ p p', x = .inr p → sNu t lo hi p = .inr p' → o.1 = nI (kV t p)) ∧ CS t o.2 (bX x (sNu t lo hi)) ∧ fr tk4 u o.2) := by
  rcases h with ⟨F, rfl, h1, h2, h3⟩ | ⟨p, rfl, h1, h2, h3⟩
  · rw [cf_takeNumber (CS_ne (t := t) h1 h2 h3)]
    exact ok_some ⟨(fun p p' z => by cases z), .inl ⟨F, rfl, h1, h2, h3⟩, fr_refl _ _⟩
  · show ok _ (fun o : Int32 × gm_M => _ ∧ CS t o.2 (sNu t lo hi p) ∧ _)
    rcases co_number h1 gt h3 h2 hl hh with ⟨q1, q2, q3, hok⟩ | ⟨q1, e⟩ | ⟨q1, q2, e⟩
    · have es : sNu t lo hi p = .inr (kE t p) := by unfold sNu; rw [if_neg (fun z => z q1), if_neg (fun z => z ⟨q2, q3⟩)]
      rw [es]
      refine ok_mono hok ?_
      rintro v ⟨v0, v1, v2⟩
      exact ⟨fun p' p'' z _ => (by simp only [Sum.inr.injEq] at z; rw [← z]; exact v0), .inr ⟨_, rfl, v1, (fr_I v2 (by unfold tkP; omega)).trans h2, kE_ok h3 (by omega)⟩, tk4_tk v2⟩
    · have es : sNu t lo hi p = .inl (flt 1 t p) := by unfold sNu; rw [if_pos q1]
      rw [es, e]
      exact ok_some ⟨fun p' p'' z w => (by simp only [Sum.inr.injEq] at z; subst z; rw [es] at w; cases w), CS_flt gt h3 (by omega) (by omega), tk4_4⟩
    · have es : sNu t lo hi p = .inl (flt 4 t p) := by unfold sNu; rw [if_neg (fun z => z q1), if_pos q2]
      rw [es, e]
      exact ok_some ⟨fun p' p'' z w => (by simp only [Sum.inr.injEq] at z; subst z; rw [es] at w; cases w), CS_flt gt h3 (by omega) (by omega), tk4_4⟩
end
/-! the draft of a realm -/
def rC0 (u : gm_M) (r : Nat) (R : pR) : Prop := (gI u r 0 = nI (rN R) ∧ gI u r 5 = nI (rYear R) ∧ gI u r 6 = nI (rCandle R) ∧ gI u r 7 = nI (rLives R)) ∧
  (∀ p, p < rN R → gJ u (r + 1) p = nmC (ps R p).1 ∧ gI u (r + 2) p = nI (rKind R p) ∧ gI u (r + 3) p = nI (rBorn R p) ∧ gI u (r + 4) p = nI (rPlea R p))
theorem rC0_fr {P : Nat → Nat → Prop} {u v : gm_M} {r : Nat} {R : pR} (h : rC0 u r R) (f : fr P u v) (hp : ∀ a j, r ≤ a → a ≤ r + 4 → ¬ P a j) : rC0 v r R := by
  obtain ⟨⟨h0, h1, h2, h3⟩, h4⟩ := h
  refine ⟨⟨(fr_I f (hp r 0 (by omega) (by omega))).trans h0, (fr_I f (hp r 5 (by omega) (by omega))).trans h1, (fr_I f (hp r 6 (by omega) (by omega))).trans h2, (fr_I f (hp r 7 (by omega) (by omega))).trans h3⟩, fun p hpp => ?_⟩
  obtain ⟨a1, a2, a3, a4⟩ := h4 p hpp
  exact ⟨(fr_J f (hp _ _ (by omega) (by omega))).trans a1, (fr_I f (hp _ _ (by omega) (by omega))).trans a2, (fr_I f (hp _ _ (by omega) (by omega))).trans a3, (fr_I f (hp _ _ (by omega) (by omega))).trans a4⟩
def rD (u : gm_M) (R : pR) : Prop := (gI u 3 4 = nI (rN R) ∧ gI u 3 5 = nI (rYear R) ∧ gI u 3 6 = nI (rCandle R) ∧ gI u 3 7 = nI (rLives R)) ∧
  (∀ p, p < rN R → gJ u 4 (6 + p) = nmM (ps R p).1 ∧ gI u 5 (6 + p) = nI (rKind R p) ∧ gI u 6 (6 + p) = nI (rBorn R p) ∧ gI u 7 (6 + p) = nI (rPlea R p))
theorem rD_fr {P : Nat → Nat → Prop} {u v : gm_M} {R : pR} (h : rD u R) (hn : rN R ≤ 6) (f : fr P u v) (hp : ∀ a j, 3 ≤ a → a ≤ 7 → ¬ P a j) : rD v R := by
  obtain ⟨⟨h0, h1, h2, h3⟩, h4⟩ := h
  refine ⟨⟨(fr_I f (hp _ _ (by omega) (by omega))).trans h0, (fr_I f (hp _ _ (by omega) (by omega))).trans h1, (fr_I f (hp _ _ (by omega) (by omega))).trans h2, (fr_I f (hp _ _ (by omega) (by omega))).trans h3⟩, fun p hpp => ?_⟩
  obtain ⟨a1, a2, a3, a4⟩ := h4 p hpp
  exact ⟨(fr_J f (hp _ _ (by omega) (by omega))).trans a1, (fr_I f (hp _ _ (by omega) (by omega))).trans a2, (fr_I f (hp _ _ (by omega) (by omega))).trans a3, (fr_I f (hp _ _ (by omega) (by omega))).trans a4⟩
/-- a person more -/
def rAdd (R : pR) (P : pP) : pR := (R.1 ++ [P], R.2)
theorem rAdd_n (R : pR) (P : pP) : rN (rAdd R P) = rN R + 1 := by simp [rN, rAdd]
theorem rAdd_lt {R : pR} {P : pP} {q : Nat} (h : q < rN R) : ps (rAdd R P) q = ps R q := by
  unfold ps rAdd
  rw [List.getElem?_append_left h]
theorem rAdd_eq {R : pR} {P : pP} : ps (rAdd R P) (rN R) = P := by
  unfold ps rAdd rN
  rw [List.getElem?_append_right (Nat.le_refl _), Nat.sub_self]
  rfl
def fndD (R : pR) (w : List Nat) : Prop := ∃ q, q < rN R ∧ (ps R q).1 = w
/-- a line of a person: what is wrong, or where it ends -/
noncomputable def x1P (t : List Nat) (R : pR) (p : Nat) : pT := bX (if rN R = 6 then .inl (flt 5 t p) else .inr p) (sWd t 0)
noncomputable def x2P (t : List Nat) (R : pR) (p : Nat) : pT := bX (x1P t R p) (fun q => haveI := Classical.propDecidable (fndD R (kW t q)); if (19 ≤ tWd t q ∧ tWd t q ≤ 23) ∧ fndD R (kW t q) then .inl (flt 3 t q) else .inr q)
noncomputable def x5P (t : List Nat) (R : pR) (p : Nat) : pT := bX (bX (bX (x2P t R p) (sNm t)) (sKd t)) (sWd t 1)
noncomputable def x7P (t : List Nat) (R : pR) (p : Nat) : pT := bX (bX (bX (x5P t R p) (sNu t 1 3000)) (sWd t 2)) (sNu t 1 20)
noncomputable def xP (t : List Nat) (R : pR) (p : Nat) : pT := bX (x7P t R p) (sSg t 59)
