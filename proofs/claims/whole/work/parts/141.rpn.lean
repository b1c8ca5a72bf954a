/-! the class's law: steps on a stack -/
def rps (s p g d c : Int32) (S : List Int32) : Option (List Int32) :=
  if c ≤ (-5 : Int32) then (if c = (-5 : Int32) then (match S with
    | x :: T => some ((if x = 0 then (1 : Int32) else 0) :: T)
    | [] => none) else (match S with
    | y :: x :: T => some (f_X3_joined c x y :: T)
    | _ => none))
  else if S.length < 32 then some ((if c < 0 then (if c = (-1 : Int32) then s else if c = (-2 : Int32) then p else if c = (-3 : Int32) then g else d) else c) :: S) else none
def rpl (s p g d : Int32) : List Int32 → List Int32 → Option (List Int32)
  | [], S => some S
  | c :: cs, S => (rps s p g d c S).bind (rpl s p g d cs)
theorem rpl_app (s p g d : Int32) : ∀ (a b S : List Int32), rpl s p g d (a ++ b) S = (rpl s p g d a S).bind (rpl s p g d b) := by
  intro a
  induction a with
  | nil => intro b S; rfl
  | cons c a ih =>
    intro b S
    show (rps s p g d c S).bind (rpl s p g d (a ++ b)) = ((rps s p g d c S).bind (rpl s p g d a)).bind (rpl s p g d b)
    cases rps s p g d c S with
    | none => rfl
    | some T => exact ih b T
def RP (H : Nat) (rs : List Int32) (v : pEv) : Prop := ∀ s p g d S, S.length ≤ H → rpl s p g d rs S = some (v s p g d :: S)
theorem RP_mono {H H' : Nat} {rs : List Int32} {v : pEv} (h : RP H rs v) (hh : H' ≤ H) : RP H' rs v := fun s p g d S hS => h s p g d S (by omega)
theorem RP_num {H n : Nat} (hn : n < 2 ^ 31) (hH : H < 32) : RP H [nI n] (fun _ _ _ _ => nI n) := by
  intro s p g d S hS
  have h1 : ¬ nI n ≤ (-5 : Int32) := by
    rw [Int32.le_iff_toInt_le, nI_toInt hn]
    have : (-5 : Int32).toInt = -5 := by decide
    omega
  show (rps s p g d (nI n) S).bind (rpl s p g d []) = _
  unfold rps
  rw [if_neg h1, if_pos (by omega), if_neg (nI_pos hn)]
  rfl
def fct (k : Nat) : pEv := fun s p g d => if k = 1 then s else if k = 2 then p else if k = 3 then g else d
theorem RP_fct {H k : Nat} (hk : 1 ≤ k) (hk4 : k ≤ 4) (hH : H < 32) : RP H [(-1 : Int32) - (nI (k + 18) - (19 : Int32))] (fct k) := by
  intro s p g d S hS
  rcases (by omega : k = 1 ∨ k = 2 ∨ k = 3 ∨ k = 4) with rfl | rfl | rfl | rfl
  · show (rps s p g d ((-1 : Int32) - (nI (1 + 18) - (19 : Int32))) S).bind (rpl s p g d []) = _
    rw [show (-1 : Int32) - (nI (1 + 18) - (19 : Int32)) = (-1 : Int32) by decide]
    unfold rps
    rw [if_neg (by decide), if_pos (by omega), if_pos (by decide), if_pos rfl]
    rfl
  · show (rps s p g d ((-1 : Int32) - (nI (2 + 18) - (19 : Int32))) S).bind (rpl s p g d []) = _
    rw [show (-1 : Int32) - (nI (2 + 18) - (19 : Int32)) = (-2 : Int32) by decide]
    unfold rps
    rw [if_neg (by decide), if_pos (by omega), if_pos (by decide), if_neg (by decide), if_pos rfl]
    rfl
  · show (rps s p g d ((-1 : Int32) - (nI (3 + 18) - (19 : Int32))) S).bind (rpl s p g d []) = _
    rw [show (-1 : Int32) - (nI (3 + 18) - (19 : Int32)) = (-3 : Int32) by decide]
    unfold rps
    rw [if_neg (by decide), if_pos (by omega), if_pos (by decide), if_neg (by decide), if_neg (by decide), if_pos rfl]
    rfl
  · show (rps s p g d ((-1 : Int32) - (nI (4 + 18) - (19 : Int32))) S).bind (rpl s p g d []) = _
    rw [show (-1 : Int32) - (nI (4 + 18) - (19 : Int32)) = (-4 : Int32) by decide]
    unfold rps
    rw [if_neg (by decide), if_pos (by omega), if_pos (by decide), if_neg (by decide), if_neg (by decide), if_neg (by decide)]
    rfl
def ntI (x : Int32) : Int32 := if x = 0 then (1 : Int32) else 0
theorem RP_not {H : Nat} {rs : List Int32} {v : pEv} (h : RP H rs v) : RP H (rs ++ [(-5 : Int32)]) (fun s p g d => ntI (v s p g d)) := by
  intro s p g d S hS
  rw [rpl_app, h s p g d S hS]
  show (rps s p g d (-5 : Int32) (v s p g d :: S)).bind (rpl s p g d []) = _
  unfold rps
  rw [if_pos (by decide), if_pos rfl]
  rfl
theorem RP_bin {H : Nat} {a b : List Int32} {v w : pEv} {c : Int32} (hc : c < (-5 : Int32)) (ha : RP H a v) (hb : RP (H + 1) b w) : RP H (a ++ b ++ [c]) (fun s p g d => f_X3_joined c (v s p g d) (w s p g d)) := by
  intro s p g d S hS
  rw [rpl_app, rpl_app, ha s p g d S hS]
  show ((rpl s p g d b (v s p g d :: S)).bind (rpl s p g d [c])) = _
  rw [hb s p g d _ (by simp only [List.length_cons]; omega)]
  show (rps s p g d c (w s p g d :: v s p g d :: S)).bind (rpl s p g d []) = _
  unfold rps
  have h1 : c ≤ (-5 : Int32) := by
    rw [Int32.lt_iff_toInt_lt] at hc
    rw [Int32.le_iff_toInt_le]
    omega
  have h2 : ¬ c = (-5 : Int32) := fun z => by
    rw [z, Int32.lt_iff_toInt_lt] at hc
    omega
  rw [if_pos h1, if_neg h2]
  rfl
/-- the stack in memory, its top first -/
def skM (u : gm_M) (a : Nat) : List Int32 → Prop
  | [] => True
  | x :: T => gI u (a + 2) T.length = x ∧ skM u a T
theorem skM_eq {u v : gm_M} {a : Nat} : ∀ (S : List Int32), skM u a S → (∀ i, i < S.length → gI v (a + 2) i = gI u (a + 2) i) → skM v a S := by
  intro S
  induction S with
  | nil => intro _ _; trivial
  | cons x T ih =>
    intro h hf
    refine ⟨(hf T.length (by simp)).trans h.1, ih h.2 (fun i hi => hf i (by simp only [List.length_cons]; omega))⟩
theorem c_wstep {u : gm_M} {a i n : Nat} {s p g d c : Int32} {S S' : List Int32} (hS : skM u a S) (hl : S.length ≤ 32) (hn : gI u a 1 = nI n) (hi : i < n) (hn2 : n ≤ 1000) (hc : gI u (a + 1) i = c) (h : rps s p g d c S = some S') :
    ok (b_X3_worth_6 a s p g d (nI S.length, nI i, u)) (fun o => ∃ v, o = .inl (nI S'.length, nI (i + 1), v) ∧ skM v a S' ∧ S'.length ≤ 32 ∧ fr (fun b _ => b = a + 2) u v) := by
  rw [b_X3_worth_6]
  simp (disch := omega) only [hn, nI_leI, if_neg]
  rw [if_neg (show ¬ (1000 : Int32) ≤ nI i from fun z => by rw [show (1000 : Int32) = nI 1000 from rfl, nI_leI (by omega) (by omega)] at z; omega)]
  simp (disch := omega) only [ib_nI, ix_nI, if_pos, gm_letE, hc]
  unfold rps at h
  by_cases q : c ≤ (-5 : Int32)
  · rw [if_pos q] at h ⊢
    by_cases q2 : c = (-5 : Int32)
    · rw [if_pos q2] at h ⊢
      cases S with
      | nil => cases h
      | cons x T =>
        simp only [Option.some.injEq] at h
        subst h
        simp only [List.length_cons] at hl ⊢
        rw [if_pos (show (1 : Int32) ≤ nI (T.length + 1) from (nI_leI (a := 1) (by omega) (by omega)).mpr (by omega)), show nI (T.length + 1) - (1 : Int32) = nI T.length by rw [show (1 : Int32) = nI 1 from rfl, nI_sub (by omega), Nat.add_sub_cancel]]
        simp (disch := omega) only [ib_nI, ix_nI, if_pos, hS.1]
        have core : ∀ z : Int32, ok (j_X3_worth_150 a s p g d (nI (T.length + 1)) (nI i) (nI T.length) z u) (fun o => ∃ v, o = .inl (nI (T.length + 1), nI (i + 1), v) ∧ skM v a (z :: T) ∧ T.length + 1 ≤ 32 ∧ fr (fun b _ => b = a + 2) u v) := by
          intro z
          unfold j_X3_worth_150
          simp (disch := omega) only [ib_nI, ix_nI, if_pos, gm_letE]
          refine ok_some ⟨_, by rw [show nI i + (1 : Int32) = nI (i + 1) from nI_add i 1], ⟨gI_eq rfl rfl, skM_eq T hS.2 (fun j hj => gI_ne (by omega))⟩, hl, fr_sI (fr_refl _ _) rfl⟩
        by_cases q3 : x = 0
        · rw [if_pos q3, if_pos q3]; exact core 1
        · rw [if_neg q3, if_neg q3]; exact core 0
    · rw [if_neg q2] at h ⊢
      cases S with
      | nil => cases h
      | cons y T0 =>
        cases T0 with
        | nil => cases h
        | cons x T =>
          simp only [Option.some.injEq] at h
          subst h
          simp only [List.length_cons] at hl ⊢
          have e1 : nI (T.length + 1 + 1) + (-1 : Int32) = nI (T.length + 1) := by rw [show (-1 : Int32) = -nI 1 from rfl, nI_m1 (by omega), Nat.add_sub_cancel]
          have e2 : nI (T.length + 1) - (1 : Int32) = nI T.length := by rw [show (1 : Int32) = nI 1 from rfl, nI_sub (by omega), Nat.add_sub_cancel]
          rw [if_pos (show (2 : Int32) ≤ nI (T.length + 1 + 1) from (nI_leI (a := 2) (by omega) (by omega)).mpr (by omega)), e1, e2]
          have h1 : gI u (a + 2) (T.length + 1) = y := hS.1
          have h2 : gI u (a + 2) T.length = x := hS.2.1
          simp (disch := omega) only [ib_nI, ix_nI, if_pos, gm_letE, h1, h2]
          refine ok_some ⟨_, by rw [show nI i + (1 : Int32) = nI (i + 1) from nI_add i 1], ⟨gI_eq rfl rfl, skM_eq T hS.2.2 (fun j hj => gI_ne (by omega))⟩, by omega, fr_sI (fr_refl _ _) rfl⟩
  · rw [if_neg q] at h ⊢
    by_cases q2 : S.length < 32
    · rw [if_pos q2] at h
      simp only [Option.some.injEq] at h
      subst h
      rw [if_pos (show nI S.length < (32 : Int32) from (nI_ltI (b := 32) (by omega) (by omega)).mpr q2)]
      have core : ∀ z : Int32, ok (j_X3_worth_103 a s p g d (nI S.length) (nI i) (nI S.length) z u) (fun o => ∃ v, o = .inl (nI (z :: S).length, nI (i + 1), v) ∧ skM v a (z :: S) ∧ (z :: S).length ≤ 32 ∧ fr (fun b _ => b = a + 2) u v) := by
        intro z
        unfold j_X3_worth_103
        simp (disch := omega) only [ib_nI, ix_nI, if_pos, gm_letE]
        refine ok_some ⟨_, by rw [show nI i + (1 : Int32) = nI (i + 1) from nI_add i 1, show nI S.length + (1 : Int32) = nI (S.length + 1) from nI_add S.length 1]; rfl, ⟨gI_eq rfl rfl, skM_eq S hS (fun j hj => gI_ne (by omega))⟩, by simp only [List.length_cons]; omega, fr_sI (fr_refl _ _) rfl⟩
      by_cases q3 : c < 0
      · rw [if_pos q3, if_pos q3]
        by_cases q4 : c = (-1 : Int32)
        · rw [if_pos q4, if_pos q4]; exact core s
        · rw [if_neg q4, if_neg q4]
          by_cases q5 : c = (-2 : Int32)
          · rw [if_pos q5, if_pos q5]; exact core p
          · rw [if_neg q5, if_neg q5]
            by_cases q6 : c = (-3 : Int32)
            · rw [if_pos q6, if_pos q6]; exact core g
            · rw [if_neg q6, if_neg q6]; exact core d
      · rw [if_neg q3, if_neg q3]; exact core c
    · rw [if_neg q2] at h; cases h
theorem c_worth {u : gm_M} {a : Nat} {rs : List Int32} {v : pEv} (hn : gI u a 1 = nI rs.length) (hl : rs.length ≤ 1000) (hs : ∀ i c, rs[i]? = some c → gI u (a + 1) i = c) (h : RP 0 rs v) : lawC u a v := by
  intro w hw1 hw2 s p g d
  have run : ∀ (j : Nat), j ≤ rs.length → ∀ S, rpl s p g d (rs.take j) [] = some S → True := fun _ _ _ _ => trivial
  unfold f_X3_worth
  have hlp : ok (gm_lp (b_X3_worth_6 a s p g d) gm_FU ((0 : Int32), (0 : Int32), w)) (fun o => ∃ x, o = .inr (.inr (.inr (nI 1, x))) ∧ gI x (a + 2) 0 = v s p g d ∧ fr (fun b _ => b = a + 2) w x) := by
    refine lp_ok rs.length (fun i y => ∃ S x, y = (nI S.length, nI i, x) ∧ skM x a S ∧ S.length ≤ 32 ∧ rpl s p g d (rs.drop i) S = some [v s p g d] ∧ fr (fun b _ => b = a + 2) w x) (by omega) ⟨[], w, rfl, trivial, by simp, by rw [List.drop_zero]; exact h s p g d [] (by simp), fr_refl _ _⟩ ?_ ?_
    · rintro i y hi ⟨S, x, rfl, h1, h2, h3, h4⟩
      obtain ⟨c, hc⟩ : ∃ c, rs[i]? = some c := ⟨_, List.getElem?_eq_getElem hi⟩
      have hd : rs.drop i = c :: rs.drop (i + 1) := by
        rw [List.drop_eq_getElem_cons hi]
        congr 1
        rw [List.getElem?_eq_getElem hi] at hc
        exact Option.some.inj hc
      rw [hd] at h3
      change (rps s p g d c S).bind (rpl s p g d (rs.drop (i + 1))) = _ at h3
      cases e : rps s p g d c S with
      | none => rw [e] at h3; cases h3
      | some S' =>
        rw [e] at h3
        refine ok_mono (c_wstep (n := rs.length) h1 h2 ((fr_I h4 (by omega)).trans (hw1.trans hn)) hi hl ((fr_I h4 (by omega)).trans ((hw2 i).trans (hs i c hc))) e) ?_
        rintro o ⟨z, rfl, z1, z2, z3⟩
        exact ⟨S', z, rfl, z1, z2, h3, fr_trans h4 z3⟩
    · rintro y ⟨S, x, rfl, h1, h2, h3, h4⟩
      rw [List.drop_length] at h3
      change some S = _ at h3
      cases h3
      rw [b_X3_worth_6]
      have e : gI x a 1 = nI rs.length := (fr_I h4 (by omega)).trans (hw1.trans hn)
      simp (disch := omega) only [e, nI_leI, if_pos]
      exact ok_some ⟨x, rfl, h1.1, h4⟩
  refine ok_bind hlp ?_
  rintro o ⟨x, rfl, x1, x2⟩
  simp only [j_X3_worth_201]
  rw [if_neg (show ¬ nI 1 ≤ (0 : Int32) by decide)]
  exact ok_some ⟨x1, x2⟩
