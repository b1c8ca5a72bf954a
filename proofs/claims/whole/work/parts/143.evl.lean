/-! the reference's law: what its pieces are worth -/
def Vv (u : gm_M) (v : pEv) : Int32 := v (gI u 22 1) (gI u 22 2) (gI u 22 3) (gI u 22 4)
theorem Vv_fr {u w : gm_M} {v : pEv} (f : fr evP u w) : Vv w v = Vv u v := by
  unfold Vv
  rw [fr_I f (a := 22) (k := 1) (by unfold evP; omega), fr_I f (a := 22) (k := 2) (by unfold evP; omega), fr_I f (a := 22) (k := 3) (by unfold evP; omega), fr_I f (a := 22) (k := 4) (by unfold evP; omega)]
def cN (u : gm_M) (k N : Nat) (cs : List Int32) : Prop := gI u 9 0 = nI N ∧ N ≤ 1000 ∧ k + cs.length ≤ N ∧ cAt u k cs
theorem cN_app {u : gm_M} {k N : Nat} {a b : List Int32} (h : cN u k N (a ++ b)) : cN u k N a ∧ cN u (k + a.length) N b := by
  obtain ⟨h1, h2, h3, h4⟩ := h
  rw [List.length_append] at h3
  exact ⟨⟨h1, h2, by omega, (cAt_app h4).1⟩, ⟨h1, h2, by omega, (cAt_app h4).2⟩⟩
theorem cN_fr {u v : gm_M} {k N : Nat} {cs : List Int32} (h : cN u k N cs) (f : fr evP u v) : cN v k N cs := ⟨(fr_I f (by unfold evP; omega)).trans h.1, h.2.1, h.2.2.1, cAt_fr h.2.2.2 f⟩
theorem cN_1 {u : gm_M} {k N : Nat} {c : Int32} {l : List Int32} (h : cN u k N (c :: l)) : gI u 10 k = c ∧ k < N := by
  refine ⟨?_, by have := h.2.2.1; simp only [List.length_cons] at this; omega⟩
  have := h.2.2.2 0 c rfl
  rwa [Nat.add_zero] at this
def CPart (ro : List Nat) (cs : List Int32) (v : pEv) : Prop := ∀ u k N, bnM u ro → cN u k N cs → ∃ w, evGo cs.length (nI ro.length, nI k, u) (nI (bs ro).length, nI (k + cs.length), w) ∧ fr evP u w ∧ (∀ f i, 13 ≤ f → f ≤ 21 → i ≤ (bs ro).length → ¬ (f = 19 ∧ i = (bs ro).length) → gI w f i = gI u f i) ∧ gI w 19 (bs ro).length = (if gI u 20 (bs ro).length = 0 then ng ro (Vv u v) else gI u 19 (bs ro).length * ng ro (Vv u v))
/-- a run on level e that leaves the fields of X at e and all below as they were -/
def CRun (ro : List Nat) (X : Nat → Prop) (st en : gm_M → gm_M → Prop) (cs : List Int32) : Prop := ∀ u k N, bnM u ro → st u u → cN u k N cs → ∃ w, evGo cs.length (nI ro.length, nI k, u) (nI ro.length, nI (k + cs.length), w) ∧ fr evP u w ∧ (∀ f i, 13 ≤ f → f ≤ 21 → (i < ro.length ∨ (i = ro.length ∧ X f)) → gI w f i = gI u f i) ∧ en u w
def CProd (ro : List Nat) (cs : List Int32) (v : pEv) : Prop := CRun ro (fun f => f ≠ 19 ∧ f ≠ 20) (fun u _ => gI u 20 ro.length = 0) (fun u w => gI w 19 ro.length = Vv u v) cs
def cbu (u : gm_M) (e : Nat) : Int32 := cbv (gI u 17 e) (gI u 18 e) (gI u 19 e)
def CSum (ro : List Nat) (cs : List Int32) (v : pEv) : Prop := CRun ro (fun f => f = 13 ∨ f = 14 ∨ f = 15 ∨ f = 16 ∨ f = 21) (fun u _ => gI u 20 ro.length = 0 ∧ gI u 17 ro.length = 0 ∧ gI u 18 ro.length = (20 : Int32)) (fun u w => cbu w ro.length = Vv u v) cs
def tvu (u : gm_M) (e : Nat) : Int32 := tvv (gI u 16 e) (gI u 15 e) (cbu u e)
def CTest (ro : List Nat) (cs : List Int32) (v : pEv) : Prop := CRun ro (fun f => f = 13 ∨ f = 14 ∨ f = 21) (fun u _ => gI u 20 ro.length = 0 ∧ gI u 17 ro.length = 0 ∧ gI u 18 ro.length = (20 : Int32) ∧ gI u 16 ro.length = 0) (fun u w => tvu w ro.length = Vv u v) cs
def wvu (u : gm_M) (e : Nat) : Int32 := wvv (gI u 14 e) (gI u 13 e) (tvu u e)
def CWhole (ro : List Nat) (cs : List Int32) (v : pEv) : Prop := CRun ro (fun f => f = 21) (fun u _ => gI u 20 ro.length = 0 ∧ gI u 17 ro.length = 0 ∧ gI u 18 ro.length = (20 : Int32) ∧ gI u 16 ro.length = 0 ∧ gI u 14 ro.length = 0) (fun u w => wvu w ro.length = Vv u v) cs
theorem ng_bs {ro : List Nat} (h : bs ro = ro) (x : Int32) : ng ro x = x := by
  cases ro with
  | nil => rfl
  | cons o l =>
    simp only [bs] at h
    by_cases q : o = 1
    · rw [if_pos q] at h
      have := bs_le l
      have h2 : (bs l).length = l.length + 1 := by rw [h]; rfl
      omega
    · simp only [ng, if_neg q]
theorem C_prod1 {ro : List Nat} {cs : List Int32} {v : pEv} (hb : bs ro = ro) (h : CPart ro cs v) : CProd ro cs v := by
  intro u k N h1 h2 h3
  obtain ⟨w, g1, g2, g3, g4⟩ := h u k N h1 h3
  rw [hb] at g1 g3 g4
  refine ⟨w, g1, g2, fun f i a b c => g3 f i a b (by omega) (fun z => ?_), ?_⟩
  · rcases c with c | ⟨c, d⟩
    · omega
    · exact d.1 z.1
  · show gI w 19 ro.length = _
    rw [g4, if_pos h2, ng_bs hb]
theorem bn_of {ro : List Nat} {u w : gm_M} (h : bnM u ro) (f : ∀ f i, 13 ≤ f → f ≤ 21 → (i < ro.length ∨ (i = ro.length ∧ f = 21)) → gI w f i = gI u f i) : bnM w ro := bnM_eq ro h (fun i hi => f 21 i (by omega) (by omega) (by omega))
theorem C_prod2 {ro : List Nat} {a b : List Int32} {v w : pEv} (hl : ro.length ≤ 5) (hb : bs ro = ro) (ha : CProd ro a v) (h : CPart ro b w) : CProd ro (a ++ ((22 : Int32) :: b)) (fun s p g d => v s p g d * w s p g d) := by
  intro u k N h1 h2 h3
  obtain ⟨c1, c2⟩ := cN_app h3
  obtain ⟨x, g1, g2, g3, g4⟩ := ha u k N h1 h2 c1
  have c2x := cN_fr c2 g2
  obtain ⟨cc, ck⟩ := cN_1 c2x
  have st : b_X11_worked_14 0 (nI ro.length, nI (k + a.length), x) = some (.inl (nI ro.length, nI (k + a.length + 1), sI x 20 ro.length 22)) := w_code c2x.1 c2x.2.1 ck cc _ (by
    show (if ib (nI ro.length) 7 = true then gm_let (sI x 20 (ix (nI ro.length)) 22) (fun u_83 => some (Sum.inl (nI ro.length, nI (k + a.length) + (1 : Int32), u_83))) else none) = _
    rw [if_pos (show ib (nI ro.length) 7 = true from (ib_nI (by omega)).mpr (by omega)), ix_nI (by omega), gm_letE, show nI (k + a.length) + (1 : Int32) = nI (k + a.length + 1) from nI_add _ 1])
  have fx : fr evP x (sI x 20 ro.length 22) := fr_sI (fr_refl _ _) ⟨by omega, by omega⟩
  have e20 : gI (sI x 20 ro.length 22) 20 ro.length = 22 := gI_eq rfl rfl
  have kx : ∀ f i, ¬ (f = 20 ∧ i = ro.length) → gI (sI x 20 ro.length 22) f i = gI x f i := fun f i z => gI_ne z
  generalize sI x 20 ro.length 22 = y at *
  have hbx : bnM x ro := bn_of h1 (fun f i p q r => g3 f i p q (by
    rcases r with r | r
    · exact .inl r
    · exact .inr ⟨r.1, by omega, by omega⟩))
  have hby : bnM y ro := bnM_eq ro hbx (fun i hi => kx 21 i (by omega))
  have cb : cN y (k + a.length + 1) N b := by
    have := cN_fr (cN_app (a := [(22 : Int32)]) (b := b) c2x).2 fx
    exact this
  obtain ⟨z, q1, q2, q3, q4⟩ := h y (k + a.length + 1) N hby cb
  rw [hb] at q1 q3 q4
  refine ⟨z, ?_, fr_trans g2 (fr_trans fx q2), fun f i p q r => ?_, ?_⟩
  · have := evGo_tr g1 (evGo_tr (evGo_1 st) q1)
    rw [List.length_append, List.length_cons, show k + (a.length + (b.length + 1)) = k + a.length + 1 + b.length by omega, show a.length + (b.length + 1) = a.length + (1 + b.length) by omega]
    exact this
  · have r1 : ¬ (f = 19 ∧ i = ro.length) := fun zz => by
      rcases r with r | ⟨r, s⟩
      · omega
      · exact s.1 zz.1
    have r2 : ¬ (f = 20 ∧ i = ro.length) := fun zz => by
      rcases r with r | ⟨r, s⟩
      · omega
      · exact s.2 zz.1
    exact (q3 f i p q (by omega) r1).trans ((kx f i r2).trans (g3 f i p q r))
  · show gI z 19 ro.length = _
    rw [q4, if_neg (by rw [e20]; decide), ng_bs hb, kx 19 _ (by omega), g4]
    show Vv u v * Vv y w = _
    rw [Vv_fr (fr_trans g2 fx)]; rfl
theorem C_sum1 {ro : List Nat} {cs : List Int32} {v : pEv} (h : CProd ro cs v) : CSum ro cs v := by
  intro u k N h1 h2 h3
  obtain ⟨w, g1, g2, g3, g4⟩ := h u k N h1 h2.1 h3
  refine ⟨w, g1, g2, fun f i a b c => g3 f i a b (by omega), ?_⟩
  show cbv _ _ _ = _
  have g4' : gI w 19 ro.length = Vv u v := g4
  rw [g3 17 ro.length (by omega) (by omega) (.inr ⟨rfl, by omega, by omega⟩), g3 18 ro.length (by omega) (by omega) (.inr ⟨rfl, by omega, by omega⟩), h2.2.1, h2.2.2, g4']
  unfold cbv
  rw [if_neg (by decide), Int32.zero_add]
theorem C_sum2 {ro : List Nat} {a b : List Int32} {v w : pEv} {c : Int32} (hl : ro.length ≤ 5) (hc : c = 20 ∨ c = 21) (ha : CSum ro a v) (h : CProd ro b w) : CSum ro (a ++ (c :: b)) (fun s p g d => if c = (21 : Int32) then v s p g d - w s p g d else v s p g d + w s p g d) := by
  intro u k N h1 h2 h3
  obtain ⟨c1, c2⟩ := cN_app h3
  obtain ⟨x, g1, g2, g3, g4⟩ := ha u k N h1 h2 c1
  have g4' : cbu x ro.length = Vv u v := g4
  have c2x := cN_fr c2 g2
  obtain ⟨cc, ck⟩ := cN_1 c2x
  have e89 : j_X11_worked_89 0 (nI ro.length) (nI (k + a.length)) c x = some (.inl (nI ro.length, nI (k + a.length + 1), sI (sI (sI x 17 ro.length (cbu x ro.length)) 20 ro.length 0) 18 ro.length c)) := by
    unfold j_X11_worked_89
    rw [m_sums (by omega)]
    simp only [Option.bind_some]
    rw [if_pos (show ib (nI ro.length) 7 = true from (ib_nI (by omega)).mpr (by omega)), gm_letE, ix_nI (by omega), show nI (k + a.length) + (1 : Int32) = nI (k + a.length + 1) from nI_add _ 1]
    rfl
  have st : b_X11_worked_14 0 (nI ro.length, nI (k + a.length), x) = some (.inl (nI ro.length, nI (k + a.length + 1), sI (sI (sI x 17 ro.length (cbu x ro.length)) 20 ro.length 0) 18 ro.length c)) := w_code c2x.1 c2x.2.1 ck cc _ (by
    rw [e89]
    rcases hc with rfl | rfl <;> rfl)
  have fx : fr evP x (sI (sI (sI x 17 ro.length (cbu x ro.length)) 20 ro.length 0) 18 ro.length c) := fr_sI (fr_sI (fr_sI (fr_refl _ _) ⟨by omega, by omega⟩) ⟨by omega, by omega⟩) ⟨by omega, by omega⟩
  have e18 : gI (sI (sI (sI x 17 ro.length (cbu x ro.length)) 20 ro.length 0) 18 ro.length c) 18 ro.length = c := gI_eq rfl rfl
  have e20 : gI (sI (sI (sI x 17 ro.length (cbu x ro.length)) 20 ro.length 0) 18 ro.length c) 20 ro.length = 0 := (gI_ne (by omega)).trans (gI_eq rfl rfl)
  have e17 : gI (sI (sI (sI x 17 ro.length (cbu x ro.length)) 20 ro.length 0) 18 ro.length c) 17 ro.length = cbu x ro.length := (gI_ne (by omega)).trans ((gI_ne (by omega)).trans (gI_eq rfl rfl))
  have kx : ∀ f i, ¬ (i = ro.length ∧ (f = 17 ∨ f = 18 ∨ f = 20)) → gI (sI (sI (sI x 17 ro.length (cbu x ro.length)) 20 ro.length 0) 18 ro.length c) f i = gI x f i := fun f i z => (gI_ne (by omega)).trans ((gI_ne (by omega)).trans (gI_ne (by omega)))
  generalize sI (sI (sI x 17 ro.length (cbu x ro.length)) 20 ro.length 0) 18 ro.length c = y at *
  have hbx : bnM x ro := bn_of h1 (fun f i p q r => g3 f i p q (by omega))
  have hby : bnM y ro := bnM_eq ro hbx (fun i hi => kx 21 i (by omega))
  have cb : cN y (k + a.length + 1) N b := cN_fr (cN_app (a := [c]) (b := b) c2x).2 fx
  obtain ⟨z, q1, q2, q3, q4⟩ := h y (k + a.length + 1) N hby e20 cb
  have q4' : gI z 19 ro.length = Vv y w := q4
  refine ⟨z, ?_, fr_trans g2 (fr_trans fx q2), fun f i p q r => ?_, ?_⟩
  · have := evGo_tr g1 (evGo_tr (evGo_1 st) q1)
    rw [List.length_append, List.length_cons, show k + (a.length + (b.length + 1)) = k + a.length + 1 + b.length by omega, show a.length + (b.length + 1) = a.length + (1 + b.length) by omega]
    exact this
  · exact (q3 f i p q (by omega)).trans ((kx f i (by omega)).trans (g3 f i p q r))
  · show cbv _ _ _ = _
    rw [q3 17 ro.length (by omega) (by omega) (.inr ⟨rfl, by omega, by omega⟩), q3 18 ro.length (by omega) (by omega) (.inr ⟨rfl, by omega, by omega⟩), e17, e18, q4', g4', Vv_fr (fr_trans g2 fx)]
    rfl
theorem C_test1 {ro : List Nat} {cs : List Int32} {v : pEv} (h : CSum ro cs v) : CTest ro cs v := by
  intro u k N h1 h2 h3
  obtain ⟨w, g1, g2, g3, g4⟩ := h u k N h1 ⟨h2.1, h2.2.1, h2.2.2.1⟩ h3
  refine ⟨w, g1, g2, fun f i a b c => g3 f i a b (by omega), ?_⟩
  have g4' : cbu w ro.length = Vv u v := g4
  show tvv _ _ _ = _
  rw [g3 16 ro.length (by omega) (by omega) (.inr ⟨rfl, by omega⟩), h2.2.2.2, g4']
  unfold tvv
  rw [if_neg (by decide), if_neg (by decide)]
theorem C_test2 {ro : List Nat} {a b : List Int32} {v w : pEv} {c : Int32} (hl : ro.length ≤ 5) (hc : c = 24 ∨ c = 25) (ha : CSum ro a v) (h : CSum ro b w) : CTest ro (a ++ (c :: b)) (fun s p g d => tvv c (v s p g d) (w s p g d)) := by
  intro u k N h1 h2 h3
  obtain ⟨c1, c2⟩ := cN_app h3
  obtain ⟨x, g1, g2, g3, g4⟩ := ha u k N h1 ⟨h2.1, h2.2.1, h2.2.2.1⟩ c1
  have g4' : cbu x ro.length = Vv u v := g4
  have c2x := cN_fr c2 g2
  obtain ⟨cc, ck⟩ := cN_1 c2x
  have e137 : ok (j_X11_worked_137 0 (nI ro.length) (nI (k + a.length)) c x) (fun o => ∃ y, o = .inl (nI ro.length, nI (k + a.length + 1), y) ∧ fr evP x y ∧ gI y 15 ro.length = cbu x ro.length ∧ gI y 16 ro.length = c ∧ gI y 17 ro.length = 0 ∧ gI y 18 ro.length = (20 : Int32) ∧ gI y 20 ro.length = 0 ∧ ∀ f i, ¬ (i = ro.length ∧ (f = 15 ∨ f = 16 ∨ f = 17 ∨ f = 18 ∨ f = 20)) → gI y f i = gI x f i) := by
    unfold j_X11_worked_137
    rw [m_sums (by omega)]
    simp only [Option.bind_some]
    rw [if_pos (show ib (nI ro.length) 7 = true from (ib_nI (by omega)).mpr (by omega)), ix_nI (by omega), show nI (k + a.length) + (1 : Int32) = nI (k + a.length + 1) from nI_add _ 1]
    simp only [gm_letE]
    have e17 : gI (sI (sI x 17 ro.length (cbv (gI x 17 ro.length) (gI x 18 ro.length) (gI x 19 ro.length))) 20 ro.length 0) 17 ro.length = cbu x ro.length := (gI_ne (by omega)).trans (gI_eq rfl rfl)
    rw [e17]
    refine ok_some ⟨_, rfl, fr_sI (fr_sI (fr_sI (fr_sI (fr_sI (fr_sI (fr_refl _ _) ⟨by omega, by omega⟩) ⟨by omega, by omega⟩) ⟨by omega, by omega⟩) ⟨by omega, by omega⟩) ⟨by omega, by omega⟩) ⟨by omega, by omega⟩, ?_, ?_, ?_, gI_eq rfl rfl, ?_, fun f i z => ?_⟩
    · rw [gI_ne (by omega), gI_ne (by omega), gI_ne (by omega)]; exact gI_eq rfl rfl
    · rw [gI_ne (by omega), gI_ne (by omega)]; exact gI_eq rfl rfl
    · rw [gI_ne (by omega)]; exact gI_eq rfl rfl
    · rw [gI_ne (by omega), gI_ne (by omega), gI_ne (by omega), gI_ne (by omega)]; exact gI_eq rfl rfl
    · rw [gI_ne (by omega), gI_ne (by omega), gI_ne (by omega), gI_ne (by omega), gI_ne (by omega), gI_ne (by omega)]
  obtain ⟨o, eo, y, rfl, fx, e15, e16, e17, e18, e20, kx⟩ := e137
  have st : b_X11_worked_14 0 (nI ro.length, nI (k + a.length), x) = some (.inl (nI ro.length, nI (k + a.length + 1), y)) := w_code c2x.1 c2x.2.1 ck cc _ (by
    rw [← eo]
    rcases hc with rfl | rfl <;> rfl)
  have hbx : bnM x ro := bn_of h1 (fun f i p q r => g3 f i p q (by omega))
  have hby : bnM y ro := bnM_eq ro hbx (fun i hi => kx 21 i (by omega))
  have cb : cN y (k + a.length + 1) N b := cN_fr (cN_app (a := [c]) (b := b) c2x).2 fx
  obtain ⟨z, q1, q2, q3, q4⟩ := h y (k + a.length + 1) N hby ⟨e20, e17, e18⟩ cb
  have q4' : cbu z ro.length = Vv y w := q4
  refine ⟨z, ?_, fr_trans g2 (fr_trans fx q2), fun f i p q r => ?_, ?_⟩
  · have := evGo_tr g1 (evGo_tr (evGo_1 st) q1)
    rw [List.length_append, List.length_cons, show k + (a.length + (b.length + 1)) = k + a.length + 1 + b.length by omega, show a.length + (b.length + 1) = a.length + (1 + b.length) by omega]
    exact this
  · exact (q3 f i p q (by omega)).trans ((kx f i (by omega)).trans (g3 f i p q (by omega)))
  · show tvv _ _ _ = _
    rw [q3 16 ro.length (by omega) (by omega) (.inr ⟨rfl, by omega⟩), q3 15 ro.length (by omega) (by omega) (.inr ⟨rfl, by omega⟩), e16, e15, q4', g4', Vv_fr (fr_trans g2 fx)]
    rfl
theorem C_whole1 {ro : List Nat} {cs : List Int32} {v : pEv} (h : CTest ro cs v) : CWhole ro cs v := by
  intro u k N h1 h2 h3
  obtain ⟨w, g1, g2, g3, g4⟩ := h u k N h1 ⟨h2.1, h2.2.1, h2.2.2.1, h2.2.2.2.1⟩ h3
  refine ⟨w, g1, g2, fun f i a b c => g3 f i a b (by omega), ?_⟩
  have g4' : tvu w ro.length = Vv u v := g4
  show wvv _ _ _ = _
  rw [g3 14 ro.length (by omega) (by omega) (.inr ⟨rfl, by omega⟩), h2.2.2.2.2, g4']
  unfold wvv
  rw [if_neg (by decide), if_neg (by decide)]
theorem C_whole2 {ro : List Nat} {a b : List Int32} {v w : pEv} {c : Int32} (hl : ro.length ≤ 5) (hc : c = 26 ∨ c = 27) (ha : CWhole ro a v) (h : CTest ro b w) : CWhole ro (a ++ (c :: b)) (fun s p g d => wvv c (v s p g d) (w s p g d)) := by
  intro u k N h1 h2 h3
  obtain ⟨c1, c2⟩ := cN_app h3
  obtain ⟨x, g1, g2, g3, g4⟩ := ha u k N h1 h2 c1
  have g4' : wvu x ro.length = Vv u v := g4
  have c2x := cN_fr c2 g2
  obtain ⟨cc, ck⟩ := cN_1 c2x
  have e194 : ok (j_X11_worked_194 0 (nI ro.length) (nI (k + a.length)) c x) (fun o => ∃ y, o = .inl (nI ro.length, nI (k + a.length + 1), y) ∧ fr evP x y ∧ gI y 13 ro.length = wvu x ro.length ∧ gI y 14 ro.length = c ∧ gI y 16 ro.length = 0 ∧ gI y 17 ro.length = 0 ∧ gI y 18 ro.length = (20 : Int32) ∧ gI y 20 ro.length = 0 ∧ ∀ f i, ¬ (i = ro.length ∧ (f = 13 ∨ f = 14 ∨ f = 16 ∨ f = 17 ∨ f = 18 ∨ f = 20)) → gI y f i = gI x f i) := by
    unfold j_X11_worked_194
    refine ok_bind (m_tests (e := ro.length) (u := x) (by omega)) ?_
    rintro y ⟨y1, y2, y3, y4, y5, y6⟩
    rw [if_pos (show ib (nI ro.length) 7 = true from (ib_nI (by omega)).mpr (by omega)), ix_nI (by omega), gm_letE, show nI (k + a.length) + (1 : Int32) = nI (k + a.length + 1) from nI_add _ 1]
    refine ok_some ⟨_, rfl, fr_sI (fr_mono y6 (fun a j z => ⟨by omega, by omega⟩)) ⟨by omega, by omega⟩, (gI_ne (by omega)).trans y1, gI_eq rfl rfl, (gI_ne (by omega)).trans y2, (gI_ne (by omega)).trans y3, (gI_ne (by omega)).trans y4, (gI_ne (by omega)).trans y5, fun f i z => (gI_ne (by omega)).trans (fr_I y6 (by omega))⟩
  obtain ⟨o, eo, y, rfl, fx, e13, e14, e16, e17, e18, e20, kx⟩ := e194
  have st : b_X11_worked_14 0 (nI ro.length, nI (k + a.length), x) = some (.inl (nI ro.length, nI (k + a.length + 1), y)) := w_code c2x.1 c2x.2.1 ck cc _ (by
    rw [← eo]
    rcases hc with rfl | rfl <;> rfl)
  have hbx : bnM x ro := bn_of h1 (fun f i p q r => g3 f i p q (by omega))
  have hby : bnM y ro := bnM_eq ro hbx (fun i hi => kx 21 i (by omega))
  have cb : cN y (k + a.length + 1) N b := cN_fr (cN_app (a := [c]) (b := b) c2x).2 fx
  obtain ⟨z, q1, q2, q3, q4⟩ := h y (k + a.length + 1) N hby ⟨e20, e17, e18, e16⟩ cb
  have q4' : tvu z ro.length = Vv y w := q4
  refine ⟨z, ?_, fr_trans g2 (fr_trans fx q2), fun f i p q r => ?_, ?_⟩
  · have := evGo_tr g1 (evGo_tr (evGo_1 st) q1)
    rw [List.length_append, List.length_cons, show k + (a.length + (b.length + 1)) = k + a.length + 1 + b.length by omega, show a.length + (b.length + 1) = a.length + (1 + b.length) by omega]
    exact this
  · exact (q3 f i p q (by omega)).trans ((kx f i (by omega)).trans (g3 f i p q r))
  · show wvv _ _ _ = _
    rw [q3 14 ro.length (by omega) (by omega) (.inr ⟨rfl, by omega⟩), q3 13 ro.length (by omega) (by omega) (.inr ⟨rfl, by omega⟩), e14, e13, q4', g4', Vv_fr (fr_trans g2 fx)]
    rfl
theorem C_num {ro : List Nat} {n : Nat} (hl : ro.length ≤ 5) (hn : n < 10000) : CPart ro [nI (100 + n)] (fun _ _ _ _ => nI n) := by
  intro u k N h1 h3
  obtain ⟨cc, ck⟩ := cN_1 h3
  have st : b_X11_worked_14 0 (nI ro.length, nI k, u) = _ := w_code h3.1 h3.2.1 ck cc _ (by
    have ne : ∀ m : Nat, m < 100 → ¬ nI (100 + n) = nI m := fun m hm z => by rw [nI_eq (by omega) (by omega)] at z; omega
    rw [if_neg (show ¬ nI (100 + n) = (28 : Int32) from ne 28 (by omega)), if_neg (show ¬ nI (100 + n) = (30 : Int32) from ne 30 (by omega)), if_neg (show ¬ nI (100 + n) = (20 : Int32) from ne 20 (by omega)), if_neg (show ¬ nI (100 + n) = (21 : Int32) from ne 21 (by omega)), if_neg (show ¬ nI (100 + n) = (22 : Int32) from ne 22 (by omega)), if_neg (show ¬ nI (100 + n) = (24 : Int32) from ne 24 (by omega)), if_neg (show ¬ nI (100 + n) = (25 : Int32) from ne 25 (by omega)), if_neg (show ¬ nI (100 + n) = (26 : Int32) from ne 26 (by omega)), if_neg (show ¬ nI (100 + n) = (27 : Int32) from ne 27 (by omega)), if_neg (show ¬ nI (100 + n) < (100 : Int32) from fun z => by rw [show (100 : Int32) = nI 100 from rfl, nI_ltI (by omega) (by omega)] at z; omega), j_X11_worked_243, if_neg (show ¬ nI (100 + n) = (29 : Int32) from ne 29 (by omega)), show nI (100 + n) - (100 : Int32) = nI n by rw [show (100 : Int32) = nI 100 from rfl, nI_sub (by omega), Nat.add_sub_cancel_left]])
  rw [w_268 h1 (by omega)] at st
  refine ⟨_, evGo_1 st, fr_sI (fr_refl _ _) ⟨by omega, by omega⟩, fun f i a b c d => gI_ne d, gI_eq rfl rfl⟩
theorem C_fct {ro : List Nat} {n : Nat} (hl : ro.length ≤ 5) (h1n : 1 ≤ n) (hn : n ≤ 4) : CPart ro [nI n] (fct n) := by
  intro u k N h1 h3
  obtain ⟨cc, ck⟩ := cN_1 h3
  have ev : gI u 22 n = Vv u (fct n) := by
    rcases (by omega : n = 1 ∨ n = 2 ∨ n = 3 ∨ n = 4) with rfl | rfl | rfl | rfl <;> rfl
  have st : b_X11_worked_14 0 (nI ro.length, nI k, u) = _ := w_code h3.1 h3.2.1 ck cc _ (by
    have ne : ∀ m : Nat, 5 ≤ m → m < 100 → ¬ nI n = nI m := fun m hm hm2 z => by rw [nI_eq (by omega) (by omega)] at z; omega
    rw [if_neg (show ¬ nI n = (28 : Int32) from ne 28 (by omega) (by omega)), if_neg (show ¬ nI n = (30 : Int32) from ne 30 (by omega) (by omega)), if_neg (show ¬ nI n = (20 : Int32) from ne 20 (by omega) (by omega)), if_neg (show ¬ nI n = (21 : Int32) from ne 21 (by omega) (by omega)), if_neg (show ¬ nI n = (22 : Int32) from ne 22 (by omega) (by omega)), if_neg (show ¬ nI n = (24 : Int32) from ne 24 (by omega) (by omega)), if_neg (show ¬ nI n = (25 : Int32) from ne 25 (by omega) (by omega)), if_neg (show ¬ nI n = (26 : Int32) from ne 26 (by omega) (by omega)), if_neg (show ¬ nI n = (27 : Int32) from ne 27 (by omega) (by omega)), if_pos (show nI n < (100 : Int32) from (nI_ltI (b := 100) (by omega) (by omega)).mpr (by omega)), if_neg (show ¬ (20 : Int32) ≤ nI n from fun z => by rw [show (20 : Int32) = nI 20 from rfl, nI_leI (by omega) (by omega)] at z; omega), if_pos (show ib (nI n) 20 = true from (ib_nI (by omega)).mpr (by omega)), ix_nI (by omega), j_X11_worked_243, if_neg (show ¬ nI n = (29 : Int32) from ne 29 (by omega) (by omega)), ev])
  rw [w_268 h1 (by omega)] at st
  refine ⟨_, evGo_1 st, fr_sI (fr_refl _ _) ⟨by omega, by omega⟩, fun f i a b c d => gI_ne d, gI_eq rfl rfl⟩
/-- a level is opened -/
theorem w_open {u : gm_M} {ro : List Nat} {k N : Nat} {c : Int32} {o : Nat} {l : List Int32} (hl : ro.length ≤ 5) (hc : (c = 28 ∧ o = 2) ∨ (c = 30 ∧ o = 1)) (h1 : bnM u ro) (h3 : cN u k N (c :: l)) : ∃ w, evGo 1 (nI ro.length, nI k, u) (nI (o :: ro).length, nI (k + 1), w) ∧ bnM w (o :: ro) ∧ fr evP u w ∧ (∀ f i, 13 ≤ f → f ≤ 21 → i ≤ ro.length → gI w f i = gI u f i) ∧ gI w 20 (ro.length + 1) = 0 ∧ gI w 17 (ro.length + 1) = 0 ∧ gI w 18 (ro.length + 1) = (20 : Int32) ∧ gI w 16 (ro.length + 1) = 0 ∧ gI w 14 (ro.length + 1) = 0 ∧ cN w (k + 1) N l := by
  obtain ⟨cc, ck⟩ := cN_1 h3
  have core : ok (j_X11_worked_46 0 (nI ro.length) (nI k) c u) (fun r => ∃ w, r = .inl (nI (ro.length + 1), nI (k + 1), w) ∧ gI w 21 (ro.length + 1) = nI (if o = 1 then 1 else 0) ∧ fr evP u w ∧ (∀ f i, 13 ≤ f → f ≤ 21 → i ≤ ro.length → gI w f i = gI u f i) ∧ gI w 20 (ro.length + 1) = 0 ∧ gI w 17 (ro.length + 1) = 0 ∧ gI w 18 (ro.length + 1) = (20 : Int32) ∧ gI w 16 (ro.length + 1) = 0 ∧ gI w 14 (ro.length + 1) = 0) := by
    have s66 : ∀ b : Nat, ok (j_X11_worked_66 0 (nI (ro.length + 1)) (nI k) (nI (ro.length + 1)) (nI b) u) (fun r => ∃ w, r = .inl (nI (ro.length + 1), nI (k + 1), w) ∧ gI w 21 (ro.length + 1) = nI b ∧ fr evP u w ∧ (∀ f i, 13 ≤ f → f ≤ 21 → i ≤ ro.length → gI w f i = gI u f i) ∧ gI w 20 (ro.length + 1) = 0 ∧ gI w 17 (ro.length + 1) = 0 ∧ gI w 18 (ro.length + 1) = (20 : Int32) ∧ gI w 16 (ro.length + 1) = 0 ∧ gI w 14 (ro.length + 1) = 0) := by
      intro b
      unfold j_X11_worked_66
      rw [if_pos (show ib (nI (ro.length + 1)) 7 = true from (ib_nI (by omega)).mpr (by omega)), ix_nI (by omega), gm_letE]
      refine ok_bind (m_opens (e := ro.length + 1) (by omega)) ?_
      rintro w ⟨w1, w2, w3, w4, w5, w6⟩
      rw [show nI k + (1 : Int32) = nI (k + 1) from nI_add k 1]
      refine ok_some ⟨w, rfl, (fr_I w6 (by omega)).trans (gI_eq rfl rfl), fr_trans (fr_sI (fr_refl _ _) ⟨by omega, by omega⟩) (fr_mono w6 (fun a j z => ⟨by omega, by omega⟩)), fun f i p q r => (fr_I w6 (by omega)).trans (gI_ne (by omega)), w5, w3, w4, w2, w1⟩
    unfold j_X11_worked_46
    rw [show nI ro.length + (1 : Int32) = nI (ro.length + 1) from nI_add _ 1]
    rcases hc with ⟨rfl, rfl⟩ | ⟨rfl, rfl⟩
    · rw [if_neg (by decide)]; exact s66 0
    · rw [if_pos (by decide)]; exact s66 1
  obtain ⟨r, er, w, rfl, w1, w2, w3, w4, w5, w6, w7, w8⟩ := core
  have st : b_X11_worked_14 0 (nI ro.length, nI k, u) = some (.inl (nI (ro.length + 1), nI (k + 1), w)) := w_code h3.1 h3.2.1 ck cc _ (by
    rw [← er]
    rcases hc with ⟨rfl, rfl⟩ | ⟨rfl, rfl⟩ <;> rfl)
  exact ⟨w, evGo_1 st, ⟨w1, bnM_eq ro h1 (fun i hi => w3 21 i (by omega) (by omega) hi)⟩, w2, w3, w4, w5, w6, w7, w8, cN_fr (cN_app (a := [c]) (b := l) h3).2 w2⟩
theorem C_not {ro : List Nat} {cs : List Int32} {v : pEv} (hl : ro.length ≤ 5) (h : CPart (1 :: ro) cs v) : CPart ro ((30 : Int32) :: cs) (fun s p g d => ntI (v s p g d)) := by
  intro u k N h1 h3
  obtain ⟨w, w1, w2, w3, w4, -, -, -, -, -, w5⟩ := w_open (o := 1) hl (.inr ⟨rfl, rfl⟩) h1 h3
  obtain ⟨z, q1, q2, q3, q4⟩ := h w (k + 1) N w2 w5
  have eb : bs (1 :: ro) = bs ro := by simp [bs]
  have en : ∀ x, ng (1 :: ro) x = ng ro (ntI x) := fun x => by simp [ng]
  have hb := bs_le ro
  rw [eb] at q1 q3 q4
  refine ⟨z, ?_, fr_trans w3 q2, fun f i a b c d => (q3 f i a b c d).trans (w4 f i a b (by omega)), ?_⟩
  · have := evGo_tr w1 q1
    rw [List.length_cons, show k + (cs.length + 1) = k + 1 + cs.length by omega, Nat.add_comm cs.length 1]
    exact this
  · rw [q4, en, w4 20 _ (by omega) (by omega) hb, w4 19 _ (by omega) (by omega) hb]
    have : Vv w v = Vv u v := Vv_fr w3
    rw [this]
    rfl
theorem C_par {ro : List Nat} {cs : List Int32} {v : pEv} (hl : ro.length ≤ 4) (h : CWhole (2 :: ro) cs v) : CPart ro ((28 : Int32) :: (cs ++ [(29 : Int32)])) v := by
  intro u k N h1 h3
  obtain ⟨w, w1, w2, w3, w4, w5, w6, w7, w8, w9, w10⟩ := w_open (o := 2) (by omega) (.inl ⟨rfl, rfl⟩) h1 h3
  obtain ⟨c1, c2⟩ := cN_app w10
  obtain ⟨z, q1, q2, q3, q4⟩ := h w (k + 1) N w2 ⟨w5, w6, w7, w8, w9⟩ c1
  have q4' : wvu z (ro.length + 1) = Vv w v := q4
  have c2z := cN_fr c2 q2
  obtain ⟨cc, ck⟩ := cN_1 c2z
  have hb := bs_le ro
  have lz : ∀ f i, 13 ≤ f → f ≤ 21 → i ≤ ro.length → gI z f i = gI u f i := fun f i a b c => (q3 f i a b (.inl (by show i < ro.length + 1; omega))).trans (w4 f i a b c)
  have core : ok (j_X11_worked_243 0 (nI (ro.length + 1)) (nI (k + 1 + cs.length)) (29 : Int32) (0 : Int32) z) (fun r => ∃ y, r = .inl (nI (bs ro).length, nI (k + 1 + cs.length + 1), y) ∧ fr evP z y ∧ (∀ f i, 13 ≤ f → f ≤ 21 → i ≤ (bs ro).length → ¬ (f = 19 ∧ i = (bs ro).length) → gI y f i = gI z f i) ∧ gI y 19 (bs ro).length = (if gI z 20 (bs ro).length = 0 then ng ro (Vv w v) else gI z 19 (bs ro).length * ng ro (Vv w v))) := by
    unfold j_X11_worked_243
    rw [if_pos rfl]
    refine ok_bind (m_tests (e := ro.length + 1) (u := z) (by omega)) ?_
    rintro x ⟨x1, x2, x3, x4, x5, x6⟩
    have x1' : gI x 13 (ro.length + 1) = Vv w v := x1.trans q4'
    rw [if_pos (show ib (nI (ro.length + 1)) 7 = true from (ib_nI (by omega)).mpr (by omega)), ix_nI (by omega), gm_letE, x1', show nI (ro.length + 1) + (-1 : Int32) = nI ro.length by rw [show (-1 : Int32) = -nI 1 from rfl, nI_m1 (by omega), Nat.add_sub_cancel]]
    have lx : ∀ f i, i ≤ ro.length → gI x f i = gI z f i := fun f i c => fr_I x6 (by omega)
    have bx : bnM x ro := bnM_eq ro h1 (fun i hi => (lx 21 i hi).trans (lz 21 i (by omega) (by omega) hi))
    rw [w_268 bx (by omega)]
    refine ok_some ⟨_, rfl, fr_sI (fr_mono x6 (fun a j z => ⟨by omega, by omega⟩)) ⟨by omega, by omega⟩, fun f i a b c d => (gI_ne d).trans (lx f i (by omega)), ?_⟩
    rw [gI_eq rfl rfl, lx 20 _ hb, lx 19 _ hb]
  obtain ⟨r, er, y, rfl, y1, y2, y3⟩ := core
  have st : b_X11_worked_14 0 (nI (ro.length + 1), nI (k + 1 + cs.length), z) = some (.inl (nI (bs ro).length, nI (k + 1 + cs.length + 1), y)) := w_code c2z.1 c2z.2.1 ck cc _ (by
    rw [← er]; rfl)
  refine ⟨y, ?_, fr_trans w3 (fr_trans q2 y1), fun f i a b c d => (y2 f i a b c d).trans (lz f i a b (by omega)), ?_⟩
  · have := evGo_tr w1 (evGo_tr q1 (evGo_1 st))
    rw [List.length_cons, List.length_append, List.length_singleton, show k + (cs.length + 1 + 1) = k + 1 + cs.length + 1 by omega, show cs.length + 1 + 1 = 1 + (cs.length + 1) by omega]
    exact this
  · rw [y3, lz 20 _ (by omega) (by omega) hb, lz 19 _ (by omega) (by omega) hb, Vv_fr w3]
theorem C_law {u : gm_M} {cs : List Int32} {v : pEv} (h : CWhole [] cs v) (h8 : gI u 8 0 = nI 0) (h9 : gI u 9 0 = nI cs.length) (hl : cs.length ≤ 1000) (hpos : 0 < cs.length) (hc : ∀ i c, cs[i]? = some c → gI u 10 i = c) : lawM u v := by
  refine .inr ⟨by rw [h8, h9, Ne, nI_eq (by omega) (by omega)]; omega, fun w w9 w8 w10 => ?_⟩
  unfold f_X11_worked
  have hop : ok (f_X11_opens (0 : Int32) w) _ := m_opens (e := 0) (u := w) (by omega)
  refine ok_bind hop ?_
  rintro x ⟨x1, x2, x3, x4, x5, x6⟩
  have fx : fr evP w x := fr_mono x6 (fun a j z => ⟨by omega, by omega⟩)
  rw [if_pos (show ib (nI 0) 2 = true by decide), show ix (nI 0) = 0 by decide, gm_letE, fr_I fx (a := 8) (k := 0) (by unfold evP; omega), w8, h8]
  have cn : cN x 0 cs.length cs := ⟨(fr_I fx (by unfold evP; omega)).trans (w9.trans h9), hl, by omega, fun i c hi => by
    have := (List.getElem?_eq_some_iff.mp hi).1
    rw [Nat.zero_add, fr_I fx (a := 10) (k := i) (by unfold evP; omega), w10 i (by omega)]
    exact hc i c hi⟩
  obtain ⟨z, q1, q2, q3, q4⟩ := h x 0 cs.length trivial ⟨x5, x3, x4, x2, x1⟩ cn
  have q4' : wvu z 0 = Vv x v := q4
  rw [Nat.zero_add] at q1
  have hlp : gm_lp (b_X11_worked_14 0) gm_FU (nI 0, nI 0, x) = some z := by
    have e := q1 (99999 - cs.length + 1)
    rw [show cs.length + (99999 - cs.length + 1) = gm_FU by unfold gm_FU; omega] at e
    have e' : gm_lp (b_X11_worked_14 0) gm_FU (nI 0, nI 0, x) = _ := e
    rw [e']
    have eb : b_X11_worked_14 0 (nI ([] : List Nat).length, nI cs.length, z) = some (.inr z) := by
      rw [b_X11_worked_14]
      rw [if_pos (show ib (0 : Int32) 2 = true by decide), show ix (0 : Int32) = 0 by decide, fr_I q2 (a := 9) (k := 0) (by unfold evP; omega), cn.1, if_pos ((nI_leI (by omega) (by omega)).mpr (Nat.le_refl _))]
    simp only [gm_lp, eb, Option.bind_some]
  have hlp' : gm_lp (b_X11_worked_14 (nI 0)) gm_FU ((0 : Int32), nI 0, x) = some z := hlp
  rw [hlp']
  simp only [Option.bind_some]
  have ht : ok (f_X11_tests (0 : Int32) z) _ := m_tests (e := 0) (u := z) (by omega)
  refine ok_bind ht ?_
  rintro y ⟨y1, -, -, -, -, y6⟩
  refine ok_some ⟨?_, fr_trans fx (fr_trans q2 (fr_mono y6 (fun a j z => ⟨by omega, by omega⟩)))⟩
  show gI y 13 0 = _
  have : gI y 13 0 = Vv x v := y1.trans q4'
  rw [this, Vv_fr fx]
  rfl
