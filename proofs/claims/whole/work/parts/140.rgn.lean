/-! reign: all lines, both programs -/
theorem lnP_mono {g : Nat} (a j : Nat) (z : lnP g a j) : a = 3 ∨ a = 2 ∨ (g ≤ a ∧ a ≤ g + 2) := by
  rcases z with z | z | z
  · exact .inl z.1
  · exact .inr (.inl z.1)
  · exact .inr (.inr z)
theorem gG_app {R : pR} {L : pG} {l : Nat × Nat} (h : gG R L) (hl : gLn R l) (hn : L.length ≠ 40) : gG R (L ++ [l]) := by
  have h1 := h.1
  refine ⟨by rw [List.length_append, List.length_singleton]; omega, fun m hm => ?_⟩
  rcases List.mem_append.mp hm with z | z
  · exact h.2 m z
  · have : m = l := by simpa using z
    rw [this]; exact hl
theorem c_rgLoop {t : List Nat} {R : pR} {r g : Nat} (hr2 : r = 5 ∨ r = 13) (hn : rN R ≤ 6) (hnm : gNm R) (hg : g = 21 ∨ g = 24) (gt : gT t) : ∀ (F G k p : Nat) (L : pG) (u : gm_M), rC u r R → gG R L → gC u g L → cuC u t p → p ≤ t.length → gI u 2 1 = 0 → k ≤ p → t.length < p + F →
    ok (gm_lp (b_X8_readReign_18 r g) (F + 1 + G) (nI k, u)) (fun v => fr (lnP g) u v ∧ ((∃ f, rdA t R F p L = .inl f ∧ gI v 2 1 = nI f ∧ 1 ≤ f ∧ f ≤ 17000) ∨ (∃ L', rdA t R F p L = .inr L' ∧ gI v 2 1 = 0 ∧ gC v g L' ∧ gG R L'))) := by
  intro F
  induction F with
  | zero => intro G k p L u _ _ _ _ h1 _ _ h2; omega
  | succ F ih =>
    intro G k p L u hr gL hG hcu hp h0 hk hF
    have gl := gt.1
    rw [show F + 1 + 1 + G = (F + 1 + G) + 1 by omega]
    by_cases q : kS t p = 0
    · have e : rdA t R (F + 1) p L = .inr L := by simp only [rdA, if_pos q]
      rw [e]
      have eb : b_X8_readReign_18 r g (nI k, u) = some (.inr u) := by
        simp only [b_X8_readReign_18]
        rw [hcu.2.2.1, q, h0]
        by_cases z : (1000 : Int32) ≤ nI k
        · rw [if_pos z]
        · rw [if_neg z]; rfl
      simp only [gm_lp, eb, Option.bind_some]
      exact ok_some ⟨fr_refl _ _, .inr ⟨L, rfl, h0, hG, gL⟩⟩
    · have hE := kE_le hp q
      obtain ⟨v, ev, v1, v2⟩ := c_line hr hr2 hn hnm hg gL.1 hG hcu gt hp h0
      have eb : b_X8_readReign_18 r g (nI k, u) = some (.inl (nI (k + 1), v)) := by
        simp only [b_X8_readReign_18]
        rw [if_neg (show ¬ (1000 : Int32) ≤ nI k from fun z => by rw [show (1000 : Int32) = nI 1000 from rfl, nI_leI (by omega) (by omega)] at z; omega), if_pos h0, hcu.2.2.1, if_neg (show ¬ nI (kS t p) = (0 : Int32) from fun z => q ((nI_eq (b := 0) (by have := kS_le t p; omega) (by omega)).mp z)), ev]
        simp only [Option.bind_some]
        rw [show nI k + (1 : Int32) = nI (k + 1) from nI_add k 1]
      simp only [gm_lp, eb, Option.bind_some]
      rcases v2 with ⟨f, e, e2, e3, e4⟩ | ⟨p', l, e, h1, h2, h3, h4, h5⟩
      · have er : rdA t R (F + 1) p L = .inl f := by simp only [rdA, if_neg q, e]
        rw [er, show F + 1 + G = (F + G) + 1 by omega]
        have eb2 : b_X8_readReign_18 r g (nI (k + 1), v) = some (.inr v) := by
          simp only [b_X8_readReign_18]
          rw [if_neg (fm (g := g) e3 e4 e2)]
          by_cases z : (1000 : Int32) ≤ nI (k + 1)
          · rw [if_pos z]
          · rw [if_neg z]
        simp only [gm_lp, eb2, Option.bind_some]
        exact ok_some ⟨v1, .inl ⟨f, rfl, e2, e3, e4⟩⟩
      · have er : rdA t R (F + 1) p L = rdA t R F p' (L ++ [l]) := by simp only [rdA, if_neg q, e]
        obtain ⟨g1, g2⟩ := rdL_g hnm e
        rw [er]
        refine ok_mono (ih G (k + 1) p' (L ++ [l]) v (rC_fr hr v1 (fun a j q1 q2 z => by have := lnP_mono a j z; omega)) (gG_app gL g2 g1) h5 h4 h2 h3 (by omega) (by omega)) ?_
        rintro w ⟨w1, w2⟩
        exact ⟨fr_trans v1 w1, w2⟩
theorem rdL_p {t : List Nat} {R : pR} {n p p' : Nat} {l : Nat × Nat} (hp : p ≤ t.length) (hs : kS t p ≠ 0) (e : rdL t R n p = .inr (p', l)) : p < p' ∧ p' ≤ t.length := by
  have cl : ∀ x m, x ≤ t.length → p ≤ x → cls t x m = .inr (p', l) → p < p' ∧ p' ≤ t.length := fun x m hx hpx ec => by
    unfold cls at ec
    by_cases z : tSg t x = 59
    · rw [if_pos z] at ec
      simp only [Sum.inr.injEq, Prod.mk.injEq] at ec
      have := kE_le hx (sg_S (t := t) (p := x) (by omega))
      omega
    · rw [if_neg z] at ec; cases ec
  have hE := kE_le hp hs
  unfold rdL at e
  split at e
  · cases e
  · split at e
    · cases e
    · split at e
      · split at e
        · cases e
        · rename_i q5
          split at e
          · cases e
          · have hs2 : kS t (kE t p) = 1 := wd_S (by have := Classical.not_not.mp q5; omega)
            have hE2 := kE_le hE.2.1 (show kS t (kE t p) ≠ 0 by omega)
            exact cl _ _ hE2.2.1 (by omega) e
      · split at e
        · split at e
          · cases e
          · rename_i q5
            split at e
            · cases e
            · have hE2 := kE_le hE.2.1 (show kS t (kE t p) ≠ 0 by have := Classical.not_not.mp q5; omega)
              exact cl _ _ hE2.2.1 (by omega) e
        · exact cl _ _ hE.2.1 (by omega) e
theorem m_rgLoop {t : List Nat} {R : pR} (hn : rN R ≤ 6) (hnm : gNm R) (gt : gT t) : ∀ (F G p : Nat) (L : pG) (u : gm_M), rM u R → gG R L → gMm u 5 L → cuM u t p → p ≤ t.length → t.length < p + F →
    ok (gm_lp b_X11_reign_16 (F + G) u) (fun o => (∃ f v, rdA t R F p L = .inl f ∧ o = .inl v ∧ gI v 1 9 = nI f ∧ fr rgP u v) ∨ (∃ L' v, rdA t R F p L = .inr L' ∧ o = .inr v ∧ gMm v 5 L' ∧ fr rgP u v)) := by
  intro F
  induction F with
  | zero => intro G p L u _ _ _ _ h1 h2; omega
  | succ F ih =>
    intro G p L u hr gL hG hcu hp hF
    rw [show F + 1 + G = (F + G) + 1 by omega]
    by_cases q : kS t p = 0
    · have e : rdA t R (F + 1) p L = .inr L := by simp only [rdA, if_pos q]
      rw [e]
      have eb : b_X11_reign_16 u = some (.inr (.inr u)) := by
        simp only [b_X11_reign_16]
        rw [hcu.2.2.1, q]; rfl
      simp only [gm_lp, eb, Option.bind_some]
      exact ok_some (.inr ⟨L, u, rfl, rfl, hG, fr_refl _ _⟩)
    · obtain ⟨⟨o, v⟩, ev, v1, v2⟩ := m_line hr hn hnm gL.1 hG hcu gt hp
      simp only at v1 v2
      have e0 : ¬ gI u 1 6 = 0 := by rw [hcu.2.2.1]; exact fun z => q ((nI_eq (b := 0) (by have := kS_le t p; omega) (by omega)).mp z)
      rcases v2 with ⟨f, e, rfl, e2⟩ | ⟨p', l, e, rfl, h4, h5⟩
      · have er : rdA t R (F + 1) p L = .inl f := by simp only [rdA, if_neg q, e]
        have eb : b_X11_reign_16 u = some (.inr (.inl v)) := by
          simp only [b_X11_reign_16]
          rw [if_neg e0, ev]
          simp only [Option.bind_some]
          rw [if0]
        rw [er]
        simp only [gm_lp, eb, Option.bind_some]
        exact ok_some (.inl ⟨f, v, rfl, rfl, e2, v1⟩)
      · have er : rdA t R (F + 1) p L = rdA t R F p' (L ++ [l]) := by simp only [rdA, if_neg q, e]
        obtain ⟨g1, g2⟩ := rdL_g hnm e
        have eb : b_X11_reign_16 u = some (.inl v) := by
          simp only [b_X11_reign_16]
          rw [if_neg e0, ev]
          simp only [Option.bind_some]
          rw [if1]
        have hp' := rdL_p hp q e
        rw [er]
        simp only [gm_lp, eb, Option.bind_some]
        refine ok_mono (ih G p' (L ++ [l]) v (rM_fr hr hn v1 (fun a j q1 z => by rcases z with z | z | z <;> rcases q1 with q1 | q1 | q1 | q1 <;> omega)) (gG_app gL g2 g1) h5 h4 hp'.2 (by omega)) ?_
        rintro w (⟨f, x, a, b, c, d⟩ | ⟨L', x, a, b, c, d⟩)
        · exact .inl ⟨f, x, a, b, c, fr_trans v1 d⟩
        · exact .inr ⟨L', x, a, b, c, fr_trans v1 d⟩
theorem c_start {u : gm_M} {t : List Nat} (h : tC u t) (g : gT t) : ok (f_X9_start u) (fun v => cuC v t 0 ∧ fr tkP u v) := by
  unfold f_X9_start
  rw [gm_letE]
  have f0 : fr tkP u (sI u 3 3 0) := fr_sI (fr_refl _ _) ⟨rfl, by omega, by omega⟩
  refine ok_bind (c_advance (p := 0) (tC_tk h f0) g (gI_eq rfl rfl) (Nat.zero_le _)) ?_
  rintro v ⟨v1, v2⟩
  exact ok_some ⟨v1, fr_trans f0 v2⟩
theorem m_begins {u : gm_M} {t : List Nat} (h : tM u t) (g : gT t) : ok (f_X11_begins u) (fun v => cuM v t 0 ∧ tM v [] ∧ fr (fun a j => a = 1 ∧ (j = 1 ∨ (3 ≤ j ∧ j ≤ 8))) u v) := by
  unfold f_X11_begins
  simp only [gm_letE, h.1]
  have f0 : fr (fun a j => a = 1 ∧ (j = 1 ∨ (3 ≤ j ∧ j ≤ 8))) u (sI (sI (sI u 1 3 (nI t.length)) 1 1 0) 1 4 0) := fr_sI (fr_sI (fr_sI (fr_refl _ _) ⟨rfl, by omega⟩) ⟨rfl, by omega⟩) ⟨rfl, by omega⟩
  have e3 : gI (sI (sI (sI u 1 3 (nI t.length)) 1 1 0) 1 4 0) 1 3 = nI t.length := by rw [gI_ne (by omega), gI_ne (by omega)]; exact gI_eq rfl rfl
  have e1 : gI (sI (sI (sI u 1 3 (nI t.length)) 1 1 0) 1 4 0) 1 1 = nI 0 := by rw [gI_ne (by omega)]; exact gI_eq rfl rfl
  have e4 : gI (sI (sI (sI u 1 3 (nI t.length)) 1 1 0) 1 4 0) 1 4 = nI 0 := gI_eq rfl rfl
  generalize sI (sI (sI u 1 3 (nI t.length)) 1 1 0) 1 4 0 = w at *
  have tr : tR w t := ⟨e3, fun i s hs => (fr_I f0 (by omega)).trans (h.2 i s hs)⟩
  refine ok_bind (m_next tr g e4 (Nat.zero_le _)) ?_
  rintro v ⟨v1, v2⟩
  exact ok_some ⟨v1, ⟨(fr_I v2 (by unfold tmP; omega)).trans e1, fun i s hs => by simp at hs⟩, fr_trans f0 (fr_mono v2 (fun a j z => ⟨z.1, by unfold tmP at z; omega⟩))⟩
/-- the class's picture with another tape and another reign -/
theorem RC_rg {P : Nat → Nat → Prop} {u v : gm_M} {t t' : List Nat} {R : pR} {G G' : pG} {S : pS} {K : pK} {B : List pK} {M : pMk} {g' : Nat} (h : RC u t R G S K B M) (hB : B.length ≤ 16) (f : fr P u v) (hp : ∀ a j, P a j → a = 3 ∨ a = 2 ∨ (21 ≤ a ∧ a ≤ 26) ∨ (a = 1 ∧ (j = 4 ∨ j = 5))) (ht : tC v t') (hg : rfG v g') (hG : gC v g' G') : RC v t' R G' S K B M := by
  obtain ⟨h1, ⟨r, ⟨hr1, hr2⟩, hr3⟩, -, h4, h5, h6, h7⟩ := h
  have ff : fr (fun a j => a = 3 ∨ a = 2 ∨ (21 ≤ a ∧ a ≤ 26) ∨ (a = 1 ∧ (j = 4 ∨ j = 5))) u v := fr_mono f hp
  refine ⟨ht, ⟨r, ⟨(fr_R ff (by omega)).trans hr1, ?_⟩, rC_fr hr3 ff (fun a j q1 q2 => by omega)⟩, ⟨g', hg, hG⟩, sC_fr h4 ff (fun a j q1 q2 => by omega), kC_fr h5 ff (fun a j q1 q2 => by omega), pC_fr h6 hB ff (by omega) (fun j => by omega) (fun a j q1 q2 => by omega), mkC_fr h7 ff (fun j => by omega) (fun a j q1 => by omega)⟩
  rw [fr_R ff (a := 1) (k := 3) (by omega)]; exact hr2
theorem RM_rg {P : Nat → Nat → Prop} {u v : gm_M} {n : Nat} {t t' : List Nat} {R : pR} {G G' : pG} {S : pS} {K : pK} {B : List pK} {M : pMk} (h : RM u t R G S K B M) (g : gA n t R G S K B M) (f : fr P u v) (hp : ∀ a j, P a j → irM a j ∨ (a = 1 ∧ j = 1) ∨ (a = 23 ∧ j = 0) ∨ ((a = 24 ∨ a = 25) ∧ j < 40)) (ht : tM v t') (hG : gMm v 0 G') : RM v t' R G' S K B M := by
  obtain ⟨h1, h2, h3, h4, h5, h6, h7, h8⟩ := h
  obtain ⟨g1, g2, g3, g4, g5, g6, g7, g8⟩ := g
  have ff : ∀ a j, ¬ (((a = 1 ∧ j ≠ 1 ∧ j ≠ 45 ∧ j ≠ 46) ∨ (11 ≤ a ∧ a ≤ 22) ∨ a = 30 ∨ a = 31 ∨ 35 ≤ a ∨ (a = 3 ∧ 4 ≤ j) ∨ (4 ≤ a ∧ a ≤ 7 ∧ 6 ≤ j) ∨ (8 ≤ a ∧ a ≤ 9 ∧ 1 ≤ j) ∨ (a = 10 ∧ 1000 ≤ j) ∨ (a = 23 ∧ j = 5) ∨ (24 ≤ a ∧ a ≤ 25 ∧ 200 ≤ j)) ∨ (a = 1 ∧ j = 1) ∨ (a = 23 ∧ j = 0) ∨ ((a = 24 ∨ a = 25) ∧ j < 40)) → gI v a j = gI u a j := fun a j q => fr_I f (fun z => q (hp a j z))
  have fJ : ∀ p, p < 6 → gJ v 4 p = gJ u 4 p := fun p hp6 => fr_J f (fun z => by
    have := hp _ _ z
    rcases this with z | z | z | z
    · rcases z with z | z | z | z | z | z | z | z | z | z | z <;> omega
    · omega
    · omega
    · omega)
  refine ⟨ht, rM_eq h2 g2.1 (fun a j q => ff a j (by rcases q with q | q | q | q <;> omega)) fJ, hG, sMm_eq h4 g5.1 (ff _ _ (by omega)) (fun i hi => ⟨ff _ _ (by omega), ff _ _ (by omega)⟩), kM_eq h5 (gK_gQ g6 g2) (fun j hj => ff _ _ (by omega)), pM_eq h6 g2 g7 (ff _ _ (by omega)) (fun j hj => ff _ _ (by omega)), ?_, (ff _ _ (by omega)).trans h8⟩
  intro i hi
  rcases h7 i hi with ⟨a, b⟩ | ⟨k, G1, S1, a, b, c, d, e⟩
  · exact .inl ⟨a, (ff 34 i (by omega)).trans b⟩
  · obtain ⟨q1, q2, q3⟩ := g8 i k G1 S1 a
    exact .inr ⟨k, G1, S1, a, (ff 34 i (by omega)).trans b, kM_eq c (gK_gQ q1 g2) (fun j hj => ff _ _ (by omega)), gMm_eq d q2.1 (ff _ _ (by omega)) (fun j hj => ⟨ff _ _ (by omega), ff _ _ (by omega)⟩), sMm_eq e q3.1 (ff _ _ (by omega)) (fun j hj => ⟨ff _ _ (by omega), ff _ _ (by omega)⟩)⟩
theorem gT_nil : gT [] := ⟨by simp, fun c hc => by cases hc⟩
theorem isReign_n : isReign 21 = true ∧ isReign 24 = true := by decide
theorem st_reign (n : Nat) : St_reign (RelN (n + 1)) (RelN n) := by
  intro uC uM h _
  obtain ⟨h0, t, R, G, S, K, B, M, g, hC, hM⟩ := RelN_mono n uC uM h
  obtain ⟨gt, gRr, gNN, gGG, gSS, gKK, gBB, gMM⟩ := id g
  have gl := gt.1
  obtain ⟨hT, ⟨r, hr, hrC⟩, ⟨gg, hgg, hgC⟩, -⟩ := id hC
  obtain ⟨i1, i2, i3⟩ := isR_ok hr
  obtain ⟨j1, j2, j3⟩ := isG_ok hgg
  -- the spare reign
  obtain ⟨g', hg', hsp, hdis⟩ : ∃ g', (g' = 21 ∨ g' = 24) ∧ gR uC 1 5 = g' ∧ ((gg = 21 ∧ g' = 24) ∨ (gg = 24 ∧ g' = 21)) := by
    rcases hgg.2 with ⟨a, b⟩ | ⟨a, b⟩
    · exact ⟨24, .inr rfl, b, .inl ⟨a, rfl⟩⟩
    · exact ⟨21, .inl rfl, b, .inr ⟨a, rfl⟩⟩
  have isg' : isReign g' = true := by rcases hg' with rfl | rfl <;> decide
  have ga' : ∀ G', gG R G' → gA n [] R G' S K B M := fun G' hG' => ⟨gT_nil, gRr, gNN, hG', gSS, gKK, gBB, gMM⟩
  -- the class
  have cside : ok (f_X10_reign uC) (fun o => (∃ f, rdA t R 1001 0 [] = .inl f ∧ o.1 = nI f ∧ RC o.2 [] R G S K B M) ∨ (∃ L', rdA t R 1001 0 [] = .inr L' ∧ o.1 = nI 0 ∧ gG R L' ∧ RC o.2 [] R L' S K B M)) := by
    unfold f_X10_reign f_X8_readReign
    rw [i3, hsp]
    rw [i3] at i1
    simp only [i1, isg', if_true, gm_letE]
    have f4 : fr (lnP g') uC (sI uC 2 1 0) := lnP_4
    have e4 : gI (sI uC 2 1 0) 2 1 = 0 := gI_eq rfl rfl
    generalize sI uC 2 1 0 = u0 at *
    have ecl : f_X6_clear g' u0 = some (sI u0 g' 2 0) := rfl
    rw [ecl]
    simp only [Option.bind_some]
    have f5 : fr (lnP g') uC (sI u0 g' 2 0) := fr_sI f4 (.inr (.inr ⟨by omega, by omega⟩))
    have e5 : gI (sI u0 g' 2 0) 2 1 = 0 := (gI_ne (by omega)).trans e4
    have g5 : gC (sI u0 g' 2 0) g' [] := ⟨gI_eq rfl rfl, fun i l hl => by simp at hl⟩
    generalize sI u0 g' 2 0 = u1 at *
    obtain ⟨v, ev, v1, v2⟩ := c_start (tC_fr hT f5 (fun z => by have := lnP_mono _ _ z; rcases z with z | z | z <;> (try unfold tkP at z) <;> omega) (fun j z => by have := lnP_mono _ _ z; omega)) gt
    rw [ev]
    simp only [Option.bind_some]
    have f6 : fr (lnP g') uC v := fr_trans f5 (lnP_tk v2)
    have f7m : ∀ a j, lnP g' a j → (a = 3 ∨ a = 2 ∨ (21 ≤ a ∧ a ≤ 26) ∨ (a = 1 ∧ (j = 4 ∨ j = 5))) := fun a j z => by
      have z2 := lnP_mono (g := g') a j z
      rcases z2 with z2 | z2 | z2
      · exact .inl z2
      · exact .inr (.inl z2)
      · exact .inr (.inr (.inl (by omega)))
    have n1 : ∀ j, ¬ lnP g' 1 j := fun j z => by have := lnP_mono (g := g') _ _ z; omega
    have hlp := c_rgLoop i2 gRr.1 gNN hg' gt 1001 98998 0 0 [] v (rC_fr hrC f6 (fun a j q1 q2 z => by have := lnP_mono a j z; omega)) ⟨by simp, fun l hl => by cases hl⟩ (gC_fr g5 v2 (fun a j q1 q2 z => by unfold tkP at z; omega)) v1 (Nat.zero_le _) ((fr_I v2 (by unfold tkP; omega)).trans e5) (Nat.le_refl _) (by omega)
    rw [show (1001 + 1 + 98998 : Nat) = gm_FU from rfl] at hlp
    obtain ⟨w, ew, w1, w2⟩ := hlp
    have ew' : gm_lp (b_X8_readReign_18 r g') gm_FU ((0 : Int32), v) = some w := ew
    rw [ew']
    simp only [Option.bind_some, f_X9_empty, gm_letE]
    have f7 : fr (lnP g') uC w := fr_trans f6 w1
    have f8 : fr (fun a j => a = 3 ∨ a = 2 ∨ (21 ≤ a ∧ a ≤ 26) ∨ (a = 1 ∧ (j = 4 ∨ j = 5))) uC (sI w 3 1 0) := fr_sI (fr_mono f7 f7m) (.inl rfl)
    have t8 : tC (sI w 3 1 0) [] := ⟨gI_eq rfl rfl, fun i s hs => by simp at hs⟩
    have e41 : ∀ x, gI w 2 1 = x → gI (sI w 3 1 0) 2 1 = x := fun x hx => (gI_ne (by omega)).trans hx
    have fw8 : fr (fun a j => a = 3 ∧ j = 1) w (sI w 3 1 0) := fr_sI (fr_refl _ _) ⟨rfl, rfl⟩
    generalize sI w 3 1 0 = x at *
    have k15 : gR x 1 5 = g' := (fr_R fw8 (by omega)).trans ((fr_R f7 (fun z => n1 5 z)).trans hsp)
    have k14 : gR x 1 4 = gg := (fr_R fw8 (by omega)).trans ((fr_R f7 (fun z => n1 4 z)).trans j3)
    rcases w2 with ⟨f, e, e2, e3, e4'⟩ | ⟨L', e, e2, h5, h6⟩
    · rw [e2, if_neg (flt_ne e3 e4')]
      refine ok_some (.inl ⟨f, e, rfl, RC_rg hC gBB.1 f8 (fun a j z => z) t8 (g' := gg) ⟨k14, ?_⟩ ?_⟩)
      · rw [k15]
        rcases hdis with ⟨a, b⟩ | ⟨a, b⟩
        · exact .inl ⟨a, b⟩
        · exact .inr ⟨a, b⟩
      · refine gC_fr (gC_fr hgC f7 (fun a j q1 q2 z => ?_)) fw8 (fun a j q1 q2 z => by omega)
        have := lnP_mono _ _ z
        omega
    · rw [e2, if_pos rfl, k15, k14]
      rw [j3] at j1
      simp only [isg', j1, if_true]
      have gR1 : gR (sR (sR x 1 5 gg) 1 4 g') 1 4 = g' := gR_eq rfl rfl
      have gR2 : gR (sR (sR x 1 5 gg) 1 4 g') 1 5 = gg := (gR_ne (by omega)).trans (gR_eq rfl rfl)
      refine ok_some (.inr ⟨L', e, rfl, h6, RC_rg hC gBB.1 (fr_sR (fr_sR f8 (.inr (.inr (.inr ⟨rfl, by omega⟩)))) (.inr (.inr (.inr ⟨rfl, by omega⟩)))) (fun a j z => z) (g' := g') ⟨t8.1, t8.2⟩ ⟨gR1, ?_⟩ ?_⟩)
      · rw [gR2]
        rcases hdis with ⟨a, b⟩ | ⟨a, b⟩
        · exact .inr ⟨b, a⟩
        · exact .inl ⟨b, a⟩
      · have := gC_fr h5 fw8 (fun a j q1 q2 z => by omega)
        exact ⟨this.1, this.2⟩
  have mside : ok (f_X11_reign uM) (fun o => (∃ f, rdA t R 1001 0 [] = .inl f ∧ o.1 = nI f ∧ RM o.2 [] R G S K B M) ∨ (∃ L', rdA t R 1001 0 [] = .inr L' ∧ o.1 = nI 0 ∧ RM o.2 [] R L' S K B M)) := by
    have hM1 := RM_t (x := 0) hM g
    unfold f_X11_reign
    simp only [gm_letE]
    generalize sI uM 1 0 (0 : Int32) = u1 at *
    have f0 : fr (fun a j => a = 23 ∧ j = 5) u1 (sI u1 23 5 0) := fr_sI (fr_refl _ _) ⟨rfl, rfl⟩
    have e0 : gI (sI u1 23 5 0) 23 5 = nI 0 := gI_eq rfl rfl
    have t0 : tM (sI u1 23 5 0) t := ⟨(gI_ne (by omega)).trans hM1.1.1, fun i s hs => (gI_ne (by omega)).trans (hM1.1.2 i s hs)⟩
    generalize sI u1 23 5 0 = u2 at *
    obtain ⟨v, ev, v1, v2, v3⟩ := m_begins t0 gt
    rw [ev]
    simp only [Option.bind_some]
    have fv : fr (fun a j => (a = 23 ∧ j = 5) ∨ (a = 1 ∧ (j = 1 ∨ (3 ≤ j ∧ j ≤ 8)))) u1 v := fr_trans (fr_mono f0 (fun a j z => .inl z)) (fr_mono v3 (fun a j z => .inr z))
    have rv : rM v R := rM_fr hM1.2.1 gRr.1 fv (fun a j q z => by rcases q with q | q | q | q <;> omega)
    have hlp := m_rgLoop gRr.1 gNN gt 1001 98999 0 [] v rv ⟨by simp, fun l hl => by cases hl⟩ ⟨(fr_I v3 (by omega)).trans e0, fun i l hl => by simp at hl⟩ v1 (Nat.zero_le _) (by omega)
    rw [show (1001 + 98999 : Nat) = gm_FU from rfl] at hlp
    obtain ⟨o, eo, ho⟩ := hlp
    rw [eo]
    simp only [Option.bind_some]
    have big : ∀ w, fr rgP v w → fr (fun a j => irM a j ∨ (a = 1 ∧ j = 1) ∨ (a = 23 ∧ j = 0) ∨ ((a = 24 ∨ a = 25) ∧ j < 40)) u1 w ∧ tM w [] := fun w hw => by
      refine ⟨fr_trans (fr_mono fv (fun a j z => ?_)) (fr_mono hw (fun a j z => ?_)), ⟨(fr_I hw (fun z => by rcases z with z | z | z <;> omega)).trans v2.1, fun i s hs => by simp at hs⟩⟩
      · rcases z with z | z
        · exact .inl (.inr (.inr (.inr (.inr (.inr (.inr (.inr (.inr (.inr (.inl z))))))))))
        · rcases z.2 with y | y
          · exact .inr (.inl ⟨z.1, y⟩)
          · exact .inl (.inl ⟨z.1, by omega, by omega, by omega⟩)
      · rcases z with z | z | z
        · exact .inl (.inl ⟨z.1, by omega, by omega, by omega⟩)
        · exact .inl (.inr (.inr (.inr (.inr (.inr (.inr (.inr (.inr (.inr (.inl z))))))))))
        · exact .inl (.inr (.inr (.inr (.inr (.inr (.inr (.inr (.inr (.inr (.inr ⟨by omega, by omega, z.2.1⟩))))))))))
    rcases ho with ⟨f, w, e, rfl, e2, hw⟩ | ⟨L', w, e, rfl, e2, hw⟩
    · obtain ⟨b1, b2⟩ := big w hw
      have hG0 : gMm w 0 G := gMm_eq hM1.2.2.1 gGG.1 ((fr_I hw (fun z => by rcases z with z | z | z <;> omega)).trans (fr_I fv (by omega))) (fun i hi => ⟨(fr_I hw (fun z => by rcases z with z | z | z <;> omega)).trans (fr_I fv (by omega)), (fr_I hw (fun z => by rcases z with z | z | z <;> omega)).trans (fr_I fv (by omega))⟩)
      refine ok_some (.inl ⟨f, e, e2, RM_rg hM1 g b1 (fun a j z => z) b2 hG0⟩)
    · have hl40 : L'.length ≤ 40 := by
        obtain ⟨_, _, hc⟩ := cside
        rcases hc with ⟨f, ef, -⟩ | ⟨L2, ef, -, hg2, -⟩
        · rw [e] at ef; cases ef
        · rw [e] at ef; cases ef; exact hg2.1
      obtain ⟨b1, b2⟩ := big w hw
      have hgl : ok (f_X11_laysLines (5 : Int32) (0 : Int32) w) _ := m_glays (f := 5) (t := 0) e2 hl40 (by omega) (by omega) (by omega)
      refine ok_bind hgl ?_
      rintro x ⟨x1, x2⟩
      refine ok_some (.inr ⟨L', e, rfl, RM_rg hM1 g (fr_trans b1 (fr_mono x2 (fun a j z => ?_))) (fun a j z => z) ⟨(fr_I x2 (by omega)).trans b2.1, fun i s hs => by simp at hs⟩ x1⟩)
      rcases z with z | z
      · exact .inr (.inr (.inl z))
      · exact .inr (.inr (.inr ⟨z.1, by omega⟩))
  obtain ⟨⟨o, vC⟩, eC, hc⟩ := cside
  obtain ⟨⟨o', vM⟩, eM, hm⟩ := mside
  simp only at hc hm
  rcases hc with ⟨f, e, rfl, hC'⟩ | ⟨L', e, rfl, hg, hC'⟩
  · rcases hm with ⟨f', e', rfl, hM'⟩ | ⟨L', e', rfl, hM'⟩
    · rw [e] at e'; cases e'
      exact ⟨_, vC, vM, eC, eM, h0, [], R, G, S, K, B, M, ga' G gGG, hC', hM'⟩
    · rw [e] at e'; cases e'
  · rcases hm with ⟨f', e', rfl, hM'⟩ | ⟨L2, e', rfl, hM'⟩
    · rw [e] at e'; cases e'
    · rw [e] at e'; cases e'
      exact ⟨_, vC, vM, eC, eM, h0, [], R, L', S, K, B, M, ga' L' hg, hC', hM'⟩
