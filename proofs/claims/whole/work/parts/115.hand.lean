/-! what is done by hand: kept, and undone -/
def kp (B : List pK) (K : pK) : List pK := (if B.length < 16 then B else B.drop 1) ++ [K]
def remP : Nat → Nat → Prop := fun a j => (46 ≤ a ∧ a ≤ 109) ∨ a = 38 ∨ (a = 1 ∧ j = 10)
theorem isC_ok : ∀ j : Fin 16, isCourt (46 + 4 * j.1) = true := by decide +kernel
theorem c_rem74 {u : gm_M} {B : List pK} {K : pK} (h : pC u B) (hB : B.length < 16) (hk : kC u 27 K) (hq : gQ K.2.2.2) : ok (j_X10_remember_74 u) (fun v => pC v (B ++ [K]) ∧ fr remP u v) := by
  obtain ⟨p1, p2, p3, p4⟩ := h
  obtain ⟨j, hj, ej⟩ := p2 B.length hB
  have ic : isCourt (gR u 38 B.length) = true := by rw [ej]; exact isC_ok ⟨j, hj⟩
  simp (disch := omega) only [j_X10_remember_74, litI, p1, nI_ltI, if_neg, ib_nI, ix_nI, if_pos, ic, if_true]
  refine ok_bind (c_copy (c := gR u 38 B.length) hk hq (by omega)) ?_
  rintro v ⟨hv, hf⟩
  have e1 : gI v 1 10 = nI B.length := (fr_crt hf (by omega)).trans p1
  have eR : ∀ i, gR v 38 i = gR u 38 i := fun i => fr_R hf (crt_no (by omega))
  simp only [gm_let, e1, nI_add]
  refine ok_some ⟨⟨?_, fun i hi => ?_, fun a b ha hb e => ?_, fun i k hik => ?_⟩, ?_⟩
  · rw [gI_eq rfl rfl, List.length_append]; rfl
  · rw [gR_sI, eR]; exact p2 i hi
  · rw [gR_sI, eR, eR] at e; exact p3 a b ha hb e
  · rw [gR_sI, eR]
    have hfs : fr (fun a j => a = 1 ∧ j = 10) v (sI v 1 10 (nI (B.length + 1))) := fr_sI (fr_refl _ _) ⟨rfl, rfl⟩
    rcases Nat.lt_or_ge i B.length with z | z
    · rw [List.getElem?_append_left z] at hik
      obtain ⟨j2, hj2, ej2⟩ := p2 i (by omega)
      have ne : j2 ≠ j := fun w => by
        have := p3 i B.length (by omega) (by omega) (by rw [ej, ej2, w])
        omega
      exact kC_fr (kC_fr (p4 i k hik) hf (fun a jj q1 q2 => crt_no (by omega))) hfs (fun a jj q1 q2 q3 => by omega)
    · rw [List.getElem?_append_right z] at hik
      obtain ⟨w, hw⟩ := List.getElem?_eq_some_iff.mp hik
      simp only [List.length_singleton] at w
      have z0 : i = B.length := by omega
      subst z0
      simp only [Nat.sub_self, List.getElem_cons_zero] at hw
      subst hw
      exact kC_fr hv hfs (fun a jj q1 q2 q3 => by omega)
  · exact fr_sI (fr_mono hf (fun a jj q => .inl ⟨by have := q.1; omega, by have := q.2; omega⟩)) (.inr (.inr ⟨rfl, rfl⟩))
theorem c_remember {u : gm_M} {B : List pK} {K : pK} (h : pC u B) (hB : B.length ≤ 16) (hk : kC u 27 K) (hq : gQ K.2.2.2) : ok (f_X10_remember u) (fun v => pC v (kp B K) ∧ fr remP u v) := by
  rcases Nat.lt_or_ge B.length 16 with q | q
  · simp (disch := omega) only [f_X10_remember, litI, h.1, nI_ltI, if_pos]
    have := c_rem74 h q hk hq
    unfold kp
    rw [if_pos q]
    exact this
  · obtain ⟨p1, p2, p3, p4⟩ := h
    have hl : B.length = 16 := by omega
    obtain ⟨j0, hj0, ej0⟩ := p2 0 (by omega)
    have ic0 : isCourt (gR u 38 0) = true := by rw [ej0]; exact isC_ok ⟨j0, hj0⟩
    simp (disch := omega) only [f_X10_remember, litI, p1, nI_ltI, if_neg, ic0, if_pos, if_true, gm_let]
    refine ok_bind (Q := fun v => fr (fun a _ => a = 38) u v ∧ (∀ j, j < 15 → gR v 38 j = gR u 38 (j + 1)))
      (lp_ok 15 (fun k x => x.1 = nI (k + 1) ∧ fr (fun a _ => a = 38) u x.2 ∧ (∀ j, j < k → gR x.2 38 j = gR u 38 (j + 1)) ∧ ∀ j, k ≤ j → gR x.2 38 j = gR u 38 j) (by omega) ⟨rfl, fr_refl _ _, fun j hj => absurd hj (by omega), fun j _ => rfl⟩ ?_ ?_) ?_
    · rintro k ⟨x, v⟩ hk2 ⟨hx, hf, hlo, hup⟩
      simp only at hx hf hlo hup
      subst hx
      obtain ⟨jj, hjj, ejj⟩ := p2 (k + 1) (by omega)
      have e1 := hup (k + 1) (by omega)
      have ic : isCourt (gR v 38 (k + 1)) = true := by rw [e1, ejj]; exact isC_ok ⟨jj, hjj⟩
      simp (disch := omega) only [b_X10_remember_21, gm_let, litI, nI_leI, if_neg, ib_nI, ix_nI, if_pos, ic, if_true, nI_sub, nI_add, Nat.add_sub_cancel]
      refine ok_some ⟨rfl, fr_sR hf rfl, fun j hj => ?_, fun j hj => ?_⟩
      · by_cases z : j = k
        · subst z
          rw [gR_eq rfl rfl]; exact e1
        · rw [gR_ne (by omega)]; exact hlo j (by omega)
      · rw [gR_ne (by omega)]; exact hup j (by omega)
    · rintro ⟨x, v⟩ ⟨hx, hf, hlo, hup⟩
      simp only at hx hf hlo hup
      subst hx
      simp (disch := omega) only [b_X10_remember_21, litI, nI_leI, if_pos]
      exact ok_some ⟨hf, hlo⟩
    · rintro v ⟨hf, hlo⟩
      simp (disch := omega) only [nI_sub, ib_nI, ix_nI, if_pos]
      have hF : fr (fun a j => a = 38 ∨ (a = 1 ∧ j = 10)) u (sI (sR v 38 15 (gR u 38 0)) 1 10 (nI 15)) := fr_sI (fr_sR (fr_mono hf (fun a j z => .inl z)) (.inl rfl)) (.inr ⟨rfl, rfl⟩)
      have eR : ∀ i, i < 16 → gR (sI (sR v 38 15 (gR u 38 0)) 1 10 (nI 15)) 38 i = gR u 38 (if i = 15 then 0 else i + 1) := fun i hi => by
        rw [gR_sI]
        by_cases z : i = 15
        · rw [if_pos z, gR_eq rfl z]
        · rw [if_neg z, gR_ne (by omega)]; exact hlo i (by omega)
      have hp : pC (sI (sR v 38 15 (gR u 38 0)) 1 10 (nI 15)) (B.drop 1) := by
        refine ⟨?_, fun i hi => ?_, fun a b ha hb e => ?_, fun i k hik => ?_⟩
        · rw [gI_eq rfl rfl, List.length_drop, hl]
        · rw [eR i hi]
          by_cases z : i = 15
          · rw [if_pos z]; exact p2 0 (by omega)
          · rw [if_neg z]; exact p2 _ (by omega)
        · rw [eR a ha, eR b hb] at e
          by_cases z : a = 15
          · by_cases z2 : b = 15
            · omega
            · rw [if_pos z, if_neg z2] at e
              have := p3 _ _ (by omega) (by omega) e
              omega
          · by_cases z2 : b = 15
            · rw [if_neg z, if_pos z2] at e
              have := p3 _ _ (by omega) (by omega) e
              omega
            · rw [if_neg z, if_neg z2] at e
              have := p3 _ _ (by omega) (by omega) e
              omega
        · have hi := (List.getElem?_eq_some_iff.mp hik).1
          rw [List.length_drop] at hi
          rw [eR i (by omega), if_neg (by omega)]
          rw [List.getElem?_drop, Nat.add_comm] at hik
          obtain ⟨jj, hjj, ejj⟩ := p2 (i + 1) (by omega)
          exact kC_fr (p4 (i + 1) k hik) hF (fun a j q1 q2 q3 => by omega)
      have hk2 : kC (sI (sR v 38 15 (gR u 38 0)) 1 10 (nI 15)) 27 K := kC_fr hk hF (fun a j q1 q2 q3 => by omega)
      refine ok_mono (c_rem74 hp (by rw [List.length_drop]; omega) hk2 hq) ?_
      rintro w ⟨w1, w2⟩
      unfold kp
      rw [if_neg (by omega)]
      exact ⟨w1, fr_trans (fr_mono hF (fun a j z => .inr z)) w2⟩
theorem m_keeps49 {u : gm_M} {R : pR} {Y : Nat} {B : List pK} {K : pK} {C : Nat} (h : pM u B) (hg : gR1 R) (hB : gB R Y B) (hl : B.length < 16) (hk : kM u 29 0 K) (hq : gQ K.2.2.2) (hC : gI u 3 2 = nI C) : ok (j_X11_keeps_49 u) (fun v => pM v (B ++ [K]) ∧ gI v 1 49 = nI C ∧ fr (fun a j => (a = 33 ∧ j < 352) ∨ (a = 1 ∧ (j = 45 ∨ j = 49))) u v) := by
  simp only [j_X11_keeps_49, h.1, litI, nI_mul]
  refine ok_bind (m_copies (A := 29) (B := 33) (o1 := 0) (o2 := 22 * B.length) (by omega) (by omega) (by omega) (by omega) (by omega)) ?_
  rintro v ⟨hv, hf⟩
  have e1 : gI v 1 45 = nI B.length := (fr_I hf (by omega)).trans h.1
  have e2 : gI (sI v 1 45 (nI (B.length + 1))) 3 2 = nI C := by rw [gI_ne (by omega)]; exact (fr_I hf (by omega)).trans hC
  simp only [gm_let, e1, nI_add, e2]
  refine ok_some ⟨⟨?_, fun i k hik => ?_⟩, gI_eq rfl rfl, ?_⟩
  · rw [gI_ne (by omega), gI_eq rfl rfl, List.length_append]; rfl
  · rcases Nat.lt_or_ge i B.length with z | z
    · rw [List.getElem?_append_left z] at hik
      refine kM_eq (h.2 i k hik) (gK_gQ (hB.2 k (List.mem_of_getElem? hik)) hg) (fun j hj => ?_)
      rw [gI_ne (by omega), gI_ne (by omega)]
      exact fr_I hf (by omega)
    · rw [List.getElem?_append_right z] at hik
      obtain ⟨w, hw⟩ := List.getElem?_eq_some_iff.mp hik
      simp only [List.length_singleton] at w
      have z0 : i = B.length := by omega
      subst z0
      simp only [Nat.sub_self, List.getElem_cons_zero] at hw
      subst hw
      refine kM_copied hk hq (fun j hj => ?_)
      rw [gI_ne (by omega), gI_ne (by omega)]
      exact hv j hj
  · exact fr_sI (fr_sI (fr_mono hf (fun a j z => .inl ⟨z.1, by omega⟩)) (.inr ⟨rfl, .inl rfl⟩)) (.inr ⟨rfl, .inr rfl⟩)
theorem m_keeps {u : gm_M} {R : pR} {Y : Nat} {B : List pK} {K : pK} {C : Nat} (h : pM u B) (hg : gR1 R) (hB : gB R Y B) (hk : kM u 29 0 K) (hq : gQ K.2.2.2) (hC : gI u 3 2 = nI C) : ok (f_X11_keeps u) (fun v => pM v (kp B K) ∧ gI v 1 49 = nI C ∧ fr (fun a j => (a = 33 ∧ j < 352) ∨ (a = 1 ∧ (j = 45 ∨ j = 49))) u v) := by
  have hl := hB.1
  unfold kp
  rcases Nat.lt_or_ge B.length 16 with q | q
  · simp (disch := omega) only [f_X11_keeps, litI, h.1, nI_eq, if_neg]
    rw [if_pos q]
    exact m_keeps49 h hg hB q hk hq hC
  · have hl16 : B.length = 16 := by omega
    simp (disch := omega) only [f_X11_keeps, litI, h.1, nI_eq, if_pos]
    refine ok_bind (Q := fun v => fr (fun a j => a = 33 ∧ j < 352) u v ∧ ∀ j, j < 330 → gI v 33 j = gI u 33 (j + 22))
      (lp_ok 330 (fun k x => x.1 = nI k ∧ fr (fun a j => a = 33 ∧ j < 352) u x.2 ∧ (∀ j, j < k → gI x.2 33 j = gI u 33 (j + 22)) ∧ ∀ j, k ≤ j → gI x.2 33 j = gI u 33 j) (by omega) ⟨rfl, fr_refl _ _, fun j hj => absurd hj (by omega), fun j _ => rfl⟩ ?_ ?_) ?_
    · rintro k ⟨x, v⟩ hk2 ⟨hx, hf, hlo, hup⟩
      simp only at hx hf hlo hup
      subst hx
      have e1 := hup (k + 22) (by omega)
      simp (disch := omega) only [b_X11_keeps_11, gm_let, litI, nI_leI, if_neg, ib_nI, ix_nI, if_pos, nI_add, e1]
      refine ok_some ⟨rfl, fr_sI hf ⟨rfl, by omega⟩, fun j hj => ?_, fun j hj => ?_⟩
      · by_cases z : j = k
        · subst z
          exact gI_eq rfl rfl
        · rw [gI_ne (by omega)]; exact hlo j (by omega)
      · rw [gI_ne (by omega)]; exact hup j (by omega)
    · rintro ⟨x, v⟩ ⟨hx, hf, hlo, hup⟩
      simp only at hx hf hlo hup
      subst hx
      simp (disch := omega) only [b_X11_keeps_11, litI, nI_leI, if_pos]
      exact ok_some ⟨hf, hlo⟩
    · rintro v ⟨hf, hlo⟩
      have e1 : gI v 1 45 = nI 16 := by rw [fr_I hf (by omega), h.1, hl16]
      simp (disch := omega) only [gm_let, e1, nI_sub]
      have hF : fr (fun a j => (a = 33 ∧ j < 352) ∨ (a = 1 ∧ j = 45)) u (sI v 1 45 (nI 15)) := fr_sI (fr_mono hf (fun a j z => .inl z)) (.inr ⟨rfl, rfl⟩)
      have hp : pM (sI v 1 45 (nI 15)) (B.drop 1) := by
        refine ⟨?_, fun i k hik => ?_⟩
        · rw [gI_eq rfl rfl, List.length_drop, hl16]
        · have hi := (List.getElem?_eq_some_iff.mp hik).1
          rw [List.length_drop] at hi
          rw [List.getElem?_drop, Nat.add_comm] at hik
          refine kM_copied (h.2 (i + 1) k hik) (gK_gQ (hB.2 k (List.mem_of_getElem? hik)) hg) (fun j hj => ?_)
          rw [gI_ne (by omega), hlo _ (by omega)]
          congr 1
          omega
      have hB2 : gB R Y (B.drop 1) := ⟨by rw [List.length_drop]; omega, fun k hk => hB.2 k (List.mem_of_mem_drop hk)⟩
      have hk2 : kM (sI v 1 45 (nI 15)) 29 0 K := kM_fr hk hq hF (fun j _ _ z => by omega)
      have hC2 : gI (sI v 1 45 (nI 15)) 3 2 = nI C := (fr_I hF (by omega)).trans hC
      refine ok_mono (m_keeps49 hp hg hB2 (by rw [List.length_drop]; omega) hk2 hq hC2) ?_
      rintro w ⟨w1, w2, w3⟩
      rw [if_neg (by omega)]
      refine ⟨w1, w2, fr_trans (fr_mono hF (fun a j z => ?_)) w3⟩
      rcases z with z | z
      · exact .inl z
      · exact .inr ⟨z.1, .inl z.2⟩
theorem gB_kp {R : pR} {Y : Nat} {B : List pK} {K : pK} (hB : gB R Y B) (hK : gK R Y K) : gB R Y (kp B K) := by
  unfold kp
  refine ⟨?_, fun k hk => ?_⟩
  · rw [List.length_append]
    have := hB.1
    by_cases q : B.length < 16
    · rw [if_pos q]; simp only [List.length_singleton]; omega
    · rw [if_neg q, List.length_drop]; simp only [List.length_singleton]; omega
  · rcases List.mem_append.mp hk with z | z
    · by_cases q : B.length < 16
      · rw [if_pos q] at z; exact hB.2 k z
      · rw [if_neg q] at z; exact hB.2 k (List.mem_of_mem_drop z)
    · rw [List.mem_singleton.mp z]; exact hK
/-- court and what can be undone may have changed -/
theorem RC_upd {P : Nat → Nat → Prop} {u v : gm_M} {t : List Nat} {R : pR} {G : pG} {S : pS} {K K' : pK} {B B' : List pK} {M : pMk} (h : RC u t R G S K B M) (f : fr P u v) (hp : ∀ a j, P a j → irC a j ∨ remP a j ∨ (27 ≤ a ∧ a ≤ 30)) (hk : kC v 27 K') (hb : pC v B') : RC v t R G S K' B' M := by
  obtain ⟨h1, ⟨r, ⟨hr1, hr2⟩, hr3⟩, ⟨g, ⟨hg1, hg2⟩, hg3⟩, h4, h5, h6, h7⟩ := h
  have ff : fr (fun a j => (a = 2 ∨ a = 12 ∨ a = 20 ∨ (34 ≤ a ∧ a ≤ 37) ∨ (40 ≤ a ∧ a ≤ 45) ∨ (a = 1 ∧ j = 0)) ∨ ((46 ≤ a ∧ a ≤ 109) ∨ a = 38 ∨ (a = 1 ∧ j = 10)) ∨ (27 ≤ a ∧ a ≤ 30)) u v := fr_mono f hp
  refine ⟨tC_fr h1 ff (by omega) (fun j => by omega), ⟨r, ⟨(fr_R ff (by omega)).trans hr1, ?_⟩, rC_fr hr3 ff (fun a j q1 q2 => by omega)⟩, ⟨g, ⟨(fr_R ff (by omega)).trans hg1, ?_⟩, gC_fr hg3 ff (fun a j q1 q2 => by omega)⟩, sC_fr h4 ff (fun a j q1 q2 => by omega), hk, hb, mkC_fr h7 ff (fun j => by omega) (fun a j q1 => by omega)⟩
  · rw [fr_R ff (a := 1) (k := 3) (by omega)]; exact hr2
  · rw [fr_R ff (a := 1) (k := 5) (by omega)]; exact hg2
theorem RM_upd {P : Nat → Nat → Prop} {u v : gm_M} {n : Nat} {t : List Nat} {R : pR} {G : pG} {S : pS} {K K' : pK} {B B' : List pK} {M : pMk} (h : RM u t R G S K B M) (g : gA n t R G S K B M) (f : fr P u v) (hp : ∀ a j, P a j → irM a j ∨ (a = 29 ∧ j < 22) ∨ (a = 33 ∧ j < 352) ∨ (a = 1 ∧ j = 45)) (hk : kM v 29 0 K') (hb : pM v B') : RM v t R G S K' B' M := by
  obtain ⟨h1, h2, h3, h4, h5, h6, h7, h8⟩ := h
  obtain ⟨g1, g2, g3, g4, g5, g6, g7, g8⟩ := g
  have ff : fr (fun a j => ((a = 1 ∧ j ≠ 1 ∧ j ≠ 45 ∧ j ≠ 46) ∨ (11 ≤ a ∧ a ≤ 22) ∨ a = 30 ∨ a = 31 ∨ 35 ≤ a ∨ (a = 3 ∧ 4 ≤ j) ∨ (4 ≤ a ∧ a ≤ 7 ∧ 6 ≤ j) ∨ (8 ≤ a ∧ a ≤ 9 ∧ 1 ≤ j) ∨ (a = 10 ∧ 1000 ≤ j) ∨ (a = 23 ∧ j = 5) ∨ (24 ≤ a ∧ a ≤ 25 ∧ 200 ≤ j)) ∨ (a = 29 ∧ j < 22) ∨ (a = 33 ∧ j < 352) ∨ (a = 1 ∧ j = 45)) u v := fr_mono f hp
  refine ⟨⟨(fr_I ff (by omega)).trans h1.1, fun i s hs => (fr_I ff (by omega)).trans (h1.2 i s hs)⟩, rM_fr h2 g2.1 ff (fun a j q => by rcases q with q | q | q | q <;> omega), gMm_eq h3 g4.1 (fr_I ff (by omega)) (fun i hi => ⟨fr_I ff (by omega), fr_I ff (by omega)⟩), sMm_eq h4 g5.1 (fr_I ff (by omega)) (fun i hi => ⟨fr_I ff (by omega), fr_I ff (by omega)⟩), hk, hb, mkM_eq h7 g2 g8 (fun a j q q2 q3 q4 => fr_I ff (fun z => ?_)), (fr_I ff (by omega)).trans h8⟩
  rcases z with z | z | z | z
  · exact q z
  · omega
  · omega
  · omega
