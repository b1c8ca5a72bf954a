/-! both programs' states as one picture -/
abbrev pG : Type := List (Nat × Nat)
abbrev pS : Type := List (Nat × Bool)
abbrev pMk : Type := Nat → Option (pK × pG × pS)
def tC (u : gm_M) (t : List Nat) : Prop := gI u 3 1 = nI t.length ∧ ∀ i s, t[i]? = some s → gI u 4 i = nI s
def gC (u : gm_M) (g : Nat) (G : pG) : Prop := gI u g 2 = nI G.length ∧ ∀ i l, G[i]? = some l → gI u (g + 1) i = nI (l.1 + 7) ∧ (l.1 < 3 → gI u (g + 2) i = nI l.2)
def sC (u : gm_M) (c : Nat) (S : pS) : Prop := gI u c 2 = nI S.length ∧ ∀ i s, S[i]? = some s → gI u (c + 1) i = nI s.1 ∧ gI u (c + 2) i = nI s.2.toNat
def pC (u : gm_M) (B : List pK) : Prop := gI u 1 10 = nI B.length ∧ (∀ i, i < 16 → ∃ j, j < 16 ∧ gR u 38 i = 46 + 4 * j) ∧ (∀ i j, i < 16 → j < 16 → gR u 38 i = gR u 38 j → i = j) ∧ ∀ i k, B[i]? = some k → kC u (gR u 38 i) k
def mkC (u : gm_M) (M : pMk) : Prop := ∀ i, i < 4 → gR u 39 i = 110 + 12 * i ∧ ((M i = none ∧ gI u (110 + 12 * i) 0 = nI 0) ∨ ∃ k G S, M i = some (k, G, S) ∧ gI u (110 + 12 * i) 0 = nI 1 ∧ kC u (110 + 12 * i + 1) k ∧ gC u (110 + 12 * i + 5) G ∧ sC u (110 + 12 * i + 8) S)
def rfR (u : gm_M) (r : Nat) : Prop := gR u 1 2 = r ∧ ((r = 5 ∧ gR u 1 3 = 13) ∨ (r = 13 ∧ gR u 1 3 = 5))
def rfG (u : gm_M) (g : Nat) : Prop := gR u 1 4 = g ∧ ((g = 21 ∧ gR u 1 5 = 24) ∨ (g = 24 ∧ gR u 1 5 = 21))
def RC (u : gm_M) (t : List Nat) (R : pR) (G : pG) (S : pS) (K : pK) (B : List pK) (M : pMk) : Prop := tC u t ∧ (∃ r, rfR u r ∧ rC u r R) ∧ (∃ g, rfG u g ∧ gC u g G) ∧ sC u 31 S ∧ kC u 27 K ∧ pC u B ∧ mkC u M
def tM (u : gm_M) (t : List Nat) : Prop := gI u 1 1 = nI t.length ∧ ∀ i s, t[i]? = some s → gI u 2 i = nI s
def gMm (u : gm_M) (b : Nat) (G : pG) : Prop := gI u 23 b = nI G.length ∧ ∀ i l, G[i]? = some l → gI u 24 (40 * b + i) = nI l.1 ∧ (l.1 < 3 → gI u 25 (40 * b + i) = nI l.2)
def sMm (u : gm_M) (b : Nat) (S : pS) : Prop := gI u 26 b = nI S.length ∧ ∀ i s, S[i]? = some s → gI u 27 (8 * b + i) = nI s.1 ∧ gI u 28 (8 * b + i) = nI s.2.toNat
def pM (u : gm_M) (B : List pK) : Prop := gI u 1 45 = nI B.length ∧ ∀ i k, B[i]? = some k → kM u 33 (22 * i) k
def mkM (u : gm_M) (M : pMk) : Prop := ∀ i, i < 4 → ((M i = none ∧ gI u 34 i = nI 0) ∨ ∃ k G S, M i = some (k, G, S) ∧ gI u 34 i = nI 1 ∧ kM u 32 (22 * i) k ∧ gMm u (1 + i) G ∧ sMm u (1 + i) S)
def RM (u : gm_M) (t : List Nat) (R : pR) (G : pG) (S : pS) (K : pK) (B : List pK) (M : pMk) : Prop := tM u t ∧ rM u R ∧ gMm u 0 G ∧ sMm u 0 S ∧ kM u 29 0 K ∧ pM u B ∧ mkM u M ∧ gI u 1 46 = nI 0
def sgn (c : Nat) : Prop := c = 10 ∨ (32 ≤ c ∧ c ≤ 126)
def gT (t : List Nat) : Prop := t.length ≤ 1000 ∧ ∀ c ∈ t, sgn c
def wrd (w : List Nat) : Prop := w ≠ [] ∧ w.length ≤ 8 ∧ ∀ c ∈ w, 1 ≤ c ∧ c ≤ 26
def gNm (R : pR) : Prop := (∀ p, p < rN R → wrd (ps R p).1) ∧ ∀ p q, p < rN R → q < rN R → (ps R p).1 = (ps R q).1 → p = q
def gG (R : pR) (G : pG) : Prop := G.length ≤ 40 ∧ ∀ l ∈ G, l.1 ≤ 4 ∧ (l.1 < 2 → l.2 < rN R) ∧ (l.1 = 2 → 1 ≤ l.2 ∧ l.2 ≤ 20)
def gS (S : pS) : Prop := S.length ≤ 8 ∧ ∀ s ∈ S, s.1 ≤ 40
def gB (R : pR) (Y : Nat) (B : List pK) : Prop := B.length ≤ 16 ∧ ∀ k ∈ B, gK R Y k
def gMk (R : pR) (Y : Nat) (M : pMk) : Prop := ∀ i k G S, M i = some (k, G, S) → gK R Y k ∧ gG R G ∧ gS S
def Yn (n : Nat) : Nat := 3000 + 8 * (600 - n)
def gA (n : Nat) (t : List Nat) (R : pR) (G : pG) (S : pS) (K : pK) (B : List pK) (M : pMk) : Prop := gT t ∧ gR1 R ∧ gNm R ∧ gG R G ∧ gS S ∧ gK R (Yn n) K ∧ gB R (Yn n) B ∧ gMk R (Yn n) M
/-- THE RELATION: n calls are left -/
def RelN (n : Nat) (uC uM : gm_M) : Prop := n ≤ 600 ∧ ∃ t R G S K B M, gA n t R G S K B M ∧ RC uC t R G S K B M ∧ RM uM t R G S K B M
theorem gK_up {R : pR} {Y Z : Nat} {k : pK} (h : gK R Y k) (hyz : Y ≤ Z) : gK R Z k := ⟨Nat.le_trans h.1 hyz, h.2⟩
theorem gB_up {R : pR} {Y Z : Nat} {B : List pK} (h : gB R Y B) (hyz : Y ≤ Z) : gB R Z B := ⟨h.1, fun k hk => gK_up (h.2 k hk) hyz⟩
theorem gMk_up {R : pR} {Y Z : Nat} {M : pMk} (h : gMk R Y M) (hyz : Y ≤ Z) : gMk R Z M := fun i k G S e => ⟨gK_up (h i k G S e).1 hyz, (h i k G S e).2⟩
theorem gA_down {n : Nat} {t : List Nat} {R : pR} {G : pG} {S : pS} {K : pK} {B : List pK} {M : pMk} (h : gA (n + 1) t R G S K B M) : gA n t R G S K B M := by
  obtain ⟨h1, h2, h3, h4, h5, h6, h7, h8⟩ := h
  have hy : Yn (n + 1) ≤ Yn n := by unfold Yn; omega
  exact ⟨h1, h2, h3, h4, h5, gK_up h6 hy, gB_up h7 hy, gMk_up h8 hy⟩
theorem RelN_mono (n : Nat) (uC uM : gm_M) (h : RelN (n + 1) uC uM) : RelN n uC uM := by
  obtain ⟨h0, t, R, G, S, K, B, M, h1, h2, h3⟩ := h
  exact ⟨by omega, t, R, G, S, K, B, M, gA_down h1, h2, h3⟩
theorem Yn_lt (n : Nat) : Yn n ≤ 7800 := by unfold Yn; omega
theorem Yn_8 {n : Nat} (h : n + 1 ≤ 600) : Yn (n + 1) + 8 = Yn n := by unfold Yn; omega
/-- where the class's picture isn't looked at -/
def irC : Nat → Nat → Prop := fun a j => a = 2 ∨ a = 12 ∨ a = 20 ∨ (34 ≤ a ∧ a ≤ 37) ∨ (40 ≤ a ∧ a ≤ 45) ∨ (a = 1 ∧ j = 0)
theorem tC_fr {P : Nat → Nat → Prop} {u v : gm_M} {t : List Nat} (h : tC u t) (f : fr P u v) (h2 : ¬ P 3 1) (h3 : ∀ j, ¬ P 4 j) : tC v t := ⟨(fr_I f h2).trans h.1, fun i s hs => (fr_I f (h3 i)).trans (h.2 i s hs)⟩
theorem gC_fr {P : Nat → Nat → Prop} {u v : gm_M} {g : Nat} {G : pG} (h : gC u g G) (f : fr P u v) (hp : ∀ a j, g ≤ a → a ≤ g + 2 → ¬ P a j) : gC v g G := ⟨(fr_I f (hp _ _ (by omega) (by omega))).trans h.1, fun i s hs => ⟨(fr_I f (hp _ _ (by omega) (by omega))).trans (h.2 i s hs).1, fun z => (fr_I f (hp _ _ (by omega) (by omega))).trans ((h.2 i s hs).2 z)⟩⟩
theorem sC_fr {P : Nat → Nat → Prop} {u v : gm_M} {c : Nat} {S : pS} (h : sC u c S) (f : fr P u v) (hp : ∀ a j, c ≤ a → a ≤ c + 2 → ¬ P a j) : sC v c S := ⟨(fr_I f (hp _ _ (by omega) (by omega))).trans h.1, fun i s hs => ⟨(fr_I f (hp _ _ (by omega) (by omega))).trans (h.2 i s hs).1, (fr_I f (hp _ _ (by omega) (by omega))).trans (h.2 i s hs).2⟩⟩
theorem pC_fr {P : Nat → Nat → Prop} {u v : gm_M} {B : List pK} (h : pC u B) (hB : B.length ≤ 16) (f : fr P u v) (h1 : ¬ P 1 10) (h2 : ∀ j, ¬ P 38 j) (h3 : ∀ a j, 46 ≤ a → a ≤ 109 → ¬ P a j) : pC v B := by
  obtain ⟨p1, p2, p3, p4⟩ := h
  have e : ∀ i, gR v 38 i = gR u 38 i := fun i => fr_R f (h2 i)
  refine ⟨(fr_I f h1).trans p1, fun i hi => by rw [e]; exact p2 i hi, fun i j hi hj hh => by rw [e, e] at hh; exact p3 i j hi hj hh, fun i k hk => ?_⟩
  have hi := (List.getElem?_eq_some_iff.mp hk).1
  obtain ⟨j, hj, ej⟩ := p2 i (by omega)
  rw [e]
  exact kC_fr (p4 i k hk) f (fun a jj q1 q2 => h3 a jj (by omega) (by omega))
theorem mkC_fr {P : Nat → Nat → Prop} {u v : gm_M} {M : pMk} (h : mkC u M) (f : fr P u v) (h2 : ∀ j, ¬ P 39 j) (h3 : ∀ a j, 110 ≤ a → ¬ P a j) : mkC v M := by
  intro i hi
  obtain ⟨m1, m2⟩ := h i hi
  refine ⟨(fr_R f (h2 i)).trans m1, ?_⟩
  rcases m2 with ⟨a, b⟩ | ⟨k, G, S, a, b, c, d, e⟩
  · exact .inl ⟨a, (fr_I f (h3 _ _ (by omega))).trans b⟩
  · exact .inr ⟨k, G, S, a, (fr_I f (h3 _ _ (by omega))).trans b, kC_fr c f (fun a j q1 q2 => h3 a j (by omega)), gC_fr d f (fun a j q1 q2 => h3 a j (by omega)), sC_fr e f (fun a j q1 q2 => h3 a j (by omega))⟩
theorem RC_fr {P : Nat → Nat → Prop} {u v : gm_M} {t : List Nat} {R : pR} {G : pG} {S : pS} {K : pK} {B : List pK} {M : pMk} (h : RC u t R G S K B M) (hB : B.length ≤ 16) (f : fr P u v) (hp : ∀ a j, P a j → irC a j) : RC v t R G S K B M := by
  obtain ⟨h1, ⟨r, ⟨hr1, hr2⟩, hr3⟩, ⟨g, ⟨hg1, hg2⟩, hg3⟩, h4, h5, h6, h7⟩ := h
  have ff : fr irC u v := fr_mono f hp
  have no : ∀ a j, ¬ (a = 2 ∨ a = 12 ∨ a = 20 ∨ (34 ≤ a ∧ a ≤ 37) ∨ (40 ≤ a ∧ a ≤ 45) ∨ (a = 1 ∧ j = 0)) → ¬ irC a j := fun a j q => q
  refine ⟨tC_fr h1 ff (no _ _ (by omega)) (fun j => no _ _ (by omega)), ⟨r, ⟨(fr_R ff (no _ _ (by omega))).trans hr1, ?_⟩, rC_fr hr3 ff (fun a j q1 q2 => no _ _ (by omega))⟩, ⟨g, ⟨(fr_R ff (no _ _ (by omega))).trans hg1, ?_⟩, gC_fr hg3 ff (fun a j q1 q2 => no _ _ (by omega))⟩, sC_fr h4 ff (fun a j q1 q2 => no _ _ (by omega)), kC_fr h5 ff (fun a j q1 q2 => no _ _ (by omega)), pC_fr h6 hB ff (no _ _ (by omega)) (fun j => no _ _ (by omega)) (fun a j q1 q2 => no _ _ (by omega)), mkC_fr h7 ff (fun j => no _ _ (by omega)) (fun a j q1 => no _ _ (by omega))⟩
  · rw [fr_R ff (no 1 3 (by omega))]; exact hr2
  · rw [fr_R ff (no 1 5 (by omega))]; exact hg2
/-- where the reference's picture isn't looked at -/
def irM : Nat → Nat → Prop := fun a j => (a = 1 ∧ j ≠ 1 ∧ j ≠ 45 ∧ j ≠ 46) ∨ (11 ≤ a ∧ a ≤ 22) ∨ a = 30 ∨ a = 31 ∨ 35 ≤ a ∨ (a = 3 ∧ 4 ≤ j) ∨ (4 ≤ a ∧ a ≤ 7 ∧ 6 ≤ j) ∨ (8 ≤ a ∧ a ≤ 9 ∧ 1 ≤ j) ∨ (a = 10 ∧ 1000 ≤ j) ∨ (a = 23 ∧ j = 5) ∨ (24 ≤ a ∧ a ≤ 25 ∧ 200 ≤ j)
theorem rM_eq {u v : gm_M} {R : pR} (h : rM u R) (hn : rN R ≤ 6) (f : ∀ a j, rlM a j → gI v a j = gI u a j) (fJ : ∀ p, p < 6 → gJ v 4 p = gJ u 4 p) : rM v R := by
  obtain ⟨⟨h0, h1, h2, h3⟩, h4, h5⟩ := h
  have e9 : gI v 9 0 = gI u 9 0 := f 9 0 (.inr (.inr (.inl ⟨by omega, rfl⟩)))
  have e8 : gI v 8 0 = gI u 8 0 := f 8 0 (.inr (.inr (.inl ⟨by omega, rfl⟩)))
  refine ⟨⟨(f 3 0 (.inl ⟨rfl, by omega⟩)).trans h0, (f 3 1 (.inl ⟨rfl, by omega⟩)).trans h1, (f 3 2 (.inl ⟨rfl, by omega⟩)).trans h2, (f 3 3 (.inl ⟨rfl, by omega⟩)).trans h3⟩, fun p hpp => ?_, ?_⟩
  · obtain ⟨a1, a2, a3, a4⟩ := h4 p hpp
    exact ⟨(fJ p (by omega)).trans a1, (f _ _ (.inr (.inl ⟨by omega, by omega⟩))).trans a2, (f _ _ (.inr (.inl ⟨by omega, by omega⟩))).trans a3, (f _ _ (.inr (.inl ⟨by omega, by omega⟩))).trans a4⟩
  · rcases h5 with ⟨q1, q2⟩ | ⟨q1, q2⟩
    · exact .inl ⟨by rw [e9, e8]; exact q1, q2⟩
    · exact .inr ⟨by rw [e9, e8]; exact q1, fun w w1 w2 w3 => q2 w (w1.trans e9) (w2.trans e8) (fun i hi => (w3 i hi).trans (f 10 i (.inr (.inr (.inr ⟨rfl, hi⟩)))))⟩
theorem gMm_eq {u v : gm_M} {b : Nat} {G : pG} (h : gMm u b G) (hG : G.length ≤ 40) (f1 : gI v 23 b = gI u 23 b) (f2 : ∀ i, i < 40 → gI v 24 (40 * b + i) = gI u 24 (40 * b + i) ∧ gI v 25 (40 * b + i) = gI u 25 (40 * b + i)) : gMm v b G := ⟨f1.trans h.1, fun i l hl => by
  have := (List.getElem?_eq_some_iff.mp hl).1
  exact ⟨(f2 i (by omega)).1.trans (h.2 i l hl).1, fun z => (f2 i (by omega)).2.trans ((h.2 i l hl).2 z)⟩⟩
theorem sMm_eq {u v : gm_M} {b : Nat} {S : pS} (h : sMm u b S) (hS : S.length ≤ 8) (f1 : gI v 26 b = gI u 26 b) (f2 : ∀ i, i < 8 → gI v 27 (8 * b + i) = gI u 27 (8 * b + i) ∧ gI v 28 (8 * b + i) = gI u 28 (8 * b + i)) : sMm v b S := ⟨f1.trans h.1, fun i l hl => by
  have := (List.getElem?_eq_some_iff.mp hl).1
  exact ⟨(f2 i (by omega)).1.trans (h.2 i l hl).1, (f2 i (by omega)).2.trans (h.2 i l hl).2⟩⟩
theorem kM_eq {u v : gm_M} {a o : Nat} {k : pK} (h : kM u a o k) (hq : gQ k.2.2.2) (f : ∀ j, j < 22 → gI v a (o + j) = gI u a (o + j)) : kM v a o k := kM_copied h hq f
theorem pM_eq {u v : gm_M} {B : List pK} {R : pR} {Y : Nat} (h : pM u B) (hg : gR1 R) (hB : gB R Y B) (f1 : gI v 1 45 = gI u 1 45) (f2 : ∀ j, j < 352 → gI v 33 j = gI u 33 j) : pM v B := ⟨f1.trans h.1, fun i k hk => by
  have h1 := (List.getElem?_eq_some_iff.mp hk).1
  have h2 := hB.1
  exact kM_eq (h.2 i k hk) (gK_gQ (hB.2 k (List.mem_of_getElem? hk)) hg) (fun j hj => f2 _ (by omega))⟩
theorem mkM_eq {u v : gm_M} {M : pMk} {R : pR} {Y : Nat} (h : mkM u M) (hg : gR1 R) (hM : gMk R Y M) (f : ∀ a j, ¬ irM a j → a ≠ 29 → a ≠ 33 → a ≠ 1 → gI v a j = gI u a j) : mkM v M := by
  intro i hi
  have no : ∀ a j, ¬ ((a = 1 ∧ j ≠ 1 ∧ j ≠ 45 ∧ j ≠ 46) ∨ (11 ≤ a ∧ a ≤ 22) ∨ a = 30 ∨ a = 31 ∨ 35 ≤ a ∨ (a = 3 ∧ 4 ≤ j) ∨ (4 ≤ a ∧ a ≤ 7 ∧ 6 ≤ j) ∨ (8 ≤ a ∧ a ≤ 9 ∧ 1 ≤ j) ∨ (a = 10 ∧ 1000 ≤ j) ∨ (a = 23 ∧ j = 5) ∨ (24 ≤ a ∧ a ≤ 25 ∧ 200 ≤ j)) → ¬ irM a j := fun a j q => q
  rcases h i hi with ⟨a, b⟩ | ⟨k, G, S, a, b, c, d, e⟩
  · exact .inl ⟨a, (f 34 i (no _ _ (by omega)) (by omega) (by omega) (by omega)).trans b⟩
  · obtain ⟨g1, g2, g3⟩ := hM i k G S a
    exact .inr ⟨k, G, S, a, (f 34 i (no _ _ (by omega)) (by omega) (by omega) (by omega)).trans b, kM_eq c (gK_gQ g1 hg) (fun j hj => f _ _ (no _ _ (by omega)) (by omega) (by omega) (by omega)), gMm_eq d g2.1 (f _ _ (no _ _ (by omega)) (by omega) (by omega) (by omega)) (fun j hj => ⟨f _ _ (no _ _ (by omega)) (by omega) (by omega) (by omega), f _ _ (no _ _ (by omega)) (by omega) (by omega) (by omega)⟩), sMm_eq e g3.1 (f _ _ (no _ _ (by omega)) (by omega) (by omega) (by omega)) (fun j hj => ⟨f _ _ (no _ _ (by omega)) (by omega) (by omega) (by omega), f _ _ (no _ _ (by omega)) (by omega) (by omega) (by omega)⟩)⟩
theorem RM_eq {u v : gm_M} {n : Nat} {t : List Nat} {R : pR} {G : pG} {S : pS} {K : pK} {B : List pK} {M : pMk} (h : RM u t R G S K B M) (g : gA n t R G S K B M) (f : ∀ a j, ¬ irM a j → gI v a j = gI u a j) (fJ : ∀ p, p < 6 → gJ v 4 p = gJ u 4 p) : RM v t R G S K B M := by
  obtain ⟨h1, h2, h3, h4, h5, h6, h7, h8⟩ := h
  obtain ⟨g1, g2, g3, g4, g5, g6, g7, g8⟩ := g
  have no : ∀ a j, ¬ ((a = 1 ∧ j ≠ 1 ∧ j ≠ 45 ∧ j ≠ 46) ∨ (11 ≤ a ∧ a ≤ 22) ∨ a = 30 ∨ a = 31 ∨ 35 ≤ a ∨ (a = 3 ∧ 4 ≤ j) ∨ (4 ≤ a ∧ a ≤ 7 ∧ 6 ≤ j) ∨ (8 ≤ a ∧ a ≤ 9 ∧ 1 ≤ j) ∨ (a = 10 ∧ 1000 ≤ j) ∨ (a = 23 ∧ j = 5) ∨ (24 ≤ a ∧ a ≤ 25 ∧ 200 ≤ j)) → ¬ irM a j := fun a j q => q
  exact ⟨⟨(f _ _ (no _ _ (by omega))).trans h1.1, fun i s hs => (f _ _ (no _ _ (by omega))).trans (h1.2 i s hs)⟩, rM_eq h2 g2.1 (fun a j q => f a j (no _ _ (by rcases q with q | q | q | q <;> omega))) fJ, gMm_eq h3 g4.1 (f _ _ (no _ _ (by omega))) (fun i hi => ⟨f _ _ (no _ _ (by omega)), f _ _ (no _ _ (by omega))⟩), sMm_eq h4 g5.1 (f _ _ (no _ _ (by omega))) (fun i hi => ⟨f _ _ (no _ _ (by omega)), f _ _ (no _ _ (by omega))⟩), kM_eq h5 (gK_gQ g6 g2) (fun j hj => f _ _ (no _ _ (by omega))), pM_eq h6 g2 g7 (f _ _ (no _ _ (by omega))) (fun j hj => f _ _ (no _ _ (by omega))), mkM_eq h7 g2 g8 (fun a j q _ _ _ => f a j q), (f _ _ (no _ _ (by omega))).trans h8⟩
/-- a question of the reference: what it changed of the court is laid back -/
theorem RM_q {P : Nat → Nat → Prop} {u v : gm_M} {n : Nat} {t : List Nat} {R : pR} {G : pG} {S : pS} {K : pK} {B : List pK} {M : pMk} (h : RM u t R G S K B M) (g : gA n t R G S K B M) (f : fr P u v) (hp : ∀ a j, P a j → irM a j ∨ (a = 29 ∧ j < 22)) (hs : ∀ j, j < 22 → gI v 29 j = gI u 29 j) : RM v t R G S K B M := by
  refine RM_eq h g (fun a j q => ?_) (fun p hp6 => fr_J f (fun z => ?_))
  · by_cases w : a = 29 ∧ j < 22
    · rw [w.1]; exact hs j w.2
    · exact fr_I f (fun z => by
        rcases hp a j z with z | z
        · exact q z
        · exact w z)
  · rcases hp _ _ z with z | z
    · rcases z with z | z | z | z | z | z | z | z | z | z | z <;> omega
    · omega
theorem RM_t {u : gm_M} {n : Nat} {t : List Nat} {R : pR} {G : pG} {S : pS} {K : pK} {B : List pK} {M : pMk} {x : Int32} (h : RM u t R G S K B M) (g : gA n t R G S K B M) : RM (sI u 1 0 x) t R G S K B M := RM_q h g (P := fun a j => a = 1 ∧ j = 0) (fr_sI (fr_refl _ _) ⟨rfl, rfl⟩) (fun a j z => .inl (.inl ⟨z.1, by omega, by omega, by omega⟩)) (fun j hj => gI_ne (by omega))
theorem isR_ok {u : gm_M} {r : Nat} (h : rfR u r) : isRealm (gR u 1 2) = true ∧ (r = 5 ∨ r = 13) ∧ gR u 1 2 = r := by
  obtain ⟨h1, h2 | h2⟩ := h
  · rw [h1, h2.1]; exact ⟨by decide, .inl rfl, rfl⟩
  · rw [h1, h2.1]; exact ⟨by decide, .inr rfl, rfl⟩
theorem isG_ok {u : gm_M} {g : Nat} (h : rfG u g) : isReign (gR u 1 4) = true ∧ (g = 21 ∨ g = 24) ∧ gR u 1 4 = g := by
  obtain ⟨h1, h2 | h2⟩ := h
  · rw [h1, h2.1]; exact ⟨by decide, .inl rfl, rfl⟩
  · rw [h1, h2.1]; exact ⟨by decide, .inr rfl, rfl⟩
