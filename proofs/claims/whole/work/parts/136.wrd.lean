/-! words -/
def nN (b : Nat) (w : List Nat) : Nat := w.foldl (fun n c => n * b + c) 0
theorem nN_app (b : Nat) (w : List Nat) (c : Nat) : nN b (w ++ [c]) = nN b w * b + c := by simp [nN, List.foldl_append]
theorem nN_rev (b : Nat) (l : List Nat) : nN b l.reverse = l.foldr (fun c n => n * b + c) 0 := by
  unfold nN
  rw [List.foldl_reverse]
theorem nN_inj0 {b : Nat} : ∀ (l m : List Nat), (∀ c ∈ l, 1 ≤ c ∧ c < b) → (∀ c ∈ m, 1 ≤ c ∧ c < b) → l.foldr (fun c n => n * b + c) 0 = m.foldr (fun c n => n * b + c) 0 → l = m := by
  intro l
  induction l with
  | nil =>
    intro m _ hm h
    cases m with
    | nil => rfl
    | cons c m =>
      have := hm c List.mem_cons_self
      simp only [List.foldr_nil, List.foldr_cons] at h
      omega
  | cons a l ih =>
    intro m hl hm h
    cases m with
    | nil =>
      have := hl a List.mem_cons_self
      simp only [List.foldr_nil, List.foldr_cons] at h
      omega
    | cons c m =>
      have h1 := hl a List.mem_cons_self
      have h2 := hm c List.mem_cons_self
      simp only [List.foldr_cons] at h
      have e : a = c := by
        have h3 := congrArg (fun x => x % b) h
        simp only [Nat.mul_add_mod_self_right, Nat.mod_eq_of_lt h1.2, Nat.mod_eq_of_lt h2.2] at h3
        exact h3
      have e2 : l.foldr (fun c n => n * b + c) 0 = m.foldr (fun c n => n * b + c) 0 := by
        rw [e] at h
        have h4 : l.foldr (fun c n => n * b + c) 0 * b = m.foldr (fun c n => n * b + c) 0 * b := by omega
        exact Nat.eq_of_mul_eq_mul_right (by omega) h4
      rw [e, ih m (fun x hx => hl x (List.mem_cons_of_mem _ hx)) (fun x hx => hm x (List.mem_cons_of_mem _ hx)) e2]
theorem nN_inj {b : Nat} {l m : List Nat} (hl : ∀ c ∈ l, 1 ≤ c ∧ c < b) (hm : ∀ c ∈ m, 1 ≤ c ∧ c < b) (h : nN b l = nN b m) : l = m := by
  have := nN_inj0 (b := b) l.reverse m.reverse (fun c hc => hl c (List.mem_reverse.mp hc)) (fun c hc => hm c (List.mem_reverse.mp hc)) (by rw [← nN_rev, ← nN_rev, List.reverse_reverse, List.reverse_reverse]; exact h)
  exact List.reverse_inj.mp this
theorem nN_lt {b : Nat} (hb : 27 ≤ b) : ∀ (l : List Nat), (∀ c ∈ l, c ≤ 26) → l.foldr (fun c n => n * b + c) 0 < b ^ l.length := by
  intro l
  induction l with
  | nil => intro _; simp
  | cons a l ih =>
    intro h
    have h1 := h a List.mem_cons_self
    have h2 := ih (fun c hc => h c (List.mem_cons_of_mem _ hc))
    simp only [List.foldr_cons, List.length_cons, Nat.pow_succ]
    have h3 : (l.foldr (fun c n => n * b + c) 0 + 1) * b ≤ b ^ l.length * b := Nat.mul_le_mul_right _ h2
    rw [Nat.add_mul] at h3
    omega
theorem nN_62 {b : Nat} {w : List Nat} (hb : 27 ≤ b) (hb2 : b ≤ 32) (h : wrd w) : nN b w < 2 ^ 62 := by
  have h1 := nN_lt hb w.reverse (fun c hc => (h.2.2 c (List.mem_reverse.mp hc)).2)
  rw [← nN_rev, List.reverse_reverse, List.length_reverse] at h1
  have h2 : b ^ w.length ≤ b ^ 8 := Nat.pow_le_pow_right (by omega) h.2.1
  have h3 : b ^ 8 ≤ 32 ^ 8 := Nat.pow_le_pow_left hb2 8
  omega
theorem nmC_n (w : List Nat) : nmC w = lN (nN 32 w) := by
  have g : ∀ (w : List Nat) (n : Nat), w.foldl (fun n c => n * 32 + Int64.ofNat c) (lN n) = lN (w.foldl (fun n c => n * 32 + c) n) := by
    intro w
    induction w with
    | nil => intro n; rfl
    | cons c w ih =>
      intro n
      rw [List.foldl_cons, List.foldl_cons, ← ih]
      congr 1
      rw [litJ, lN_mul]
      exact lN_add _ _
  exact g w 0
theorem nmM_n (w : List Nat) : nmM w = lN (nN 27 w) := by
  have g : ∀ (w : List Nat) (n : Nat), w.foldl (fun n c => n * 27 + Int64.ofNat c) (lN n) = lN (w.foldl (fun n c => n * 27 + c) n) := by
    intro w
    induction w with
    | nil => intro n; rfl
    | cons c w ih =>
      intro n
      rw [List.foldl_cons, List.foldl_cons, ← ih]
      congr 1
      rw [litJ, lN_mul]
      exact lN_add _ _
  exact g w 0
theorem lN_inj {a b : Nat} (ha : a < 2 ^ 62) (hb : b < 2 ^ 62) (h : lN a = lN b) : a = b := by
  have h2 : (Int64.ofNat a).toBitVec.toNat = (Int64.ofNat b).toBitVec.toNat := congrArg (fun x : Int64 => x.toBitVec.toNat) h
  rw [Int64.toBitVec_ofNat', Int64.toBitVec_ofNat', BitVec.toNat_ofNat, BitVec.toNat_ofNat] at h2
  omega
theorem nmC_inj {v w : List Nat} (hv : wrd v) (hw : wrd w) : nmC v = nmC w ↔ v = w := by
  have b1 := nN_62 (b := 32) (by omega) (by omega) hv
  have b2 := nN_62 (b := 32) (by omega) (by omega) hw
  refine ⟨fun h => ?_, fun h => by rw [h]⟩
  rw [nmC_n, nmC_n] at h
  exact nN_inj (fun c hc => by have := hv.2.2 c hc; omega) (fun c hc => by have := hw.2.2 c hc; omega) (lN_inj b1 b2 h)
theorem nmM_inj {v w : List Nat} (hv : wrd v) (hw : wrd w) : nmM v = nmM w ↔ v = w := by
  have b1 := nN_62 (b := 27) (by omega) (by omega) hv
  have b2 := nN_62 (b := 27) (by omega) (by omega) hw
  refine ⟨fun h => ?_, fun h => by rw [h]⟩
  rw [nmM_n, nmM_n] at h
  exact nN_inj (fun c hc => by have := hv.2.2 c hc; omega) (fun c hc => by have := hw.2.2 c hc; omega) (lN_inj b1 b2 h)
theorem cmp_0 (x y : Int64) : (lg_cmp x y = 0) ↔ x = y := by
  unfold lg_cmp
  by_cases h1 : x > y
  · rw [if_pos h1]
    refine ⟨fun h => absurd h (by decide), fun h => ?_⟩
    subst h
    have : x.toInt < x.toInt := Int64.lt_iff_toInt_lt.mp h1
    omega
  · rw [if_neg h1]
    by_cases h2 : x = y
    · rw [if_pos h2]; exact ⟨fun _ => h2, fun _ => rfl⟩
    · rw [if_neg h2]; exact ⟨fun h => absurd h (by decide), fun h => absurd h h2⟩
def WD : List (List Nat) := [[16, 5, 18, 19, 15, 14], [2, 15, 18, 14], [16, 12, 5, 1], [25, 5, 1, 18], [3, 1, 14, 4, 12, 5], [12, 9, 22, 5, 19], [6, 9, 18, 19, 20], [3, 15, 13, 5], [12, 5, 1, 22, 5], [12, 1, 13, 16], [23, 1, 9, 20], [18, 9, 4, 5], [16, 12, 1, 9, 14], [12, 5, 1, 16], [8, 5, 9, 18], [12, 15, 22, 5, 18], [14, 15, 20], [1, 14, 4], [15, 18], [19, 20, 15, 15, 4], [1, 19, 11, 19], [1, 7, 5], [4, 1, 25, 19]]
def wIx (w : List Nat) : Nat := WD.idxOf w
theorem wIx_le (w : List Nat) : wIx w ≤ 23 := List.idxOf_le_length (l := WD)
theorem wIx_at {w : List Nat} {k : Nat} (h : wIx w = k) (hk : k < 23) : WD[k]? = some w := by
  have h1 : WD.idxOf w < WD.length := by
    have : WD.length = 23 := rfl
    unfold wIx at h
    omega
  have h2 := List.getElem_idxOf (x := w) (xs := WD) h1
  rw [← h]
  exact List.getElem?_eq_some_iff.mpr ⟨h1, h2⟩
theorem wIx_out {w : List Nat} {k : Nat} (h : wIx w = 23) (hk : k < 23) : WD[k]? ≠ some w := by
  intro z
  have := List.idxOf_lt_length_of_mem (List.mem_of_getElem? z)
  have l : WD.length = 23 := rfl
  unfold wIx at h
  omega
theorem WD_wrd : ∀ k : Fin 23, wrd (WD[k.1]?.getD []) := by unfold wrd; decide +kernel
theorem WD_C : ∀ k : Fin 23, pIW (nmC (WD[k.1]?.getD [])) = nI k.1 := by decide +kernel
theorem WD_ix : ∀ k : Fin 23, wIx (WD[k.1]?.getD []) = k.1 := by decide +kernel
def pv (k : Nat) : Int32 := if k = 23 then (-1 : Int32) else nI k
theorem piw_w {w : List Nat} (h : wrd w) : pIW (nmC w) = pv (wIx w) := by
  have hl := wIx_le w
  rcases Nat.lt_or_ge (wIx w) 23 with q | q
  · have h1 := wIx_at rfl q
    have h2 := WD_C ⟨wIx w, q⟩
    simp only [h1, Option.getD_some] at h2
    unfold pv
    rw [if_neg (by omega)]
    exact h2
  · have hq : wIx w = 23 := by omega
    have e0 : ¬ (nmC w = (542723566 : Int64)) := fun z => wIx_out hq (k := 0) (by omega) (by rw [show (542723566 : Int64) = nmC [16, 5, 18, 19, 15, 14] from by decide +kernel, nmC_inj h (by unfold wrd; decide)] at z; rw [z]; rfl)
    have e1 : ¬ (nmC w = (81486 : Int64)) := fun z => wIx_out hq (k := 1) (by omega) (by rw [show (81486 : Int64) = nmC [2, 15, 18, 14] from by decide +kernel, nmC_inj h (by unfold wrd; decide)] at z; rw [z]; rfl)
    have e2 : ¬ (nmC w = (536737 : Int64)) := fun z => wIx_out hq (k := 2) (by omega) (by rw [show (536737 : Int64) = nmC [16, 12, 5, 1] from by decide +kernel, nmC_inj h (by unfold wrd; decide)] at z; rw [z]; rfl)
    have e3 : ¬ (nmC w = (824370 : Int64)) := fun z => wIx_out hq (k := 3) (by omega) (by rw [show (824370 : Int64) = nmC [25, 5, 1, 18] from by decide +kernel, nmC_inj h (by unfold wrd; decide)] at z; rw [z]; rfl)
    have e4 : ¬ (nmC w = (102175109 : Int64)) := fun z => wIx_out hq (k := 4) (by omega) (by rw [show (102175109 : Int64) = nmC [3, 1, 14, 4, 12, 5] from by decide +kernel, nmC_inj h (by unfold wrd; decide)] at z; rw [z]; rfl)
    have e5 : ¬ (nmC w = (12900531 : Int64)) := fun z => wIx_out hq (k := 5) (by omega) (by rw [show (12900531 : Int64) = nmC [12, 9, 22, 5, 19] from by decide +kernel, nmC_inj h (by unfold wrd; decide)] at z; rw [z]; rfl)
    have e6 : ¬ (nmC w = (6605428 : Int64)) := fun z => wIx_out hq (k := 6) (by omega) (by rw [show (6605428 : Int64) = nmC [6, 9, 18, 19, 20] from by decide +kernel, nmC_inj h (by unfold wrd; decide)] at z; rw [z]; rfl)
    have e7 : ¬ (nmC w = (114085 : Int64)) := fun z => wIx_out hq (k := 7) (by omega) (by rw [show (114085 : Int64) = nmC [3, 15, 13, 5] from by decide +kernel, nmC_inj h (by unfold wrd; decide)] at z; rw [z]; rfl)
    have e8 : ¬ (nmC w = (12748485 : Int64)) := fun z => wIx_out hq (k := 8) (by omega) (by rw [show (12748485 : Int64) = nmC [12, 5, 1, 22, 5] from by decide +kernel, nmC_inj h (by unfold wrd; decide)] at z; rw [z]; rfl)
    have e9 : ¬ (nmC w = (394672 : Int64)) := fun z => wIx_out hq (k := 9) (by omega) (by rw [show (394672 : Int64) = nmC [12, 1, 13, 16] from by decide +kernel, nmC_inj h (by unfold wrd; decide)] at z; rw [z]; rfl)
    have e10 : ¬ (nmC w = (754996 : Int64)) := fun z => wIx_out hq (k := 10) (by omega) (by rw [show (754996 : Int64) = nmC [23, 1, 9, 20] from by decide +kernel, nmC_inj h (by unfold wrd; decide)] at z; rw [z]; rfl)
    have e11 : ¬ (nmC w = (599173 : Int64)) := fun z => wIx_out hq (k := 11) (by omega) (by rw [show (599173 : Int64) = nmC [18, 9, 4, 5] from by decide +kernel, nmC_inj h (by unfold wrd; decide)] at z; rw [z]; rfl)
    have e12 : ¬ (nmC w = (17171758 : Int64)) := fun z => wIx_out hq (k := 12) (by omega) (by rw [show (17171758 : Int64) = nmC [16, 12, 1, 9, 14] from by decide +kernel, nmC_inj h (by unfold wrd; decide)] at z; rw [z]; rfl)
    have e13 : ¬ (nmC w = (398384 : Int64)) := fun z => wIx_out hq (k := 13) (by omega) (by rw [show (398384 : Int64) = nmC [12, 5, 1, 16] from by decide +kernel, nmC_inj h (by unfold wrd; decide)] at z; rw [z]; rfl)
    have e14 : ¬ (nmC w = (267570 : Int64)) := fun z => wIx_out hq (k := 14) (by omega) (by rw [show (267570 : Int64) = nmC [8, 5, 9, 18] from by decide +kernel, nmC_inj h (by unfold wrd; decide)] at z; rw [z]; rfl)
    have e15 : ¬ (nmC w = (13097138 : Int64)) := fun z => wIx_out hq (k := 15) (by omega) (by rw [show (13097138 : Int64) = nmC [12, 15, 22, 5, 18] from by decide +kernel, nmC_inj h (by unfold wrd; decide)] at z; rw [z]; rfl)
    have e16 : ¬ (nmC w = (14836 : Int64)) := fun z => wIx_out hq (k := 16) (by omega) (by rw [show (14836 : Int64) = nmC [14, 15, 20] from by decide +kernel, nmC_inj h (by unfold wrd; decide)] at z; rw [z]; rfl)
    have e17 : ¬ (nmC w = (1476 : Int64)) := fun z => wIx_out hq (k := 17) (by omega) (by rw [show (1476 : Int64) = nmC [1, 14, 4] from by decide +kernel, nmC_inj h (by unfold wrd; decide)] at z; rw [z]; rfl)
    have e18 : ¬ (nmC w = (498 : Int64)) := fun z => wIx_out hq (k := 18) (by omega) (by rw [show (498 : Int64) = nmC [15, 18] from by decide +kernel, nmC_inj h (by unfold wrd; decide)] at z; rw [z]; rfl)
    have e19 : ¬ (nmC w = (20594148 : Int64)) := fun z => wIx_out hq (k := 19) (by omega) (by rw [show (20594148 : Int64) = nmC [19, 20, 15, 15, 4] from by decide +kernel, nmC_inj h (by unfold wrd; decide)] at z; rw [z]; rfl)
    have e20 : ¬ (nmC w = (52595 : Int64)) := fun z => wIx_out hq (k := 20) (by omega) (by rw [show (52595 : Int64) = nmC [1, 19, 11, 19] from by decide +kernel, nmC_inj h (by unfold wrd; decide)] at z; rw [z]; rfl)
    have e21 : ¬ (nmC w = (1253 : Int64)) := fun z => wIx_out hq (k := 21) (by omega) (by rw [show (1253 : Int64) = nmC [1, 7, 5] from by decide +kernel, nmC_inj h (by unfold wrd; decide)] at z; rw [z]; rfl)
    have e22 : ¬ (nmC w = (132915 : Int64)) := fun z => wIx_out hq (k := 22) (by omega) (by rw [show (132915 : Int64) = nmC [4, 1, 25, 19] from by decide +kernel, nmC_inj h (by unfold wrd; decide)] at z; rw [z]; rfl)
    unfold pIW
    rw [if_neg e0, if_neg e1, if_neg e2, if_neg e3, if_neg e4, if_neg e5, if_neg e6, if_neg e7, if_neg e8, if_neg e9, if_neg e10, if_neg e11, if_neg e12, if_neg e13, if_neg e14, if_neg e15, if_neg e16, if_neg e17, if_neg e18, if_neg e19, if_neg e20, if_neg e21, if_neg e22, hq]
    rfl
theorem wx0 {w : List Nat} (h : wrd w) : (nmM w = (232608281 : Int64)) ↔ wIx w = 0 := by
  rw [show (232608281 : Int64) = nmM [16, 5, 18, 19, 15, 14] from by decide +kernel, nmM_inj h (by unfold wrd; decide)]
  refine ⟨fun z => by rw [z]; exact WD_ix ⟨0, by omega⟩, fun z => ?_⟩
  have h1 := wIx_at z (by omega)
  exact (Option.some.inj h1).symm
theorem wx1 {w : List Nat} (h : wrd w) : (nmM w = (50801 : Int64)) ↔ wIx w = 1 := by
  rw [show (50801 : Int64) = nmM [2, 15, 18, 14] from by decide +kernel, nmM_inj h (by unfold wrd; decide)]
  refine ⟨fun z => by rw [z]; exact WD_ix ⟨1, by omega⟩, fun z => ?_⟩
  have h1 := wIx_at z (by omega)
  exact (Option.some.inj h1).symm
theorem wx2 {w : List Nat} (h : wrd w) : (nmM w = (323812 : Int64)) ↔ wIx w = 2 := by
  rw [show (323812 : Int64) = nmM [16, 12, 5, 1] from by decide +kernel, nmM_inj h (by unfold wrd; decide)]
  refine ⟨fun z => by rw [z]; exact WD_ix ⟨2, by omega⟩, fun z => ?_⟩
  have h1 := wIx_at z (by omega)
  exact (Option.some.inj h1).symm
theorem wx3 {w : List Nat} (h : wrd w) : (nmM w = (495765 : Int64)) ↔ wIx w = 3 := by
  rw [show (495765 : Int64) = nmM [25, 5, 1, 18] from by decide +kernel, nmM_inj h (by unfold wrd; decide)]
  refine ⟨fun z => by rw [z]; exact WD_ix ⟨3, by omega⟩, fun z => ?_⟩
  have h1 := wIx_at z (by omega)
  exact (Option.some.inj h1).symm
theorem wx4 {w : List Nat} (h : wrd w) : (nmM w = (43856969 : Int64)) ↔ wIx w = 4 := by
  rw [show (43856969 : Int64) = nmM [3, 1, 14, 4, 12, 5] from by decide +kernel, nmM_inj h (by unfold wrd; decide)]
  refine ⟨fun z => by rw [z]; exact WD_ix ⟨4, by omega⟩, fun z => ?_⟩
  have h1 := wIx_at z (by omega)
  exact (Option.some.inj h1).symm
theorem wx5 {w : List Nat} (h : wrd w) : (nmM w = (6570631 : Int64)) ↔ wIx w = 5 := by
  rw [show (6570631 : Int64) = nmM [12, 9, 22, 5, 19] from by decide +kernel, nmM_inj h (by unfold wrd; decide)]
  refine ⟨fun z => by rw [z]; exact WD_ix ⟨5, by omega⟩, fun z => ?_⟩
  have h1 := wIx_at z (by omega)
  exact (Option.some.inj h1).symm
theorem wx6 {w : List Nat} (h : wrd w) : (nmM w = (3379448 : Int64)) ↔ wIx w = 6 := by
  rw [show (3379448 : Int64) = nmM [6, 9, 18, 19, 20] from by decide +kernel, nmM_inj h (by unfold wrd; decide)]
  refine ⟨fun z => by rw [z]; exact WD_ix ⟨6, by omega⟩, fun z => ?_⟩
  have h1 := wIx_at z (by omega)
  exact (Option.some.inj h1).symm
theorem wx7 {w : List Nat} (h : wrd w) : (nmM w = (70340 : Int64)) ↔ wIx w = 7 := by
  rw [show (70340 : Int64) = nmM [3, 15, 13, 5] from by decide +kernel, nmM_inj h (by unfold wrd; decide)]
  refine ⟨fun z => by rw [z]; exact WD_ix ⟨7, by omega⟩, fun z => ?_⟩
  have h1 := wIx_at z (by omega)
  exact (Option.some.inj h1).symm
theorem wx8 {w : List Nat} (h : wrd w) : (nmM w = (6477035 : Int64)) ↔ wIx w = 8 := by
  rw [show (6477035 : Int64) = nmM [12, 5, 1, 22, 5] from by decide +kernel, nmM_inj h (by unfold wrd; decide)]
  refine ⟨fun z => by rw [z]; exact WD_ix ⟨8, by omega⟩, fun z => ?_⟩
  have h1 := wIx_at z (by omega)
  exact (Option.some.inj h1).symm
theorem wx9 {w : List Nat} (h : wrd w) : (nmM w = (237292 : Int64)) ↔ wIx w = 9 := by
  rw [show (237292 : Int64) = nmM [12, 1, 13, 16] from by decide +kernel, nmM_inj h (by unfold wrd; decide)]
  refine ⟨fun z => by rw [z]; exact WD_ix ⟨9, by omega⟩, fun z => ?_⟩
  have h1 := wIx_at z (by omega)
  exact (Option.some.inj h1).symm
theorem wx10 {w : List Nat} (h : wrd w) : (nmM w = (453701 : Int64)) ↔ wIx w = 10 := by
  rw [show (453701 : Int64) = nmM [23, 1, 9, 20] from by decide +kernel, nmM_inj h (by unfold wrd; decide)]
  refine ⟨fun z => by rw [z]; exact WD_ix ⟨10, by omega⟩, fun z => ?_⟩
  have h1 := wIx_at z (by omega)
  exact (Option.some.inj h1).symm
theorem wx11 {w : List Nat} (h : wrd w) : (nmM w = (360968 : Int64)) ↔ wIx w = 11 := by
  rw [show (360968 : Int64) = nmM [18, 9, 4, 5] from by decide +kernel, nmM_inj h (by unfold wrd; decide)]
  refine ⟨fun z => by rw [z]; exact WD_ix ⟨11, by omega⟩, fun z => ?_⟩
  have h1 := wIx_at z (by omega)
  exact (Option.some.inj h1).symm
theorem wx12 {w : List Nat} (h : wrd w) : (nmM w = (8740238 : Int64)) ↔ wIx w = 12 := by
  rw [show (8740238 : Int64) = nmM [16, 12, 1, 9, 14] from by decide +kernel, nmM_inj h (by unfold wrd; decide)]
  refine ⟨fun z => by rw [z]; exact WD_ix ⟨12, by omega⟩, fun z => ?_⟩
  have h1 := wIx_at z (by omega)
  exact (Option.some.inj h1).symm
theorem wx13 {w : List Nat} (h : wrd w) : (nmM w = (239884 : Int64)) ↔ wIx w = 13 := by
  rw [show (239884 : Int64) = nmM [12, 5, 1, 16] from by decide +kernel, nmM_inj h (by unfold wrd; decide)]
  refine ⟨fun z => by rw [z]; exact WD_ix ⟨13, by omega⟩, fun z => ?_⟩
  have h1 := wIx_at z (by omega)
  exact (Option.some.inj h1).symm
theorem wx14 {w : List Nat} (h : wrd w) : (nmM w = (161370 : Int64)) ↔ wIx w = 14 := by
  rw [show (161370 : Int64) = nmM [8, 5, 9, 18] from by decide +kernel, nmM_inj h (by unfold wrd; decide)]
  refine ⟨fun z => by rw [z]; exact WD_ix ⟨14, by omega⟩, fun z => ?_⟩
  have h1 := wIx_at z (by omega)
  exact (Option.some.inj h1).symm
theorem wx15 {w : List Nat} (h : wrd w) : (nmM w = (6688728 : Int64)) ↔ wIx w = 15 := by
  rw [show (6688728 : Int64) = nmM [12, 15, 22, 5, 18] from by decide +kernel, nmM_inj h (by unfold wrd; decide)]
  refine ⟨fun z => by rw [z]; exact WD_ix ⟨15, by omega⟩, fun z => ?_⟩
  have h1 := wIx_at z (by omega)
  exact (Option.some.inj h1).symm
theorem wx16 {w : List Nat} (h : wrd w) : (nmM w = (10631 : Int64)) ↔ wIx w = 16 := by
  rw [show (10631 : Int64) = nmM [14, 15, 20] from by decide +kernel, nmM_inj h (by unfold wrd; decide)]
  refine ⟨fun z => by rw [z]; exact WD_ix ⟨16, by omega⟩, fun z => ?_⟩
  have h1 := wIx_at z (by omega)
  exact (Option.some.inj h1).symm
theorem wx17 {w : List Nat} (h : wrd w) : (nmM w = (1111 : Int64)) ↔ wIx w = 17 := by
  rw [show (1111 : Int64) = nmM [1, 14, 4] from by decide +kernel, nmM_inj h (by unfold wrd; decide)]
  refine ⟨fun z => by rw [z]; exact WD_ix ⟨17, by omega⟩, fun z => ?_⟩
  have h1 := wIx_at z (by omega)
  exact (Option.some.inj h1).symm
theorem wx18 {w : List Nat} (h : wrd w) : (nmM w = (423 : Int64)) ↔ wIx w = 18 := by
  rw [show (423 : Int64) = nmM [15, 18] from by decide +kernel, nmM_inj h (by unfold wrd; decide)]
  refine ⟨fun z => by rw [z]; exact WD_ix ⟨18, by omega⟩, fun z => ?_⟩
  have h1 := wIx_at z (by omega)
  exact (Option.some.inj h1).symm
theorem wx19 {w : List Nat} (h : wrd w) : (nmM w = (10502383 : Int64)) ↔ wIx w = 19 := by
  rw [show (10502383 : Int64) = nmM [19, 20, 15, 15, 4] from by decide +kernel, nmM_inj h (by unfold wrd; decide)]
  refine ⟨fun z => by rw [z]; exact WD_ix ⟨19, by omega⟩, fun z => ?_⟩
  have h1 := wIx_at z (by omega)
  exact (Option.some.inj h1).symm
theorem wx20 {w : List Nat} (h : wrd w) : (nmM w = (33850 : Int64)) ↔ wIx w = 20 := by
  rw [show (33850 : Int64) = nmM [1, 19, 11, 19] from by decide +kernel, nmM_inj h (by unfold wrd; decide)]
  refine ⟨fun z => by rw [z]; exact WD_ix ⟨20, by omega⟩, fun z => ?_⟩
  have h1 := wIx_at z (by omega)
  exact (Option.some.inj h1).symm
theorem wx21 {w : List Nat} (h : wrd w) : (nmM w = (923 : Int64)) ↔ wIx w = 21 := by
  rw [show (923 : Int64) = nmM [1, 7, 5] from by decide +kernel, nmM_inj h (by unfold wrd; decide)]
  refine ⟨fun z => by rw [z]; exact WD_ix ⟨21, by omega⟩, fun z => ?_⟩
  have h1 := wIx_at z (by omega)
  exact (Option.some.inj h1).symm
theorem wx22 {w : List Nat} (h : wrd w) : (nmM w = (80155 : Int64)) ↔ wIx w = 22 := by
  rw [show (80155 : Int64) = nmM [4, 1, 25, 19] from by decide +kernel, nmM_inj h (by unfold wrd; decide)]
  refine ⟨fun z => by rw [z]; exact WD_ix ⟨22, by omega⟩, fun z => ?_⟩
  have h1 := wIx_at z (by omega)
  exact (Option.some.inj h1).symm
/-- the word that is looked at: 23 another one, 24 none -/
def tWd (t : List Nat) (p : Nat) : Nat := if kS t p = 1 then wIx (kW t p) else 24
def tSg (t : List Nat) (p : Nat) : Nat := if kS t p = 3 then sgA t (kB t p) else 0
theorem tWd_1 {t : List Nat} {p : Nat} (h : kS t p = 1) : tWd t p = wIx (kW t p) := by unfold tWd; rw [if_pos h]
theorem tWd_0 {t : List Nat} {p : Nat} (h : kS t p ≠ 1) : tWd t p = 24 := by unfold tWd; rw [if_neg h]
theorem c_val {u : gm_M} {t : List Nat} {p : Nat} (h : cuC u t p) (h1 : kS t p = 1) : gI u 3 5 = pv (tWd t p) := by
  rw [tWd_1 h1, ← piw_w (kW_1 h1)]
  exact (h.2.2.2.2.1 h1).2
theorem pv_eq {k j : Nat} (hk : k ≤ 23) (hj : j < 23) : (pv k = nI j) ↔ k = j := by
  unfold pv
  by_cases q : k = 23
  · rw [if_pos q]
    refine ⟨fun z => ?_, fun z => by omega⟩
    have := (nI_eqm (a := j) (by omega)).mp z.symm
    exact this.elim
  · rw [if_neg q, nI_eq (by omega) (by omega)]
theorem c_isWord {u : gm_M} {t : List Nat} {p k : Nat} (h : cuC u t p) (hk : k < 23) : f_X9_isWord (nI k) u = nI (decide (tWd t p = k)).toNat := by
  have hs := kS_le t p
  unfold f_X9_isWord
  rw [h.2.2.1]
  by_cases q : kS t p = 1
  · rw [if_pos (show nI (kS t p) = (1 : Int32) from by rw [q]; rfl), c_val h q]
    have hl := wIx_le (kW t p)
    rw [← tWd_1 q] at hl
    by_cases z : tWd t p = k
    · rw [if_pos ((pv_eq hl hk).mpr z), decide_eq_true z]; rfl
    · rw [if_neg (fun w => z ((pv_eq hl hk).mp w)), decide_eq_false z]; rfl
  · rw [if_neg (show ¬ nI (kS t p) = (1 : Int32) from fun z => q ((nI_eq (b := 1) (by omega) (by omega)).mp z)), tWd_0 q, decide_eq_false (by omega)]; rfl
theorem c_word {u : gm_M} {t : List Nat} {p : Nat} (h : cuC u t p) : f_X9_word u = if tWd t p < 23 then nI (tWd t p) else -nI 1 := by
  have hs := kS_le t p
  unfold f_X9_word
  rw [h.2.2.1]
  by_cases q : kS t p = 1
  · rw [if_pos (show nI (kS t p) = (1 : Int32) from by rw [q]; rfl), c_val h q]
    have hl := wIx_le (kW t p)
    rw [← tWd_1 q] at hl
    unfold pv
    by_cases z : tWd t p = 23
    · rw [if_pos z, if_neg (by omega)]; rfl
    · rw [if_neg z, if_pos (by omega)]
  · rw [if_neg (show ¬ nI (kS t p) = (1 : Int32) from fun z => q ((nI_eq (b := 1) (by omega) (by omega)).mp z)), tWd_0 q, if_neg (by omega)]; rfl
theorem c_isName {u : gm_M} {t : List Nat} {p : Nat} (h : cuC u t p) : f_X9_isName u = nI (decide (19 ≤ tWd t p ∧ tWd t p ≤ 23)).toNat := by
  have hs := kS_le t p
  unfold f_X9_isName
  rw [h.2.2.1]
  by_cases q : kS t p = 1
  · rw [if_pos (show nI (kS t p) = (1 : Int32) from by rw [q]; rfl), c_val h q]
    have hl := wIx_le (kW t p)
    rw [← tWd_1 q] at hl
    unfold pv
    by_cases z : tWd t p = 23
    · rw [if_pos z, if_pos rfl, decide_eq_true (by omega)]; rfl
    · rw [if_neg z, if_neg (show ¬ nI (tWd t p) = (-1 : Int32) from fun w => (nI_eqm (a := tWd t p) (by omega)).mp w)]
      by_cases y : tWd t p ≤ 18
      · rw [if_pos (show nI (tWd t p) ≤ (18 : Int32) from (nI_leI (b := 18) (by omega) (by omega)).mpr y), decide_eq_false (by omega)]; rfl
      · rw [if_neg (show ¬ nI (tWd t p) ≤ (18 : Int32) from fun w => y ((nI_leI (b := 18) (by omega) (by omega)).mp w)), decide_eq_true (by omega)]; rfl
  · rw [if_neg (show ¬ nI (kS t p) = (1 : Int32) from fun z => q ((nI_eq (b := 1) (by omega) (by omega)).mp z)), tWd_0 q, decide_eq_false (by omega)]; rfl
theorem c_isFact {u : gm_M} {t : List Nat} {p : Nat} (h : cuC u t p) : f_X9_isFact u = nI (decide (19 ≤ tWd t p ∧ tWd t p ≤ 22)).toNat := by
  have hs := kS_le t p
  unfold f_X9_isFact
  rw [h.2.2.1]
  by_cases q : kS t p = 1
  · rw [if_pos (show nI (kS t p) = (1 : Int32) from by rw [q]; rfl), c_val h q]
    have hl := wIx_le (kW t p)
    rw [← tWd_1 q] at hl
    unfold pv
    by_cases z : tWd t p = 23
    · rw [if_pos z, if_pos (by decide), decide_eq_false (by omega)]; rfl
    · rw [if_neg z]
      by_cases y : tWd t p < 19
      · rw [if_pos (show nI (tWd t p) < (19 : Int32) from (nI_ltI (b := 19) (by omega) (by omega)).mpr y), decide_eq_false (by omega)]; rfl
      · rw [if_neg (show ¬ nI (tWd t p) < (19 : Int32) from fun w => y ((nI_ltI (b := 19) (by omega) (by omega)).mp w)), if_neg (show ¬ (22 : Int32) < nI (tWd t p) from fun w => by rw [show (22 : Int32) = nI 22 from rfl, nI_ltI (by omega) (by omega)] at w; omega), decide_eq_true (by omega)]; rfl
  · rw [if_neg (show ¬ nI (kS t p) = (1 : Int32) from fun z => q ((nI_eq (b := 1) (by omega) (by omega)).mp z)), tWd_0 q, decide_eq_false (by omega)]; rfl
theorem c_isSignOf {u : gm_M} {t : List Nat} {p c : Nat} (h : cuC u t p) (g : gT t) (hc : 0 < c) (hc2 : c < 200) : f_X9_isSignOf (nI c) u = nI (decide (tSg t p = c)).toNat := by
  have hs := kS_le t p
  have hl := sgA_lt g (kB t p)
  unfold f_X9_isSignOf tSg
  rw [h.2.2.1]
  by_cases q : kS t p = 3
  · have e : kV t p = sgA t (kB t p) := by unfold kV; rw [if_neg (by omega)]
    rw [if_pos (show nI (kS t p) = (3 : Int32) from by rw [q]; rfl), h.2.2.2.2.2 (.inr q), e, if_pos q]
    by_cases z : sgA t (kB t p) = c
    · rw [if_pos (by rw [z]), decide_eq_true z]; rfl
    · rw [if_neg (fun w => z ((nI_eq (by omega) (by omega)).mp w)), decide_eq_false z]; rfl
  · rw [if_neg (show ¬ nI (kS t p) = (3 : Int32) from fun z => q ((nI_eq (b := 3) (by omega) (by omega)).mp z)), if_neg q, decide_eq_false (by omega)]; rfl
theorem m_isWord {u : gm_M} {t : List Nat} {p k : Nat} {x : Int64} (h : cuM u t p) (hx : ∀ {w : List Nat}, wrd w → ((nmM w = x) ↔ wIx w = k)) (hk : k < 23) : f_X11_isWord x u = nI (decide (tWd t p = k)).toNat := by
  have hs := kS_le t p
  unfold f_X11_isWord
  rw [h.2.2.1]
  by_cases q : kS t p = 1
  · rw [if_pos (show nI (kS t p) = (1 : Int32) from by rw [q]; rfl), h.2.2.2.2.1 q, tWd_1 q]
    by_cases z : wIx (kW t p) = k
    · rw [if_pos ((cmp_0 _ _).mpr ((hx (kW_1 q)).mpr z)), decide_eq_true z]; rfl
    · rw [if_neg (fun w => z ((hx (kW_1 q)).mp ((cmp_0 _ _).mp w))), decide_eq_false z]; rfl
  · rw [if_neg (show ¬ nI (kS t p) = (1 : Int32) from fun z => q ((nI_eq (b := 1) (by omega) (by omega)).mp z)), tWd_0 q, decide_eq_false (by omega)]; rfl
theorem m_isSign {u : gm_M} {t : List Nat} {p c : Nat} (h : cuM u t p) (g : gT t) (hp : p ≤ t.length) (hc : 0 < c) (hc2 : c < 200) : f_X11_isSign (nI c) u = some (nI (decide (tSg t p = c)).toNat) := by
  have hs := kS_le t p
  have hl := sgA_lt g (kB t p)
  have gl := g.1
  unfold f_X11_isSign tSg
  rw [h.2.2.1]
  by_cases q : kS t p = 3
  · have he := kE_le hp (by omega)
    rw [if_pos (show nI (kS t p) = (3 : Int32) from by rw [q]; rfl), h.2.1, if_pos q]
    simp (disch := omega) only [ib_nI, ix_nI, if_pos, h.1.2 _ _ (sgA_at (show kB t p < t.length by omega))]
    by_cases z : sgA t (kB t p) = c
    · rw [if_pos (by rw [z]), decide_eq_true z]; rfl
    · rw [if_neg (fun w => z ((nI_eq (by omega) (by omega)).mp w)), decide_eq_false z]; rfl
  · rw [if_neg (show ¬ nI (kS t p) = (3 : Int32) from fun z => q ((nI_eq (b := 3) (by omega) (by omega)).mp z)), if_neg q, decide_eq_false (by omega)]; rfl
theorem ite_c {p q : Prop} [Decidable p] [Decidable q] {α : Type} {x y : α} (h : p ↔ q) : (if p then x else y) = if q then x else y := by
  by_cases z : q
  · rw [if_pos z, if_pos (h.mpr z)]
  · rw [if_neg z, if_neg (fun w => z (h.mp w))]
theorem m_fact {u : gm_M} {t : List Nat} {p : Nat} (h : cuM u t p) : f_X11_fact u = nI (if 19 ≤ tWd t p ∧ tWd t p ≤ 22 then tWd t p - 18 else 0) := by
  have hs := kS_le t p
  unfold f_X11_fact
  rw [h.2.2.1]
  by_cases q : kS t p = 1
  · have hw := kW_1 q
    rw [if_pos (show nI (kS t p) = (1 : Int32) from by rw [q]; rfl), h.2.2.2.2.1 q]
    rw [ite_c ((cmp_0 _ _).trans (wx19 hw)), ite_c ((cmp_0 _ _).trans (wx20 hw)), ite_c ((cmp_0 _ _).trans (wx21 hw)), ite_c ((cmp_0 _ _).trans (wx22 hw)), ← tWd_1 q]
    have hl := wIx_le (kW t p)
    rw [← tWd_1 q] at hl
    by_cases z1 : tWd t p = 19
    · rw [if_pos z1, z1]; rfl
    · rw [if_neg z1]
      by_cases z2 : tWd t p = 20
      · rw [if_pos z2, z2]; rfl
      · rw [if_neg z2]
        by_cases z3 : tWd t p = 21
        · rw [if_pos z3, z3]; rfl
        · rw [if_neg z3]
          by_cases z4 : tWd t p = 22
          · rw [if_pos z4, z4]; rfl
          · rw [if_neg z4, if_neg (by omega)]; rfl
  · rw [if_neg (show ¬ nI (kS t p) = (1 : Int32) from fun z => q ((nI_eq (b := 1) (by omega) (by omega)).mp z)), tWd_0 q, if_neg (by omega)]; rfl
theorem m_isKept {u : gm_M} {t : List Nat} {p : Nat} (h : cuM u t p) : f_X11_isKept u = nI (decide (¬ (19 ≤ tWd t p ∧ tWd t p ≤ 23))).toNat := by
  have hs := kS_le t p
  unfold f_X11_isKept
  rw [h.2.2.1]
  by_cases q : kS t p = 1
  · have hw := kW_1 q
    have hl := wIx_le (kW t p)
    rw [if_pos (show nI (kS t p) = (1 : Int32) from by rw [q]; rfl), h.2.2.2.2.1 q, tWd_1 q]
    rw [ite_c ((cmp_0 _ _).trans (wx0 hw)), ite_c ((cmp_0 _ _).trans (wx1 hw)), ite_c ((cmp_0 _ _).trans (wx2 hw)), ite_c ((cmp_0 _ _).trans (wx3 hw)), ite_c ((cmp_0 _ _).trans (wx4 hw)), ite_c ((cmp_0 _ _).trans (wx5 hw)), ite_c ((cmp_0 _ _).trans (wx6 hw)), ite_c ((cmp_0 _ _).trans (wx7 hw)), ite_c ((cmp_0 _ _).trans (wx8 hw)), ite_c ((cmp_0 _ _).trans (wx9 hw)), ite_c ((cmp_0 _ _).trans (wx10 hw)), ite_c ((cmp_0 _ _).trans (wx11 hw)), ite_c ((cmp_0 _ _).trans (wx12 hw)), ite_c ((cmp_0 _ _).trans (wx13 hw)), ite_c ((cmp_0 _ _).trans (wx14 hw)), ite_c ((cmp_0 _ _).trans (wx15 hw)), ite_c ((cmp_0 _ _).trans (wx16 hw)), ite_c ((cmp_0 _ _).trans (wx17 hw)), ite_c ((cmp_0 _ _).trans (wx18 hw))]
    rw [← tWd_1 q] at hl ⊢
    generalize tWd t p = k at *
    have : ∀ k : Fin 24, (if k.1 = 0 then (1 : Int32) else if k.1 = 1 then (1 : Int32) else if k.1 = 2 then (1 : Int32) else if k.1 = 3 then (1 : Int32) else if k.1 = 4 then (1 : Int32) else if k.1 = 5 then (1 : Int32) else if k.1 = 6 then (1 : Int32) else if k.1 = 7 then (1 : Int32) else if k.1 = 8 then (1 : Int32) else if k.1 = 9 then (1 : Int32) else if k.1 = 10 then (1 : Int32) else if k.1 = 11 then (1 : Int32) else if k.1 = 12 then (1 : Int32) else if k.1 = 13 then (1 : Int32) else if k.1 = 14 then (1 : Int32) else if k.1 = 15 then (1 : Int32) else if k.1 = 16 then (1 : Int32) else if k.1 = 17 then (1 : Int32) else if k.1 = 18 then (1 : Int32) else (0 : Int32)) = nI (decide (¬ (19 ≤ k.1 ∧ k.1 ≤ 23))).toNat := by decide +kernel
    exact this ⟨k, by omega⟩
  · rw [if_neg (show ¬ nI (kS t p) = (1 : Int32) from fun z => q ((nI_eq (b := 1) (by omega) (by omega)).mp z)), tWd_0 q, decide_eq_true (by omega)]; rfl
