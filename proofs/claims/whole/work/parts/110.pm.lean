/-! years pass in the reference -/
theorem dead_mono {R : pR} {y z p : Nat} (h : y ≤ z) (hd : dead R y p = true) : dead R z p = true := by
  simp only [dead, Bool.and_eq_true, decide_eq_true_eq] at hd ⊢
  exact ⟨hd.1, by omega⟩
theorem kill_kill {R : pR} {y z : Nat} {k : pK} (h : y ≤ z) : killK R z (killK R y k) = killK R z k := by
  simp only [killK, List.filter_filter]
  congr 3
  apply List.filter_congr
  intro e _
  cases q : dead R z e.1
  · have : dead R y e.1 = false := by
      cases w : dead R y e.1
      · rfl
      · exact absurd (dead_mono h w) (by rw [q]; decide)
    simp [this]
  · simp
def psK (R : pR) (y p : Nat) (q : List pQ) : List pQ := q.filter (fun e => !(decide (e.1 < p) && dead R y e.1))
theorem psK_all {R : pR} {y : Nat} {q : List pQ} (h : ∀ e ∈ q, e.1 < rN R) : psK R y (rN R) q = q.filter (fun e => !dead R y e.1) := by
  apply List.filter_congr
  intro e he
  simp [h e he]
theorem psK_same {R : pR} {y p : Nat} {q : List pQ} (h : ∀ e ∈ q, e.1 = p → dead R y p = false) : psK R y (p + 1) q = psK R y p q := by
  apply List.filter_congr
  intro e he
  by_cases w : e.1 = p
  · have := h e he w
    rw [w, this]
    simp
  · have : decide (e.1 < p + 1) = decide (e.1 < p) := by
      apply decide_eq_decide.mpr; omega
    rw [this]
theorem psK_out {R : pR} {y p : Nat} {q : List pQ} (h : dead R y p = true) : (psK R y p q).filter (fun e => e.1 != p) = psK R y (p + 1) q := by
  simp only [psK, List.filter_filter]
  apply List.filter_congr
  intro e he
  by_cases w : e.1 = p
  · rw [w, h]
    simp
  · have : decide (e.1 < p + 1) = decide (e.1 < p) := by
      apply decide_eq_decide.mpr; omega
    rw [this]
    simp [w]
theorem m_hasDay {u : gm_M} {y : Nat} {old : Bool} (h : gI u 1 46 = nI old.toNat) (hy : y < 2 ^ 31) : f_X11_hasDay (nI y) u = nI (cond old (decide (y % 4 = 0)) (lpy y)).toNat := by
  simp (disch := omega) only [f_X11_hasDay, h, gm_let, leap_m, leap_n, litI, nI_rem, nI_eq]
  cases old with
  | false =>
    simp only [Bool.toNat_false, if_true, cond_false]
    exact nI_b1 (by cases lpy y <;> decide)
  | true =>
    simp only [Bool.toNat_true, cond_true]
    rw [if_neg (by decide)]
    by_cases w : y % 4 = 0
    · simp [w]
    · simp [w]
theorem m_passes {u : gm_M} {R : pR} {k : pK} {C Y : Nat} {old : Bool} (h : rM u R) (hg : gR1 R) (hk : kM u 29 0 k) (hgk : gK R Y k) (hy : k.1 + 1 ≤ Y) (hY : Y < 2 ^ 30) (hC : C ≤ 900) (hcan : gI u 1 49 = nI C) (hold : gI u 1 46 = nI old.toNat) :
    ok (f_X11_passes u) (fun o => fr hdP u o.2 ∧ ((cond old (decide ((k.1 + 1) % 4 = 0)) (lpy (k.1 + 1)) = false ∧ o.1 = nI 0 ∧ kM o.2 29 0 (killK R (k.1 + 1) k)) ∨ (cond old (decide ((k.1 + 1) % 4 = 0)) (lpy (k.1 + 1)) = true ∧ o.1 = nI 1 ∧ kM o.2 29 0 (dayK R C (killK R (k.1 + 1) k)) ∧ gI o.2 1 50 = nI (killK R (k.1 + 1) k).2.2.2.length ∧ gI o.2 1 51 = nI (C + k.2.1 - (dayH R C (killK R (k.1 + 1) k)).1)))) := by
  have g1 := hg.1
  have hq := gK_gQ hgk hg
  have a0 : gI u 29 0 = nI k.1 := hk.1.1
  have hpn : ∀ e ∈ k.2.2.2, e.1 < rN R := fun e he => (hgk.2.2.2.2 e he).1
  simp only [f_X11_passes, gm_let, a0, litI, nI_add]
  have hk1 := kM_yr (y := k.1 + 1) hk
  have hf1 : fr (fun a j => a = 29 ∧ j < 22) u (sI u 29 0 (nI (k.1 + 1))) := fr_sI (fr_refl _ _) ⟨rfl, by omega⟩
  have hr0 := h.1.1
  refine ok_bind (Q := fun v => fr (fun a j => a = 29 ∧ j < 22) u v ∧ kM v 29 0 (killK R (k.1 + 1) k))
    (lp_ok (rN R) (fun p x => x.1 = nI p ∧ fr (fun a j => a = 29 ∧ j < 22) u x.2 ∧ kM x.2 29 0 (k.1 + 1, k.2.1, k.2.2.1, psK R (k.1 + 1) p k.2.2.2)) (by omega) ?_ ?_ ?_) ?_
  · refine ⟨rfl, hf1, ?_⟩
    have z : psK R (k.1 + 1) 0 k.2.2.2 = k.2.2.2 := by
      simp [psK]
    rw [z]
    exact hk1
  · rintro p ⟨x, v⟩ hp ⟨hx, hfr, hkv⟩
    simp only at hx hfr hkv
    subst hx
    have hrv : rM v R := rM_fr h g1 hfr (fun a j q1 q3 => by rcases q1 with q1 | q1 | q1 | q1 <;> omega)
    have e0 := hrv.1.1
    have hqv : gQ (psK R (k.1 + 1) p k.2.2.2) := gQ_filter hq _
    simp (disch := omega) only [b_X11_passes_12, litI, e0, nI_leI, if_neg]
    refine ok_bind (m_placeOf hkv hqv (nI p)) ?_
    rintro r (⟨i, e, he, w, rfl⟩ | ⟨w, rfl⟩)
    · have hi6 := gQ_len hqv
      have hi1 := (List.getElem?_eq_some_iff.mp he).1
      have he6 := gQ_at hqv he
      have hep : e.1 = p := by rwa [nI_eq (by omega) (by omega)] at w
      simp only at hi6 hi1
      simp (disch := omega) only [nI_ltI, if_neg, m_isDead hrv hg hkv hp (show k.1 + 1 < 2 ^ 30 by omega), Option.bind_some]
      cases q : dead R (k.1 + 1) p
      · rw [if_pos (by decide)]
        refine ok_some ⟨by rw [nI_add], hfr, ?_⟩
        rw [psK_same (fun f _ _ => q)]
        exact hkv
      · rw [if_neg (by decide)]
        refine ok_bind (m_leaves hkv hqv he hep) ?_
        rintro w2 ⟨hkw, hfw⟩
        refine ok_some ⟨by rw [nI_add], fr_trans hfr (fr_mono hfw (fun a j z => ⟨z.1, by omega⟩)), ?_⟩
        simp only [psK_out q] at hkw
        exact hkw
    · rw [if_pos (by decide)]
      refine ok_some ⟨by rw [nI_add], hfr, ?_⟩
      rw [psK_same (fun f hf z => ?_)]
      · exact hkv
      · exact absurd (by rw [z]) (w f (List.mem_filter.mpr ⟨hf, by simp [z]⟩))
  · rintro ⟨x, v⟩ ⟨hx, hfr, hkv⟩
    simp only at hx hfr hkv
    subst hx
    have e0 : gI v 3 0 = nI (rN R) := (fr_I hfr (by omega)).trans hr0
    simp (disch := omega) only [b_X11_passes_12, litI, e0, nI_leI, if_pos]
    rw [psK_all hpn] at hkv
    exact ok_some ⟨hfr, hkv⟩
  · rintro v ⟨hfr, hkv⟩
    have e0 : gI v 29 0 = nI (k.1 + 1) := hkv.1.1
    have e46 : gI v 1 46 = nI old.toNat := (fr_I hfr (by omega)).trans hold
    have e49 : gI v 1 49 = nI C := (fr_I hfr (by omega)).trans hcan
    have hrv : rM v R := rM_fr h g1 hfr (fun a j q1 q3 => by rcases q1 with q1 | q1 | q1 | q1 <;> omega)
    simp only [e0, m_hasDay e46 (show k.1 + 1 < 2 ^ 31 by omega)]
    cases q : cond old (decide ((k.1 + 1) % 4 = 0)) (lpy (k.1 + 1))
    · rw [if_pos (by decide)]
      exact ok_some ⟨fr_mono hfr (fun a j z => .inl z), .inl ⟨rfl, rfl, hkv⟩⟩
    · rw [if_neg (by decide)]
      refine ok_bind (m_holdsDay hrv hg hkv (gK_kill hgk hy) hC e49) ?_
      rintro w ⟨hkw, w50, w51, hfw⟩
      exact ok_some ⟨fr_trans (fr_mono hfr (fun a j z => .inl z)) hfw, .inr ⟨rfl, rfl, hkw, w50, w51⟩⟩
theorem m_rides {u : gm_M} {R : pR} {k : pK} {C Y : Nat} (h : rM u R) (hg : gR1 R) (hk : kM u 29 0 k) (hgk : gK R Y k) (hy : k.1 + 8 ≤ Y) (hY : Y < 2 ^ 30) (hC : C ≤ 900) (hcan : gI u 1 49 = nI C) (hold : gI u 1 46 = nI 0) :
    ok (f_X11_rides u) (fun v => fr hdP u v ∧ kM v 29 0 (dayK R C (killK R (nxt k.1) k)) ∧ gI v 1 50 = nI (killK R (nxt k.1) k).2.2.2.length ∧ gI v 1 51 = nI (C + k.2.1 - (dayH R C (killK R (nxt k.1) k)).1)) := by
  have g1 := hg.1
  have g8 := gap_le k.1
  have gl := gap_leap k.1
  simp only [f_X11_rides]
  refine ok_bind (Q := fun v => fr hdP u v ∧ kM v 29 0 (dayK R C (killK R (nxt k.1) k)) ∧ gI v 1 50 = nI (killK R (nxt k.1) k).2.2.2.length ∧ gI v 1 51 = nI (C + k.2.1 - (dayH R C (killK R (nxt k.1) k)).1))
    (lp_ok (gap k.1) (fun m x => fr hdP u x.2 ∧ ((m = 0 ∧ x.1 = nI 0 ∧ kM x.2 29 0 k) ∨ (m ≠ 0 ∧ m < gap k.1 ∧ x.1 = nI 0 ∧ kM x.2 29 0 (killK R (k.1 + m) k)) ∨ (m = gap k.1 ∧ x.1 = nI 1 ∧ kM x.2 29 0 (dayK R C (killK R (nxt k.1) k)) ∧ gI x.2 1 50 = nI (killK R (nxt k.1) k).2.2.2.length ∧ gI x.2 1 51 = nI (C + k.2.1 - (dayH R C (killK R (nxt k.1) k)).1)))) (by omega) ?_ ?_ ?_) (fun v hv => ok_some hv)
  · exact ⟨fr_refl _ _, .inl ⟨rfl, rfl, hk⟩⟩
  · rintro m ⟨x, v⟩ hm ⟨hfr, hs⟩
    simp only at hfr hs
    have hrv : rM v R := rM_fr h g1 hfr (fun a j q1 q3 => by rcases q3 with q3 | q3 | q3 | q3 <;> rcases q1 with q1 | q1 | q1 | q1 <;> omega)
    have e46 : gI v 1 46 = nI (false).toNat := (fr_I hfr (fun z => by rcases z with z | z | z | z <;> omega)).trans hold
    have e49 : gI v 1 49 = nI C := (fr_I hfr (fun z => by rcases z with z | z | z | z <;> omega)).trans hcan
    have main : ∀ k' : pK, kM v 29 0 k' → gK R Y k' → k'.1 = k.1 + m → k'.2.1 = k.2.1 → killK R (k.1 + m + 1) k' = killK R (k.1 + m + 1) k → x = nI 0 → ok (b_X11_rides_2 (x, v)) (stp (fun x => fr hdP u x.2 ∧ ((m + 1 = 0 ∧ x.1 = nI 0 ∧ kM x.2 29 0 k) ∨ (m + 1 ≠ 0 ∧ m + 1 < gap k.1 ∧ x.1 = nI 0 ∧ kM x.2 29 0 (killK R (k.1 + (m + 1)) k)) ∨ (m + 1 = gap k.1 ∧ x.1 = nI 1 ∧ kM x.2 29 0 (dayK R C (killK R (nxt k.1) k)) ∧ gI x.2 1 50 = nI (killK R (nxt k.1) k).2.2.2.length ∧ gI x.2 1 51 = nI (C + k.2.1 - (dayH R C (killK R (nxt k.1) k)).1)))) (fun v => fr hdP u v ∧ kM v 29 0 (dayK R C (killK R (nxt k.1) k)) ∧ gI v 1 50 = nI (killK R (nxt k.1) k).2.2.2.length ∧ gI v 1 51 = nI (C + k.2.1 - (dayH R C (killK R (nxt k.1) k)).1))) := by
      intro k' hk' hgk' hy' hl' hkk hx
      subst hx
      simp only [b_X11_rides_2]
      rw [if_pos (by decide)]
      refine ok_bind (m_passes hrv hg hk' hgk' (by omega) hY hC e49 e46) ?_
      rintro ⟨w, v2⟩ ⟨hf2, hq⟩
      refine ok_some ⟨fr_trans hfr hf2, ?_⟩
      simp only [cond_false, hy'] at hq
      rcases hq with ⟨q1, q2, q3⟩ | ⟨q1, q2, q3, q4, q5⟩
      · refine .inr (.inl ⟨by omega, ?_, q2, ?_⟩)
        · rcases Nat.lt_or_ge (m + 1) (gap k.1) with z | z
          · exact z
          · have : m + 1 = gap k.1 := by omega
            rw [Nat.add_assoc, this, gl] at q1
            cases q1
        · rw [hkk] at q3
          exact q3
      · have z : m + 1 = gap k.1 := by
          rcases Nat.lt_or_ge (m + 1) (gap k.1) with z | z
          · rw [Nat.add_assoc, gap_no k.1 (m + 1) z (by omega)] at q1
            cases q1
          · omega
        have z2 : k.1 + m + 1 = nxt k.1 := by unfold nxt; omega
        rw [hkk, z2] at q3 q4 q5
        rw [hl'] at q5
        exact .inr (.inr ⟨z, q2, q3, q4, q5⟩)
    rcases hs with ⟨rfl, hx, hkv⟩ | ⟨h0, h1, hx, hkv⟩ | ⟨h0, -⟩
    · exact main k hkv hgk (by omega) rfl rfl hx
    · exact main (killK R (k.1 + m) k) hkv (gK_kill hgk (by omega)) rfl rfl (kill_kill (by omega)) hx
    · omega
  · rintro ⟨x, v⟩ ⟨hfr, hs⟩
    simp only at hfr hs
    rcases hs with ⟨h0, -⟩ | ⟨-, h1, -⟩ | ⟨-, hx, q⟩
    · omega
    · omega
    · subst hx
      simp only [b_X11_rides_2]
      rw [if_neg (by decide)]
      exact ok_some ⟨hfr, q⟩
