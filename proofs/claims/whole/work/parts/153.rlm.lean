/-! realm: year, candle, lives -/
def sOn (t : List Nat) (T k p : Nat) : pT := if T.testBit k = true then .inl (flt 3 t p) else .inr (kE t p)
theorem T_sh : ∀ k : Fin 7, (1 : Int32) <<< (nI k.1 &&& 31) = nI (2 ^ k.1) := by decide +kernel
theorem T_and : ∀ T : Fin 128, ∀ k : Fin 7, nI T.1 &&& nI (2 ^ k.1) = nI (if T.1.testBit k.1 = true then 2 ^ k.1 else 0) := by decide +kernel
theorem T_or : ∀ T : Fin 128, ∀ k : Fin 7, nI T.1 ||| nI (2 ^ k.1) = nI (T.1 ||| 2 ^ k.1) ∧ T.1 ||| 2 ^ k.1 < 128 := by decide +kernel
theorem T_m : ∀ T : Fin 128, ∀ w : Fin 4, 1 ≤ w.1 → ((nI (T.1 / 4 % 16) >>> (nI w.1 &&& 31)) &&& (1 : Int32)) = nI (T.1.testBit (w.1 + 2)).toNat ∧ (nI (T.1 / 4 % 16) ||| ((1 : Int32) <<< (nI w.1 &&& 31))) = nI ((T.1 ||| 2 ^ (w.1 + 2)) / 4 % 16) := by decide +kernel
theorem T_6 : ∀ T : Fin 128, (T.1 ||| 64) / 4 % 16 = T.1 / 4 % 16 ∧ (T.1 ||| 64).testBit 6 = true := by decide +kernel
theorem T_n6 : ∀ T : Fin 128, ∀ k : Fin 6, (T.1 ||| 2 ^ k.1).testBit 6 = T.1.testBit 6 := by decide +kernel
def tk42 : Nat → Nat → Prop := fun a j => tk4 a j ∨ (a = 2 ∧ j = 2)
theorem cs_once {t : List Nat} {u : gm_M} {p k T : Nat} (gt : gT t) (hcu : cuC u t p) (h0 : gI u 2 1 = 0) (hp : p ≤ t.length) (hk : tWd t p = k) (hk6 : k ≤ 6) (hT : gI u 2 2 = nI T) (hT2 : T < 128) : ok (f_X8_takeOnce u) (fun v => CS t v (sOn t T k p) ∧ gI v 2 2 = nI (T ||| 2 ^ k) ∧ fr tk42 u v) := by
  have hS := wd_S (t := t) (p := p) (by omega)
  have hv : gI u 3 5 = nI k := by rw [c_val hcu hS, hk]; unfold pv; rw [if_neg (by omega)]
  have sh := T_sh ⟨k, by omega⟩
  have an := T_and ⟨T, hT2⟩ ⟨k, by omega⟩
  have or' := (T_or ⟨T, hT2⟩ ⟨k, by omega⟩).1
  simp only at sh an or'
  unfold f_X8_takeOnce sOn
  rw [gm_letE, hv, sh, hT, an]
  by_cases q : T.testBit k = true
  · have h2k : 2 ^ k ≤ 2 ^ 6 := Nat.pow_le_pow_right (by omega) hk6
    have h2p : 0 < 2 ^ k := Nat.pow_pos (by omega)
    have er : f_X8_refuse (3 : Int32) u = some (sI u 2 1 (nI (flt 3 t p))) := co_refuse hcu h0 3
    have hb := flt_b (k := 3) (by omega) (by omega) hp gt
    rw [if_pos q, if_pos q, if_neg (show ¬ nI (2 ^ k) = (0 : Int32) from fun z => by have := (nI_eq (b := 0) (by omega) (by omega)).mp z; omega), er]
    simp only [Option.bind_some]
    unfold j_X8_takeOnce_24
    have e2 : gI (sI u 2 1 (nI (flt 3 t p))) 2 2 = nI T := (gI_ne (by omega)).trans hT
    rw [gm_letE, e2, or']
    have e41 : gI (sI (sI u 2 1 (nI (flt 3 t p))) 2 2 (nI (T ||| 2 ^ k))) 2 1 = nI (flt 3 t p) := (gI_ne (by omega)).trans (gI_eq rfl rfl)
    rw [cf_take (by rw [e41]; exact flt_ne hb.1 hb.2)]
    exact ok_some ⟨.inl ⟨_, rfl, e41, hb.1, hb.2⟩, gI_eq rfl rfl, fr_sI (fr_sI (fr_refl _ _) (.inl (.inr ⟨rfl, rfl⟩))) (.inr ⟨rfl, rfl⟩)⟩
  · rw [if_neg q, if_neg q, if_pos (show nI 0 = (0 : Int32) from rfl)]
    unfold j_X8_takeOnce_24
    rw [gm_letE, hT, or']
    have f0 : fr (fun a j => a = 2 ∧ j = 2) u (sI u 2 2 (nI (T ||| 2 ^ k))) := fr_sI (fr_refl _ _) ⟨rfl, rfl⟩
    have e0 : gI (sI u 2 2 (nI (T ||| 2 ^ k))) 2 2 = nI (T ||| 2 ^ k) := gI_eq rfl rfl
    generalize sI u 2 2 (nI (T ||| 2 ^ k)) = w at *
    have cw : cuC w t p := cuC_fr hcu f0 (fun j => by omega) (fun j => by omega)
    have h0w : gI w 2 1 = 0 := (fr_I f0 (by omega)).trans h0
    have e : ok (f_X8_take (1 : Int32) w) _ := co_take1 cw gt hp h0w (by omega)
    refine ok_bind e ?_
    rintro v ⟨v1, v2⟩
    exact ok_some ⟨.inr ⟨_, rfl, v1, (fr_I v2 (by unfold tkP; omega)).trans h0w, kE_ok hp (by omega)⟩, (fr_I v2 (by unfold tkP; omega)).trans e0, fr_trans (fr_mono f0 (fun a j z => .inr z)) (fr_mono v2 (fun a j z => .inl (.inl z)))⟩
def rSet (f v : Nat) (R : pR) : pR := if f = 5 then (R.1, v, R.2.2.1, R.2.2.2.1, R.2.2.2.2) else if f = 6 then (R.1, R.2.1, v, R.2.2.2.1, R.2.2.2.2) else (R.1, R.2.1, R.2.2.1, v, R.2.2.2.2)
noncomputable def xO (t : List Nat) (T k lo hi p : Nat) : pT := bX (bX (sOn t T k p) (sNu t lo hi)) (sSg t 59)
theorem sOn_inr {t : List Nat} {T k p q : Nat} (h : sOn t T k p = .inr q) : T.testBit k = false ∧ q = kE t p := by
  unfold sOn at h
  by_cases z : T.testBit k = true
  · rw [if_pos z] at h; cases h
  · rw [if_neg z] at h; cases h; exact ⟨by simpa using z, rfl⟩
theorem xO_inr {t : List Nat} {T k lo hi p q : Nat} (h : xO t T k lo hi p = .inr q) : T.testBit k = false ∧ (kS t (kE t p) = 2 ∧ (lo ≤ kV t (kE t p) ∧ kV t (kE t p) ≤ hi)) ∧ tSg t (kE t (kE t p)) = 59 ∧ q = kE t (kE t (kE t p)) := by
  obtain ⟨a, h1, h2⟩ := bX_inr h
  obtain ⟨b, h3, h4⟩ := bX_inr h1
  obtain ⟨i1, i2⟩ := sSg_inr h2
  obtain ⟨i3, i4, i5⟩ := sNu_inr h4
  obtain ⟨i6, i7⟩ := sOn_inr h3
  subst i7
  subst i5
  exact ⟨i6, ⟨i3, i4⟩, i1, i2⟩
theorem rSet_n (f v : Nat) (R : pR) : rN (rSet f v R) = rN R ∧ (∀ q, ps (rSet f v R) q = ps R q) ∧ rEv (rSet f v R) = rEv R := by
  unfold rSet
  split
  · exact ⟨rfl, fun _ => rfl, rfl⟩
  · split
    · exact ⟨rfl, fun _ => rfl, rfl⟩
    · exact ⟨rfl, fun _ => rfl, rfl⟩
theorem rSet_v {f v : Nat} {R : pR} (hf : f = 5 ∨ f = 6 ∨ f = 7) : ∀ j, (j = 5 → (if f = 5 then v else rYear R) = rYear (rSet f v R)) ∧ (j = 6 → (if f = 6 then v else rCandle R) = rCandle (rSet f v R)) ∧ (j = 7 → (if f = 7 then v else rLives R) = rLives (rSet f v R)) := by
  intro j
  rcases hf with rfl | rfl | rfl <;> exact ⟨fun _ => rfl, fun _ => rfl, fun _ => rfl⟩
theorem c_one {t : List Nat} {u : gm_M} {r p k T lo hi : Nat} {R : pR} (hr : r = 5 ∨ r = 13) (gt : gT t) (hR : rC0 u r R) (hcu : cuC u t p) (hp : p ≤ t.length) (h0 : gI u 2 1 = 0) (hk : tWd t p = k) (hk3 : k = 3 ∨ k = 4 ∨ k = 5) (hT : gI u 2 2 = nI T) (hT2 : T < 128) (hl : lo < 10000) (hh : hi < 10000) :
    ok ((f_X8_takeOnce u).bind fun u_15 => (f_X8_takeNumber (nI lo) (nI hi) u_15).bind fun o => gm_let (sI o.2 r (k + 2) o.1) fun u_21 => j_X8_readRealmLine_139 r u_21) (fun w => fr (rlP r) u w ∧ (∀ j, gI w (r + 5) j = gI u (r + 5) j ∧ gI w (r + 6) j = gI u (r + 6) j) ∧ CS t w (xO t T k lo hi p) ∧ (∀ p', xO t T k lo hi p = .inr p' → rC0 w r (rSet (k + 2) (kV t (kE t p)) R) ∧ gI w 2 2 = nI (T ||| 2 ^ k))) := by
  have no42 : ∀ {a j : Nat}, a ≠ 3 → a ≠ 2 → ¬ tk42 a j := fun h1 h2 z => by
    rcases z with (z | z) | z
    · exact h1 z.1
    · exact h2 z.1
    · exact h2 z.1
  have no4 : ∀ {a j : Nat}, a ≠ 3 → a ≠ 2 → ¬ tk4 a j := fun h1 h2 z => no42 h1 h2 (.inl z)
  have n442 : ¬ tk4 2 2 := fun z => by
    rcases z with z | z
    · unfold tkP at z; omega
    · omega
  obtain ⟨v1, e1, k1, t1, f1⟩ := cs_once gt hcu h0 hp hk (by omega) hT hT2
  rw [e1]
  simp only [Option.bind_some]
  obtain ⟨⟨nb, v2⟩, e2, n2, k2, f2⟩ := cs_num gt k1 hl hh
  simp only at n2 k2 f2
  rw [e2]
  simp only [Option.bind_some, gm_letE]
  have f3 : fr (fun a j => a = r ∧ j = k + 2) v2 (sI v2 r (k + 2) nb) := fr_sI (fr_refl _ _) ⟨rfl, rfl⟩
  have e3 : gI (sI v2 r (k + 2) nb) r (k + 2) = nb := gI_eq rfl rfl
  generalize sI v2 r (k + 2) nb = v3 at *
  have k3 : CS t v3 (bX (sOn t T k p) (sNu t lo hi)) := by
    rcases k2 with ⟨F, hx, b1, b2, b3⟩ | ⟨q, hx, b1, b2, b3⟩
    · exact .inl ⟨F, hx, (fr_I f3 (by omega)).trans b1, b2, b3⟩
    · exact .inr ⟨q, hx, cuC_fr b1 f3 (fun j => by omega) (fun j => by omega), (fr_I f3 (by omega)).trans b2, b3⟩
  unfold j_X8_readRealmLine_139
  have hs : ok (f_X8_takeSign (59 : Int32) v3) _ := cs_sign gt k3 (c := 59) (by omega) (by omega)
  obtain ⟨w, ew, kw, fw⟩ := hs
  rw [ew]
  have keep : ∀ a j, a ≠ 3 → a ≠ 2 → ¬ (a = r ∧ j = k + 2) → gI w a j = gI u a j ∧ gJ w a j = gJ u a j := fun a j q1 q2 q3 => ⟨(fr_I fw (no4 q1 q2)).trans ((fr_I f3 q3).trans ((fr_I f2 (no4 q1 q2)).trans (fr_I f1 (no42 q1 q2)))), (fr_J fw (no4 q1 q2)).trans ((fr_J f3 q3).trans ((fr_J f2 (no4 q1 q2)).trans (fr_J f1 (no42 q1 q2))))⟩
  refine ok_some ⟨fr_trans (fr_mono f1 (fun a j z => by rcases z with z | z; exact .inl z; exact .inr (.inl z))) (fr_trans (rlP_4 f2) (fr_trans (fr_mono f3 (fun a j z => .inr (.inr ⟨by omega, by omega⟩))) (rlP_4 fw))), fun j => ⟨(keep _ _ (by omega) (by omega) (by omega)).1, (keep _ _ (by omega) (by omega) (by omega)).1⟩, kw, fun p' hx => ?_⟩
  obtain ⟨g1, g2, g3, g4⟩ := xO_inr hx
  have son : sOn t T k p = .inr (kE t p) := by unfold sOn; rw [if_neg (by rw [g1]; decide)]
  have vn : nb = nI (kV t (kE t p)) := n2 _ (kE t (kE t p)) son (by unfold sNu; rw [if_neg (fun z => z g2.1), if_neg (fun z => z g2.2)])
  have ew3 : gI w r (k + 2) = nI (kV t (kE t p)) := (fr_I fw (no4 (by omega) (by omega))).trans (e3.trans vn)
  obtain ⟨s1, s2, s3⟩ := rSet_n (k + 2) (kV t (kE t p)) R
  refine ⟨⟨⟨?_, ?_, ?_, ?_⟩, fun q hq => ?_⟩, ?_⟩
  · rw [s1]; exact ((keep r 0 (by omega) (by omega) (by omega)).1).trans hR.1.1
  · rcases hk3 with rfl | rfl | rfl
    · exact ew3
    · exact ((keep r 5 (by omega) (by omega) (by omega)).1).trans hR.1.2.1
    · exact ((keep r 5 (by omega) (by omega) (by omega)).1).trans hR.1.2.1
  · rcases hk3 with rfl | rfl | rfl
    · exact ((keep r 6 (by omega) (by omega) (by omega)).1).trans hR.1.2.2.1
    · exact ew3
    · exact ((keep r 6 (by omega) (by omega) (by omega)).1).trans hR.1.2.2.1
  · rcases hk3 with rfl | rfl | rfl
    · exact ((keep r 7 (by omega) (by omega) (by omega)).1).trans hR.1.2.2.2
    · exact ((keep r 7 (by omega) (by omega) (by omega)).1).trans hR.1.2.2.2
    · exact ew3
  · unfold rKind rBorn rPlea
    rw [s2]
    rw [s1] at hq
    obtain ⟨c1, c2, c3, c4⟩ := hR.2 q hq
    exact ⟨((keep (r + 1) q (by omega) (by omega) (by omega)).2).trans c1, ((keep (r + 2) q (by omega) (by omega) (by omega)).1).trans c2, ((keep (r + 3) q (by omega) (by omega) (by omega)).1).trans c3, ((keep (r + 4) q (by omega) (by omega) (by omega)).1).trans c4⟩
  · rw [fr_I fw n442, fr_I f3 (by omega), fr_I f2 n442]; exact t1
theorem m_one {t : List Nat} {u : gm_M} {p k T lo hi : Nat} {R : pR} (gt : gT t) (hR : rD u R) (hn : rN R ≤ 6) (hcu : cuM u t p) (hp : p ≤ t.length) (hk : tWd t p = k) (hk3 : k = 3 ∨ k = 4 ∨ k = 5) (hT : gI u 1 19 = nI (T / 4 % 16)) (hT2 : T < 128) (hl : lo < 10000) (hh : hi < 10000) :
    ok (f_X11_readsOne (nI (k - 2)) (nI lo) (nI hi) u) (MO t u (xO t T k lo hi p) (fun v => rD v (rSet (k + 2) (kV t (kE t p)) R) ∧ gI v 1 19 = nI ((T ||| 2 ^ k) / 4 % 16) ∧ ∀ a j, a = 8 ∨ a = 9 ∨ a = 10 ∨ (a = 1 ∧ j = 18) → gI v a j = gI u a j)) := by
  have hS : kS t p ≠ 0 := by have := wd_S (t := t) (p := p) (by omega); omega
  have hE := kE_le hp hS
  obtain ⟨m1, m2⟩ := T_m ⟨T, hT2⟩ ⟨k - 2, by omega⟩ (by simp only; omega)
  simp only [show k - 2 + 2 = k by omega] at m1 m2
  unfold f_X11_readsOne
  rw [hT, m1]
  by_cases q : T.testBit k = true
  · have e : xO t T k lo hi p = .inl (flt 3 t p) := by unfold xO sOn; rw [if_pos q]; rfl
    have ef : f_X11_fails (3 : Int32) u = some (0, sI u 1 9 (nI (flt 3 t p))) := m_fails hcu 3
    rw [q, if_pos (show nI (true).toNat = (1 : Int32) from rfl), ef, e]
    exact ok_some ⟨rmP_9, .inl ⟨_, rfl, and0, gI_eq rfl rfl⟩⟩
  · have qf : T.testBit k = false := by simpa using q
    have x1 : sOn t T k p = .inr (kE t p) := by unfold sOn; rw [if_neg q]
    rw [qf, if_neg (show ¬ nI (false).toNat = (1 : Int32) by decide), gm_letE, m2]
    have f0 : fr (fun a j => a = 1 ∧ j = 19) u (sI u 1 19 (nI ((T ||| 2 ^ k) / 4 % 16))) := fr_sI (fr_refl _ _) ⟨rfl, rfl⟩
    have e0 : gI (sI u 1 19 (nI ((T ||| 2 ^ k) / 4 % 16))) 1 19 = nI ((T ||| 2 ^ k) / 4 % 16) := gI_eq rfl rfl
    generalize sI u 1 19 (nI ((T ||| 2 ^ k) / 4 % 16)) = w at *
    have cw : cuM w t p := cuM_fr hcu f0 (fun j _ _ => by omega) (fun j => by omega)
    refine ok_bind (m_step cw gt hp hS) ?_
    rintro v ⟨v1, v2⟩
    obtain ⟨⟨o3, w3⟩, e3, b3, c3⟩ := m_num1 v1 gt hE.2.1 hl hh
    simp only at b3 c3
    rw [e3]
    simp only [Option.bind_some]
    have F3 : fr rmP u w3 := fr_trans (fr_mono f0 (fun a j z => .inl ⟨z.1, by omega⟩)) (fr_trans (rmP_tm v2) (tm9_rm b3))
    rcases c3 with ⟨F, y1, rfl, y3⟩ | ⟨q3, y1, rfl, y3, y4, y5⟩
    · have e : xO t T k lo hi p = .inl F := by unfold xO; rw [x1]; show bX (sNu t lo hi (kE t p)) (sSg t 59) = _; rw [y1]; rfl
      rw [if0, e]
      exact ok_some ⟨F3, .inl ⟨F, rfl, rfl, y3⟩⟩
    · have e : xO t T k lo hi p = sSg t 59 q3 := by unfold xO; rw [x1]; show bX (sNu t lo hi (kE t p)) (sSg t 59) = _; rw [y1]; rfl
      rw [if1, e, show (4 : Int32) + nI (k - 2) = nI (k + 2) by rw [show (4 : Int32) = nI 4 from rfl, nI_add]; congr 1; omega, if_pos (show ib (nI (k + 2)) 8 = true from (ib_nI (by omega)).mpr (by omega)), gm_letE, ix_nI (by omega), y5]
      have f4 : fr (fun a j => a = 3 ∧ j = k + 2) w3 (sI w3 3 (k + 2) (nI (kV t (kE t p)))) := fr_sI (fr_refl _ _) ⟨rfl, rfl⟩
      have e4 : gI (sI w3 3 (k + 2) (nI (kV t (kE t p)))) 3 (k + 2) = nI (kV t (kE t p)) := gI_eq rfl rfl
      generalize sI w3 3 (k + 2) (nI (kV t (kE t p))) = w4 at *
      have c4 : cuM w4 t q3 := cuM_fr y3 f4 (fun j _ _ => by omega) (fun j => by omega)
      have F4 : fr rmP u w4 := fr_trans F3 (fr_mono f4 (fun a j z => .inr (.inl ⟨z.1, by omega⟩)))
      unfold sSg
      rcases m_closes c4 gt y4 with ⟨q59, hok⟩ | ⟨q59, ec⟩
      · rw [if_pos q59]
        obtain ⟨⟨oc, wc⟩, ecc, oc1, oc2, oc3⟩ := hok
        simp only at oc1 oc2 oc3
        subst oc1
        rw [ecc]
        have n9 : ∀ {a j : Nat}, a ≠ 1 → ¬ tm9 a j := fun h z => h z.1
        have nT : ∀ {a j : Nat}, a ≠ 1 → ¬ tmP a j := fun h z => h z.1
        have all : ∀ a j, ¬ tm9 a j → ¬ (a = 1 ∧ j = 19) → ¬ (a = 3 ∧ j = k + 2) → gI wc a j = gI u a j ∧ gJ wc a j = gJ u a j := fun a j n1 n2 n3 => by
          have nt : ¬ tmP a j := fun z => n1 ⟨z.1, by unfold tmP at z; omega⟩
          exact ⟨(fr_I oc3 nt).trans ((fr_I f4 n3).trans ((fr_I b3 n1).trans ((fr_I v2 nt).trans (fr_I f0 n2)))), (fr_J oc3 nt).trans ((fr_J f4 n3).trans ((fr_J b3 n1).trans ((fr_J v2 nt).trans (fr_J f0 n2))))⟩
        have ew3 : gI wc 3 (k + 2) = nI (kV t (kE t p)) := (fr_I oc3 (nT (by omega))).trans e4
        obtain ⟨s1, s2, s3⟩ := rSet_n (k + 2) (kV t (kE t p)) R
        refine ok_some ⟨fr_trans F4 (rmP_tm oc3), .inr ⟨kE t q3, rfl, and_n ⟨1, by omega⟩, oc2, kE_ok y4 (sg_S (by omega)), ⟨⟨?_, ?_, ?_, ?_⟩, fun q hq => ?_⟩, ?_, fun a j hj => (all a j (fun z => by unfold tm9 at z; omega) (by omega) (by omega)).1⟩⟩
        · rw [s1]; exact ((all 3 4 (n9 (by omega)) (by omega) (by omega)).1).trans hR.1.1
        · rcases hk3 with rfl | rfl | rfl
          · exact ew3
          · exact ((all 3 5 (n9 (by omega)) (by omega) (by omega)).1).trans hR.1.2.1
          · exact ((all 3 5 (n9 (by omega)) (by omega) (by omega)).1).trans hR.1.2.1
        · rcases hk3 with rfl | rfl | rfl
          · exact ((all 3 6 (n9 (by omega)) (by omega) (by omega)).1).trans hR.1.2.2.1
          · exact ew3
          · exact ((all 3 6 (n9 (by omega)) (by omega) (by omega)).1).trans hR.1.2.2.1
        · rcases hk3 with rfl | rfl | rfl
          · exact ((all 3 7 (n9 (by omega)) (by omega) (by omega)).1).trans hR.1.2.2.2
          · exact ((all 3 7 (n9 (by omega)) (by omega) (by omega)).1).trans hR.1.2.2.2
          · exact ew3
        · unfold rKind rBorn rPlea
          rw [s2]
          rw [s1] at hq
          obtain ⟨c1, c2, c3, c4⟩ := hR.2 q hq
          exact ⟨((all 4 (6 + q) (n9 (by omega)) (by omega) (by omega)).2).trans c1, ((all 5 (6 + q) (n9 (by omega)) (by omega) (by omega)).1).trans c2, ((all 6 (6 + q) (n9 (by omega)) (by omega) (by omega)).1).trans c3, ((all 7 (6 + q) (n9 (by omega)) (by omega) (by omega)).1).trans c4⟩
        · show gI wc 1 19 = _
          rw [fr_I oc3 (fun z => by unfold tmP at z; omega), fr_I f4 (by omega), fr_I b3 (fun z => by unfold tm9 at z; omega), fr_I v2 (fun z => by unfold tmP at z; omega), e0]
      · rw [if_neg q59, ec]
        exact ok_some ⟨fr_trans F4 rmP_9, .inl ⟨_, rfl, and_n ⟨0, by omega⟩, gI_eq rfl rfl⟩⟩
