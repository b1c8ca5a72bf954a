/-! realm: both read -/
theorem bnd_some {α β : Type} {o : Option α} {x : α} {f : α → Option β} {y : β} (h : o = some x) (h2 : f x = some y) : o.bind f = some y := by subst h; exact h2
def rmQ : Nat → Nat → Prop := fun a j => rmP a j ∨ (a = 1 ∧ (j = 1 ∨ j = 3))
theorem rl_both {t : List Nat} {r : Nat} {uC uM : gm_M} (hr : r = 5 ∨ r = 13) (gt : gT t) (hT : tC uC t) (hM : tM uM t) : ∃ fC vC fM vM, f_X8_readRealm r uC = some (fC, vC) ∧ f_X11_readsAll uM = some (fM, vM) ∧ fr (rlP r) uC vC ∧ fr rmQ uM vM ∧ tM vM [] ∧ ((∃ f, fC = nI f ∧ 1 ≤ f ∧ f ≤ 17000 ∧ fM = nI 0 ∧ gI vM 1 9 = nI f) ∨ (fC = nI 0 ∧ fM = nI 1 ∧ ∃ p R T, DS t r vC vM p R T)) := by
  have gl := gt.1
  -- the class
  have f0 : fr (rlP r) uC (sI (sI uC 2 1 0) 2 2 0) := fr_sI (fr_sI (fr_refl _ _) (.inl (.inr ⟨rfl, rfl⟩))) (.inr (.inl ⟨rfl, rfl⟩))
  have e1 : gI (sI (sI uC 2 1 0) 2 2 0) 2 1 = 0 := (gI_ne (by omega)).trans (gI_eq rfl rfl)
  have e2 : gI (sI (sI uC 2 1 0) 2 2 0) 2 2 = nI 0 := gI_eq rfl rfl
  have t0 : tC (sI (sI uC 2 1 0) 2 2 0) t := ⟨(gI_ne (by omega)).trans ((gI_ne (by omega)).trans hT.1), fun i s hs => (gI_ne (by omega)).trans ((gI_ne (by omega)).trans (hT.2 i s hs))⟩
  have eC : ∀ x, f_X8_readRealm r uC = x ↔ (f_X5_clear r (sI (sI uC 2 1 0) 2 2 0)).bind (fun u_4 => (f_X9_start u_4).bind fun u_6 => ((gm_lp (b_X8_readRealm_23 r) gm_FU ((0 : Int32), u_6)).bind fun o => match o with | u_12 => some (gI u_12 2 1, u_12))) = x := by
    intro x; unfold f_X8_readRealm; rw [gm_letE, gm_letE]
  generalize sI (sI uC 2 1 0) 2 2 0 = u0 at *
  obtain ⟨x, ex, x1, x2, x3, x4⟩ := c_clear (u := u0) (r := r)
  obtain ⟨y, ey, y1, y2⟩ := c_start (tC_fr t0 x4 (by omega) (fun j => by omega)) gt
  have fy : ∀ {a j : Nat}, a ≠ 3 → gI y a j = gI x a j := fun h => fr_I y2 (by unfold tkP; omega)
  have k41 : gI y 2 1 = 0 := (fy (by omega)).trans ((fr_I x4 (by omega)).trans e1)
  have k42 : gI y 2 2 = nI 0 := (fy (by omega)).trans ((fr_I x4 (by omega)).trans e2)
  have krC : rC0 y r R0 := rC0_fr x1 y2 (fun a j q1 q2 z => by unfold tkP at z; omega)
  have kl1 : gI y (r + 5) 1 = nI 1 := (fy (by omega)).trans x2
  have kl2 : gI y (r + 6) 0 = (-1 : Int32) := (fy (by omega)).trans x3
  have fC : fr (rlP r) uC y := fr_trans f0 (fr_trans (fr_mono x4 (fun a j z => .inr (.inr z))) (fr_mono y2 (fun a j z => .inl (.inl z))))
  -- the reference
  obtain ⟨a, ea, a1, a2⟩ := m_usual (u := uM)
  have fa : fr rmQ uM (sI (sI (sI (sI a 8 1 1000) 9 1 1000) 1 19 0) 1 18 1000) := fr_sI (fr_sI (fr_sI (fr_sI (fr_mono a2 (fun b j z => .inl (.inr (.inl ⟨z.1, z.2.1⟩)))) (.inl (.inr (.inr (.inr (.inl ⟨.inl rfl, rfl⟩)))))) (.inl (.inr (.inr (.inr (.inl ⟨.inr rfl, rfl⟩)))))) (.inl (.inl ⟨rfl, by omega⟩))) (.inl (.inl ⟨rfl, by omega⟩))
  have b8 : gI (sI (sI (sI (sI a 8 1 1000) 9 1 1000) 1 19 0) 1 18 1000) 8 1 = nI 1000 := (gI_ne (by omega)).trans ((gI_ne (by omega)).trans ((gI_ne (by omega)).trans (gI_eq rfl rfl)))
  have b9 : gI (sI (sI (sI (sI a 8 1 1000) 9 1 1000) 1 19 0) 1 18 1000) 9 1 = nI 1000 := (gI_ne (by omega)).trans ((gI_ne (by omega)).trans (gI_eq rfl rfl))
  have b19 : gI (sI (sI (sI (sI a 8 1 1000) 9 1 1000) 1 19 0) 1 18 1000) 1 19 = nI 0 := (gI_ne (by omega)).trans (gI_eq rfl rfl)
  have b18 : gI (sI (sI (sI (sI a 8 1 1000) 9 1 1000) 1 19 0) 1 18 1000) 1 18 = nI 1000 := gI_eq rfl rfl
  have bD : rD (sI (sI (sI (sI a 8 1 1000) 9 1 1000) 1 19 0) 1 18 1000) R0 := rD_fr (P := fun b j => b = 8 ∨ b = 9 ∨ b = 1) a1 (by show 0 ≤ 6; omega) (fr_sI (fr_sI (fr_sI (fr_sI (fr_refl _ _) (.inl rfl)) (.inr (.inl rfl))) (.inr (.inr rfl))) (.inr (.inr rfl))) (fun b j q1 q2 z => by omega)
  have bT : tM (sI (sI (sI (sI a 8 1 1000) 9 1 1000) 1 19 0) 1 18 1000) t := ⟨(gI_ne (by omega)).trans ((gI_ne (by omega)).trans ((gI_ne (by omega)).trans ((gI_ne (by omega)).trans ((fr_I a2 (by omega)).trans hM.1)))), fun i s hs => (gI_ne (by omega)).trans ((gI_ne (by omega)).trans ((gI_ne (by omega)).trans ((gI_ne (by omega)).trans ((fr_I a2 (by omega)).trans (hM.2 i s hs)))))⟩
  have eM : ∀ x, f_X11_readsAll uM = x ↔ (f_X11_begins (sI (sI (sI (sI a 8 1 1000) 9 1 1000) 1 19 0) 1 18 1000)).bind (fun u_7 => ((gm_lp (b_X11_readsAll_39) gm_FU u_7).bind fun o => match o with | .inl u_41 => (some ((0 : Int32), u_41)) | .inr (u_42) => (some ((1 : Int32), u_42)))) = x := by
    intro x; unfold f_X11_readsAll; rw [ea, Option.bind_some, gm_letE, gm_letE, gm_letE, gm_letE]; exact Iff.rfl
  generalize sI (sI (sI (sI a 8 1 1000) 9 1 1000) 1 19 0) 1 18 1000 = b at *
  obtain ⟨c, ec, c1, c2, c3⟩ := m_begins bT gt
  have fc : ∀ {a j : Nat}, ¬ (a = 1 ∧ (j = 1 ∨ (3 ≤ j ∧ j ≤ 8))) → gI c a j = gI b a j := fun h => fr_I c3 h
  have hlp := rl_loop hr gt 1001 98998 0 0 0 R0 y c ⟨y1, c1, Nat.zero_le _, k41, krC, rD_fr bD (by show 0 ≤ 6; omega) c3 (fun b j q1 q2 z => by omega), R0_g.1, R0_g.2, by omega, k42, (fc (by omega)).trans b19, .inl ⟨by decide, kl1, kl2, (fc (by omega)).trans b8, (fc (by omega)).trans b9, (fc (by omega)).trans b18, rfl⟩⟩ (Nat.le_refl _) (by omega)
  rw [show (1001 + 1 + 98998 : Nat) = gm_FU from rfl] at hlp
  obtain ⟨w, o, ew, eo, w1, w2⟩ := hlp
  have fb : ∀ v, fr rmP c v → fr rmQ uM v ∧ tM v [] := fun v hv => ⟨fr_trans fa (fr_trans (fr_mono c3 (fun a j z => by
      by_cases q : j = 1 ∨ j = 3
      · exact .inr ⟨z.1, q⟩
      · exact .inl (.inl ⟨z.1, by omega⟩))) (fr_mono hv (fun a j z => .inl z))), ⟨(fr_I hv (by unfold rmP; omega)).trans c2.1, fun i s hs => by simp at hs⟩⟩
  rcases w2 with ⟨f, v, g1, g2, g3, rfl, g5, g6⟩ | ⟨v, p', R', T', rfl, g2, g3⟩
  · obtain ⟨z1, z2⟩ := fb v g6
    exact ⟨gI w 2 1, w, nI 0, v, (eC _).mpr (bnd_some ex (bnd_some ey (bnd_some ew rfl))), (eM _).mpr (bnd_some ec (bnd_some eo rfl)), fr_trans fC w1, z1, z2, .inl ⟨f, g1, g2, g3, rfl, g5⟩⟩
  · obtain ⟨z1, z2⟩ := fb v g2
    exact ⟨gI w 2 1, w, nI 1, v, (eC _).mpr (bnd_some ex (bnd_some ey (bnd_some ew rfl))), (eM _).mpr (bnd_some ec (bnd_some eo rfl)), fr_trans fC w1, z1, z2, .inr ⟨g3.2.2.2.1, rfl, p', R', T', g3⟩⟩
