/-! the E: products, sums, tests, the whole -/
section
variable {t : List Nat} {a : Nat}
def e_any : Nat → gm_M → Prop := fun _ _ => True
def e_prd (t : List Nat) : Nat → gm_M → Prop := fun p' _ => tSg t p' ≠ 42
def e_sum (t : List Nat) : Nat → gm_M → Prop := fun p' _ => tSg t p' ≠ 42 ∧ tSg t p' ≠ 43 ∧ tSg t p' ≠ 45
def e_tst (t : List Nat) (d : Nat) : Nat → gm_M → Prop := fun p' v => (tSg t p' ≠ 42 ∧ tSg t p' ≠ 43 ∧ tSg t p' ≠ 45) ∧ (gI v 12 d = 0 → tSg t p' ≠ 60 ∧ tSg t p' ≠ 61)
def e_who (t : List Nat) (d : Nat) : Nat → gm_M → Prop := fun p' v => e_tst t d p' v ∧ tWd t p' ≠ 17 ∧ tWd t p' ≠ 18
def s_any : gm_M → Prop := fun _ => True
def s_new (d : Nat) : gm_M → Prop := fun u => gI u 12 d = 0
theorem bd_ne {ro : List Nat} {y p : Nat} {uM v : gm_M} (h : BD t a ro y uM p v) : ¬ gI v 2 1 = 0 := by
  obtain ⟨F, k, b1, b2, b3, -⟩ := h
  rw [b1]; exact flt_ne b2 b3
theorem prod_of {rp : Nat → Int32 → gm_M → Option gm_M} {ro : List Nat} (ha : a = 10 ∨ a = 18) (gt : gT t) (hbs : bs ro = ro) (hl : ro.length ≤ 5) (hP : PX t a (rp a (nI ro.length)) ro (ro.length + 1) (4 * ro.length + 4) s_any (CPart ro) e_any) :
    PX t a (f_X8_readProductO rp a (nI ro.length)) ro (ro.length + 1) (4 * ro.length + 3) s_any (CProd ro) (e_prd t) := by
  intro uC uM p n m hC hM _
  have gl := gt.1
  unfold f_X8_readProductO
  refine ok_bind (hP uC uM p n m hC hM trivial) ?_
  rintro w ⟨w1, w2⟩
  refine ok_bind (Q := fun v => fr (elP a) uC v ∧ (BD t a ro 1 uM p v ∨ GD t a ro 1 (ro.length + 1) (4 * ro.length + 3) [] [] (CProd ro) (e_prd t) uC uM p n m v))
    (lp_ok 1001 (fun j x => x.1 = nI j ∧ fr (elP a) uC x.2 ∧ ((BD t a ro 1 uM p x.2 ∧ j ≤ 1000) ∨ GD t a ro 1 (ro.length + 1) (4 * ro.length + 3) [] [] (CProd ro) (fun p' _ => p + j < p') uC uM p n m x.2)) (by omega) ⟨rfl, w1, ?_⟩ ?_ ?_) (fun v hv => ok_some hv)
  · rcases w2 with w2 | w2
    · exact .inl ⟨w2, by omega⟩
    · exact .inr (GD_ec w2 (Nat.le_refl _) (by omega) (fun cs v h => C_prod1 hbs h) (fun p' vM n' z _ _ _ => by simpa using z))
  · rintro j ⟨x, v⟩ hj ⟨hx, h1, h2⟩
    simp only at hx h1 h2
    subst hx
    rw [b_X8_readProduct_8]
    rcases h2 with ⟨h2, hj2⟩ | ⟨vM, p', rs, cs, ev, k, hw⟩
    · rw [if_neg (bd_ne h2)]
      by_cases q : (1000 : Int32) ≤ nI j
      · rw [if_pos q]; exact ok_some ⟨h1, .inl h2⟩
      · rw [if_neg q]; exact ok_some ⟨h1, .inl h2⟩
    · obtain ⟨g1, g2, g3, g4, g5, g6, g7, g8, g9, g10, g11, g12, g13, g14, g15, g16, g17⟩ := id hw
      have g15' : p + j < p' := g15
      have hp' := g5.2.2.2.2
      have es : f_X9_isSignOf (42 : Int32) v = nI (decide (tSg t p' = 42)).toNat := c_isSignOf (c := 42) g5.1 gt (by omega) (by omega)
      rw [if_neg (show ¬ (1000 : Int32) ≤ nI j from fun z => by rw [show (1000 : Int32) = nI 1000 from rfl, nI_leI (by omega) (by omega)] at z; omega), if_pos g5.2.1, gm_letE, es]
      by_cases q : tSg t p' = 42
      · rw [decide_eq_true q]
        show ok (if nI 1 = 0 then _ else _) _
        rw [if1]
        simp only [List.length_nil, Nat.add_zero, Nat.zero_add] at g5 g8
        obtain ⟨uM2, m1, m2, m3, m4, m5, m6, m7⟩ := m_op g8 gt hp' (.inr (.inr q))
        have hch := chain (c' := (-8 : Int32)) (cl := ro.length + 1) ha gt hbs hP (Nat.le_refl _) g5 g8 (sg_S (t := t) (p := p') (by omega)) m1 m2 m3 m4 m5 trivial (fun i _ => m6 i) (fun i _ => m7 i)
        obtain ⟨y1, y2, z, e1, e2, e3, z1, z2⟩ := bind3 (β := Nat) hch
        rw [e1]
        simp only [Option.bind_some]
        rw [e2]
        simp only [Option.bind_some]
        rw [e3]
        simp only [Option.bind_some]
        refine ok_some ⟨nI_add j 1, fr_trans h1 z1, ?_⟩
        have z2' : BD t a ro 0 vM p' z ∨ GD t a ro 0 (ro.length + 1) (4 * ro.length + 4) [(-8 : Int32)] [(22 : Int32)] (CPart ro) (fun p'' _ => p + (j + 1) < p'') v vM p' (n + rs.length) (m + cs.length) z := by
          rcases z2 with z2 | z2
          · exact .inl z2
          · rw [if_neg (by omega), if_neg (by omega)] at z2
            exact .inr (GD_ec z2 (Nat.le_refl _) (Nat.le_refl _) (fun _ _ h => h) (fun p'' _ _ q _ _ _ => by omega))
        rcases GD_app hbs (Nat.le_refl _) (fun v w => fun s p g d => f_X3_joined (-8 : Int32) (v s p g d) (w s p g d)) hw z2' (fun rs v rs' w h1 h2 => by rw [← List.append_assoc]; exact RP_bin (by decide) h1 h2) (SP' := CProd ro) (fun cs v cs' w h1 h2 => C_prod2 hl hbs h1 h2) with y | y
        · exact .inl ⟨y, by omega⟩
        · exact .inr y
      · rw [decide_eq_false q]
        show ok (if nI 0 = 0 then _ else _) _
        rw [if0]
        exact ok_some ⟨h1, .inr (GD_ec ⟨vM, p', rs, cs, ev, k, ⟨g1, g2, g3, g4, g5, g6, g7, g8, g9, g10, g11, g12, g13, g14, q, g16, g17⟩⟩ (ec := e_prd t) (Nat.le_refl _) (Nat.le_refl _) (fun _ _ h => h) (fun _ _ _ _ _ h _ => h))⟩
  · rintro ⟨x, v⟩ ⟨hx, h1, h2⟩
    simp only at hx h1 h2
    rcases h2 with ⟨-, h2⟩ | ⟨vM, p', rs, cs, ev, k, g1, g2, g3, g4, g5, g6, g7, g8, g9, g10, g11, g12, g13, g14, g15, g16, g17⟩
    · omega
    · have g15' : p + 1001 < p' := g15
      have := g5.2.2.2.2
      omega
theorem sum_of {rp : Nat → Int32 → gm_M → Option gm_M} {ro : List Nat} (ha : a = 10 ∨ a = 18) (gt : gT t) (hbs : bs ro = ro) (hl : ro.length ≤ 5) (hP : PX t a (f_X8_readProductO rp a (nI ro.length)) ro (ro.length + 1) (4 * ro.length + 3) s_any (CProd ro) (e_prd t)) :
    PX t a (f_X8_readSumO rp a (nI ro.length)) ro (ro.length + 1) (4 * ro.length + 2) s_any (CSum ro) (e_sum t) := by
  intro uC uM p n m hC hM _
  have gl := gt.1
  unfold f_X8_readSumO
  refine ok_bind (hP uC uM p n m hC hM trivial) ?_
  rintro w ⟨w1, w2⟩
  refine ok_bind (Q := fun o => ∃ v, (o = .inl v ∨ o = .inr v) ∧ fr (elP a) uC v ∧ (BD t a ro 1 uM p v ∨ GD t a ro 1 (ro.length + 1) (4 * ro.length + 2) [] [] (CSum ro) (e_sum t) uC uM p n m v))
    (lp_ok 1001 (fun j x => x.1 = nI j ∧ fr (elP a) uC x.2 ∧ ((BD t a ro 1 uM p x.2 ∧ j ≤ 1000) ∨ GD t a ro 1 (ro.length + 1) (4 * ro.length + 2) [] [] (CSum ro) (fun p' v => p + j < p' ∧ e_prd t p' v) uC uM p n m x.2)) (by omega) ⟨rfl, w1, ?_⟩ ?_ ?_) ?_
  · rcases w2 with w2 | w2
    · exact .inl ⟨w2, by omega⟩
    · exact .inr (GD_ec w2 (Nat.le_refl _) (by omega) (fun cs v h => C_sum1 h) (fun p' vM n' z _ h _ => ⟨by omega, h⟩))
  · rintro j ⟨x, v⟩ hj ⟨hx, h1, h2⟩
    simp only at hx h1 h2
    subst hx
    rw [b_X8_readSum_8]
    rcases h2 with ⟨h2, hj2⟩ | ⟨vM, p', rs, cs, ev, k, hw⟩
    · rw [if_neg (bd_ne h2)]
      by_cases q : (1000 : Int32) ≤ nI j
      · rw [if_pos q]; exact ok_some ⟨v, .inr rfl, h1, .inl h2⟩
      · rw [if_neg q]; exact ok_some ⟨v, .inr rfl, h1, .inl h2⟩
    · obtain ⟨g1, g2, g3, g4, g5, g6, g7, g8, g9, g10, g11, g12, g13, g14, ⟨g15, g15b⟩, g16, g17⟩ := id hw
      have hp' := g5.2.2.2.2
      have es : f_X9_isSignOf (43 : Int32) v = nI (decide (tSg t p' = 43)).toNat := c_isSignOf (c := 43) g5.1 gt (by omega) (by omega)
      have es2 : f_X9_isSignOf (45 : Int32) v = nI (decide (tSg t p' = 45)).toNat := c_isSignOf (c := 45) g5.1 gt (by omega) (by omega)
      rw [if_neg (show ¬ (1000 : Int32) ≤ nI j from fun z => by rw [show (1000 : Int32) = nI 1000 from rfl, nI_leI (by omega) (by omega)] at z; omega), if_pos g5.2.1, gm_letE, gm_letE, es, es2]
      simp only [List.length_nil, Nat.add_zero, Nat.zero_add] at g5 g8
      have core : ∀ (r : Int32) (c c' : Int32), (tSg t p' = 43 ∨ tSg t p' = 45) → (if tSg t p' = 43 then (20 : Int32) else if tSg t p' = 45 then 21 else 22) = c → (c = 20 ∨ c = 21) → (∀ x y : Int32, f_X3_joined c' x y = if c = (21 : Int32) then x - y else x + y) → c' < (-5 : Int32) → (if r = 0 then (-7 : Int32) else (-6 : Int32)) = c' → ok (j_X8_readSum_51 rp a (nI ro.length) (nI j) r v) (stp (fun x => x.1 = nI (j + 1) ∧ fr (elP a) uC x.2 ∧ ((BD t a ro 1 uM p x.2 ∧ j + 1 ≤ 1000) ∨ GD t a ro 1 (ro.length + 1) (4 * ro.length + 2) [] [] (CSum ro) (fun p' v => p + (j + 1) < p' ∧ e_prd t p' v) uC uM p n m x.2)) (fun o => ∃ v, (o = .inl v ∨ o = .inr v) ∧ fr (elP a) uC v ∧ (BD t a ro 1 uM p v ∨ GD t a ro 1 (ro.length + 1) (4 * ro.length + 2) [] [] (CSum ro) (e_sum t) uC uM p n m v))) := by
        intro r c c' hq hc hc2 hJ hlt hr
        obtain ⟨uM2, m1, m2, m3, m4, m5, m6, m7⟩ := m_op g8 gt hp' (by omega)
        rw [hc] at m3
        have hch := chain (c' := c') (cl := ro.length + 1) ha gt hbs hP (Nat.le_refl _) g5 g8 (sg_S (t := t) (p := p') (by omega)) m1 m2 m3 m4 m5 trivial (fun i _ => m6 i) (fun i _ => m7 i)
        obtain ⟨y1, y2, z, e1, e2, e3, z1, z2⟩ := bind3 (β := Nat) hch
        unfold j_X8_readSum_51
        rw [e1]
        simp only [Option.bind_some]
        rw [e2]
        simp only [Option.bind_some]
        have ej : (if r = 0 then j_X8_readSum_77 rp a (nI ro.length) (nI j) (-7 : Int32) y2 else j_X8_readSum_77 rp a (nI ro.length) (nI j) (-6 : Int32) y2) = j_X8_readSum_77 rp a (nI ro.length) (nI j) c' y2 := by
          rw [← hr]
          by_cases q : r = 0
          · rw [if_pos q, if_pos q]
          · rw [if_neg q, if_neg q]
        rw [ej, j_X8_readSum_77, e3]
        simp only [Option.bind_some]
        refine ok_some ⟨nI_add j 1, fr_trans h1 z1, ?_⟩
        have z2' : BD t a ro 0 vM p' z ∨ GD t a ro 0 (ro.length + 1) (4 * ro.length + 3) [c'] [c] (CProd ro) (fun p'' v => p + (j + 1) < p'' ∧ e_prd t p'' v) v vM p' (n + rs.length) (m + cs.length) z := by
          rcases z2 with z2 | z2
          · exact .inl z2
          · exact .inr (GD_ec z2 (Nat.le_refl _) (Nat.le_refl _) (fun _ _ h => h) (fun p'' _ _ q _ h _ => ⟨by omega, h⟩))
        rcases GD_app hbs (Nat.le_refl _) (fun v w => fun s p g d => f_X3_joined c' (v s p g d) (w s p g d)) hw z2' (fun rs v rs' w h1 h2 => by rw [← List.append_assoc]; exact RP_bin hlt h1 h2) (SP' := CSum ro) (fun cs v cs' w h1 h2 => by simp only [hJ]; exact C_sum2 hl hc2 h1 h2) with y | y
        · exact .inl ⟨y, by omega⟩
        · exact .inr y
      by_cases q1 : tSg t p' = 43
      · rw [decide_eq_true q1]
        show ok (if nI 1 = 0 then _ else _) _
        rw [if1]
        exact core (nI 1) 20 (-6) (.inl q1) (if_pos q1) (.inl rfl) (fun x y => rfl) (by decide) rfl
      · rw [decide_eq_false q1]
        show ok (if nI 0 = 0 then _ else _) _
        rw [if0]
        by_cases q2 : tSg t p' = 45
        · rw [decide_eq_true q2]
          show ok (if nI 1 = 0 then _ else _) _
          rw [if1]
          exact core (nI 0) 21 (-7) (.inr q2) (by rw [if_neg q1, if_pos q2]) (.inr rfl) (fun x y => rfl) (by decide) rfl
        · rw [decide_eq_false q2]
          show ok (if nI 0 = 0 then _ else _) _
          rw [if0]
          refine ok_some ⟨v, .inl rfl, h1, .inr (GD_ec ⟨vM, p', rs, cs, ev, k, hw⟩ (Nat.le_refl _) (Nat.le_refl _) (fun _ _ h => h) (fun p2 _ _ _ e2 h _ => ?_))⟩
          -- the same token
          have a1 : f_X9_isSignOf (43 : Int32) v = nI (decide (tSg t p2 = 43)).toNat := c_isSignOf (c := 43) e2.1 gt (by omega) (by omega)
          have a2 : f_X9_isSignOf (45 : Int32) v = nI (decide (tSg t p2 = 45)).toNat := c_isSignOf (c := 45) e2.1 gt (by omega) (by omega)
          refine ⟨h.2, fun z => ?_, fun z => ?_⟩
          · rw [es, decide_eq_false q1, decide_eq_true z] at a1
            exact absurd a1 (by decide)
          · rw [es2, decide_eq_false q2, decide_eq_true z] at a2
            exact absurd a2 (by decide)
  · rintro ⟨x, v⟩ ⟨hx, h1, h2⟩
    simp only at hx h1 h2
    rcases h2 with ⟨-, h2⟩ | ⟨vM, p', rs, cs, ev, k, g1, g2, g3, g4, g5, g6, g7, g8, g9, g10, g11, g12, g13, g14, ⟨g15, -⟩, g16, g17⟩
    · omega
    · have := g5.2.2.2.2
      omega
  · rintro o ⟨v, ho, h⟩
    rcases ho with rfl | rfl
    · exact ok_some h
    · exact ok_some h
end
