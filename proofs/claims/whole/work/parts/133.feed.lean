/-! feed -/
theorem sh_eq (x : BitVec 64) (k : Nat) (hk : k ≤ 56) : x.sshiftRight k &&& 255#64 = x >>> k &&& 255#64 := by
  have h255 : ∀ i : Fin 64, 8 ≤ i.1 → (255#64).getLsbD i.1 = false := by decide
  apply BitVec.eq_of_getLsbD_eq
  intro i hi
  rw [BitVec.getLsbD_and, BitVec.getLsbD_and]
  rcases Nat.lt_or_ge i 8 with h8 | h8
  · have e : (x.sshiftRight k).getLsbD i = (x >>> k).getLsbD i := by
      rw [BitVec.getLsbD_sshiftRight, BitVec.getLsbD_ushiftRight, if_pos (by omega)]
      simp
      omega
    rw [e]
  · rw [h255 ⟨i, hi⟩ h8]; simp
theorem and_255 (z : Int64) : ∃ c, c < 256 ∧ z &&& (255 : Int64) = lN c ∧ c = z.toBitVec.toNat % 256 := by
  refine ⟨z.toBitVec.toNat % 256, Nat.mod_lt _ (by omega), ?_, rfl⟩
  rw [← Int64.toBitVec_inj]
  apply BitVec.eq_of_toNat_eq
  rw [Int64.toBitVec_and, BitVec.toNat_and]
  have e1 : (255 : Int64).toBitVec.toNat = 2 ^ 8 - 1 := by decide
  rw [e1, Nat.and_two_pow_sub_one_eq_mod]
  show _ = (Int64.ofNat _).toBitVec.toNat
  rw [Int64.toBitVec_ofNat']
  rw [BitVec.toNat_ofNat]
  have := Nat.mod_lt z.toBitVec.toNat (show 0 < 2 ^ 8 by decide)
  omega
def bt (w : Int64) (i : Nat) : Nat := (w.toBitVec >>> (56 - 8 * i)).toNat % 256
theorem bt_lt (w : Int64) (i : Nat) : bt w i < 256 := Nat.mod_lt _ (by omega)
theorem byt_of {z : Int64} {w : Int64} {i : Nat} (h : (z &&& (255 : Int64)).toBitVec = (w.toBitVec >>> (56 - 8 * i)) &&& 255#64) : (z &&& (255 : Int64)).toInt32 = nI (bt w i) := by
  obtain ⟨c, hc, e, e2⟩ := and_255 z
  rw [e, lN_i]
  congr 1
  have h2 := congrArg BitVec.toNat h
  rw [Int64.toBitVec_and, BitVec.toNat_and, BitVec.toNat_and] at h2
  have e1 : (255 : Int64).toBitVec.toNat = 2 ^ 8 - 1 := by decide
  have e3 : (255#64).toNat = 2 ^ 8 - 1 := by decide
  rw [e1, e3, Nat.and_two_pow_sub_one_eq_mod, Nat.and_two_pow_sub_one_eq_mod] at h2
  rw [e2]
  exact h2
theorem byt_c (w : Int64) {i : Nat} (hi : i < 8) : ((w >>> ((nI (56 - 8 * i)).toInt64 &&& 63)) &&& (255 : Int64)).toInt32 = nI (bt w i) := by
  refine byt_of ?_
  rw [Int64.toBitVec_and]
  show _ &&& 255#64 = _
  rw [← sh_eq _ _ (by omega)]
  congr 1
  rcases (by omega : i = 0 ∨ i = 1 ∨ i = 2 ∨ i = 3 ∨ i = 4 ∨ i = 5 ∨ i = 6 ∨ i = 7) with rfl | rfl | rfl | rfl | rfl | rfl | rfl | rfl <;> rfl
theorem byt_m (w : Int64) {k : Nat} (hk : k < 24) : ((((w.toUInt64 >>> (((56 : Int32) - ((8 : Int32) * (nI k &&& (7 : Int32)))).toInt64.toUInt64 &&& Int64.toUInt64 63)).toInt64) &&& (255 : Int64)).toInt32) = nI (bt w (k % 8)) := by
  have h7 : ∀ k : Fin 24, nI k.1 &&& (7 : Int32) = nI (k.1 % 8) := by decide
  rw [h7 ⟨k, hk⟩]
  have hi : k % 8 < 8 := Nat.mod_lt _ (by omega)
  simp only
  generalize k % 8 = i at hi
  refine byt_of ?_
  rw [Int64.toBitVec_and]
  show _ &&& 255#64 = _
  congr 1
  rcases (by omega : i = 0 ∨ i = 1 ∨ i = 2 ∨ i = 3 ∨ i = 4 ∨ i = 5 ∨ i = 6 ∨ i = 7) with rfl | rfl | rfl | rfl | rfl | rfl | rfl | rfl <;> rfl
def stT (t : List Nat) (c : Nat) : List Nat := if (c = 10 ∨ (32 ≤ c ∧ c ≤ 126)) ∧ t.length < 1000 then t ++ [c] else t
theorem gT_st {t : List Nat} {c : Nat} (h : gT t) : gT (stT t c) := by
  unfold stT
  by_cases q : (c = 10 ∨ (32 ≤ c ∧ c ≤ 126)) ∧ t.length < 1000
  · rw [if_pos q]
    refine ⟨by rw [List.length_append, List.length_singleton]; omega, fun x hx => ?_⟩
    rcases List.mem_append.mp hx with z | z
    · exact h.2 x z
    · have : x = c := by simpa using z
      rw [this]; exact q.1
  · rw [if_neg q]; exact h
def fd (t : List Nat) (w : Int64) : Nat → List Nat
  | 0 => t
  | i + 1 => stT (fd t w i) (bt w i)
theorem gT_fd {t : List Nat} {w : Int64} (h : gT t) : ∀ i, gT (fd t w i) := by
  intro i
  induction i with
  | zero => exact h
  | succ i ih => exact gT_st ih
theorem ch_ok : ∀ c : Fin 256, gm_ch (((nI c.1).toUInt32 % 65536).toInt32) = nI c.1 := by decide +kernel
def tpC : Nat → Nat → Prop := fun a _ => a = 3 ∨ a = 4
theorem app_at {t : List Nat} {c i s : Nat} (h : (t ++ [c])[i]? = some s) : (i < t.length ∧ t[i]? = some s) ∨ (i = t.length ∧ s = c) := by
  rcases Nat.lt_or_ge i t.length with z | z
  · rw [List.getElem?_append_left z] at h
    exact .inl ⟨z, h⟩
  · rw [List.getElem?_append_right z] at h
    obtain ⟨z2, hz⟩ := List.getElem?_eq_some_iff.mp h
    simp only [List.length_singleton] at z2
    have z3 : i = t.length := by omega
    subst z3
    simp only [Nat.sub_self, List.getElem_cons_zero] at hz
    exact .inr ⟨rfl, hz.symm⟩
theorem c_addSigns {u : gm_M} {t : List Nat} {w : Int64} (h : tC u t) (g : gT t) : ok (f_X9_addSigns w u) (fun v => tC v (fd t w 8) ∧ fr tpC u v) := by
  unfold f_X9_addSigns
  refine ok_bind (Q := fun v => tC v (fd t w 8) ∧ fr tpC u v)
    (lp_ok 8 (fun i x => ((i < 8 ∧ x.1 = nI (56 - 8 * i)) ∨ (i = 8 ∧ x.1 < 0)) ∧ tC x.2 (fd t w i) ∧ fr tpC u x.2) (by omega) ⟨.inl ⟨by omega, rfl⟩, h, fr_refl _ _⟩ ?_ ?_) (fun v hv => ok_some hv)
  · rintro i ⟨x, v⟩ hi ⟨hx, h1, h2⟩
    simp only at hx h1 h2
    rcases hx with ⟨-, rfl⟩ | ⟨z, -⟩
    · have hx2 : ∃ x' : Int32, nI (56 - 8 * i) + (-8 : Int32) = x' ∧ ((i + 1 < 8 ∧ x' = nI (56 - 8 * (i + 1))) ∨ (i + 1 = 8 ∧ x' < 0)) := by
        rcases (by omega : i = 0 ∨ i = 1 ∨ i = 2 ∨ i = 3 ∨ i = 4 ∨ i = 5 ∨ i = 6 ∨ i = 7) with rfl | rfl | rfl | rfl | rfl | rfl | rfl | rfl
        · exact ⟨_, rfl, .inl ⟨by omega, by decide⟩⟩
        · exact ⟨_, rfl, .inl ⟨by omega, by decide⟩⟩
        · exact ⟨_, rfl, .inl ⟨by omega, by decide⟩⟩
        · exact ⟨_, rfl, .inl ⟨by omega, by decide⟩⟩
        · exact ⟨_, rfl, .inl ⟨by omega, by decide⟩⟩
        · exact ⟨_, rfl, .inl ⟨by omega, by decide⟩⟩
        · exact ⟨_, rfl, .inl ⟨by omega, by decide⟩⟩
        · exact ⟨_, rfl, .inr ⟨by omega, by decide⟩⟩
      obtain ⟨x', ex, hx'⟩ := hx2
      have bl := bt_lt w i
      have gi := gT_fd (w := w) g i
      have gl := gi.1
      show ok (b_X9_addSigns_3 w (nI (56 - 8 * i), v)) (stp (fun x => ((i + 1 < 8 ∧ x.1 = nI (56 - 8 * (i + 1))) ∨ (i + 1 = 8 ∧ x.1 < 0)) ∧ tC x.2 (stT (fd t w i) (bt w i)) ∧ fr tpC u x.2) (fun v => tC v (fd t w 8) ∧ fr tpC u v))
      rw [b_X9_addSigns_3]
      rw [if_neg (show ¬ nI (56 - 8 * i) < (0 : Int32) from nI_pos (by omega)), byt_c w hi, gm_letE]
      generalize bt w i = c at *
      generalize fd t w i = t' at *
      have e43 : ok (j_X9_addSigns_43 w (nI (56 - 8 * i)) (nI c) 1 v) (stp (fun x => ((i + 1 < 8 ∧ x.1 = nI (56 - 8 * (i + 1))) ∨ (i + 1 = 8 ∧ x.1 < 0)) ∧ tC x.2 (if t'.length < 1000 then t' ++ [c] else t') ∧ fr tpC u x.2) (fun v => tC v (fd t w 8) ∧ fr tpC u v)) := by
        rw [j_X9_addSigns_43, if_neg (by decide), ex, h1.1, if_neg (show ¬ nI t'.length < (0 : Int32) from nI_pos (by omega))]
        by_cases q : t'.length < 1000
        · rw [if_neg (show ¬ (1000 : Int32) ≤ nI t'.length from fun z => by rw [show (1000 : Int32) = nI 1000 from rfl, nI_leI (by omega) (by omega)] at z; omega), if_pos q]
          simp (disch := omega) only [ib_nI, ix_nI, if_pos, gm_let, ch_ok ⟨c, bl⟩]
          have e0 : gI (sI v 4 t'.length (nI c)) 3 1 = nI t'.length := (gI_ne (by omega)).trans h1.1
          rw [e0]
          refine ok_some ⟨hx', ⟨?_, fun j s hs => ?_⟩, fr_sI (fr_sI h2 (.inr rfl)) (.inl rfl)⟩
          · show gI (sI _ 3 1 _) 3 1 = _
            rw [gI_eq rfl rfl, litI, nI_add, List.length_append, List.length_singleton]
          · show gI (sI _ 3 1 _) 4 j = _
            rw [gI_ne (by omega)]
            rcases app_at hs with ⟨z1, z2⟩ | ⟨z1, z2⟩
            · rw [gI_ne (by omega)]; exact h1.2 j s z2
            · rw [gI_eq rfl z1, z2]
        · rw [if_pos (show (1000 : Int32) ≤ nI t'.length from (nI_leI (a := 1000) (by omega) (by omega)).mpr (by omega)), if_neg q]
          exact ok_some ⟨hx', h1, h2⟩
      have e42 : ¬ (c = 10 ∨ (32 ≤ c ∧ c ≤ 126)) → ok (j_X9_addSigns_42 w (nI (56 - 8 * i)) (nI c) v) (stp (fun x => ((i + 1 < 8 ∧ x.1 = nI (56 - 8 * (i + 1))) ∨ (i + 1 = 8 ∧ x.1 < 0)) ∧ tC x.2 (stT t' c) ∧ fr tpC u x.2) (fun v => tC v (fd t w 8) ∧ fr tpC u v)) := by
        intro q
        rw [j_X9_addSigns_42, j_X9_addSigns_43, if_pos rfl, ex]
        have : stT t' c = t' := by unfold stT; rw [if_neg (fun z => q z.1)]
        rw [this]
        exact ok_some ⟨hx', h1, h2⟩
      have e38 : (c = 10 ∨ (32 ≤ c ∧ c ≤ 126)) → ok (j_X9_addSigns_38 w (nI (56 - 8 * i)) (nI c) v) (stp (fun x => ((i + 1 < 8 ∧ x.1 = nI (56 - 8 * (i + 1))) ∨ (i + 1 = 8 ∧ x.1 < 0)) ∧ tC x.2 (stT t' c) ∧ fr tpC u x.2) (fun v => tC v (fd t w 8) ∧ fr tpC u v)) := by
        intro q
        rw [j_X9_addSigns_38]
        have : stT t' c = if t'.length < 1000 then t' ++ [c] else t' := by
          unfold stT
          by_cases z : t'.length < 1000
          · rw [if_pos ⟨q, z⟩, if_pos z]
          · rw [if_neg (fun w => z w.2), if_neg z]
        rw [this]
        exact e43
      by_cases q1 : c = 10
      · rw [if_pos (show nI c = (10 : Int32) from by rw [q1]; rfl)]
        exact e38 (.inl q1)
      · rw [if_neg (show ¬ nI c = (10 : Int32) from fun z => q1 ((nI_eq (b := 10) (by omega) (by omega)).mp z))]
        by_cases q2 : c < 32
        · rw [if_pos (show nI c < (32 : Int32) from (nI_ltI (b := 32) (by omega) (by omega)).mpr q2)]
          exact e42 (by omega)
        · rw [if_neg (show ¬ nI c < (32 : Int32) from fun z => q2 ((nI_ltI (b := 32) (by omega) (by omega)).mp z))]
          by_cases q3 : 126 < c
          · rw [if_pos (show (126 : Int32) < nI c from (nI_ltI (a := 126) (by omega) (by omega)).mpr q3)]
            exact e42 (by omega)
          · rw [if_neg (show ¬ (126 : Int32) < nI c from fun z => q3 ((nI_ltI (a := 126) (by omega) (by omega)).mp z))]
            exact e38 (.inr ⟨by omega, by omega⟩)
    · omega
  · rintro ⟨x, v⟩ ⟨hx, h1, h2⟩
    simp only at hx h1 h2
    rcases hx with ⟨z, -⟩ | ⟨-, z⟩
    · omega
    · rw [b_X9_addSigns_3]
      rw [if_pos z]
      exact ok_some ⟨h1, h2⟩
def wk (a b c : Int64) (k : Nat) : Int64 := if k < 8 then a else if k < 16 then b else c
def fdK (t : List Nat) (a b c : Int64) : Nat → List Nat
  | 0 => t
  | k + 1 => stT (fdK t a b c k) (bt (wk a b c k) (k % 8))
theorem fdK_24 (t : List Nat) (a b c : Int64) : fdK t a b c 24 = fd (fd (fd t a 8) b 8) c 8 := by
  simp [fdK, fd, wk]
theorem gT_fdK {t : List Nat} {a b c : Int64} (h : gT t) : ∀ i, gT (fdK t a b c i) := by
  intro i
  induction i with
  | zero => exact h
  | succ i ih => exact gT_st ih
def tpM : Nat → Nat → Prop := fun a j => (a = 1 ∧ j = 1) ∨ a = 2
theorem m_feed {u : gm_M} {t : List Nat} {a b c : Int64} (h : tM u t) (g : gT t) : ok (gm_lp (b_X11_feed_8 a b c) gm_FU ((0 : Int32), u)) (fun v => tM v (fdK t a b c 24) ∧ fr tpM u v) := by
  refine lp_ok 24 (fun k x => x.1 = nI k ∧ tM x.2 (fdK t a b c k) ∧ fr tpM u x.2) (by omega) ⟨rfl, h, fr_refl _ _⟩ ?_ ?_
  · rintro k ⟨x, v⟩ hk ⟨hx, h1, h2⟩
    simp only at hx h1 h2
    subst hx
    have gk := gT_fdK (a := a) (b := b) (c := c) g k
    have gl := gk.1
    have core : ok (j_X11_feed_39 a b c (nI k) (wk a b c k) v) (stp (fun x => x.1 = nI (k + 1) ∧ tM x.2 (fdK t a b c (k + 1)) ∧ fr tpM u x.2) (fun v => tM v (fdK t a b c 24) ∧ fr tpM u v)) := by
      show ok (j_X11_feed_39 a b c (nI k) (wk a b c k) v) (stp (fun x => x.1 = nI (k + 1) ∧ tM x.2 (stT (fdK t a b c k) (bt (wk a b c k) (k % 8))) ∧ fr tpM u x.2) (fun v => tM v (fdK t a b c 24) ∧ fr tpM u v))
      have bl := bt_lt (wk a b c k) (k % 8)
      rw [j_X11_feed_39, byt_m _ hk, gm_letE, h1.1]
      generalize bt (wk a b c k) (k % 8) = d at *
      generalize fdK t a b c k = t' at *
      by_cases q : t'.length < 1000
      · rw [if_neg (show ¬ (1000 : Int32) ≤ nI t'.length from fun z => by rw [show (1000 : Int32) = nI 1000 from rfl, nI_leI (by omega) (by omega)] at z; omega)]
        have e93 : (d = 10 ∨ (32 ≤ d ∧ d ≤ 126)) → ok (j_X11_feed_93 a b c (nI k) (nI d) v) (stp (fun x => x.1 = nI (k + 1) ∧ tM x.2 (stT t' d) ∧ fr tpM u x.2) (fun v => tM v (fdK t a b c 24) ∧ fr tpM u v)) := by
          intro z
          have es : stT t' d = t' ++ [d] := by unfold stT; rw [if_pos ⟨z, q⟩]
          rw [es, j_X11_feed_93, h1.1]
          simp (disch := omega) only [ib_nI, ix_nI, if_pos, gm_let]
          have e0 : gI (sI v 2 t'.length (nI d)) 1 1 = nI t'.length := (gI_ne (by omega)).trans h1.1
          rw [e0]
          refine ok_some ⟨nI_add k 1, ⟨?_, fun j s hs => ?_⟩, fr_sI (fr_sI h2 (.inr rfl)) (.inl ⟨rfl, rfl⟩)⟩
          · show gI (sI _ 1 1 _) 1 1 = _
            rw [gI_eq rfl rfl, litI, nI_add, List.length_append, List.length_singleton]
          · show gI (sI _ 1 1 _) 2 j = _
            rw [gI_ne (by omega)]
            rcases app_at hs with ⟨z1, z2⟩ | ⟨z1, z2⟩
            · rw [gI_ne (by omega)]; exact h1.2 j s z2
            · rw [gI_eq rfl z1, z2]
        have eno : ¬ (d = 10 ∨ (32 ≤ d ∧ d ≤ 126)) → ok (some (Sum.inl (nI k + (1 : Int32), v))) (stp (fun x => x.1 = nI (k + 1) ∧ tM x.2 (stT t' d) ∧ fr tpM u x.2) (fun v => tM v (fdK t a b c 24) ∧ fr tpM u v)) := by
          intro z
          have es : stT t' d = t' := by unfold stT; rw [if_neg (fun w => z w.1)]
          rw [es]
          exact ok_some ⟨nI_add k 1, h1, h2⟩
        by_cases q1 : d = 10
        · rw [if_pos (show nI d = (10 : Int32) from by rw [q1]; rfl)]
          exact e93 (.inl q1)
        · rw [if_neg (show ¬ nI d = (10 : Int32) from fun z => q1 ((nI_eq (b := 10) (by omega) (by omega)).mp z))]
          by_cases q2 : d < 32
          · rw [if_pos (show nI d < (32 : Int32) from (nI_ltI (b := 32) (by omega) (by omega)).mpr q2)]
            exact eno (by omega)
          · rw [if_neg (show ¬ nI d < (32 : Int32) from fun z => q2 ((nI_ltI (b := 32) (by omega) (by omega)).mp z))]
            by_cases q3 : 126 < d
            · rw [if_pos (show (126 : Int32) < nI d from (nI_ltI (a := 126) (by omega) (by omega)).mpr q3)]
              exact eno (by omega)
            · rw [if_neg (show ¬ (126 : Int32) < nI d from fun z => q3 ((nI_ltI (a := 126) (by omega) (by omega)).mp z))]
              exact e93 (.inr ⟨by omega, by omega⟩)
      · have es : stT t' d = t' := by unfold stT; rw [if_neg (fun w => q w.2)]
        rw [if_pos (show (1000 : Int32) ≤ nI t'.length from (nI_leI (a := 1000) (by omega) (by omega)).mpr (by omega)), es]
        exact ok_some ⟨nI_add k 1, h1, h2⟩
    rw [b_X11_feed_8]
    rw [if_neg (show ¬ (24 : Int32) ≤ nI k from fun z => by rw [show (24 : Int32) = nI 24 from rfl, nI_leI (by omega) (by omega)] at z; omega)]
    by_cases q1 : k < 8
    · rw [if_neg (show ¬ (8 : Int32) ≤ nI k from fun z => by rw [show (8 : Int32) = nI 8 from rfl, nI_leI (by omega) (by omega)] at z; omega)]
      have e : wk a b c k = a := by unfold wk; rw [if_pos q1]
      rw [e] at core; exact core
    · rw [if_pos (show (8 : Int32) ≤ nI k from (nI_leI (a := 8) (by omega) (by omega)).mpr (by omega))]
      by_cases q2 : k < 16
      · rw [if_neg (show ¬ (16 : Int32) ≤ nI k from fun z => by rw [show (16 : Int32) = nI 16 from rfl, nI_leI (by omega) (by omega)] at z; omega)]
        have e : wk a b c k = b := by unfold wk; rw [if_neg q1, if_pos q2]
        rw [e] at core; exact core
      · rw [if_pos (show (16 : Int32) ≤ nI k from (nI_leI (a := 16) (by omega) (by omega)).mpr (by omega))]
        have e : wk a b c k = c := by unfold wk; rw [if_neg q1, if_neg q2]
        rw [e] at core; exact core
  · rintro ⟨x, v⟩ ⟨hx, h1, h2⟩
    simp only at hx h1 h2
    subst hx
    rw [b_X11_feed_8]
    rw [if_pos (show (24 : Int32) ≤ nI 24 by decide)]
    exact ok_some ⟨h1, h2⟩
/-- where the class's picture isn't looked at, but for the tape -/
theorem RC_tape {P : Nat → Nat → Prop} {u v : gm_M} {t t' : List Nat} {R : pR} {G : pG} {S : pS} {K : pK} {B : List pK} {M : pMk} (h : RC u t R G S K B M) (hB : B.length ≤ 16) (f : fr P u v) (hp : ∀ a j, P a j → irC a j ∨ a = 3 ∨ a = 4) (ht : tC v t') : RC v t' R G S K B M := by
  obtain ⟨h1, ⟨r, ⟨hr1, hr2⟩, hr3⟩, ⟨g, ⟨hg1, hg2⟩, hg3⟩, h4, h5, h6, h7⟩ := h
  have ff : fr (fun a j => (a = 2 ∨ a = 12 ∨ a = 20 ∨ (34 ≤ a ∧ a ≤ 37) ∨ (40 ≤ a ∧ a ≤ 45) ∨ (a = 1 ∧ j = 0)) ∨ a = 3 ∨ a = 4) u v := fr_mono f hp
  refine ⟨ht, ⟨r, ⟨(fr_R ff (by omega)).trans hr1, ?_⟩, rC_fr hr3 ff (fun a j q1 q2 => by omega)⟩, ⟨g, ⟨(fr_R ff (by omega)).trans hg1, ?_⟩, gC_fr hg3 ff (fun a j q1 q2 => by omega)⟩, sC_fr h4 ff (fun a j q1 q2 => by omega), kC_fr h5 ff (fun a j q1 q2 => by omega), pC_fr h6 hB ff (by omega) (fun j => by omega) (fun a j q1 q2 => by omega), mkC_fr h7 ff (fun j => by omega) (fun a j q1 => by omega)⟩
  · rw [fr_R ff (a := 1) (k := 3) (by omega)]; exact hr2
  · rw [fr_R ff (a := 1) (k := 5) (by omega)]; exact hg2
theorem RM_tape {P : Nat → Nat → Prop} {u v : gm_M} {n : Nat} {t t' : List Nat} {R : pR} {G : pG} {S : pS} {K : pK} {B : List pK} {M : pMk} (h : RM u t R G S K B M) (g : gA n t R G S K B M) (f : fr P u v) (hp : ∀ a j, P a j → irM a j ∨ (a = 1 ∧ j = 1) ∨ a = 2) (ht : tM v t') : RM v t' R G S K B M := by
  obtain ⟨h1, h2, h3, h4, h5, h6, h7, h8⟩ := h
  obtain ⟨g1, g2, g3, g4, g5, g6, g7, g8⟩ := g
  have ff : ∀ a j, ¬ (((a = 1 ∧ j ≠ 1 ∧ j ≠ 45 ∧ j ≠ 46) ∨ (11 ≤ a ∧ a ≤ 22) ∨ a = 30 ∨ a = 31 ∨ 35 ≤ a ∨ (a = 3 ∧ 4 ≤ j) ∨ (4 ≤ a ∧ a ≤ 7 ∧ 6 ≤ j) ∨ (8 ≤ a ∧ a ≤ 9 ∧ 1 ≤ j) ∨ (a = 10 ∧ 1000 ≤ j) ∨ (a = 23 ∧ j = 5) ∨ (24 ≤ a ∧ a ≤ 25 ∧ 200 ≤ j)) ∨ (a = 1 ∧ j = 1) ∨ a = 2) → gI v a j = gI u a j := fun a j q => fr_I f (fun z => q (hp a j z))
  have fJ : ∀ p, p < 6 → gJ v 4 p = gJ u 4 p := fun p hp6 => fr_J f (fun z => by
    have := hp _ _ z
    rcases this with z | z | z
    · rcases z with z | z | z | z | z | z | z | z | z | z | z <;> omega
    · omega
    · omega)
  refine ⟨ht, rM_eq h2 g2.1 (fun a j q => ff a j (by rcases q with q | q | q | q <;> omega)) fJ, gMm_eq h3 g4.1 (ff _ _ (by omega)) (fun i hi => ⟨ff _ _ (by omega), ff _ _ (by omega)⟩), sMm_eq h4 g5.1 (ff _ _ (by omega)) (fun i hi => ⟨ff _ _ (by omega), ff _ _ (by omega)⟩), kM_eq h5 (gK_gQ g6 g2) (fun j hj => ff _ _ (by omega)), pM_eq h6 g2 g7 (ff _ _ (by omega)) (fun j hj => ff _ _ (by omega)), ?_, (ff _ _ (by omega)).trans h8⟩
  intro i hi
  rcases h7 i hi with ⟨a, b⟩ | ⟨k, G', S', a, b, c, d, e⟩
  · exact .inl ⟨a, (ff 34 i (by omega)).trans b⟩
  · obtain ⟨q1, q2, q3⟩ := g8 i k G' S' a
    exact .inr ⟨k, G', S', a, (ff 34 i (by omega)).trans b, kM_eq c (gK_gQ q1 g2) (fun j hj => ff _ _ (by omega)), gMm_eq d q2.1 (ff _ _ (by omega)) (fun j hj => ⟨ff _ _ (by omega), ff _ _ (by omega)⟩), sMm_eq e q3.1 (ff _ _ (by omega)) (fun j hj => ⟨ff _ _ (by omega), ff _ _ (by omega)⟩)⟩
theorem gA_tape {n : Nat} {t t' : List Nat} {R : pR} {G : pG} {S : pS} {K : pK} {B : List pK} {M : pMk} (g : gA n t R G S K B M) (h : gT t') : gA n t' R G S K B M := ⟨h, g.2⟩
theorem st_feed (n : Nat) : St_feed (RelN (n + 1)) (RelN n) := by
  intro uC uM h a b c
  obtain ⟨h0, t, R, G, S, K, B, M, g, hC, hM⟩ := RelN_mono n uC uM h
  have hM1 := RM_t (x := 0) hM g
  have gt := g.1
  have gB := g.2.2.2.2.2.2.1.1
  unfold f_X10_feed f_X11_feed
  simp only [gm_letE]
  generalize sI uM 1 0 (0 : Int32) = u1 at *
  have g2 := gA_tape g (gT_fdK (a := a) (b := b) (c := c) gt 24)
  have e24 := fdK_24 t a b c
  refine two_q (nI (fdK t a b c 24).length) h0 g2 ?_ ?_
  · refine ok_bind (c_addSigns (w := a) hC.1 gt) ?_
    rintro v ⟨v1, v2⟩
    refine ok_bind (c_addSigns (w := b) v1 (gT_fd gt 8)) ?_
    rintro w ⟨w1, w2⟩
    refine ok_bind (c_addSigns (w := c) w1 (gT_fd (gT_fd gt 8) 8)) ?_
    rintro x ⟨x1, x2⟩
    rw [← e24] at x1
    exact ok_some ⟨x1.1, RC_tape hC gB (fr_trans v2 (fr_trans w2 x2)) (fun a j z => .inr z) x1⟩
  · refine ok_bind (m_feed hM1.1 gt) ?_
    rintro v ⟨v1, v2⟩
    exact ok_some ⟨v1.1, RM_tape hM1 g v2 (fun a j z => .inr z) v1⟩
