/-! THE PURE PART. Loops -/
theorem lp_gen {σ ρ : Type} {b : σ → Option (σ ⊕ ρ)} (N : Nat) (I : Nat → σ → Prop) (Q : ρ → Prop)
    (hs : ∀ k x, k < N → I k x → (∃ y, b x = some (.inl y) ∧ I (k + 1) y) ∨ (∃ r, b x = some (.inr r) ∧ Q r))
    (he : ∀ x, I N x → ∃ r, b x = some (.inr r) ∧ Q r) : ∀ (F k : Nat) (x : σ), k ≤ N → N < F + k → I k x → ∃ r, gm_lp b F x = some r ∧ Q r := by
  intro F
  induction F with
  | zero => intro k x h1 h2; exact absurd h2 (by omega)
  | succ F ih =>
    intro k x h1 h2 hI
    rcases Nat.lt_or_ge k N with hk | hk
    · rcases hs k x hk hI with ⟨y, e, hy⟩ | ⟨r, e, hr⟩
      · obtain ⟨r, e2, hr⟩ := ih (k + 1) y (by omega) (by omega) hy
        exact ⟨r, by simp only [gm_lp, e, Option.bind_some]; exact e2, hr⟩
      · exact ⟨r, by simp only [gm_lp, e, Option.bind_some], hr⟩
    · have hkN : k = N := by omega
      rw [hkN] at hI
      obtain ⟨r, e, hr⟩ := he x hI
      exact ⟨r, by simp only [gm_lp, e, Option.bind_some], hr⟩
/-- a loop of at most N rounds, I its invariant, Q what holds behind it -/
theorem lp_inv {σ ρ : Type} {b : σ → Option (σ ⊕ ρ)} (N : Nat) (I : Nat → σ → Prop) (Q : ρ → Prop) (x : σ) (hN : N < 100000) (h0 : I 0 x)
    (hs : ∀ k x, k < N → I k x → (∃ y, b x = some (.inl y) ∧ I (k + 1) y) ∨ (∃ r, b x = some (.inr r) ∧ Q r))
    (he : ∀ x, I N x → ∃ r, b x = some (.inr r) ∧ Q r) : ∃ r, gm_lp b gm_FU x = some r ∧ Q r :=
  lp_gen N I Q hs he gm_FU 0 x (Nat.zero_le _) (by unfold gm_FU; omega) h0
/-- a loop whose states are known -/
theorem lp_for {σ ρ : Type} {b : σ → Option (σ ⊕ ρ)} (N : Nat) (x : Nat → σ) (r : ρ) (hN : N < 100000) (hs : ∀ k, k < N → b (x k) = some (.inl (x (k + 1)))) (he : b (x N) = some (.inr r)) : gm_lp b gm_FU (x 0) = some r := by
  obtain ⟨r', e, h⟩ := lp_inv (b := b) N (fun k y => y = x k) (fun y => y = r) (x 0) hN rfl (fun k y hk hy => Or.inl ⟨x (k + 1), by rw [hy]; exact hs k hk, rfl⟩) (fun y hy => ⟨r, by rw [hy]; exact he, rfl⟩)
  rw [e, h]
/-- two loops in step, answers and states held together by relations -/
theorem lp_two {σ ρ σ' ρ' : Type} {b : σ → Option (σ ⊕ ρ)} {b' : σ' → Option (σ' ⊕ ρ')} (N : Nat) (I : Nat → σ → σ' → Prop) (Q : ρ → ρ' → Prop)
    (hs : ∀ k x x', k < N → I k x x' → (∃ y y', b x = some (.inl y) ∧ b' x' = some (.inl y') ∧ I (k + 1) y y') ∨ (∃ r r', b x = some (.inr r) ∧ b' x' = some (.inr r') ∧ Q r r'))
    (he : ∀ x x', I N x x' → ∃ r r', b x = some (.inr r) ∧ b' x' = some (.inr r') ∧ Q r r') : ∀ (F k : Nat) (x : σ) (x' : σ'), k ≤ N → N < F + k → I k x x' → ∃ r r', gm_lp b F x = some r ∧ gm_lp b' F x' = some r' ∧ Q r r' := by
  intro F
  induction F with
  | zero => intro k x x' h1 h2; exact absurd h2 (by omega)
  | succ F ih =>
    intro k x x' h1 h2 hI
    rcases Nat.lt_or_ge k N with hk | hk
    · rcases hs k x x' hk hI with ⟨y, y', e, e', hy⟩ | ⟨r, r', e, e', hr⟩
      · obtain ⟨r, r', e2, e2', hr⟩ := ih (k + 1) y y' (by omega) (by omega) hy
        exact ⟨r, r', by simp only [gm_lp, e, Option.bind_some]; exact e2, by simp only [gm_lp, e', Option.bind_some]; exact e2', hr⟩
      · exact ⟨r, r', by simp only [gm_lp, e, Option.bind_some], by simp only [gm_lp, e', Option.bind_some], hr⟩
    · have hkN : k = N := by omega
      rw [hkN] at hI
      obtain ⟨r, r', e, e', hr⟩ := he x x' hI
      exact ⟨r, r', by simp only [gm_lp, e, Option.bind_some], by simp only [gm_lp, e', Option.bind_some], hr⟩
theorem lp_two0 {σ ρ σ' ρ' : Type} {b : σ → Option (σ ⊕ ρ)} {b' : σ' → Option (σ' ⊕ ρ')} (N : Nat) (I : Nat → σ → σ' → Prop) (Q : ρ → ρ' → Prop) (x : σ) (x' : σ') (hN : N < 100000) (h0 : I 0 x x')
    (hs : ∀ k x x', k < N → I k x x' → (∃ y y', b x = some (.inl y) ∧ b' x' = some (.inl y') ∧ I (k + 1) y y') ∨ (∃ r r', b x = some (.inr r) ∧ b' x' = some (.inr r') ∧ Q r r'))
    (he : ∀ x x', I N x x' → ∃ r r', b x = some (.inr r) ∧ b' x' = some (.inr r') ∧ Q r r') : ∃ r r', gm_lp b gm_FU x = some r ∧ gm_lp b' gm_FU x' = some r' ∧ Q r r' :=
  lp_two N I Q hs he gm_FU 0 x x' (Nat.zero_le _) (by unfold gm_FU; omega) h0
/-! numbers: every small int is nI of a number -/
theorem litI (n : Nat) : (@OfNat.ofNat Int32 n Int32.instOfNat) = nI (@OfNat.ofNat Nat n (instOfNatNat n)) := Eq.trans rfl rfl
theorem nI_sub {a b : Nat} (h : b ≤ a) : nI a - nI b = nI (a - b) := by
  have e : nI a = nI (a - b) + nI b := by rw [nI_add, Nat.sub_add_cancel h]
  rw [e, Int32.add_sub_cancel]
theorem nI_mul (a b : Nat) : nI a * nI b = nI (a * b) := (Int32.ofNat_mul a b).symm
theorem nI_div {a b : Nat} (ha : a < 2 ^ 31) (hb : b < 2 ^ 31) : nI a / nI b = nI (a / b) := (Int32.ofNat_div ha hb).symm
theorem nI_rem {a b : Nat} (ha : a < 2 ^ 31) (hb : b < 2 ^ 31) : iRem (nI a) (nI b) = nI (a % b) := by
  have e : a / b * b ≤ a := Nat.div_mul_le_self a b
  have e2 : a - a / b * b = a % b := by
    have := Nat.div_add_mod a b
    rw [Nat.mul_comm] at this
    omega
  show nI a - nI a / nI b * nI b = _
  rw [nI_div ha hb, nI_mul, nI_sub e, e2]
theorem nI_m1 {a : Nat} (h : 0 < a) : nI a + -nI 1 = nI (a - 1) := by
  have e : nI a = nI (a - 1) + nI 1 := by rw [nI_add, Nat.sub_add_cancel h]
  rw [e, Int32.add_assoc, Int32.add_right_neg, Int32.add_zero]
theorem m1_int : (-nI 1 : Int32).toInt = -1 := by decide
theorem nI_eqm {a : Nat} (h : a < 2 ^ 31) : (nI a = -nI 1) ↔ False :=
  ⟨fun e => by rw [← Int32.toInt_inj, nI_toInt h, m1_int] at e; omega, False.elim⟩
theorem nI_gem {a : Nat} (h : a < 2 ^ 31) : (-nI 1 ≤ nI a) ↔ True :=
  ⟨fun _ => trivial, fun _ => by rw [Int32.le_iff_toInt_le, nI_toInt h, m1_int]; omega⟩
theorem nI_ltm {a : Nat} (h : a < 2 ^ 31) : (nI a < -nI 1) ↔ False :=
  ⟨fun e => by rw [Int32.lt_iff_toInt_lt, nI_toInt h, m1_int] at e; omega, False.elim⟩
theorem nI_mlt {a : Nat} (h : a < 2 ^ 31) : (-nI 1 < nI a) ↔ True :=
  ⟨fun _ => trivial, fun _ => by rw [Int32.lt_iff_toInt_lt, nI_toInt h, m1_int]; omega⟩
theorem nI_lem {a : Nat} (h : a < 2 ^ 31) : (nI a ≤ -nI 1) ↔ False :=
  ⟨fun e => by rw [Int32.le_iff_toInt_le, nI_toInt h, m1_int] at e; omega, False.elim⟩
theorem ib_nI {a n : Nat} (h : a < 2 ^ 31) : (ib (nI a) n = true) ↔ a < n := by
  have h0 : ¬ nI a < 0 := nI_pos h
  have h1 : (nI a).toNatClampNeg = a := nI_clamp h
  simp [ib, h0, h1]
theorem ix_nI {a : Nat} (h : a < 2 ^ 31) : ix (nI a) = a := nI_clamp h
/-- an int is nI of a small number, or it is negative, or it is large -/
theorem nI_cases (x : Int32) (n : Nat) (hn : n ≤ 2 ^ 31) : (∃ a, a < n ∧ x = nI a) ∨ x < nI 0 ∨ (∃ a, n ≤ a ∧ a < 2 ^ 31 ∧ x = nI a) := by
  by_cases h : x < 0
  · exact .inr (.inl h)
  · obtain ⟨a, ha, e⟩ := nI_of h
    rcases Nat.lt_or_ge a n with q | q
    · exact .inl ⟨a, q, e⟩
    · exact .inr (.inr ⟨a, q, ha, e⟩)
theorem neg_ne {x : Int32} {a : Nat} (h : x < nI 0) (ha : a < 2 ^ 31) : nI a ≠ x := by
  intro e
  rw [← e] at h
  exact nI_pos ha h
theorem neg_lt {x : Int32} {a : Nat} (h : x < nI 0) (ha : a < 2 ^ 31) : x < nI a := by
  have e : (nI 0 : Int32).toInt = 0 := by decide
  rw [Int32.lt_iff_toInt_lt, e] at h
  rw [Int32.lt_iff_toInt_lt, nI_toInt ha]; omega
/-! memory -/
theorem gI_eq {u : gm_M} {a k b j : Nat} {v : Int32} (h : b = a) (h2 : j = k) : gI (sI u a k v) b j = v := by simp [gI, sI, h, h2]
theorem gI_ne {u : gm_M} {a k b j : Nat} {v : Int32} (h : ¬ (b = a ∧ j = k)) : gI (sI u a k v) b j = gI u b j := by simp only [gI, sI, if_neg h]
theorem gJ_eq {u : gm_M} {a k b j : Nat} {v : Int64} (h : b = a) (h2 : j = k) : gJ (sJ u a k v) b j = v := by simp [gJ, sJ, h, h2]
theorem gJ_ne {u : gm_M} {a k b j : Nat} {v : Int64} (h : ¬ (b = a ∧ j = k)) : gJ (sJ u a k v) b j = gJ u b j := by simp only [gJ, sJ, if_neg h]
theorem gR_eq {u : gm_M} {a k b j : Nat} {v : Nat} (h : b = a) (h2 : j = k) : gR (sR u a k v) b j = v := by simp [gR, sR, h, h2]
theorem gR_ne {u : gm_M} {a k b j : Nat} {v : Nat} (h : ¬ (b = a ∧ j = k)) : gR (sR u a k v) b j = gR u b j := by simp only [gR, sR, if_neg h]
theorem gI_sJ (u : gm_M) (a k : Nat) (v : Int64) : gI (sJ u a k v) = gI u := rfl
theorem gI_sR (u : gm_M) (a k : Nat) (v : Nat) : gI (sR u a k v) = gI u := rfl
theorem gJ_sI (u : gm_M) (a k : Nat) (v : Int32) : gJ (sI u a k v) = gJ u := rfl
theorem gJ_sR (u : gm_M) (a k : Nat) (v : Nat) : gJ (sR u a k v) = gJ u := rfl
theorem gR_sI (u : gm_M) (a k : Nat) (v : Int32) : gR (sI u a k v) = gR u := rfl
theorem gR_sJ (u : gm_M) (a k : Nat) (v : Int64) : gR (sJ u a k v) = gR u := rfl
/-- since u nothing has changed but where P says -/
def fr (P : Nat → Nat → Prop) (u v : gm_M) : Prop := ∀ a k, ¬ P a k → gI v a k = gI u a k ∧ gJ v a k = gJ u a k ∧ gR v a k = gR u a k
theorem fr_refl (P : Nat → Nat → Prop) (u : gm_M) : fr P u u := fun _ _ _ => ⟨rfl, rfl, rfl⟩
theorem fr_trans {P : Nat → Nat → Prop} {u v w : gm_M} (h : fr P u v) (g : fr P v w) : fr P u w := fun a k q => ⟨(g a k q).1.trans (h a k q).1, (g a k q).2.1.trans (h a k q).2.1, (g a k q).2.2.trans (h a k q).2.2⟩
theorem fr_mono {P Q : Nat → Nat → Prop} {u v : gm_M} (h : fr P u v) (i : ∀ a k, P a k → Q a k) : fr Q u v := fun a k q => h a k (fun p => q (i a k p))
theorem fr_sI {P : Nat → Nat → Prop} {u v : gm_M} {a k : Nat} {x : Int32} (h : fr P u v) (p : P a k) : fr P u (sI v a k x) := fun b j q => ⟨by rw [gI_ne (fun e => q (by rw [e.1, e.2]; exact p))]; exact (h b j q).1, (h b j q).2.1, (h b j q).2.2⟩
theorem fr_sJ {P : Nat → Nat → Prop} {u v : gm_M} {a k : Nat} {x : Int64} (h : fr P u v) (p : P a k) : fr P u (sJ v a k x) := fun b j q => ⟨(h b j q).1, by rw [gJ_ne (fun e => q (by rw [e.1, e.2]; exact p))]; exact (h b j q).2.1, (h b j q).2.2⟩
theorem fr_sR {P : Nat → Nat → Prop} {u v : gm_M} {a k : Nat} {x : Nat} (h : fr P u v) (p : P a k) : fr P u (sR v a k x) := fun b j q => ⟨(h b j q).1, (h b j q).2.1, by rw [gR_ne (fun e => q (by rw [e.1, e.2]; exact p))]; exact (h b j q).2.2⟩
theorem fr_I {P : Nat → Nat → Prop} {u v : gm_M} (h : fr P u v) {a k : Nat} (q : ¬ P a k) : gI v a k = gI u a k := (h a k q).1
theorem fr_J {P : Nat → Nat → Prop} {u v : gm_M} (h : fr P u v) {a k : Nat} (q : ¬ P a k) : gJ v a k = gJ u a k := (h a k q).2.1
theorem fr_R {P : Nat → Nat → Prop} {u v : gm_M} (h : fr P u v) {a k : Nat} (q : ¬ P a k) : gR v a k = gR u a k := (h a k q).2.2
/-! bits of the sets of six -/
theorem bt_sh : ∀ h : Fin 64, ∀ p : Fin 6, (nI h.1 >>> (nI p.1 &&& nI 31)) &&& nI 1 = nI ((Nat.testBit h.1 p.1).toNat) := by decide +kernel
theorem bt_one : ∀ p : Fin 6, nI 1 <<< (nI p.1 &&& nI 31) = nI (2 ^ p.1) := by decide +kernel
theorem bt_or : ∀ a b : Fin 64, nI a.1 ||| nI b.1 = nI (a.1 ||| b.1) := by decide +kernel
theorem bt_andn : ∀ a b : Fin 64, nI a.1 &&& ~~~ nI b.1 = nI (a.1 &&& (63 - b.1)) := by decide +kernel
theorem nI_sh {h p : Nat} (hh : h < 64) (hp : p < 6) : (nI h >>> (nI p &&& nI 31)) &&& nI 1 = nI ((Nat.testBit h p).toNat) := bt_sh ⟨h, hh⟩ ⟨p, hp⟩
theorem nI_one {p : Nat} (hp : p < 6) : nI 1 <<< (nI p &&& nI 31) = nI (2 ^ p) := bt_one ⟨p, hp⟩
theorem nI_or {a b : Nat} (ha : a < 64) (hb : b < 64) : nI a ||| nI b = nI (a ||| b) := bt_or ⟨a, ha⟩ ⟨b, hb⟩
theorem nI_andn {a b : Nat} (ha : a < 64) (hb : b < 64) : nI a &&& ~~~ nI b = nI (a &&& (63 - b)) := bt_andn ⟨a, ha⟩ ⟨b, hb⟩
theorem nI_b1 {a : Nat} (h : a < 2) : nI a &&& nI 1 = nI a := by
  rcases (by omega : a = 0 ∨ a = 1) with rfl | rfl <;> decide
/-! small lists without a double -/
theorem nd_len : ∀ (n : Nat) (l : List Nat), l.Nodup → (∀ x ∈ l, x < n) → l.length ≤ n := by
  intro n
  induction n with
  | zero =>
    intro l _ h
    cases l with
    | nil => exact Nat.le_refl _
    | cons x l => exact absurd (h x List.mem_cons_self) (by omega)
  | succ n ih =>
    intro l hn h
    by_cases hm : n ∈ l
    · have h1 := ih (l.erase n) (hn.erase n) (fun x hx => by
        have h2 := (hn.mem_erase_iff).mp hx
        have h3 := h x h2.2
        omega)
      rw [List.length_erase_of_mem hm] at h1
      omega
    · have h1 := ih l hn (fun x hx => by
        have h3 := h x hx
        have h4 : x ≠ n := fun e => hm (e ▸ hx)
        omega)
      omega
/-! a truth that is asked for -/
theorem if1 {α : Type} {x y : α} : (if nI 1 = (0 : Int32) then x else y) = y := if_neg (by decide)
theorem if0 {α : Type} {x y : α} : (if nI 0 = (0 : Int32) then x else y) = x := if_pos (by decide)
theorem if1n {α : Type} {x y : α} : (if nI 1 = nI 0 then x else y) = y := if_neg (by decide)
theorem if0n {α : Type} {x y : α} : (if nI 0 = nI 0 then x else y) = x := if_pos (by decide)
