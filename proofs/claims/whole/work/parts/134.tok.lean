/-! tokens: the common picture, and the class's advance -/
def rnl (f : Nat → Bool) : List Nat → Nat
  | [] => 0
  | c :: l => if f c = true then rnl f l + 1 else 0
theorem rnl_le (f : Nat → Bool) : ∀ l, rnl f l ≤ l.length := by
  intro l
  induction l with
  | nil => exact Nat.le_refl _
  | cons c l ih =>
    simp only [rnl, List.length_cons]
    split <;> omega
theorem rnl_in (f : Nat → Bool) : ∀ (l : List Nat) (j : Nat), j < rnl f l → ∃ c, l[j]? = some c ∧ f c = true := by
  intro l
  induction l with
  | nil => intro j h; simp [rnl] at h
  | cons c l ih =>
    intro j h
    simp only [rnl] at h
    by_cases q : f c = true
    · rw [if_pos q] at h
      cases j with
      | zero => exact ⟨c, rfl, q⟩
      | succ j => rw [List.getElem?_cons_succ]; exact ih j (by omega)
    · rw [if_neg q] at h; omega
theorem rnl_end (f : Nat → Bool) : ∀ (l : List Nat) (c : Nat), l[rnl f l]? = some c → f c = false := by
  intro l
  induction l with
  | nil => intro c h; simp at h
  | cons d l ih =>
    intro c h
    simp only [rnl] at h
    by_cases q : f d = true
    · rw [if_pos q, List.getElem?_cons_succ] at h
      exact ih c h
    · rw [if_neg q] at h
      simp only [List.getElem?_cons_zero, Option.some.injEq] at h
      rw [← h]; simpa using q
def isB (c : Nat) : Bool := decide (c = 10 ∨ c = 32)
def isL (c : Nat) : Bool := decide (97 ≤ c ∧ c ≤ 122)
def isD' (c : Nat) : Bool := decide (48 ≤ c ∧ c ≤ 57)
def isG (c : Nat) : Bool := decide (c = 40 ∨ c = 41 ∨ c = 60 ∨ c = 61 ∨ c = 43 ∨ c = 45 ∨ c = 42 ∨ c = 59)
def sgA (t : List Nat) (i : Nat) : Nat := t[i]?.getD 0
/-- the token from p on: where it begins, its kind, its length, its letters, its number or sign -/
def kB (t : List Nat) (p : Nat) : Nat := p + rnl isB (t.drop p)
def kN (t : List Nat) (p : Nat) : Nat := if isL (sgA t (kB t p)) = true then rnl isL (t.drop (kB t p)) else if isD' (sgA t (kB t p)) = true then rnl isD' (t.drop (kB t p)) else 1
def kS (t : List Nat) (p : Nat) : Nat := if kB t p < t.length then (if isL (sgA t (kB t p)) = true then (if kN t p ≤ 8 then 1 else 4) else if isD' (sgA t (kB t p)) = true then (if kN t p ≤ 4 then 2 else 4) else if isG (sgA t (kB t p)) = true then 3 else 4) else 0
def kE (t : List Nat) (p : Nat) : Nat := kB t p + kN t p
def kL (t : List Nat) (p : Nat) : List Nat := (t.drop (kB t p)).take (kN t p)
def kW (t : List Nat) (p : Nat) : List Nat := (kL t p).map (fun c => c - 96)
def num (l : List Nat) : Nat := l.foldl (fun n c => n * 10 + c - 48) 0
def kV (t : List Nat) (p : Nat) : Nat := if kS t p = 2 then num (kL t p) else sgA t (kB t p)
theorem kB_le {t : List Nat} {p : Nat} (h : p ≤ t.length) : p ≤ kB t p ∧ kB t p ≤ t.length := by
  have := rnl_le isB (t.drop p)
  rw [List.length_drop] at this
  unfold kB
  omega
theorem kB_in {t : List Nat} {p i : Nat} (h1 : p ≤ i) (h2 : i < kB t p) : ∃ c, t[i]? = some c ∧ isB c = true := by
  obtain ⟨c, hc, q⟩ := rnl_in isB (t.drop p) (i - p) (by unfold kB at h2; omega)
  rw [List.getElem?_drop, show p + (i - p) = i by omega] at hc
  exact ⟨c, hc, q⟩
theorem kB_end {t : List Nat} {p c : Nat} (h : t[kB t p]? = some c) : isB c = false := by
  refine rnl_end isB (t.drop p) c ?_
  rw [List.getElem?_drop]; exact h
theorem run_in {t : List Nat} {b i : Nat} {f : Nat → Bool} (h1 : b ≤ i) (h2 : i < b + rnl f (t.drop b)) : ∃ c, t[i]? = some c ∧ f c = true := by
  obtain ⟨c, hc, q⟩ := rnl_in f (t.drop b) (i - b) (by omega)
  rw [List.getElem?_drop, show b + (i - b) = i by omega] at hc
  exact ⟨c, hc, q⟩
theorem run_end {t : List Nat} {b c : Nat} {f : Nat → Bool} (h : t[b + rnl f (t.drop b)]? = some c) : f c = false := by
  refine rnl_end f (t.drop b) c ?_
  rw [List.getElem?_drop]; exact h
theorem run_le {t : List Nat} {b : Nat} {f : Nat → Bool} (h : b ≤ t.length) : b + rnl f (t.drop b) ≤ t.length := by
  have := rnl_le f (t.drop b)
  rw [List.length_drop] at this
  omega
theorem sgA_lt {t : List Nat} (h : gT t) (i : Nat) : sgA t i < 127 := by
  unfold sgA
  cases e : t[i]? with
  | none => simp
  | some c =>
    have := h.2 c (List.mem_of_getElem? e)
    unfold sgn at this
    simp; omega
theorem sgA_some {t : List Nat} {i c : Nat} (h : t[i]? = some c) : sgA t i = c := by simp [sgA, h]
theorem sgA_at {t : List Nat} {i : Nat} (h : i < t.length) : t[i]? = some (sgA t i) := by simp [sgA, h]
theorem gm_ch_n : ∀ c : Fin 256, gm_ch (nI c.1) = nI c.1 := by decide +kernel
def tpT (u : gm_M) (t : List Nat) : Prop := gI u 3 1 = nI t.length ∧ ∀ i s, t[i]? = some s → gI u 4 i = nI s
theorem c_signAt {u : gm_M} {t : List Nat} {i : Nat} (h : tC u t) (g : gT t) (hi : i < 2 ^ 31) : f_X9_signAt (nI i) u = some (nI (if i < t.length then sgA t i else 0)) := by
  have gl := g.1
  unfold f_X9_signAt
  rw [if_neg (nI_pos hi), h.1]
  by_cases q : i < t.length
  · rw [if_neg (fun z => by rw [nI_leI (by omega) (by omega)] at z; omega), if_neg (fun z => by rw [show (1000 : Int32) = nI 1000 from rfl, nI_leI (by omega) (by omega)] at z; omega), if_pos q]
    have hs := sgA_lt g i
    simp (disch := omega) only [ib_nI, ix_nI, if_pos, h.2 i _ (sgA_at q), gm_ch_n ⟨_, show sgA t i < 256 by omega⟩]
  · rw [if_pos ((nI_leI (by omega) (by omega)).mpr (by omega)), if_neg q]
    rfl
theorem c_isBlank {c : Nat} (h : c < 256) : f_X9_isBlank (nI c) = nI (isB c).toNat := by
  have : ∀ c : Fin 256, f_X9_isBlank (nI c.1) = nI (isB c.1).toNat := by decide +kernel
  exact this ⟨c, h⟩
theorem c_isLetter {c : Nat} (h : c < 256) : f_X9_isLetter (nI c) = nI (isL c).toNat := by
  have : ∀ c : Fin 256, f_X9_isLetter (nI c.1) = nI (isL c.1).toNat := by decide +kernel
  exact this ⟨c, h⟩
theorem c_isDigit {c : Nat} (h : c < 256) : f_X9_isDigit (nI c) = nI (isD' c).toNat := by
  have : ∀ c : Fin 256, f_X9_isDigit (nI c.1) = nI (isD' c.1).toNat := by decide +kernel
  exact this ⟨c, h⟩
theorem c_isSign {c : Nat} (h : c < 256) : f_X9_isSign (nI c) = nI (isG c).toNat := by
  have : ∀ c : Fin 256, f_X9_isSign (nI c.1) = nI (isG c.1).toNat := by decide +kernel
  exact this ⟨c, h⟩
/-- the class looks at the token from p on -/
def cuC (u : gm_M) (t : List Nat) (p : Nat) : Prop := tC u t ∧ gI u 3 2 = nI (kB t p) ∧ gI u 3 4 = nI (kS t p) ∧ (kS t p ≠ 0 → gI u 3 3 = nI (kE t p)) ∧ (kS t p = 1 → gJ u 3 6 = nmC (kW t p) ∧ gI u 3 5 = pIW (nmC (kW t p))) ∧ (kS t p = 2 ∨ kS t p = 3 → gI u 3 5 = nI (kV t p))
def tkP : Nat → Nat → Prop := fun a j => a = 3 ∧ 2 ≤ j ∧ j ≤ 6
theorem tC_tk {u v : gm_M} {t : List Nat} (h : tC u t) (f : fr tkP u v) : tC v t := tC_fr h f (by unfold tkP; omega) (fun j => by unfold tkP; omega)
theorem l_reb (x y : Int64) : x + y - 97 + 1 = x + (y - 97 + 1) := by simp only [Int64.sub_eq_add_neg, Int64.add_assoc]
theorem lN_let {c : Nat} (h : 97 ≤ c) : lN c - 97 + 1 = lN (c - 96) := by
  rw [show (97 : Int64) = lN 97 from rfl, lN_sub h, show (1 : Int64) = lN 1 from rfl, lN_add]
  congr 1; omega
theorem nmC_app (w : List Nat) (c : Nat) : nmC (w ++ [c]) = nmC w * 32 + lN c := by simp [nmC, List.foldl_append]; rfl
theorem num_app (w : List Nat) (c : Nat) : num (w ++ [c]) = num w * 10 + c - 48 := by simp [num, List.foldl_append]
theorem take_at {t : List Nat} {b j c : Nat} (h : t[b + j]? = some c) : (t.drop b).take (j + 1) = (t.drop b).take j ++ [c] := by
  rw [List.take_add_one, List.getElem?_drop, h]; rfl
theorem c_readWord {u : gm_M} {t : List Nat} {b : Nat} (h : tC u t) (g : gT t) (hb : gI u 3 2 = nI b) (hbl : b < t.length) :
    ok (f_X9_readWord u) (fun v => fr tkP u v ∧ gI v 3 2 = nI b ∧ gI v 3 3 = nI (b + rnl isL (t.drop b)) ∧ gI v 3 4 = nI (if rnl isL (t.drop b) ≤ 8 then 1 else 4) ∧ gJ v 3 6 = nmC (((t.drop b).take (rnl isL (t.drop b))).map (fun c => c - 96)) ∧ gI v 3 5 = pIW (nmC (((t.drop b).take (rnl isL (t.drop b))).map (fun c => c - 96)))) := by
  have gl := g.1
  have rl := run_le (f := isL) (show b ≤ t.length by omega)
  unfold f_X9_readWord
  simp only [gm_letE]
  have f0 : fr tkP u (sJ u 3 6 0) := fr_sJ (fr_refl _ _) ⟨rfl, by omega, by omega⟩
  have e0 : gI (sJ u 3 6 0) 3 2 = nI b := hb
  have j0 : gJ (sJ u 3 6 0) 3 6 = 0 := gJ_eq rfl rfl
  rw [e0]
  generalize sJ u 3 6 0 = u0 at *
  generalize hn : rnl isL (t.drop b) = n at *
  refine ok_bind (Q := fun o => o.1 = nI (b + n) ∧ fr tkP u o.2 ∧ gI o.2 3 2 = nI b ∧ gJ o.2 3 6 = nmC (((t.drop b).take n).map (fun c => c - 96)))
    (lp_ok n (fun j x => x.1 = nI (b + j) ∧ fr tkP u x.2 ∧ gI x.2 3 2 = nI b ∧ gJ x.2 3 6 = nmC (((t.drop b).take j).map (fun c => c - 96))) (by omega) ⟨rfl, f0, e0, by rw [j0]; rfl⟩ ?_ ?_) ?_
  · rintro j ⟨x, v⟩ hj ⟨hx, h1, h2, h3⟩
    simp only at hx h1 h2 h3
    subst hx
    have tv := tC_tk h h1
    obtain ⟨c, hc, ql⟩ := run_in (t := t) (b := b) (i := b + j) (f := isL) (by omega) (by omega)
    have hlt := (List.getElem?_eq_some_iff.mp hc).1
    have hc2 := sgA_some hc
    have c97 : 97 ≤ c ∧ c ≤ 122 := by simpa [isL] using ql
    have sa := c_signAt (i := b + j) tv g (by omega)
    rw [if_pos hlt, hc2] at sa
    simp (disch := omega) only [b_X9_readWord_10, tv.1, nI_leI, if_neg, sa, Option.bind_some, gm_letE, c_isLetter, ql, Bool.toNat_true, if1, h3, nI_l, litI, nI_add]
    refine ok_some ⟨by rw [Nat.add_assoc], fr_sJ h1 ⟨rfl, by omega, by omega⟩, h2, ?_⟩
    show gJ (sJ v 3 6 _) 3 6 = _
    rw [gJ_eq rfl rfl, take_at hc, List.map_append, List.map_cons, List.map_nil, nmC_app, l_reb, lN_let c97.1]
  · rintro ⟨x, v⟩ ⟨hx, h1, h2, h3⟩
    simp only at hx h1 h2 h3
    subst hx
    have tv := tC_tk h h1
    rw [b_X9_readWord_10, tv.1]
    by_cases q : b + n < t.length
    · have hc := sgA_at q
      have hs := sgA_lt g (b + n)
      have qe : isL (sgA t (b + n)) = false := run_end (t := t) (b := b) (f := isL) (by rw [hn]; exact hc)
      have sa := c_signAt (i := b + n) tv g (by omega)
      rw [if_pos q] at sa
      simp (disch := omega) only [nI_leI, if_neg, sa, Option.bind_some, gm_letE, c_isLetter, qe, Bool.toNat_false, if0]
      exact ok_some ⟨rfl, h1, h2, h3⟩
    · rw [if_pos ((nI_leI (by omega) (by omega)).mpr (by omega))]
      exact ok_some ⟨rfl, h1, h2, h3⟩
  · rintro ⟨x, v⟩ ⟨hx, h1, h2, h3⟩
    simp only at hx h1 h2 h3
    subst hx
    have fin : ∀ s : Nat, ok (j_X9_readWord_82 (nI s) (sI v 3 3 (nI (b + n)))) (fun v => fr tkP u v ∧ gI v 3 2 = nI b ∧ gI v 3 3 = nI (b + n) ∧ gI v 3 4 = nI s ∧ gJ v 3 6 = nmC (((t.drop b).take n).map (fun c => c - 96)) ∧ gI v 3 5 = pIW (nmC (((t.drop b).take n).map (fun c => c - 96)))) := by
      intro s
      simp only [j_X9_readWord_82, gm_letE]
      have e6 : gJ (sI (sI v 3 3 (nI (b + n))) 3 4 (nI s)) 3 6 = nmC (((t.drop b).take n).map (fun c => c - 96)) := h3
      rw [e6]
      refine ok_some ⟨fr_sI (fr_sI (fr_sI h1 ⟨rfl, by omega, by omega⟩) ⟨rfl, by omega, by omega⟩) ⟨rfl, by omega, by omega⟩, ?_, ?_, ?_, h3, gI_eq rfl rfl⟩
      · rw [gI_ne (by omega), gI_ne (by omega), gI_ne (by omega)]; exact h2
      · rw [gI_ne (by omega), gI_ne (by omega)]; exact gI_eq rfl rfl
      · rw [gI_ne (by omega)]; exact gI_eq rfl rfl
    simp only [j_X9_readWord_60, gm_letE]
    have e2 : gI (sI v 3 3 (nI (b + n))) 3 2 = nI b := (gI_ne (by omega)).trans h2
    rw [e2, nI_sub (by omega), show b + n - b = n by omega]
    by_cases q : n ≤ 8
    · rw [if_pos (show nI n ≤ (8 : Int32) from (nI_leI (b := 8) (by omega) (by omega)).mpr q), if_pos q]
      exact fin 1
    · rw [if_neg (show ¬ nI n ≤ (8 : Int32) from fun z => q ((nI_leI (b := 8) (by omega) (by omega)).mp z)), if_neg q]
      exact fin 4
theorem nI_dig {a c : Nat} (h : 48 ≤ c) : nI a * 10 + nI c - 48 = nI (a * 10 + c - 48) := by
  rw [show (10 : Int32) = nI 10 from rfl, show (48 : Int32) = nI 48 from rfl, nI_mul, nI_add, nI_sub (by omega)]
theorem c_readNumber {u : gm_M} {t : List Nat} {b : Nat} (h : tC u t) (g : gT t) (hb : gI u 3 2 = nI b) (hbl : b < t.length) :
    ok (f_X9_readNumber u) (fun v => fr tkP u v ∧ gI v 3 2 = nI b ∧ gI v 3 3 = nI (b + rnl isD' (t.drop b)) ∧ gI v 3 4 = nI (if rnl isD' (t.drop b) ≤ 4 then 2 else 4) ∧ gI v 3 5 = nI (num ((t.drop b).take (rnl isD' (t.drop b))))) := by
  have gl := g.1
  have rl := run_le (f := isD') (show b ≤ t.length by omega)
  unfold f_X9_readNumber
  simp only [gm_letE]
  have f0 : fr tkP u (sI u 3 5 0) := fr_sI (fr_refl _ _) ⟨rfl, by omega, by omega⟩
  have e0 : gI (sI u 3 5 0) 3 2 = nI b := (gI_ne (by omega)).trans hb
  have j0 : gI (sI u 3 5 0) 3 5 = nI 0 := gI_eq rfl rfl
  rw [e0]
  generalize sI u 3 5 0 = u0 at *
  generalize hn : rnl isD' (t.drop b) = n at *
  refine ok_bind (Q := fun o => o.1 = nI (b + n) ∧ fr tkP u o.2 ∧ gI o.2 3 2 = nI b ∧ gI o.2 3 5 = nI (num ((t.drop b).take n)))
    (lp_ok n (fun j x => x.1 = nI (b + j) ∧ fr tkP u x.2 ∧ gI x.2 3 2 = nI b ∧ gI x.2 3 5 = nI (num ((t.drop b).take j))) (by omega) ⟨rfl, f0, e0, j0⟩ ?_ ?_) ?_
  · rintro j ⟨x, v⟩ hj ⟨hx, h1, h2, h3⟩
    simp only at hx h1 h2 h3
    subst hx
    have tv := tC_tk h h1
    obtain ⟨c, hc, ql⟩ := run_in (t := t) (b := b) (i := b + j) (f := isD') (by omega) (by omega)
    have hlt := (List.getElem?_eq_some_iff.mp hc).1
    have hc2 := sgA_some hc
    have c48 : 48 ≤ c ∧ c ≤ 57 := by simpa [isD'] using ql
    have sa := c_signAt (i := b + j) tv g (by omega)
    rw [if_pos hlt, hc2] at sa
    rw [b_X9_readNumber_10]
    simp (disch := omega) only [tv.1, nI_leI, if_neg, sa, Option.bind_some, gm_letE, c_isDigit, ql, Bool.toNat_true, if1, h3, nI_dig c48.1]
    refine ok_some ⟨by rw [litI, nI_add, Nat.add_assoc], fr_sI h1 ⟨rfl, by omega, by omega⟩, (gI_ne (by omega)).trans h2, ?_⟩
    show gI (sI v 3 5 _) 3 5 = _
    rw [gI_eq rfl rfl, take_at hc, num_app]
  · rintro ⟨x, v⟩ ⟨hx, h1, h2, h3⟩
    simp only at hx h1 h2 h3
    subst hx
    have tv := tC_tk h h1
    rw [b_X9_readNumber_10, tv.1]
    by_cases q : b + n < t.length
    · have hc := sgA_at q
      have hs := sgA_lt g (b + n)
      have qe : isD' (sgA t (b + n)) = false := run_end (t := t) (b := b) (f := isD') (by rw [hn]; exact hc)
      have sa := c_signAt (i := b + n) tv g (by omega)
      rw [if_pos q] at sa
      simp (disch := omega) only [nI_leI, if_neg, sa, Option.bind_some, gm_letE, c_isDigit, qe, Bool.toNat_false, if0]
      exact ok_some ⟨rfl, h1, h2, h3⟩
    · rw [if_pos ((nI_leI (by omega) (by omega)).mpr (by omega))]
      exact ok_some ⟨rfl, h1, h2, h3⟩
  · rintro ⟨x, v⟩ ⟨hx, h1, h2, h3⟩
    simp only at hx h1 h2 h3
    subst hx
    have fin : ∀ s : Nat, ok (j_X9_readNumber_76 (nI s) (sI v 3 3 (nI (b + n)))) (fun v => fr tkP u v ∧ gI v 3 2 = nI b ∧ gI v 3 3 = nI (b + n) ∧ gI v 3 4 = nI s ∧ gI v 3 5 = nI (num ((t.drop b).take n))) := by
      intro s
      simp only [j_X9_readNumber_76, gm_letE]
      refine ok_some ⟨fr_sI (fr_sI h1 ⟨rfl, by omega, by omega⟩) ⟨rfl, by omega, by omega⟩, ?_, ?_, gI_eq rfl rfl, ?_⟩
      · rw [gI_ne (by omega), gI_ne (by omega)]; exact h2
      · rw [gI_ne (by omega)]; exact gI_eq rfl rfl
      · rw [gI_ne (by omega), gI_ne (by omega)]; exact h3
    simp only [j_X9_readNumber_55, gm_letE]
    have e2 : gI (sI v 3 3 (nI (b + n))) 3 2 = nI b := (gI_ne (by omega)).trans h2
    rw [e2, nI_sub (by omega), show b + n - b = n by omega]
    by_cases q : n ≤ 4
    · rw [if_pos (show nI n ≤ (4 : Int32) from (nI_leI (b := 4) (by omega) (by omega)).mpr q), if_pos q]
      exact fin 2
    · rw [if_neg (show ¬ nI n ≤ (4 : Int32) from fun z => q ((nI_leI (b := 4) (by omega) (by omega)).mp z)), if_neg q]
      exact fin 4
theorem c_advance {u : gm_M} {t : List Nat} {p : Nat} (h : tC u t) (g : gT t) (hp : gI u 3 3 = nI p) (hpl : p ≤ t.length) : ok (f_X9_advance u) (fun v => cuC v t p ∧ fr tkP u v) := by
  have gl := g.1
  obtain ⟨b1, b2⟩ := kB_le hpl
  unfold f_X9_advance
  rw [gm_letE, hp]
  have l1 : gm_lp (b_X9_advance_5 u) gm_FU (nI p) = some (nI (kB t p)) := by
    have := lp_for (b := b_X9_advance_5 u) (kB t p - p) (fun j => nI (p + j)) (nI (kB t p)) (by omega) (fun j hj => by
      obtain ⟨c, hc, ql⟩ := kB_in (t := t) (p := p) (i := p + j) (by omega) (by omega)
      have hlt := (List.getElem?_eq_some_iff.mp hc).1
      have hc2 := sgA_some hc
      have hs := sgA_lt g (p + j)
      have sa := c_signAt (i := p + j) h g (by omega)
      rw [if_pos hlt, hc2] at sa
      simp (disch := omega) only [b_X9_advance_5, h.1, nI_leI, if_neg, sa, Option.bind_some, gm_letE, c_isBlank, ql, Bool.toNat_true, if1, if1n, litI, nI_add]
      rw [Nat.add_assoc]) (by
      rw [show p + (kB t p - p) = kB t p by omega, b_X9_advance_5, h.1]
      by_cases q : kB t p < t.length
      · have hc := sgA_at q
        have hs := sgA_lt g (kB t p)
        have qe := kB_end hc
        have sa := c_signAt (i := kB t p) h g (by omega)
        rw [if_pos q] at sa
        simp (disch := omega) only [nI_leI, if_neg, sa, Option.bind_some, gm_letE, c_isBlank, qe, Bool.toNat_false, if0]
      · rw [if_pos ((nI_leI (by omega) (by omega)).mpr (by omega))])
    simpa using this
  rw [l1]
  simp only [Option.bind_some, j_X9_advance_30, gm_letE]
  have f0 : fr tkP u (sI u 3 2 (nI (kB t p))) := fr_sI (fr_refl _ _) ⟨rfl, by omega, by omega⟩
  have e0 : gI (sI u 3 2 (nI (kB t p))) 3 2 = nI (kB t p) := gI_eq rfl rfl
  generalize sI u 3 2 (nI (kB t p)) = u0 at *
  have t0 := tC_tk h f0
  rw [c_signAt t0 g (by omega), t0.1]
  simp only [Option.bind_some]
  by_cases q : kB t p < t.length
  · have hs := sgA_lt g (kB t p)
    rw [if_pos ((nI_ltI (by omega) (by omega)).mpr q), if_pos q, c_isLetter (by omega)]
    cases ql : isL (sgA t (kB t p))
    · simp only [Bool.toNat_false, if0]
      rw [c_isDigit (by omega)]
      cases qd : isD' (sgA t (kB t p))
      · simp only [Bool.toNat_false, if0]
        have eN : kN t p = 1 := by unfold kN; rw [ql, qd]; rfl
        have fin : ∀ s : Nat, kS t p = s → (s = 3 ∨ s = 4) → ok (j_X9_advance_98 (nI (kB t p)) (nI (sgA t (kB t p))) (nI s) u0) (fun v => cuC v t p ∧ fr tkP u v) := by
          intro s es hs34
          simp only [j_X9_advance_98, gm_letE]
          have ff : fr tkP u (sI (sI (sI u0 3 4 (nI s)) 3 5 (nI (sgA t (kB t p)))) 3 3 (nI (kB t p) + 1)) := fr_sI (fr_sI (fr_sI f0 ⟨rfl, by omega, by omega⟩) ⟨rfl, by omega, by omega⟩) ⟨rfl, by omega, by omega⟩
          refine ok_some ⟨⟨tC_tk h ff, ?_, ?_, fun _ => ?_, fun z => by omega, fun z => ?_⟩, ff⟩
          · rw [gI_ne (by omega), gI_ne (by omega), gI_ne (by omega)]; exact e0
          · rw [gI_ne (by omega), gI_ne (by omega), gI_eq rfl rfl, es]
          · rw [gI_eq rfl rfl]
            unfold kE
            rw [eN]
            exact nI_add _ 1
          · have e2 : kV t p = sgA t (kB t p) := by unfold kV; rw [if_neg (by omega)]
            rw [gI_ne (by omega), gI_eq rfl rfl, e2]
        rw [c_isSign (by omega)]
        cases qg : isG (sgA t (kB t p))
        · simp only [Bool.toNat_false, if0]
          exact fin 4 (by unfold kS; rw [if_pos q, ql, qd, qg]; rfl) (.inr rfl)
        · simp only [Bool.toNat_true, if1]
          exact fin 3 (by unfold kS; rw [if_pos q, ql, qd, qg]; rfl) (.inl rfl)
      · simp only [Bool.toNat_true, if1]
        have eN : kN t p = rnl isD' (t.drop (kB t p)) := by unfold kN; rw [ql, qd]; rfl
        have eS : kS t p = if kN t p ≤ 4 then 2 else 4 := by unfold kS; rw [if_pos q, ql, qd]; rfl
        refine ok_bind (c_readNumber t0 g e0 q) ?_
        rintro v ⟨v1, v2, v3, v4, v5⟩
        have ff := fr_trans f0 v1
        rw [← eN] at v3 v4 v5
        rw [← eS] at v4
        refine ok_some ⟨⟨tC_tk h ff, v2, v4, fun _ => v3, fun z => ?_, fun z => ?_⟩, ff⟩
        · rw [eS] at z; split at z <;> omega
        · have z2 : kS t p = 2 := by
            rw [eS] at z ⊢
            split at z
            · rename_i w; rw [if_pos w]
            · omega
          have e2 : kV t p = num (kL t p) := by unfold kV; rw [if_pos z2]
          rw [e2]; exact v5
    · simp only [Bool.toNat_true, if1]
      have eN : kN t p = rnl isL (t.drop (kB t p)) := by unfold kN; rw [ql]; rfl
      have eS : kS t p = if kN t p ≤ 8 then 1 else 4 := by unfold kS; rw [if_pos q, ql]; rfl
      refine ok_bind (c_readWord t0 g e0 q) ?_
      rintro v ⟨v1, v2, v3, v4, v5, v6⟩
      have ff := fr_trans f0 v1
      rw [← eN] at v3 v4 v5 v6
      rw [← eS] at v4
      refine ok_some ⟨⟨tC_tk h ff, v2, v4, fun _ => v3, fun z => ⟨v5, v6⟩, fun z => ?_⟩, ff⟩
      rw [eS] at z
      split at z <;> omega
  · have eS : kS t p = 0 := by unfold kS; rw [if_neg q]
    rw [if_neg (fun z => q ((nI_ltI (by omega) (by omega)).mp z))]
    have ff : fr tkP u (sI u0 3 4 0) := fr_sI f0 ⟨rfl, by omega, by omega⟩
    refine ok_some ⟨⟨tC_tk h ff, ?_, ?_, fun z => absurd eS z, fun z => by omega, fun z => by omega⟩, ff⟩
    · rw [gI_ne (by omega)]; exact e0
    · rw [gI_eq rfl rfl, eS]; rfl
