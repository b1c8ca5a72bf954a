/-! realm: a line of the class's reader as a step of its own (the class reads it within its loop) -/
def j_X8_readRealmLine_139 (a1 : Nat) (u_2 : gm_M) : Option gm_M := (f_X8_takeSign (59 : Int32) u_2).bind fun u_3 => some u_3
def f_X8_readRealmLine (a1 : Nat) (u : gm_M) : Option gm_M := gm_let (f_X9_word u) fun r_5 => if r_5 = (0 : Int32) then (f_X8_readPerson a1 u).bind fun u_6 => j_X8_readRealmLine_139 a1 u_6 else if r_5 = (1 : Int32) then (f_X8_refuse (1 : Int32) u).bind fun u_9 => j_X8_readRealmLine_139 a1 u_9 else if r_5 = (2 : Int32) then (f_X8_refuse (1 : Int32) u).bind fun u_12 => j_X8_readRealmLine_139 a1 u_12 else if r_5 = (3 : Int32) then (f_X8_takeOnce u).bind fun u_15 => (f_X8_takeNumber (1 : Int32) (3000 : Int32) u_15).bind fun o => match o with | (r_17, u_18) => gm_let (sI u_18 a1 5 r_17) fun u_21 => j_X8_readRealmLine_139 a1 u_21 else if r_5 = (4 : Int32) then (f_X8_takeOnce u).bind fun u_23 => (f_X8_takeNumber (1 : Int32) (40 : Int32) u_23).bind fun o => match o with | (r_25, u_26) => gm_let (sI u_26 a1 6 r_25) fun u_29 => j_X8_readRealmLine_139 a1 u_29 else if r_5 = (5 : Int32) then (f_X8_takeOnce u).bind fun u_31 => (f_X8_takeNumber (1 : Int32) (120 : Int32) u_31).bind fun o => match o with | (r_33, u_34) => gm_let (sI u_34 a1 7 r_33) fun u_37 => j_X8_readRealmLine_139 a1 u_37 else if r_5 = (6 : Int32) then (f_X8_takeOnce u).bind fun u_39 => (f_X3_clear (a1 + 5) u_39).bind fun u_42 => (f_X8_readWhole (a1 + 5) (0 : Int32) u_42).bind fun u_45 => j_X8_readRealmLine_139 a1 u_45 else (f_X8_refuse (1 : Int32) u).bind fun u_48 => j_X8_readRealmLine_139 a1 u_48
theorem jRL (a1 : Nat) (k : Int32) (w : gm_M) : j_X8_readRealm_187 a1 k w = (j_X8_readRealmLine_139 a1 w).bind fun v => some (.inl (k + (1 : Int32), v)) := by
  unfold j_X8_readRealm_187 j_X8_readRealmLine_139
  cases f_X8_takeSign (59 : Int32) w <;> rfl
theorem bnd_c {α β γ : Type} (o : Option α) (f : α → Option γ) (f' : α → Option β) (h : β → Option γ) (e : ∀ a, f a = (f' a).bind h) : o.bind f = (o.bind f').bind h := by
  cases o with
  | none => rfl
  | some a => exact e a
theorem jRL1 (a1 : Nat) (k : Int32) (o : Option gm_M) : (o.bind fun w => j_X8_readRealm_187 a1 k w) = (o.bind fun w => j_X8_readRealmLine_139 a1 w).bind fun v => some (.inl (k + (1 : Int32), v)) :=
  bnd_c o _ _ _ (fun w => jRL a1 k w)
theorem jRL2 (a1 f : Nat) (k : Int32) (o : Option (Int32 × gm_M)) : (o.bind fun o => match o with | (r, w) => gm_let (sI w a1 f r) fun v => j_X8_readRealm_187 a1 k v) = (o.bind fun o => match o with | (r, w) => gm_let (sI w a1 f r) fun v => j_X8_readRealmLine_139 a1 v).bind fun v => some (.inl (k + (1 : Int32), v)) := by
  refine bnd_c o _ _ _ (fun x => ?_)
  obtain ⟨r, w⟩ := x
  exact jRL a1 k (sI w a1 f r)
theorem jRL3 (a1 f : Nat) (k lo hi : Int32) (o : Option gm_M) : (o.bind fun u => (f_X8_takeNumber lo hi u).bind fun o => match o with | (r, w) => gm_let (sI w a1 f r) fun v => j_X8_readRealm_187 a1 k v) = (o.bind fun u => (f_X8_takeNumber lo hi u).bind fun o => match o with | (r, w) => gm_let (sI w a1 f r) fun v => j_X8_readRealmLine_139 a1 v).bind fun v => some (.inl (k + (1 : Int32), v)) :=
  bnd_c o _ _ _ (fun u => jRL2 a1 f k (f_X8_takeNumber lo hi u))
theorem jRL4 (a1 : Nat) (k : Int32) (o : Option gm_M) : (o.bind fun u => (f_X3_clear (a1 + 5) u).bind fun v => (f_X8_readWhole (a1 + 5) (0 : Int32) v).bind fun w => j_X8_readRealm_187 a1 k w) = (o.bind fun u => (f_X3_clear (a1 + 5) u).bind fun v => (f_X8_readWhole (a1 + 5) (0 : Int32) v).bind fun w => j_X8_readRealmLine_139 a1 w).bind fun v => some (.inl (k + (1 : Int32), v)) :=
  bnd_c o _ _ _ (fun u => bnd_c (f_X3_clear (a1 + 5) u) _ _ _ (fun v => jRL1 a1 k (f_X8_readWhole (a1 + 5) (0 : Int32) v)))
theorem bRL (a1 : Nat) (k : Int32) (u : gm_M) : b_X8_readRealm_23 a1 (k, u) = if (1000 : Int32) ≤ k then some (.inr u) else if (gI u 2 1) = 0 then if (gI u 3 4) = 0 then some (.inr u) else (f_X8_readRealmLine a1 u).bind fun v => some (.inl (k + (1 : Int32), v)) else some (.inr u) := by
  by_cases h1 : (1000 : Int32) ≤ k
  · rw [if_pos h1]; simp only [b_X8_readRealm_23, if_pos h1]
  · by_cases h2 : gI u 2 1 = 0
    · by_cases h3 : gI u 3 4 = 0
      · rw [if_neg h1, if_pos h2, if_pos h3]; simp only [b_X8_readRealm_23, if_neg h1, if_pos h2, if_pos h3]
      · rw [if_neg h1, if_pos h2, if_neg h3]
        simp only [b_X8_readRealm_23, if_neg h1, if_pos h2, if_neg h3]
        unfold f_X8_readRealmLine
        rw [gm_letE, gm_letE]
        generalize f_X9_word u = r
        by_cases c0 : r = (0 : Int32)
        · rw [if_pos c0, if_pos c0]; exact jRL1 a1 k _
        rw [if_neg c0, if_neg c0]
        by_cases c1 : r = (1 : Int32)
        · rw [if_pos c1, if_pos c1]; exact jRL1 a1 k _
        rw [if_neg c1, if_neg c1]
        by_cases c2 : r = (2 : Int32)
        · rw [if_pos c2, if_pos c2]; exact jRL1 a1 k _
        rw [if_neg c2, if_neg c2]
        by_cases c3 : r = (3 : Int32)
        · rw [if_pos c3, if_pos c3]; exact jRL3 a1 5 k _ _ _
        rw [if_neg c3, if_neg c3]
        by_cases c4 : r = (4 : Int32)
        · rw [if_pos c4, if_pos c4]; exact jRL3 a1 6 k _ _ _
        rw [if_neg c4, if_neg c4]
        by_cases c5 : r = (5 : Int32)
        · rw [if_pos c5, if_pos c5]; exact jRL3 a1 7 k _ _ _
        rw [if_neg c5, if_neg c5]
        by_cases c6 : r = (6 : Int32)
        · rw [if_pos c6, if_pos c6]; exact jRL4 a1 k _
        rw [if_neg c6, if_neg c6]; exact jRL1 a1 k _
    · rw [if_neg h1, if_neg h2]; simp only [b_X8_readRealm_23, if_neg h1, if_neg h2]
