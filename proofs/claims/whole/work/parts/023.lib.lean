section GM4
variable {p : Program} {l : Launch} {e : Env} {R : Room} {s : State} {m : MethodId} {args : Array Value} {below : List Frame} {meth : Method} {c : Code} {H : Heap} {locs : List Loc} {Q : State → Prop}
variable {cc : ByteArray} {nL : Nat} {own : String} {ret : Option FieldType} {pc : Nat} {ls : Array Slot} {rest st0 : List Value} {G : gm_G} {Z : gm_Z} {u u' : gm_M} {A : Nat → Prop} {H0 : Heap}
theorem gm_cat (Z : gm_Z) (r : Nat) : (rv Z r).category = 1 := by cases r <;> rfl
theorem gm_catI (x : Int32) : (Value.int x).category = 1 := rfl
theorem gm_catJ (x : Int64) : (Value.long x).category = 2 := rfl
theorem gm_aload_n (C : gm_C p s m meth c args Z A cc nL own ret) {k : Fin 4} {i r : Nat} {x : Nat ⊕ (Nat × Nat)} (hs : gm_sh G r = some x) (hdg : decode cc pc = .ok (.aload_n k, 1)) (hi : (k : Nat) = i) (hl : ls[i]? = some (.val (rv Z r)))
    (kk : W p l e R s m args below meth c H locs 0 0 Q (F0 m (pc + 1) ls (rv Z r :: rest))) : W p l e R s m args below meth c H locs 0 0 Q (F0 m pc ls rest) := by
  cases r with
  | zero => cases hs
  | succ r => exact lv_aload_n C.1 C.2.1 hdg hi hl kk
theorem gm_aload (C : gm_C p s m meth c args Z A cc nL own ret) {i r : Nat} {x : Nat ⊕ (Nat × Nat)} (hs : gm_sh G r = some x) (hdg : decode cc pc = .ok (.aload i, 2)) (hl : ls[i]? = some (.val (rv Z r)))
    (kk : W p l e R s m args below meth c H locs 0 0 Q (F0 m (pc + 2) ls (rv Z r :: rest))) : W p l e R s m args below meth c H locs 0 0 Q (F0 m pc ls rest) := by
  cases r with
  | zero => cases hs
  | succ r => exact lv_aload C.1 C.2.1 hdg hl kk
theorem gm_astore_n (C : gm_C p s m meth c args Z A cc nL own ret) {k : Fin 4} {i r : Nat} {x : Nat ⊕ (Nat × Nat)} (hs : gm_sh G r = some x) {lv lv' : List (Nat × Value)} (hdg : decode cc pc = .ok (.astore_n k, 1)) (hi : (k : Nat) = i) (h : lv_has ls nL lv) (hn : i < nL) (hl : (i, rv Z r) :: lv.filter (fun q => !(q.1 == i) && !(q.1 + 1 == i && q.2.category == 2)) = lv')
    (kk : ∀ ls' : Array Slot, lv_has ls' nL lv' → W p l e R s m args below meth c H locs 0 0 Q (F0 m (pc + 1) ls' rest)) : W p l e R s m args below meth c H locs 0 0 Q (F0 m pc ls (rv Z r :: rest)) := by
  cases r with
  | zero => cases hs
  | succ r => exact lv_astore_n C.1 C.2.1 hdg hi h hn hl kk
theorem gm_ifnull (C : gm_C p s m meth c args Z A cc nL own ret) {r : Nat} {x : Nat ⊕ (Nat × Nat)} (hs : gm_sh G r = some x) {off : Int} (hdg : decode cc pc = .ok (.ifnull off, 3))
    (kk : W p l e R s m args below meth c H locs 0 0 Q (F0 m (pc + 3) ls rest)) : W p l e R s m args below meth c H locs 0 0 Q (F0 m pc ls (rv Z r :: rest)) := by
  cases r with
  | zero => cases hs
  | succ r => exact lv_ifnull C.1 C.2.1 hdg kk
theorem gm_ifnonnull (C : gm_C p s m meth c args Z A cc nL own ret) {r : Nat} {x : Nat ⊕ (Nat × Nat)} (hs : gm_sh G r = some x) {off : Int} {tgt : Nat} (hdg : decode cc pc = .ok (.ifnonnull off, 3)) (ht : (pc : Int) + off = (tgt : Int))
    (kk : W p l e R s m args below meth c H locs 0 0 Q (F0 m tgt ls rest)) : W p l e R s m args below meth c H locs 0 0 Q (F0 m pc ls (rv Z r :: rest)) := by
  cases r with
  | zero => cases hs
  | succ r => exact lv_ifnonnull C.1 C.2.1 hdg ht kk
theorem gm_topI {x y : Int32} (e1 : y = x) (k : W p l e R s m args below meth c H locs 0 0 Q (F0 m pc ls (.int y :: rest))) : W p l e R s m args below meth c H locs 0 0 Q (F0 m pc ls (.int x :: rest)) := e1 ▸ k
theorem gm_topJ {x y : Int64} (e1 : y = x) (k : W p l e R s m args below meth c H locs 0 0 Q (F0 m pc ls (.long y :: rest))) : W p l e R s m args below meth c H locs 0 0 Q (F0 m pc ls (.long x :: rest)) := e1 ▸ k
theorem gm_topR {x y : Nat} (e1 : y = x) (k : W p l e R s m args below meth c H locs 0 0 Q (F0 m pc ls (rv Z y :: rest))) : W p l e R s m args below meth c H locs 0 0 Q (F0 m pc ls (rv Z x :: rest)) := e1 ▸ k
/-- the words of a static method of the library -/
def gm_sw (own : String) (idx : Nat) (y : MethodName) (bytes : ByteArray) (maxL : Nat) : Prop := Cond.methodLink own idx y ∈ gm_tb ∧ Cond.static y ∈ gm_tb ∧ Cond.initialized "java/lang/Math" ∈ gm_tb ∧ Cond.code y bytes maxL (some .int) ∈ gm_tb
theorem gm_max (C : gm_C p s m meth c args Z A cc nL own ret) {lv : List (Nat × Value)} (hl : lv_has ls nL lv) {idx : Nat} (sw : gm_sw own idx Lib.Math.max.name Lib.Math.max.code 2) (hf : 1 ≤ R.frames) (hlo : 30 ≤ R.locals) (hcat : (rest.map fun v => v.category).sum ≤ 8) {x y : Int32} (hdg : decode cc pc = .ok (.invokestatic idx, 3))
    (kk : W p l e R s m args below meth c H locs 0 0 Q (F0 m (pc + 3) ls (.int (if x < y then y else x) :: rest))) : W p l e R s m args below meth c H locs 0 0 Q (F0 m pc ls (.int y :: .int x :: rest)) :=
  va_mmax C.1 C.2.1 (C.2.2.1.trans hl.1.symm) C.2.2.2.1 (C.2.2.2.2.1 _ sw.1) (C.2.2.2.2.1 _ sw.2.1) (C.2.2.2.2.1 _ sw.2.2.1) (C.2.2.2.2.1 _ sw.2.2.2) hf (by omega) (Nat.zero_le _) (Nat.zero_le _) hdg kk
theorem gm_min (C : gm_C p s m meth c args Z A cc nL own ret) {lv : List (Nat × Value)} (hl : lv_has ls nL lv) {idx : Nat} (sw : gm_sw own idx Lib.Math.min.name Lib.Math.min.code 2) (hf : 1 ≤ R.frames) (hlo : 30 ≤ R.locals) (hcat : (rest.map fun v => v.category).sum ≤ 8) {x y : Int32} (hdg : decode cc pc = .ok (.invokestatic idx, 3))
    (kk : W p l e R s m args below meth c H locs 0 0 Q (F0 m (pc + 3) ls (.int (if y < x then y else x) :: rest))) : W p l e R s m args below meth c H locs 0 0 Q (F0 m pc ls (.int y :: .int x :: rest)) :=
  va_mmin C.1 C.2.1 (C.2.2.1.trans hl.1.symm) C.2.2.2.1 (C.2.2.2.2.1 _ sw.1) (C.2.2.2.2.1 _ sw.2.1) (C.2.2.2.2.1 _ sw.2.2.1) (C.2.2.2.2.1 _ sw.2.2.2) hf (by omega) (Nat.zero_le _) (Nat.zero_le _) hdg kk
end GM4
theorem gm_sp {α β : Type} {a c : α} {b d : β} (h : some (a, b) = some (c, d)) : a = c ∧ b = d := by cases h; exact ⟨rfl, rfl⟩
theorem gm_si {α : Type} {a b : α} (h : some a = some b) : b = a := (Option.some.inj h).symm
def gm_let {α β : Type} (x : α) (k : α → β) : β := k x
theorem gm_le {α β : Type} {x : α} {k : α → β} {r : β} (h : gm_let x k = r) : ∃ y, y = x ∧ k y = r := ⟨x, rfl, h⟩
theorem gm_rng {x : Int32} {lo hi : Int} (h : ¬ (x.toInt < lo ∨ hi < x.toInt)) : ∃ i : Nat, i < (hi - lo + 1).toNat ∧ x = Int32.ofInt (lo + i) := by
  refine ⟨(x.toInt - lo).toNat, by omega, ?_⟩
  have h1 : lo + ((x.toInt - lo).toNat : Int) = x.toInt := by omega
  rw [h1, Int32.ofInt_toInt]
abbrev iRem (x y : Int32) : Int32 := x - x / y * y
abbrev lRem (x y : Int64) : Int64 := x - x / y * y
