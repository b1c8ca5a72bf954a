/-! the law's frame: three worlds side by side -/
def R_law : String := "LeapCapitalLaw"
def gm_dj (G1 : gm_G) (Z1 : gm_Z) (G2 : gm_G) (Z2 : gm_Z) : Prop := ∀ r1 r2 : Nat, r1 < G1.2.2.length → r2 < G2.2.2.length → Z1.2.2 (r1 + 1) ≠ Z2.2.2 (r2 + 1)
theorem gm_ad {G : gm_G} {Z : gm_Z} {u : gm_M} {k : Nat} {q : Nat × va_E} (h : (gm_ws G Z u)[k]? = some q) : k < G.2.2.length ∧ q.1 = Z.2.2 (k + 1) := by
  simp only [gm_ws, List.getElem?_mapIdx] at h
  cases hg : G.2.2[k]? with
  | none => rw [hg] at h; cases h
  | some y => rw [hg] at h; cases h; exact ⟨(List.getElem?_eq_some_iff.mp hg).1, rfl⟩
/-- the plan of the law's own array -/
def GO : gm_G := (gm_kd, fun _ _ => 0, [.inr (1, 1)])
section GL
variable {p : Program} {l : Launch} {e : Env} {R : Room} {s : State} {m : MethodId} {args : Array Value} {below : List Frame} {meth : Method} {c : Code} {H : Heap} {locs : List Loc} {cells slots : Nat} {Q : State → Prop}
variable {cc : ByteArray} {nL : Nat} {own : String} {ret : Option FieldType} {pc : Nat} {ls : Array Slot} {rest st0 : List Value} {G : gm_G} {Z : gm_Z} {u u' : gm_M} {A : Nat → Prop} {H0 : Heap}
theorem gm_other {G2 : gm_G} {Z2 : gm_Z} {u2 : gm_M} {H1 : Heap} {locs1 : List Loc} (hd : gm_dj G Z G2 Z2) (h2 : wd G2 Z2 u2 A H0 H locs) (h1 : wd G Z u' A H0 H1 locs1) (hk : ∀ q : Nat, q < H.size → ¬ va_A (gm_ws G Z u) H.size q → H1[q]? = H[q]?) : wd G2 Z2 u2 A H0 H1 locs1 := by
  refine ⟨h2.1.kept (fun k q hq => ?_), h2.2.1, h1.2.2.1, h2.2.2.2⟩
  have hl := (h2.1 k q hq).lt
  refine hk q.1 hl (fun h => ?_)
  rcases h with ⟨k2, x, h⟩ | h
  · obtain ⟨a1, a2⟩ := gm_ad h
    obtain ⟨b1, b2⟩ := gm_ad hq
    exact hd k2 k a1 b1 (a2.symm.trans b2)
  · omega
theorem gm_goL {a : Array Value} {res : Option Value} {sz : Nat} (hr : va_Run p l e R s m args below meth c H locs cells slots 0 0 (F0 m pc ls st0) rest (gm_Q G Z u u' sz res a) (va_A (gm_ws G Z u) sz)) (hsz : sz = H.size) (hw : wd G Z u A H0 H locs)
    (kk : ∀ (H1 : Heap) (locs1 : List Loc), wd G Z u' A H0 H1 locs1 → (∀ q : Nat, q < H.size → ¬ va_A (gm_ws G Z u) H.size q → H1[q]? = H[q]?) → W p l e R s m args below meth c H1 locs1 cells slots Q (F0 m (pc + 3) ls (res.toList ++ rest))) : W p l e R s m args below meth c H locs cells slots Q (F0 m pc ls st0) := by
  subst hsz
  have hA := gm_sub hw
  obtain ⟨hP, hD, hS, hA0⟩ := hw
  intro T hT X
  obtain ⟨v, st₀, t, T', L, h0, X', hL, e1, e2, ⟨⟨hv, hP'⟩, hz, hk⟩, st⟩ := hr T hT X
  cases hv
  rw [h0] at hz hk
  obtain ⟨t2, a1, b1⟩ := kk T'.heap (locs ++ L) ⟨by rw [e1]; exact hP', gm_D hD, ⟨Nat.le_trans hS.1 (by rw [e1]; exact hz), fun q h1 h2 => by rw [e1, hk q (Nat.lt_of_lt_of_le h1 hS.1) (fun z => h2 (hA q z))]; exact hS.2.1 q h1 h2, fun q hq => by
      rcases List.mem_append.mp hq with h | h
      · exact hS.2.2 q h
      · exact hA _ (hL q h)⟩, hA0⟩ (fun q h1 h2 => by rw [e1]; exact hk q h1 h2) T' rfl X'
  exact ⟨t2, st t2 a1, b1⟩
theorem gm_callL (C : gm_C p s m meth c args Z A cc nL own ret) (hw : wd G Z u A s.heap H locs) {lv : List (Nat × Value)} (hl : lv_has ls nL lv) {idx n : Nat} {y : MethodName} {bytes : ByteArray} {maxL : Nat} {rt : Option FieldType} {rm : Room} {r ci : Nat} {As : List Value} {res : Option Value}
    (hM : gm_Met l G Z y bytes maxL rt rm (rv Z r :: As) u res u') (cw : gm_cw own idx y bytes maxL rt n) (hin : Cond.instanceMethod y ∈ gm_tb) {q : vw_C} (hc : vwCl[ci]? = some q) (hse : Cond.selects q.1 y y ∈ gm_tb) (hs : gm_sh G r = some (.inl ci)) (hrc : rm.cells = 0) (hrs : rm.slots = 0) (hR : rm.frames + 1 ≤ R.frames ∧ 8 + (maxL + 11) + rm.locals ≤ R.locals) (hcs : cells ≤ R.cells ∧ slots ≤ R.slots)
    (hn : As.length = n) (hst : st0 = As.reverse ++ rv Z r :: rest) (hcat : (rest.map fun v => v.category).sum ≤ 8) (hdg : decode cc pc = .ok (.invokevirtual idx, 3))
    (kk : ∀ (H1 : Heap) (locs1 : List Loc), wd G Z u' A s.heap H1 locs1 → (∀ q : Nat, q < H.size → ¬ va_A (gm_ws G Z u) H.size q → H1[q]? = H[q]?) → W p l e R s m args below meth c H1 locs1 cells slots Q (F0 m (pc + 3) ls (res.toList ++ rest))) : W p l e R s m args below meth c H locs cells slots Q (F0 m pc ls st0) := by
  cases r with
  | zero => cases hs
  | succ r =>
    refine gm_goL (u := u) (rest := rest) (a := (rv Z (r + 1) :: As).toArray) (va_runV (As := As) (rest := rest) (b := Z.2.2 (r + 1)) ⟨C.1, C.2.1, C.2.2.1, C.2.2.2.1, C.2.2.2.2.1⟩ (hM H.size) ⟨gm_cb C cw hrc hrs hR, C.2.2.2.2.1 _ hin, C.2.2.2.2.1 _ hse⟩ ⟨gm_blind, va_recv C.2.2.2.2.2.1 hw.1 hc (gm_at hs), fun U hU hW => ⟨rfl, by rw [hU], by rw [hU]; exact hw.1, va_K.moved hW.alike C.2.2.2.2.2.1, hw.2.1.weaken (fun _ _ _ _ => trivial), C.2.2.2.2.2.2.2.2.go hw.2.2.1 (gm_sub hw) hW hU⟩⟩ rfl hn hl.1 hst (lv_room hcat) hdg hcs) rfl hw kk
end GL
theorem nI_addlit (i k : Nat) : nI i + nI k = nI (i + k) := nI_add i k
theorem lw_gt {i L : Nat} (hi : i < 4000) (hL : L ≤ 3584) : (Int32.ofNat L - 7 < nI i) ↔ L < i + 7 := by
  have h1 : (Int32.ofNat L - 7).toInt = (L : Int) - 7 := pk_sub_toInt (a := L) (b := 7) (by omega) (by omega)
  have h2 : (nI i).toInt = (i : Int) := nI_toInt (by omega)
  rw [Int32.lt_iff_toInt_lt, h1, h2]
  omega
theorem lw_in {i L k : Nat} (h : i + 7 ≤ L) (hL : L ≤ 3584) (hk : k < 7) : vp_in (nI i + nI k) L := by
  rw [nI_add]
  exact vp_in_nI (by omega) (by omega)
