theorem gm_dI {Z : gm_Z} {u : gm_M} {n r N : Nat} (h : gm_z n u) (hr : n < r) (cA : ClassId) : vp_cell cA (N, .inl (gI u r)) = arrV cA N (fun _ => .int 0) := by
  have : (fun j => Value.int (gI u r j)) = fun _ => .int 0 := by funext j; rw [(h r hr j).1]
  rw [vp_cell_i, this]
theorem gm_dJ {Z : gm_Z} {u : gm_M} {n r N : Nat} (h : gm_z n u) (hr : n < r) (cA : ClassId) : vp_cell cA (N, .inr (.inl (gJ u r))) = arrV cA N (fun _ => .long 0) := by
  have : (fun j => Value.long (gJ u r j)) = fun _ => .long 0 := by funext j; rw [(h r hr j).2.1]
  rw [vp_cell_l, this]
theorem gm_dR {Z : gm_Z} {u : gm_M} {n r N : Nat} (h : gm_z n u) (hr : n < r) (cA : ClassId) : vp_cell cA (N, .inr (.inr (.inr (.inr (fun j => gm_op Z (gR u r j)))))) = arrV cA N (fun _ => .null) := by
  have : (fun j => va_rf (gm_op Z (gR u r j))) = fun _ => .null := by funext j; rw [(h r hr j).2.2]; rfl
  rw [vp_cell_q, this]
section GN3
variable {p : Program} {l : Launch} {e : Env} {R : Room} {s : State} {m : MethodId} {args : Array Value} {below : List Frame} {meth : Method} {c : Code} {H : Heap} {locs : List Loc} {cells slots : Nat} {Q : State → Prop}
variable {cc : ByteArray} {nL : Nat} {own : String} {ret : Option FieldType} {pc : Nat} {ls : Array Slot} {rest st0 : List Value} {Z : gm_Z} {u : gm_M} {A : Nat → Prop} {G : gm_G}
theorem gm_topRS {x y : Nat} (e1 : y = x) (k : W p l e R s m args below meth c H locs cells slots Q (F0 m pc ls (rv Z y :: rest))) : W p l e R s m args below meth c H locs cells slots Q (F0 m pc ls (rv Z x :: rest)) := e1 ▸ k
/-- a Mark into the row of Marks -/
theorem gm_aast5 (C : gm_C p s m meth c args Z A cc nL own ret) (hw : wd G Z u A s.heap H locs) {r n q : Nat} (hs : gm_sh G r = some (.inr (5, n))) (hq : gm_sh G q = some (.inl 3)) {i : Int32} (hi : ib i n = true) {j : Nat} (hj : ix i = j) (hdg : decode cc pc = .ok (.aastore, 1))
    (kk : ∀ (H1 : Heap) (locs1 : List Loc), wd G Z (sR u r j q) A s.heap H1 locs1 → W p l e R s m args below meth c H1 locs1 cells slots Q (F0 m (pc + 1) ls rest)) : W p l e R s m args below meth c H locs cells slots Q (F0 m pc ls (rv Z q :: .int i :: rv Z r :: rest)) := by
  subst hj
  cases r with
  | zero => cases hs
  | succ r =>
    cases q with
    | zero => cases hq
    | succ q =>
      refine va_astq (D := Z.1) (n := n) (f := fun j => gm_op Z (gR u (r + 1) j)) C.1 C.2.1 C.2.2.2.2.2.1 hw.1 hw.2.1 hw.2.2.1 r 5 q 3 (gm_at hs) rfl (gm_at hq) rfl (ib_in hi) hdg (fun H1 locs1 h1 h2 h3 => ?_)
      have he := gm_set (Z := Z) (u := u) (v := sR u (r + 1) (ix i) (q + 1)) hs (x := .inl (Z.2.1 5, n, .inr (.inr (.inr (.inr (va_up (fun j => gm_op Z (gR u (r + 1) j)) i.toNatClampNeg (some (Z.2.2 (q + 1))))))))) (by
        show gm_ce G Z _ (r + 1) (.inr (5, n)) = _
        have hf : (fun j => gm_op Z (gR (sR u (r + 1) (ix i) (q + 1)) (r + 1) j)) = va_up (fun j => gm_op Z (gR u (r + 1) j)) i.toNatClampNeg (some (Z.2.2 (q + 1))) := by
          funext j
          by_cases hj : j = i.toNatClampNeg <;> simp [va_up, gR, sR, ix, hj, gm_op]
        simp only [gm_ce, gm_ar, hf]) (fun b hb => ⟨rfl, rfl, sR_ne hb⟩)
      rw [he] at h1 h2
      exact kk H1 locs1 ⟨h1, h2, h3, hw.2.2.2⟩
end GN3
