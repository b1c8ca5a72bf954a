section GM2
variable {p : Program} {l : Launch} {e : Env} {R : Room} {s : State} {m : MethodId} {args : Array Value} {below : List Frame} {meth : Method} {c : Code} {H : Heap} {locs : List Loc} {cells slots : Nat} {Q : State → Prop}
variable {cc : ByteArray} {nL : Nat} {own : String} {ret : Option FieldType} {pc : Nat} {ls : Array Slot} {rest : List Value} {G : gm_G} {Z : gm_Z} {u : gm_M} {A : Nat → Prop} {H0 : Heap}
theorem gm_putI (C : gm_C p s m meth c args Z A cc nL own ret) (hw : wd G Z u A H0 H locs) {r ci k idx : Nat} (hs : gm_sh G r = some (.inl ci)) (hf : gm_fl own idx ci k) (hp : gm_fp ci k .int) (hdg : decode cc pc = .ok (.putfield idx, 3)) (hk : G.1 ci k = 0)
    {v : Int32} (kk : ∀ (H1 : Heap) (locs1 : List Loc), wd G Z (sI u r k v) A H0 H1 locs1 → W p l e R s m args below meth c H1 locs1 cells slots Q (F0 m (pc + 3) ls rest)) : W p l e R s m args below meth c H locs cells slots Q (F0 m pc ls (.int v :: rv Z r :: rest)) :=
  gm_put (u' := sI u r k v) C hw hs hf hp hdg rfl rfl (by simp [gm_fv, hk, gI, sI]) (fun j hj => by simp [gm_fv, gI, gJ, gR, sI, hj]) (fun b hb => ⟨sI_ne hb, rfl, rfl⟩) kk
theorem gm_putZ (C : gm_C p s m meth c args Z A cc nL own ret) (hw : wd G Z u A H0 H locs) {r ci k idx : Nat} (hs : gm_sh G r = some (.inl ci)) (hf : gm_fl own idx ci k) (hp : gm_fp ci k .boolean) (hdg : decode cc pc = .ok (.putfield idx, 3)) (hk : G.1 ci k = 0)
    {v : Int32} (hv : v = 0 ∨ v = 1) (kk : ∀ (H1 : Heap) (locs1 : List Loc), wd G Z (sI u r k v) A H0 H1 locs1 → W p l e R s m args below meth c H1 locs1 cells slots Q (F0 m (pc + 3) ls rest)) : W p l e R s m args below meth c H locs cells slots Q (F0 m pc ls (.int v :: rv Z r :: rest)) :=
  gm_put (u' := sI u r k v) C hw hs hf hp hdg (by rcases hv with rfl | rfl <;> rfl) (by rcases hv with rfl | rfl <;> rfl) (by simp [gm_fv, hk, gI, sI]) (fun j hj => by simp [gm_fv, gI, gJ, gR, sI, hj]) (fun b hb => ⟨sI_ne hb, rfl, rfl⟩) kk
theorem gm_putJ (C : gm_C p s m meth c args Z A cc nL own ret) (hw : wd G Z u A H0 H locs) {r ci k idx : Nat} (hs : gm_sh G r = some (.inl ci)) (hf : gm_fl own idx ci k) (hp : gm_fp ci k .long) (hdg : decode cc pc = .ok (.putfield idx, 3)) (hk : G.1 ci k = 1)
    {v : Int64} (kk : ∀ (H1 : Heap) (locs1 : List Loc), wd G Z (sJ u r k v) A H0 H1 locs1 → W p l e R s m args below meth c H1 locs1 cells slots Q (F0 m (pc + 3) ls rest)) : W p l e R s m args below meth c H locs cells slots Q (F0 m pc ls (.long v :: rv Z r :: rest)) :=
  gm_put (u' := sJ u r k v) C hw hs hf hp hdg rfl rfl (by simp [gm_fv, hk, gJ, sJ]) (fun j hj => by simp [gm_fv, gI, gJ, gR, sJ, hj]) (fun b hb => ⟨rfl, sJ_ne hb, rfl⟩) kk
theorem gm_putR (C : gm_C p s m meth c args Z A cc nL own ret) (hw : wd G Z u A H0 H locs) {r ci k idx : Nat} (hs : gm_sh G r = some (.inl ci)) (hf : gm_fl own idx ci k) {cn : String} (hp : gm_fp ci k (.object cn)) (hdg : decode cc pc = .ok (.putfield idx, 3)) (hk : G.1 ci k = 2)
    {v : Nat} (kk : ∀ (H1 : Heap) (locs1 : List Loc), wd G Z (sR u r k v) A H0 H1 locs1 → W p l e R s m args below meth c H1 locs1 cells slots Q (F0 m (pc + 3) ls rest)) : W p l e R s m args below meth c H locs cells slots Q (F0 m pc ls (rv Z v :: rv Z r :: rest)) :=
  gm_put (u' := sR u r k v) C hw hs hf hp hdg (by cases v <;> rfl) (by cases v <;> rfl) (by simp [gm_fv, hk, gR, sR]) (fun j hj => by simp [gm_fv, gI, gJ, gR, sR, hj]) (fun b hb => ⟨rfl, rfl, sR_ne hb⟩) kk
/-! arrays -/
theorem gm_iald (C : gm_C p s m meth c args Z A cc nL own ret) (hw : wd G Z u A H0 H locs) {r n : Nat} (hs : gm_sh G r = some (.inr (0, n))) {i : Int32} (hi : ib i n = true) {j : Nat} (hj : ix i = j) (hdg : decode cc pc = .ok (.iaload, 1))
    (kk : W p l e R s m args below meth c H locs cells slots Q (F0 m (pc + 1) ls (.int (gI u r j) :: rest))) : W p l e R s m args below meth c H locs cells slots Q (F0 m pc ls (.int i :: rv Z r :: rest)) := by
  subst hj
  cases r with
  | zero => cases hs
  | succ r => exact va_iald (D := Z.1) (n := n) (f := gI u (r + 1)) C.1 C.2.1 C.2.2.2.2.2.1 hw.1 r 0 (gm_at hs) rfl (ib_in hi) hdg kk
theorem gm_zald (C : gm_C p s m meth c args Z A cc nL own ret) (hw : wd G Z u A H0 H locs) {r n : Nat} (hs : gm_sh G r = some (.inr (2, n))) {i : Int32} (hi : ib i n = true) {j : Nat} (hj : ix i = j) (hdg : decode cc pc = .ok (.baload, 1))
    (kk : W p l e R s m args below meth c H locs cells slots Q (F0 m (pc + 1) ls (.int (gI u r j) :: rest))) : W p l e R s m args below meth c H locs cells slots Q (F0 m pc ls (.int i :: rv Z r :: rest)) := by
  subst hj
  cases r with
  | zero => cases hs
  | succ r => exact va_zald (D := Z.1) (n := n) (f := gI u (r + 1)) C.1 C.2.1 C.2.2.2.2.2.1 hw.1 r 2 (gm_at hs) rfl (ib_in hi) hdg kk
theorem gm_cald (C : gm_C p s m meth c args Z A cc nL own ret) (hw : wd G Z u A H0 H locs) {r n : Nat} (hs : gm_sh G r = some (.inr (3, n))) {i : Int32} (hi : ib i n = true) {j : Nat} (hj : ix i = j) (hdg : decode cc pc = .ok (.caload, 1))
    (kk : W p l e R s m args below meth c H locs cells slots Q (F0 m (pc + 1) ls (.int (gI u r j) :: rest))) : W p l e R s m args below meth c H locs cells slots Q (F0 m pc ls (.int i :: rv Z r :: rest)) := by
  subst hj
  cases r with
  | zero => cases hs
  | succ r => exact va_cald (D := Z.1) (n := n) (f := gI u (r + 1)) C.1 C.2.1 C.2.2.2.2.2.1 hw.1 r 3 (gm_at hs) rfl (ib_in hi) hdg kk
theorem gm_lald (C : gm_C p s m meth c args Z A cc nL own ret) (hw : wd G Z u A H0 H locs) {r n : Nat} (hs : gm_sh G r = some (.inr (1, n))) {i : Int32} (hi : ib i n = true) {j : Nat} (hj : ix i = j) (hdg : decode cc pc = .ok (.laload, 1))
    (kk : W p l e R s m args below meth c H locs cells slots Q (F0 m (pc + 1) ls (.long (gJ u r j) :: rest))) : W p l e R s m args below meth c H locs cells slots Q (F0 m pc ls (.int i :: rv Z r :: rest)) := by
  subst hj
  cases r with
  | zero => cases hs
  | succ r => exact va_lald (D := Z.1) (n := n) (f := gJ u (r + 1)) C.1 C.2.1 C.2.2.2.2.2.1 hw.1 r 1 (gm_at hs) rfl (ib_in hi) hdg kk
theorem gm_aald4 (C : gm_C p s m meth c args Z A cc nL own ret) (hw : wd G Z u A H0 H locs) {r n : Nat} (hs : gm_sh G r = some (.inr (4, n))) {i : Int32} (hi : ib i n = true) {j : Nat} (hj : ix i = j) (hdg : decode cc pc = .ok (.aaload, 1))
    (kk : W p l e R s m args below meth c H locs cells slots Q (F0 m (pc + 1) ls (rv Z (gR u r j) :: rest))) : W p l e R s m args below meth c H locs cells slots Q (F0 m pc ls (.int i :: rv Z r :: rest)) := by
  subst hj
  cases r with
  | zero => cases hs
  | succ r => exact va_aldq (D := Z.1) (n := n) (f := fun j => gm_op Z (gR u (r + 1) j)) C.1 C.2.1 C.2.2.2.2.2.1 hw.1 r 4 (gm_at hs) rfl (ib_in hi) hdg (by rw [gm_rf_op]; exact kk)
theorem gm_aald5 (C : gm_C p s m meth c args Z A cc nL own ret) (hw : wd G Z u A H0 H locs) {r n : Nat} (hs : gm_sh G r = some (.inr (5, n))) {i : Int32} (hi : ib i n = true) {j : Nat} (hj : ix i = j) (hdg : decode cc pc = .ok (.aaload, 1))
    (kk : W p l e R s m args below meth c H locs cells slots Q (F0 m (pc + 1) ls (rv Z (gR u r j) :: rest))) : W p l e R s m args below meth c H locs cells slots Q (F0 m pc ls (.int i :: rv Z r :: rest)) := by
  subst hj
  cases r with
  | zero => cases hs
  | succ r => exact va_aldq (D := Z.1) (n := n) (f := fun j => gm_op Z (gR u (r + 1) j)) C.1 C.2.1 C.2.2.2.2.2.1 hw.1 r 5 (gm_at hs) rfl (ib_in hi) hdg (by rw [gm_rf_op]; exact kk)
theorem gm_iast (C : gm_C p s m meth c args Z A cc nL own ret) (hw : wd G Z u A H0 H locs) {r n : Nat} (hs : gm_sh G r = some (.inr (0, n))) {i x : Int32} (hi : ib i n = true) {j : Nat} (hj : ix i = j) (hdg : decode cc pc = .ok (.iastore, 1))
    (kk : ∀ (H1 : Heap) (locs1 : List Loc), wd G Z (sI u r j x) A H0 H1 locs1 → W p l e R s m args below meth c H1 locs1 cells slots Q (F0 m (pc + 1) ls rest)) : W p l e R s m args below meth c H locs cells slots Q (F0 m pc ls (.int x :: .int i :: rv Z r :: rest)) := by
  subst hj
  cases r with
  | zero => cases hs
  | succ r =>
    refine va_iast (D := Z.1) (n := n) (f := gI u (r + 1)) C.1 C.2.1 C.2.2.2.2.2.1 hw.1 hw.2.1 hw.2.2.1 r 0 (gm_at hs) rfl (ib_in hi) hdg (fun H1 locs1 h1 h2 h3 => ?_)
    have he := gm_set (Z := Z) (u := u) (v := sI u (r + 1) (ix i) x) hs (x := .inl (Z.2.1 0, n, .inl (upd (gI u (r + 1)) i.toNatClampNeg x))) (by show gm_ce G Z _ (r + 1) (.inr (0, n)) = _; simp only [gm_ce, gm_ar, sI_up]) (fun b hb => ⟨sI_ne hb, rfl, rfl⟩)
    rw [he] at h1 h2
    exact kk H1 locs1 ⟨h1, h2, h3, hw.2.2.2⟩
theorem gm_zast (C : gm_C p s m meth c args Z A cc nL own ret) (hw : wd G Z u A H0 H locs) {r n : Nat} (hs : gm_sh G r = some (.inr (2, n))) {i x : Int32} (hi : ib i n = true) {j : Nat} (hj : ix i = j) (hdg : decode cc pc = .ok (.bastore, 1))
    (kk : ∀ (H1 : Heap) (locs1 : List Loc), wd G Z (sI u r j (x &&& 1)) A H0 H1 locs1 → W p l e R s m args below meth c H1 locs1 cells slots Q (F0 m (pc + 1) ls rest)) : W p l e R s m args below meth c H locs cells slots Q (F0 m pc ls (.int x :: .int i :: rv Z r :: rest)) := by
  subst hj
  cases r with
  | zero => cases hs
  | succ r =>
    refine va_zast (D := Z.1) (n := n) (f := gI u (r + 1)) C.1 C.2.1 C.2.2.2.2.2.1 hw.1 hw.2.1 hw.2.2.1 r 2 (gm_at hs) rfl (ib_in hi) hdg (fun H1 locs1 h1 h2 h3 => ?_)
    have he := gm_set (Z := Z) (u := u) (v := sI u (r + 1) (ix i) (x &&& 1)) hs (x := .inl (Z.2.1 2, n, .inl (upd (gI u (r + 1)) i.toNatClampNeg (vp_nar .boolean x)))) (by show gm_ce G Z _ (r + 1) (.inr (2, n)) = _; simp only [gm_ce, gm_ar, sI_up]; rfl) (fun b hb => ⟨sI_ne hb, rfl, rfl⟩)
    rw [he] at h1 h2
    exact kk H1 locs1 ⟨h1, h2, h3, hw.2.2.2⟩
abbrev gm_ch (x : Int32) : Int32 := x.toUInt32.toUInt16.toUInt32.toInt32
theorem gm_cast (C : gm_C p s m meth c args Z A cc nL own ret) (hw : wd G Z u A H0 H locs) {r n : Nat} (hs : gm_sh G r = some (.inr (3, n))) {i x : Int32} (hi : ib i n = true) {j : Nat} (hj : ix i = j) (hdg : decode cc pc = .ok (.castore, 1))
    (kk : ∀ (H1 : Heap) (locs1 : List Loc), wd G Z (sI u r j (gm_ch x)) A H0 H1 locs1 → W p l e R s m args below meth c H1 locs1 cells slots Q (F0 m (pc + 1) ls rest)) : W p l e R s m args below meth c H locs cells slots Q (F0 m pc ls (.int x :: .int i :: rv Z r :: rest)) := by
  subst hj
  cases r with
  | zero => cases hs
  | succ r =>
    refine va_cast (D := Z.1) (n := n) (f := gI u (r + 1)) C.1 C.2.1 C.2.2.2.2.2.1 hw.1 hw.2.1 hw.2.2.1 r 3 (gm_at hs) rfl (ib_in hi) hdg (fun H1 locs1 h1 h2 h3 => ?_)
    have he := gm_set (Z := Z) (u := u) (v := sI u (r + 1) (ix i) (gm_ch x)) hs (x := .inl (Z.2.1 3, n, .inl (upd (gI u (r + 1)) i.toNatClampNeg (vp_nar .char x)))) (by show gm_ce G Z _ (r + 1) (.inr (3, n)) = _; simp only [gm_ce, gm_ar, sI_up]; rfl) (fun b hb => ⟨sI_ne hb, rfl, rfl⟩)
    rw [he] at h1 h2
    exact kk H1 locs1 ⟨h1, h2, h3, hw.2.2.2⟩
theorem gm_last (C : gm_C p s m meth c args Z A cc nL own ret) (hw : wd G Z u A H0 H locs) {r n : Nat} (hs : gm_sh G r = some (.inr (1, n))) {i : Int32} {x : Int64} (hi : ib i n = true) {j : Nat} (hj : ix i = j) (hdg : decode cc pc = .ok (.lastore, 1))
    (kk : ∀ (H1 : Heap) (locs1 : List Loc), wd G Z (sJ u r j x) A H0 H1 locs1 → W p l e R s m args below meth c H1 locs1 cells slots Q (F0 m (pc + 1) ls rest)) : W p l e R s m args below meth c H locs cells slots Q (F0 m pc ls (.long x :: .int i :: rv Z r :: rest)) := by
  subst hj
  cases r with
  | zero => cases hs
  | succ r =>
    refine va_last (D := Z.1) (n := n) (f := gJ u (r + 1)) C.1 C.2.1 C.2.2.2.2.2.1 hw.1 hw.2.1 hw.2.2.1 r 1 (gm_at hs) rfl (ib_in hi) hdg (fun H1 locs1 h1 h2 h3 => ?_)
    have he := gm_set (Z := Z) (u := u) (v := sJ u (r + 1) (ix i) x) hs (x := .inl (Z.2.1 1, n, .inr (.inl (vp_updL (gJ u (r + 1)) i.toNatClampNeg x)))) (by show gm_ce G Z _ (r + 1) (.inr (1, n)) = _; simp only [gm_ce, gm_ar, sJ_up]) (fun b hb => ⟨rfl, sJ_ne hb, rfl⟩)
    rw [he] at h1 h2
    exact kk H1 locs1 ⟨h1, h2, h3, hw.2.2.2⟩
/-- a Court into the row of Courts -/
theorem gm_aast (C : gm_C p s m meth c args Z A cc nL own ret) (hw : wd G Z u A H0 H locs) {r n q : Nat} (hs : gm_sh G r = some (.inr (4, n))) (hq : gm_sh G q = some (.inl 0)) {i : Int32} (hi : ib i n = true) {j : Nat} (hj : ix i = j) (hdg : decode cc pc = .ok (.aastore, 1))
    (kk : ∀ (H1 : Heap) (locs1 : List Loc), wd G Z (sR u r j q) A H0 H1 locs1 → W p l e R s m args below meth c H1 locs1 cells slots Q (F0 m (pc + 1) ls rest)) : W p l e R s m args below meth c H locs cells slots Q (F0 m pc ls (rv Z q :: .int i :: rv Z r :: rest)) := by
  subst hj
  cases r with
  | zero => cases hs
  | succ r =>
    cases q with
    | zero => cases hq
    | succ q =>
      refine va_astq (D := Z.1) (n := n) (f := fun j => gm_op Z (gR u (r + 1) j)) C.1 C.2.1 C.2.2.2.2.2.1 hw.1 hw.2.1 hw.2.2.1 r 4 q 0 (gm_at hs) rfl (gm_at hq) rfl (ib_in hi) hdg (fun H1 locs1 h1 h2 h3 => ?_)
      have he := gm_set (Z := Z) (u := u) (v := sR u (r + 1) (ix i) (q + 1)) hs (x := .inl (Z.2.1 4, n, .inr (.inr (.inr (.inr (va_up (fun j => gm_op Z (gR u (r + 1) j)) i.toNatClampNeg (some (Z.2.2 (q + 1))))))))) (by
        show gm_ce G Z _ (r + 1) (.inr (4, n)) = _
        have hf : (fun j => gm_op Z (gR (sR u (r + 1) (ix i) (q + 1)) (r + 1) j)) = va_up (fun j => gm_op Z (gR u (r + 1) j)) i.toNatClampNeg (some (Z.2.2 (q + 1))) := by
          funext j
          by_cases hj : j = i.toNatClampNeg <;> simp [va_up, gR, sR, ix, hj, gm_op]
        simp only [gm_ce, gm_ar, hf]) (fun b hb => ⟨rfl, rfl, sR_ne hb⟩)
      rw [he] at h1 h2
      exact kk H1 locs1 ⟨h1, h2, h3, hw.2.2.2⟩
theorem gm_alen (C : gm_C p s m meth c args Z A cc nL own ret) (hw : wd G Z u A H0 H locs) {r t n : Nat} (hs : gm_sh G r = some (.inr (t, n))) (ht : t < 6) {v : Int32} (hv : Int32.ofNat n = v) (hdg : decode cc pc = .ok (.arraylength, 1))
    (kk : W p l e R s m args below meth c H locs cells slots Q (F0 m (pc + 1) ls (.int v :: rest))) : W p l e R s m args below meth c H locs cells slots Q (F0 m pc ls (rv Z r :: rest)) := by
  cases r with
  | zero => cases hs
  | succ r =>
    obtain ⟨ty, hty⟩ : ∃ ty, (gm_tys Z)[t]? = some (Z.2.1 t, ty) := by
      match t, ht with
      | 0, _ => exact ⟨_, rfl⟩
      | 1, _ => exact ⟨_, rfl⟩
      | 2, _ => exact ⟨_, rfl⟩
      | 3, _ => exact ⟨_, rfl⟩
      | 4, _ => exact ⟨_, rfl⟩
      | 5, _ => exact ⟨_, rfl⟩
    exact va_alen (D := Z.1) C.1 C.2.1 C.2.2.2.2.2.1 hw.1 r t (gm_at hs) hty hv hdg kk
end GM2
