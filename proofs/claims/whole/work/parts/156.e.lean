theorem RP_0 : RP 0 [(-1 : Int32)] (fun s _ _ _ => s) := by
  have := RP_fct (H := 0) (k := 1) (by omega) (by omega) (by omega)
  rw [show (-1 : Int32) - (nI (1 + 18) - (19 : Int32)) = (-1 : Int32) by decide] at this
  exact this
theorem lw_C {uC uM : gm_M} {a : Nat} {b : Bool} {ev : pEv} (h : lwD uC uM a b ev) : lawC uC a ev := by
  rcases h with ⟨-, h2, h3, -, -, -, h7⟩ | ⟨-, rs, cs, h2, h3, h4, h5, -⟩
  · rw [h7]
    refine c_worth (rs := [(-1 : Int32)]) h2 (by simp) (fun i c hc => ?_) RP_0
    cases i with
    | zero =>
      simp only [List.getElem?_cons_zero, Option.some.injEq] at hc
      rw [h3, hc]
    | succ i => simp at hc
  · exact c_worth h2 h3 h4 h5
