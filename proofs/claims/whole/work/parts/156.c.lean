def R0 : pR := ([], 1896, 10, 70, fun s _ _ _ => s)
theorem R0_g : gR1 R0 ∧ gNm R0 := ⟨⟨by show 0 ≤ 6; omega, ⟨by show 1 ≤ 1896; omega, by show 1896 ≤ 3000; omega⟩, ⟨by show 1 ≤ 10; omega, by show 10 ≤ 40; omega⟩, ⟨by show 1 ≤ 70; omega, by show 70 ≤ 120; omega⟩, fun p hp => absurd hp (Nat.not_lt_zero p)⟩, ⟨fun p hp => absurd hp (Nat.not_lt_zero p), fun p q hp => absurd hp (Nat.not_lt_zero p)⟩⟩
