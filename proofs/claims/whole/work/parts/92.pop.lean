/-! ===== layer 3: how many bits are set ===== -/
def popS (x : Int32) : Int32 :=
  let y17 := x - ((iushr x 1) &&& 1431655765)
  let y19 := (y17 &&& 858993459) + ((iushr y17 2) &&& 858993459)
  let y21 := (y19 + (iushr y19 4)) &&& 252645135
  let y23 := (y21 + (iushr y21 8)) + (iushr (y21 + (iushr y21 8)) 16)
  y23 &&& 63
theorem J6_pop (κ : jKt) (x : Int32) : P_J6_bitCount_0f7a4 κ x = some (popS x) := rfl
def pcn : Nat → Nat → Nat
  | 0, _ => 0
  | n + 1, x => x % 2 + pcn n (x / 2)
theorem pop_0 : ∀ a, a < 64 → ∀ b, b < 128 → popS (oN (8192 * 0 + 128 * a + b)) = oN (pcn 16 (8192 * 0 + 128 * a + b)) := by decide +kernel
theorem pop_1 : ∀ a, a < 64 → ∀ b, b < 128 → popS (oN (8192 * 1 + 128 * a + b)) = oN (pcn 16 (8192 * 1 + 128 * a + b)) := by decide +kernel
theorem pop_2 : ∀ a, a < 64 → ∀ b, b < 128 → popS (oN (8192 * 2 + 128 * a + b)) = oN (pcn 16 (8192 * 2 + 128 * a + b)) := by decide +kernel
theorem pop_3 : ∀ a, a < 64 → ∀ b, b < 128 → popS (oN (8192 * 3 + 128 * a + b)) = oN (pcn 16 (8192 * 3 + 128 * a + b)) := by decide +kernel
theorem pop_4 : ∀ a, a < 64 → ∀ b, b < 128 → popS (oN (8192 * 4 + 128 * a + b)) = oN (pcn 16 (8192 * 4 + 128 * a + b)) := by decide +kernel
theorem pop_5 : ∀ a, a < 64 → ∀ b, b < 128 → popS (oN (8192 * 5 + 128 * a + b)) = oN (pcn 16 (8192 * 5 + 128 * a + b)) := by decide +kernel
theorem pop_6 : ∀ a, a < 64 → ∀ b, b < 128 → popS (oN (8192 * 6 + 128 * a + b)) = oN (pcn 16 (8192 * 6 + 128 * a + b)) := by decide +kernel
theorem pop_7 : ∀ a, a < 64 → ∀ b, b < 128 → popS (oN (8192 * 7 + 128 * a + b)) = oN (pcn 16 (8192 * 7 + 128 * a + b)) := by decide +kernel
