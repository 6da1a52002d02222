/-! ===== layer 3: runScript (open) ===== -/
theorem l_runScript {ad : Nat → Nat} {κ : jKt} {K : Nat} (hi : ∀ a b, ad a = ad b → a = b) (hI : INV ad κ K) (hK : K < 2 ^ 30) : LSt ad (K + 64) (P_L_runScript κ (ad 0) (ad 40)) (fun κ1 => P_X7_runScript κ1 (ad 20)) := sorry
