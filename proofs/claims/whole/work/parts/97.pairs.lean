/-! ===== layer 3: a customer's pairs are even (class side) ===== -/
theorem X0_hasEvenPairs {κ : jKt} {a n q : Nat} (hn : kI κ a 0 = oN n) (h16 : n ≤ 16) (hq : n = 2 * q) : isB (P_X0_hasEvenPairs κ a) (∀ u, u < q → jabs (cLg κ a (2 * u) - cLg κ a (2 * u + 1)) ≤ 1) := by
  have L : ∀ (k t f : Nat), t + k = q → k < f → isB (P_X0_hasEvenPairs_2 κ a f (oN (2 * t))) (∀ u, t ≤ u → u < q → jabs (cLg κ a (2 * u) - cLg κ a (2 * u + 1)) ≤ 1) := by
    intro k
    induction k with
    | zero =>
      intro t f h1 h2
      obtain ⟨f, rfl⟩ : ∃ g, f = g + 1 := ⟨f - 1, by omega⟩
      have e1 : (oN (2 * t) + 1 : Int32) = oN (2 * t + 1) := oN_add _ 1
      rw [P_X0_hasEvenPairs_2, hn, e1, if_pos ((oN_le (by omega) (by omega)).mpr (by omega))]
      exact ⟨1, rfl, Or.inl ⟨rfl, fun l h1 h2 => by omega⟩⟩
    | succ k ih =>
      intro t f h1 h2
      obtain ⟨f, rfl⟩ : ∃ g, f = g + 1 := ⟨f - 1, by omega⟩
      have e1 : (oN (2 * t) + 1 : Int32) = oN (2 * t + 1) := oN_add _ 1
      have e2 : (oN (2 * t) + 2 : Int32) = oN (2 * (t + 1)) := oN_add _ 2
      rw [P_X0_hasEvenPairs_2, hn, e1, e2, if_neg (fun h => by have := (oN_le (by omega) (by omega)).mp h; omega), ck_t ((oN_jin (by omega)).mpr (by omega)), ck_t ((oN_jin (by omega)).mpr (by omega)), oN_ix (by omega), oN_ix (by omega)]
      by_cases hj : jabs (cLg κ a (2 * t) - cLg κ a (2 * t + 1)) ≤ 1
      · rw [if_pos hj]
        refine isB_c (ih (t + 1) f (by omega) (by omega)) ⟨fun g u h5 h6 => ?_, fun g u h5 h6 => g u (by omega) h6⟩
        by_cases e : u = t
        · rw [e]; exact hj
        · exact g u (by omega) h6
      · rw [if_neg hj]
        exact ⟨0, rfl, Or.inr ⟨rfl, fun g => hj (g t (Nat.le_refl _) (by omega))⟩⟩
  exact isB_c (L q 0 4000 (by omega) (by omega)) ⟨fun g l h => g l (by omega) h, fun g l _ h => g l h⟩
