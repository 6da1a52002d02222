/-! ===== layer 3: needed by a sewn sleeve; a cycle (class side) ===== -/
theorem X4_hasDemand {κ : jKt} {a x y : Nat} (hx : x < 32) (hy : y < 16) : P_X4_hasDemand κ a (oN x) (oN y) = some (if bt (sDm κ a y) x = true then 1 else 0) := by
  unfold P_X4_hasDemand
  rw [ck_t ((oN_jin (by omega)).mpr hy), oN_ix (by omega), X4_contains hx, bd_s]
  by_cases h : bt (sDm κ a y) x = true
  · rw [if_pos h]; rfl
  · rw [if_neg h]; rfl
theorem X4_isNeededBySewn {κ : jKt} {a n x : Nat} (hn : kI κ a 3 = oN n) (h16 : n ≤ 16) (hx : x < 32) : isB (P_X4_isNeededBySewn κ a (oN x)) (∃ l, l < n ∧ sSt κ a l = 115 ∧ bt (sDm κ a l) x = true) := by
  have L : ∀ (k i f : Nat), i + k = n → k < f → isB (P_X4_isNeededBySewn_2 κ a (oN x) f (oN i)) (∃ l, i ≤ l ∧ l < n ∧ sSt κ a l = 115 ∧ bt (sDm κ a l) x = true) := by
    intro k
    induction k with
    | zero =>
      intro i f h1 h2
      obtain ⟨f, rfl⟩ : ∃ g, f = g + 1 := ⟨f - 1, by omega⟩
      rw [P_X4_isNeededBySewn_2, hn, if_pos ((oN_le (by omega) (by omega)).mpr (by omega))]
      refine ⟨0, rfl, Or.inr ⟨rfl, ?_⟩⟩
      rintro ⟨l, h3, h4, -⟩
      omega
    | succ k ih =>
      intro i f h1 h2
      obtain ⟨f, rfl⟩ : ∃ g, f = g + 1 := ⟨f - 1, by omega⟩
      have e1 : (oN i + 1 : Int32) = oN (i + 1) := oN_add i 1
      have skip : ¬ (sSt κ a i = 115 ∧ bt (sDm κ a i) x = true) → isB (P_X4_isNeededBySewn_2 κ a (oN x) f (oN (i + 1))) (∃ l, i ≤ l ∧ l < n ∧ sSt κ a l = 115 ∧ bt (sDm κ a l) x = true) := by
        intro hno
        refine isB_c (ih (i + 1) f (by omega) (by omega)) ⟨?_, ?_⟩
        · rintro ⟨l, h3, h4⟩; exact ⟨l, by omega, h4⟩
        · rintro ⟨l, h3, h4, h5⟩
          by_cases e : l = i
          · rw [e] at h5; exact absurd h5 hno
          · exact ⟨l, by omega, h4, h5⟩
      rw [P_X4_isNeededBySewn_2, hn, if_neg (fun h => by have := (oN_le (by omega) (by omega)).mp h; omega), X4_isSewn (by omega), bd_s, e1]
      by_cases hs : sSt κ a i = 115
      · rw [if_pos hs, if_neg (by decide), X4_hasDemand hx (by omega), bd_s]
        by_cases hb : bt (sDm κ a i) x = true
        · rw [if_pos hb, if_neg (by decide)]
          exact ⟨1, rfl, Or.inl ⟨rfl, i, Nat.le_refl _, by omega, hs, hb⟩⟩
        · rw [if_neg hb, if_pos rfl]
          exact skip (fun g => hb g.2)
      · rw [if_neg hs, if_pos rfl]
        exact skip (fun g => hs g.1)
  refine isB_c (L n 0 4000 (by omega) (by omega)) ⟨?_, ?_⟩
  · rintro ⟨l, -, h⟩; exact ⟨l, h⟩
  · rintro ⟨l, h⟩; exact ⟨l, Nat.zero_le _, h⟩
theorem X4_hasCycle {κ : jKt} {a n : Nat} (hn : kI κ a 3 = oN n) (h16 : n ≤ 16) (hD : ∀ l j, l < n → j < 32 → bt (sDm κ a l) j = true → j < n) : isB (P_X4_hasCycle κ a) (∃ l, l < n ∧ bfr κ a n l l) := by
  have L : ∀ (k i f : Nat), i + k = n → k < f → isB (P_X4_hasCycle_2 κ a f (oN i)) (∃ l, i ≤ l ∧ l < n ∧ bfr κ a n l l) := by
    intro k
    induction k with
    | zero =>
      intro i f h1 h2
      obtain ⟨f, rfl⟩ : ∃ g, f = g + 1 := ⟨f - 1, by omega⟩
      rw [P_X4_hasCycle_2, hn, if_pos ((oN_le (by omega) (by omega)).mpr (by omega))]
      refine ⟨0, rfl, Or.inr ⟨rfl, ?_⟩⟩
      rintro ⟨l, h3, h4, -⟩
      omega
    | succ k ih =>
      intro i f h1 h2
      obtain ⟨f, rfl⟩ : ∃ g, f = g + 1 := ⟨f - 1, by omega⟩
      have e1 : (oN i + 1 : Int32) = oN (i + 1) := oN_add i 1
      obtain ⟨r, r1, r2, r3⟩ := X4_comesBefore (x := i) hn h16 hD (by omega : i < n) (by omega)
      rw [P_X4_hasCycle_2, hn, if_neg (fun h => by have := (oN_le (by omega) (by omega)).mp h; omega), r1, bd_s, e1]
      rcases r2 with r2 | r2
      · rw [r2, if_pos rfl]
        refine isB_c (ih (i + 1) f (by omega) (by omega)) ⟨?_, ?_⟩
        · rintro ⟨l, h3, h4⟩; exact ⟨l, by omega, h4⟩
        · rintro ⟨l, h3, h4, h5⟩
          by_cases e : l = i
          · rw [e] at h5
            have := r3.mpr h5
            rw [r2] at this
            exact absurd this (by decide)
          · exact ⟨l, by omega, h4, h5⟩
      · rw [r2, if_neg (by decide)]
        exact ⟨1, rfl, Or.inl ⟨rfl, i, Nat.le_refl _, by omega, r3.mp r2⟩⟩
  refine isB_c (L n 0 4000 (by omega) (by omega)) ⟨?_, ?_⟩
  · rintro ⟨l, -, h⟩; exact ⟨l, h⟩
  · rintro ⟨l, h⟩; exact ⟨l, Nat.zero_le _, h⟩
