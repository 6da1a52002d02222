/-! ===== layer 3: the model's sums over the sleeves ===== -/
theorem X7_wanted {κ : jKt} {m s l : Nat} (hG : GR (mv κ m)) (hs : s < nn (mv κ m) 1) (hl : l < 17) : P_X7_wanted κ m (oN s) (oN l) = some (mv κ m (13 + 17 * nn (mv κ m) (98 + 60 * s) + l)) := by
  obtain ⟨g0, g1, g2, g3⟩ := hG
  have hs6 : s < 6 := by have := g1.2.2; omega
  obtain ⟨w1, w2, -⟩ := g3 s hs
  unfold P_X7_wanted
  rw [show (1 : Int32) = oN 1 from rfl, X7_of, bd_s, ck_t ((oN_jin (by omega)).mpr (by omega)), oN_ix (by omega)]
  have e : kI κ (kR κ m 5) (97 + 60 * s + 1) = oN (nn (mv κ m) (98 + 60 * s)) := by
    rw [← w1.1]
    unfold mv
    rw [show 97 + 60 * s + 1 = 98 + 60 * s by omega]
  rw [e, X7_leg (by have := w1.2.2; omega) hl, bd_s]
theorem X7_cloth {κ : jKt} {m s : Nat} (hG : GR (mv κ m)) (hs : s < nn (mv κ m) 1) : P_X7_cloth κ m (oN s) = some (sm (fun l => if mv κ m (101 + 60 * s + l) = 0 then 0 else mv κ m (117 + 60 * s + l) + 2) 0 (sl (mv κ m) s) 0) := by
  have h6 : s < 6 := by have := hG.2.1.2.2; omega
  obtain ⟨hsl, h16, -⟩ := X7_sleeves hG hs
  have L : ∀ (k i f : Nat) (acc : Int32), i + k = sl (mv κ m) s → k < f → P_X7_cloth_4 κ m (oN s) f acc (oN i) = some (sm (fun l => if mv κ m (101 + 60 * s + l) = 0 then 0 else mv κ m (117 + 60 * s + l) + 2) i k acc) := by
    intro k
    induction k with
    | zero =>
      intro i f acc h1 h2
      obtain ⟨f, rfl⟩ : ∃ g, f = g + 1 := ⟨f - 1, by omega⟩
      rw [P_X7_cloth_4, hsl, bd_s, if_pos ((oN_le (by omega) (by omega)).mpr (by omega))]
      rfl
    | succ k ih =>
      intro i f acc h1 h2
      obtain ⟨f, rfl⟩ : ∃ g, f = g + 1 := ⟨f - 1, by omega⟩
      rw [P_X7_cloth_4, hsl, bd_s, if_neg (fun h => by have := (oN_le (by omega) (by omega)).mp h; omega), X7_state h6 (by omega), bd_s, sm]
      by_cases hp : mv κ m (101 + 60 * s + i) = 0
      · rw [if_pos hp, show (1 : Int32) = oN 1 from rfl, oN_add, ih _ _ _ (by omega) (by omega)]
        simp only [hp, if_true]
      · rw [if_neg hp, X7_own h6 (by omega), bd_s, show (1 : Int32) = oN 1 from rfl, oN_add, ih _ _ _ (by omega) (by omega)]
        simp only [hp, if_false]
  exact L _ 0 4000 0 (by omega) (by omega)
theorem X7_worth {κ : jKt} {m s : Nat} (hG : GR (mv κ m)) (hs : s < nn (mv κ m) 1) : P_X7_worth κ m (oN s) = some (sm (fun l => if mv κ m (101 + 60 * s + l) = 0 then mv κ m (13 + 17 * nn (mv κ m) (98 + 60 * s) + l) else mv κ m (117 + 60 * s + l)) 0 (sl (mv κ m) s) (3 * mv κ m (100 + 60 * s))) := by
  have h6 : s < 6 := by have := hG.2.1.2.2; omega
  obtain ⟨hsl, h16, -⟩ := X7_sleeves hG hs
  have L : ∀ (k i f : Nat) (acc : Int32), i + k = sl (mv κ m) s → k < f → P_X7_worth_15 κ m (oN s) f acc (oN i) = some (sm (fun l => if mv κ m (101 + 60 * s + l) = 0 then mv κ m (13 + 17 * nn (mv κ m) (98 + 60 * s) + l) else mv κ m (117 + 60 * s + l)) i k acc) := by
    intro k
    induction k with
    | zero =>
      intro i f acc h1 h2
      obtain ⟨f, rfl⟩ : ∃ g, f = g + 1 := ⟨f - 1, by omega⟩
      rw [P_X7_worth_15, hsl, bd_s, if_pos ((oN_le (by omega) (by omega)).mpr (by omega))]
      rfl
    | succ k ih =>
      intro i f acc h1 h2
      obtain ⟨f, rfl⟩ : ∃ g, f = g + 1 := ⟨f - 1, by omega⟩
      rw [P_X7_worth_15, hsl, bd_s, if_neg (fun h => by have := (oN_le (by omega) (by omega)).mp h; omega), X7_state h6 (by omega), bd_s, sm]
      by_cases hp : mv κ m (101 + 60 * s + i) = 0
      · rw [if_pos hp, X7_wanted hG hs (by omega), bd_s, show (1 : Int32) = oN 1 from rfl, oN_add, ih _ _ _ (by omega) (by omega)]
        simp only [hp, if_true]
      · rw [if_neg hp, X7_own h6 (by omega), bd_s, show (1 : Int32) = oN 1 from rfl, oN_add, ih _ _ _ (by omega) (by omega)]
        simp only [hp, if_false]
  have hof : P_X7_of κ (oN s) 3 = some (oN (97 + 60 * s + 3)) := X7_of κ s 3
  unfold P_X7_worth
  rw [hof, bd_s, ck_t ((oN_jin (by omega)).mpr (by omega)), oN_ix (by omega), bnd_e, show kI κ (kR κ m 5) (97 + 60 * s + 3) = mv κ m (100 + 60 * s) by unfold mv; rw [show 97 + 60 * s + 3 = 100 + 60 * s by omega]]
  exact L _ 0 4000 _ (by omega) (by omega)
theorem X7_needs {κ : jKt} {m s : Nat} (hG : GR (mv κ m)) (hs : s < nn (mv κ m) 1) : P_X7_clothNeeded_37 m (oN s) 4000 κ 0 0 = some (sm (fun l => if mv κ m (101 + 60 * s + l) = 0 then mv κ m (13 + 17 * nn (mv κ m) (98 + 60 * s) + l) + 2 else 0) 0 (sl (mv κ m) s) 0, κ) := by
  have h6 : s < 6 := by have := hG.2.1.2.2; omega
  obtain ⟨hsl, h16, -⟩ := X7_sleeves hG hs
  have L : ∀ (k i f : Nat) (acc : Int32), i + k = sl (mv κ m) s → k < f → P_X7_clothNeeded_37 m (oN s) f κ acc (oN i) = some (sm (fun l => if mv κ m (101 + 60 * s + l) = 0 then mv κ m (13 + 17 * nn (mv κ m) (98 + 60 * s) + l) + 2 else 0) i k acc, κ) := by
    intro k
    induction k with
    | zero =>
      intro i f acc h1 h2
      obtain ⟨f, rfl⟩ : ∃ g, f = g + 1 := ⟨f - 1, by omega⟩
      rw [P_X7_clothNeeded_37, hsl, bd_s, if_pos ((oN_le (by omega) (by omega)).mpr (by omega))]
      rfl
    | succ k ih =>
      intro i f acc h1 h2
      obtain ⟨f, rfl⟩ : ∃ g, f = g + 1 := ⟨f - 1, by omega⟩
      rw [P_X7_clothNeeded_37, hsl, bd_s, if_neg (fun h => by have := (oN_le (by omega) (by omega)).mp h; omega), X7_state h6 (by omega), bd_s, sm]
      by_cases hp : mv κ m (101 + 60 * s + i) = 0
      · rw [if_pos hp, X7_wanted hG hs (by omega), bd_s, show (1 : Int32) = oN 1 from rfl, oN_add, ih _ _ _ (by omega) (by omega)]
        simp only [hp, if_true]
      · rw [if_neg hp, show (1 : Int32) = oN 1 from rfl, oN_add, ih _ _ _ (by omega) (by omega)]
        simp only [hp, if_false]
  exact L _ 0 4000 0 (by omega) (by omega)
theorem X7_count {κ : jKt} {m s : Nat} (hG : GR (mv κ m)) (hs : s < nn (mv κ m) 1) (x : Int32) : P_X7_count κ m (oN s) x = some (sm (fun l => if mv κ m (101 + 60 * s + l) = x then 1 else 0) 0 (sl (mv κ m) s) 0) := by
  have h6 : s < 6 := by have := hG.2.1.2.2; omega
  obtain ⟨hsl, h16, -⟩ := X7_sleeves hG hs
  have L : ∀ (k i f : Nat) (acc : Int32), i + k = sl (mv κ m) s → k < f → P_X7_count_5 κ m (oN s) x f acc (oN i) = some (sm (fun l => if mv κ m (101 + 60 * s + l) = x then 1 else 0) i k acc) := by
    intro k
    induction k with
    | zero =>
      intro i f acc h1 h2
      obtain ⟨f, rfl⟩ : ∃ g, f = g + 1 := ⟨f - 1, by omega⟩
      rw [P_X7_count_5, hsl, bd_s, if_pos ((oN_le (by omega) (by omega)).mpr (by omega))]
      rfl
    | succ k ih =>
      intro i f acc h1 h2
      obtain ⟨f, rfl⟩ : ∃ g, f = g + 1 := ⟨f - 1, by omega⟩
      have e1 : (oN i + 1 : Int32) = oN (i + 1) := oN_add i 1
      rw [P_X7_count_5, hsl, bd_s, if_neg (fun h => by have := (oN_le (by omega) (by omega)).mp h; omega), X7_state h6 (by omega), bd_s, sm, e1]
      by_cases hp : mv κ m (101 + 60 * s + i) = x
      · rw [if_pos hp, ih _ _ _ (by omega) (by omega)]
        simp only [hp, if_true]
      · rw [if_neg hp, ih _ _ _ (by omega) (by omega)]
        simp only [hp, if_false]
  exact L _ 0 4000 0 (by omega) (by omega)
