/-! ===== layer 3: the sleeves free to be sewn; a suit sewn in order (class side) ===== -/
theorem X4_freeSleeves {κ : jKt} {a n : Nat} (hn : kI κ a 3 = oN n) (h16 : n ≤ 16) (S : Int32) : ∃ R, P_X4_freeSleeves κ a S = some R ∧ ∀ j, j < 32 → (bt R j = true ↔ j < n ∧ bt S j = false ∧ ¬ ∃ f, f < 32 ∧ bt (sDm κ a j) f = true ∧ bt S f = false) := by
  have L : ∀ (k i f : Nat) (acc : Int32), i + k = n → k < f → ∃ R, P_X4_freeSleeves_4 κ a S f acc (oN i) = some R ∧ ∀ j, j < 32 → (bt R j = true ↔ bt acc j = true ∨ (i ≤ j ∧ j < n ∧ bt S j = false ∧ ¬ ∃ f, f < 32 ∧ bt (sDm κ a j) f = true ∧ bt S f = false)) := by
    intro k
    induction k with
    | zero =>
      intro i f acc h1 h2
      obtain ⟨f, rfl⟩ : ∃ g, f = g + 1 := ⟨f - 1, by omega⟩
      refine ⟨acc, ?_, fun j hj => ⟨Or.inl, ?_⟩⟩
      · rw [P_X4_freeSleeves_4, hn, if_pos ((oN_le (by omega) (by omega)).mpr (by omega))]
      · rintro (h | ⟨h3, h4, -⟩)
        · exact h
        · omega
    | succ k ih =>
      intro i f acc h1 h2
      obtain ⟨f, rfl⟩ : ∃ g, f = g + 1 := ⟨f - 1, by omega⟩
      have e1 : (oN i + 1 : Int32) = oN (i + 1) := oN_add i 1
      have skip : ¬ (bt S i = false ∧ ¬ ∃ f, f < 32 ∧ bt (sDm κ a i) f = true ∧ bt S f = false) → ∃ R, P_X4_freeSleeves_4 κ a S f acc (oN (i + 1)) = some R ∧ ∀ j, j < 32 → (bt R j = true ↔ bt acc j = true ∨ (i ≤ j ∧ j < n ∧ bt S j = false ∧ ¬ ∃ f, f < 32 ∧ bt (sDm κ a j) f = true ∧ bt S f = false)) := by
        intro hno
        obtain ⟨R, r1, r2⟩ := ih (i + 1) f acc (by omega) (by omega)
        refine ⟨R, r1, fun j hj => ?_⟩
        rw [r2 j hj]
        constructor
        · rintro (h | ⟨h3, h4⟩)
          · exact Or.inl h
          · exact Or.inr ⟨by omega, h4⟩
        · rintro (h | ⟨h3, h4, h5⟩)
          · exact Or.inl h
          · by_cases e : j = i
            · rw [e] at h5; exact absurd h5 hno
            · exact Or.inr ⟨by omega, h4, h5⟩
      obtain ⟨x, x1, x2⟩ := X4_isHeldBack (κ := κ) (a := a) (l := i) (by omega) S
      rw [P_X4_freeSleeves_4, hn, if_neg (fun h => by have := (oN_le (by omega) (by omega)).mp h; omega), X4_contains (by omega), bd_s, e1]
      by_cases hb : bt S i = true
      · rw [if_pos hb, if_neg (by decide)]
        exact skip (fun g => by rw [g.1] at hb; cases hb)
      · have hbf : bt S i = false := by cases h : bt S i
                                        · rfl
                                        · exact absurd h hb
        rw [if_neg hb, if_pos rfl, x1, bd_s]
        rcases x2 with ⟨y1, y2⟩ | ⟨y1, y2⟩
        · rw [y1, if_neg (by decide)]
          exact skip (fun g => g.2 y2)
        · rw [y1, if_pos rfl]
          obtain ⟨R, r1, r2⟩ := ih (i + 1) f (acc ||| (1 <<< (oN i &&& 31))) (by omega) (by omega)
          refine ⟨R, r1, fun j hj => ?_⟩
          rw [r2 j hj, b_or, b_bit (by omega) hj, Bool.or_eq_true, decide_eq_true_iff]
          constructor
          · rintro ((h | h) | ⟨h3, h4⟩)
            · exact Or.inl h
            · rw [h]; exact Or.inr ⟨Nat.le_refl _, by omega, hbf, y2⟩
            · exact Or.inr ⟨by omega, h4⟩
          · rintro (h | ⟨h3, h4, h5⟩)
            · exact Or.inl (Or.inl h)
            · by_cases e : j = i
              · exact Or.inl (Or.inr e)
              · exact Or.inr ⟨by omega, h4, h5⟩
  obtain ⟨R, r1, r2⟩ := L n 0 4000 0 (by omega) (by omega)
  refine ⟨R, r1, fun j hj => ?_⟩
  rw [r2 j hj, b_0]
  constructor
  · rintro (h | ⟨-, h⟩)
    · cases h
    · exact h
  · intro h; exact Or.inr ⟨Nat.zero_le _, h⟩
theorem X4_isSewnInOrder {κ : jKt} {a n : Nat} (hn : kI κ a 3 = oN n) (h16 : n ≤ 16) (hD : ∀ l j, l < n → j < 32 → bt (sDm κ a l) j = true → j < n) : isB (P_X4_isSewnInOrder κ a) (∀ l f, l < n → sSt κ a l = 115 → f < 32 → bt (sDm κ a l) f = true → sSt κ a f = 115) := by
  obtain ⟨S, s1, s2⟩ := X4_sewnSet hn h16
  have L : ∀ (k i f : Nat), i + k = n → k < f → isB (P_X4_isSewnInOrder_7 κ a S f (oN i)) (∀ l g, i ≤ l → l < n → sSt κ a l = 115 → g < 32 → bt (sDm κ a l) g = true → sSt κ a g = 115) := by
    intro k
    induction k with
    | zero =>
      intro i f h1 h2
      obtain ⟨f, rfl⟩ : ∃ g, f = g + 1 := ⟨f - 1, by omega⟩
      rw [P_X4_isSewnInOrder_7, hn, if_pos ((oN_le (by omega) (by omega)).mpr (by omega))]
      exact ⟨1, rfl, Or.inl ⟨rfl, fun l g h1 h2 => by omega⟩⟩
    | succ k ih =>
      intro i f h1 h2
      obtain ⟨f, rfl⟩ : ∃ g, f = g + 1 := ⟨f - 1, by omega⟩
      have e1 : (oN i + 1 : Int32) = oN (i + 1) := oN_add i 1
      have skip : (sSt κ a i = 115 → ∀ g, g < 32 → bt (sDm κ a i) g = true → sSt κ a g = 115) → isB (P_X4_isSewnInOrder_7 κ a S f (oN (i + 1))) (∀ l g, i ≤ l → l < n → sSt κ a l = 115 → g < 32 → bt (sDm κ a l) g = true → sSt κ a g = 115) := by
        intro hy
        refine isB_c (ih (i + 1) f (by omega) (by omega)) ⟨fun q l g h3 h4 h5 h6 h7 => ?_, fun q l g h3 h4 h5 h6 h7 => q l g (by omega) h4 h5 h6 h7⟩
        by_cases e : l = i
        · rw [e] at h5 h7; exact hy h5 g h6 h7
        · exact q l g (by omega) h4 h5 h6 h7
      obtain ⟨x, x1, x2⟩ := X4_isHeldBack (κ := κ) (a := a) (l := i) (by omega) S
      rw [P_X4_isSewnInOrder_7, hn, if_neg (fun h => by have := (oN_le (by omega) (by omega)).mp h; omega), X4_isSewn (by omega), bd_s, e1]
      by_cases hs : sSt κ a i = 115
      · rw [if_pos hs, if_neg (by decide), x1, bd_s]
        rcases x2 with ⟨y1, y2⟩ | ⟨y1, y2⟩
        · rw [y1, if_neg (by decide)]
          refine ⟨0, rfl, Or.inr ⟨rfl, fun q => ?_⟩⟩
          obtain ⟨g, g1, g2, g3⟩ := y2
          have := q i g (Nat.le_refl _) (by omega) hs g1 g2
          rw [s2 g g1, decide_eq_true this, decide_eq_true (hD i g (by omega) g1 g2)] at g3
          cases g3
        · rw [y1, if_pos rfl]
          refine skip (fun _ g g1 g2 => ?_)
          apply Classical.byContradiction
          intro g3
          exact y2 ⟨g, g1, g2, by rw [s2 g g1, decide_eq_false g3, Bool.and_false]⟩
      · rw [if_neg hs, if_pos rfl]
        exact skip (fun g => absurd g hs)
  unfold P_X4_isSewnInOrder
  rw [s1, bd_s]
  exact isB_c (L n 0 4000 (by omega) (by omega)) ⟨fun q l g h3 h4 h5 h6 => q l g (by omega) h3 h4 h5 h6, fun q l g _ h3 h4 h5 h6 => q l g h3 h4 h5 h6⟩
