/-! ===== layer 3: is a suit ready: class and model ===== -/
/-- the answer is 1 if P holds, else 0 -/
def isB (r : Option Int32) (P : Prop) : Prop := ∃ x, r = some x ∧ ((x = 1 ∧ P) ∨ (x = 0 ∧ ¬ P))
theorem isB_c {r : Option Int32} {P Q : Prop} (h : isB r P) (e : P ↔ Q) : isB r Q := by
  obtain ⟨x, h1, h2⟩ := h
  refine ⟨x, h1, ?_⟩
  rcases h2 with ⟨a, b⟩ | ⟨a, b⟩
  · exact Or.inl ⟨a, e.mp b⟩
  · exact Or.inr ⟨a, fun g => b (e.mpr g)⟩
theorem isB_eq {r q : Option Int32} {P : Prop} (h : isB r P) (g : isB q P) : r = q := by
  obtain ⟨x, h1, h2⟩ := h
  obtain ⟨y, g1, g2⟩ := g
  rw [h1, g1]
  rcases h2 with ⟨a, b⟩ | ⟨a, b⟩ <;> rcases g2 with ⟨c, d⟩ | ⟨c, d⟩
  · rw [a, c]
  · exact absurd b d
  · exact absurd d b
  · rw [a, c]
theorem X4_fitsAt {κ : jKt} {a b i : Nat} (hi : i < 16) : P_X4_fitsAt κ a (oN i) b = some (if sLn κ a i = cLg κ b i then 1 else 0) := by
  unfold P_X4_fitsAt
  rw [ck_t ((oN_jin (by omega)).mpr hi), ck_t ((oN_jin (by omega)).mpr hi), oN_ix (by omega)]
  by_cases h : sLn κ a i = cLg κ b i
  · rw [if_pos h, if_pos h]
  · rw [if_neg h, if_neg h]
theorem X4_isFitting {κ : jKt} {a b n : Nat} (hn : kI κ a 3 = oN n) (h16 : n ≤ 16) : isB (P_X4_isFitting κ a b) (∀ l, l < n → sSt κ a l ≠ 112 → sLn κ a l = cLg κ b l) := by
  have L : ∀ (k i f : Nat), i + k = n → k < f → isB (P_X4_isFitting_2 κ a b f (oN i)) (∀ l, i ≤ l → l < n → sSt κ a l ≠ 112 → sLn κ a l = cLg κ b l) := by
    intro k
    induction k with
    | zero =>
      intro i f h1 h2
      obtain ⟨f, rfl⟩ : ∃ g, f = g + 1 := ⟨f - 1, by omega⟩
      rw [P_X4_isFitting_2, hn, if_pos ((oN_le (by omega) (by omega)).mpr (by omega))]
      exact ⟨1, rfl, Or.inl ⟨rfl, fun l h1 h2 => by omega⟩⟩
    | succ k ih =>
      intro i f h1 h2
      obtain ⟨f, rfl⟩ : ∃ g, f = g + 1 := ⟨f - 1, by omega⟩
      have e1 : (oN i + 1 : Int32) = oN (i + 1) := oN_add i 1
      rw [P_X4_isFitting_2, hn, if_neg (fun h => by have := (oN_le (by omega) (by omega)).mp h; omega), X4_isPlanned (by omega), bd_s, e1]
      by_cases hs : sSt κ a i = 112
      · rw [if_pos hs, if_neg (by decide)]
        refine isB_c (ih (i + 1) f (by omega) (by omega)) ⟨fun g l h3 h4 h5 => ?_, fun g l h3 h4 h5 => g l (by omega) h4 h5⟩
        by_cases e : l = i
        · rw [e] at h5; exact absurd hs h5
        · exact g l (by omega) h4 h5
      · rw [if_neg hs, if_pos rfl, X4_fitsAt (by omega), bd_s]
        by_cases hf : sLn κ a i = cLg κ b i
        · rw [if_pos hf, if_neg (by decide)]
          refine isB_c (ih (i + 1) f (by omega) (by omega)) ⟨fun g l h3 h4 h5 => ?_, fun g l h3 h4 h5 => g l (by omega) h4 h5⟩
          by_cases e : l = i
          · rw [e]; exact hf
          · exact g l (by omega) h4 h5
        · rw [if_neg hf, if_pos rfl]
          exact ⟨0, rfl, Or.inr ⟨rfl, fun g => hf (g i (Nat.le_refl _) (by omega) hs)⟩⟩
  exact isB_c (L n 0 4000 (by omega) (by omega)) ⟨fun g l h => g l (by omega) h, fun g l _ h => g l h⟩
theorem X4_hasEven {κ : jKt} {a n q : Nat} (hn : kI κ a 3 = oN n) (h16 : n ≤ 16) (hq : n = 2 * q) : isB (P_X4_hasEvenSleeves κ a) (∀ u, u < q → (sSt κ a (2 * u) = 112 ↔ sSt κ a (2 * u + 1) = 112) ∧ (sSt κ a (2 * u) ≠ 112 → jabs (sLn κ a (2 * u) - sLn κ a (2 * u + 1)) ≤ 1)) := by
  have L : ∀ (k t f : Nat), t + k = q → k < f → isB (P_X4_hasEvenSleeves_2 κ a f (oN (2 * t))) (∀ u, t ≤ u → u < q → (sSt κ a (2 * u) = 112 ↔ sSt κ a (2 * u + 1) = 112) ∧ (sSt κ a (2 * u) ≠ 112 → jabs (sLn κ a (2 * u) - sLn κ a (2 * u + 1)) ≤ 1)) := by
    intro k
    induction k with
    | zero =>
      intro t f h1 h2
      obtain ⟨f, rfl⟩ : ∃ g, f = g + 1 := ⟨f - 1, by omega⟩
      have e1 : (oN (2 * t) + 1 : Int32) = oN (2 * t + 1) := oN_add _ 1
      rw [P_X4_hasEvenSleeves_2, hn, e1, if_pos ((oN_le (by omega) (by omega)).mpr (by omega))]
      exact ⟨1, rfl, Or.inl ⟨rfl, fun l h1 h2 => by omega⟩⟩
    | succ k ih =>
      intro t f h1 h2
      obtain ⟨f, rfl⟩ : ∃ g, f = g + 1 := ⟨f - 1, by omega⟩
      have e1 : (oN (2 * t) + 1 : Int32) = oN (2 * t + 1) := oN_add _ 1
      have e2 : (oN (2 * t) + 2 : Int32) = oN (2 * (t + 1)) := oN_add _ 2
      have hi := ih (t + 1) f (by omega) (by omega)
      rw [P_X4_hasEvenSleeves_2, hn, e1, e2, if_neg (fun h => by have := (oN_le (by omega) (by omega)).mp h; omega), X4_isPlanned (by omega : 2 * t < 16), bd_s, X4_isPlanned (by omega : 2 * t + 1 < 16), bd_s]
      by_cases h3 : sSt κ a (2 * t) = 112
      · by_cases h4 : sSt κ a (2 * t + 1) = 112
        · rw [if_pos h3, if_pos h4, if_pos rfl, bd_s, if_neg (by decide)]
          refine isB_c hi ⟨fun g u h5 h6 => ?_, fun g u h5 h6 => g u (by omega) h6⟩
          by_cases e : u = t
          · rw [e]; exact ⟨⟨fun _ => h4, fun _ => h3⟩, fun g => absurd h3 g⟩
          · exact g u (by omega) h6
        · rw [if_pos h3, if_neg h4, if_neg (by decide)]
          exact ⟨0, rfl, Or.inr ⟨rfl, fun g => h4 ((g t (Nat.le_refl _) (by omega)).1.mp h3)⟩⟩
      · by_cases h4 : sSt κ a (2 * t + 1) = 112
        · rw [if_neg h3, if_pos h4, if_neg (by decide)]
          exact ⟨0, rfl, Or.inr ⟨rfl, fun g => h3 ((g t (Nat.le_refl _) (by omega)).1.mpr h4)⟩⟩
        · rw [if_neg h3, if_neg h4, if_pos rfl, bd_s, if_pos rfl, ck_t ((oN_jin (by omega)).mpr (by omega)), ck_t ((oN_jin (by omega)).mpr (by omega)), oN_ix (by omega), oN_ix (by omega)]
          by_cases hj : jabs (sLn κ a (2 * t) - sLn κ a (2 * t + 1)) ≤ 1
          · rw [if_pos hj]
            refine isB_c hi ⟨fun g u h5 h6 => ?_, fun g u h5 h6 => g u (by omega) h6⟩
            by_cases e : u = t
            · rw [e]; exact ⟨⟨fun g => absurd g h3, fun g => absurd g h4⟩, fun _ => hj⟩
            · exact g u (by omega) h6
          · rw [if_neg hj]
            exact ⟨0, rfl, Or.inr ⟨rfl, fun g => hj ((g t (Nat.le_refl _) (by omega)).2 h3)⟩⟩
  exact isB_c (L q 0 4000 (by omega) (by omega)) ⟨fun g l h => g l (by omega) h, fun g l _ h => g l h⟩
theorem b_all : ∀ n, n < 17 → ∀ j, j < 32 → bt ((1 <<< (oN n &&& 31)) - 1) j = decide (j < n) := by decide +kernel
theorem X4_isReadyFor {κ : jKt} {a b n q : Nat} (hn : kI κ a 3 = oN n) (h16 : n ≤ 16) (hq : n = 2 * q) : isB (P_X4_isReadyFor κ a b) ((∀ l, l < n → sSt κ a l = 115) ∧ (∀ l, l < n → sLn κ a l = cLg κ b l) ∧ ∀ u, u < q → jabs (sLn κ a (2 * u) - sLn κ a (2 * u + 1)) ≤ 1) := by
  obtain ⟨S, s1, s2⟩ := X4_sewnSet hn h16
  obtain ⟨x, f1, f2⟩ := X4_isFitting (b := b) hn h16
  obtain ⟨y, g1, g2⟩ := X4_hasEven hn h16 hq
  unfold P_X4_isReadyFor
  rw [s1, bd_s]
  unfold P_X4_allSleeves
  rw [bd_s, hn]
  have hS : S = (1 <<< (oN n &&& 31)) - 1 ↔ ∀ l, l < n → sSt κ a l = 115 := by
    constructor
    · intro e l hl
      have h := s2 l (by omega)
      rw [e, b_all n (by omega) l (by omega)] at h
      simpa [hl] using h
    · intro h
      apply b_ext
      intro j hj
      rw [s2 j hj, b_all n (by omega) j hj]
      by_cases hjn : j < n
      · simp [hjn, h j hjn]
      · simp [hjn]
  by_cases e : S = (1 <<< (oN n &&& 31)) - 1
  · have hall := hS.mp e
    have nop : ∀ l, l < n → sSt κ a l ≠ 112 := fun l hl => by rw [hall l hl]; decide
    rw [if_pos e, f1, bd_s]
    rcases f2 with ⟨a1, a2⟩ | ⟨a1, a2⟩
    · rw [a1, if_neg (by decide), g1, bd_s]
      rcases g2 with ⟨b1, b2⟩ | ⟨b1, b2⟩
      · rw [b1, if_neg (by decide)]
        exact ⟨1, rfl, Or.inl ⟨rfl, hall, fun l hl => a2 l hl (nop l hl), fun u hu => (b2 u hu).2 (nop _ (by omega))⟩⟩
      · rw [b1, if_pos rfl]
        refine ⟨0, rfl, Or.inr ⟨rfl, fun g => b2 fun u hu => ⟨⟨fun k => absurd k (nop _ (by omega)), fun k => absurd k (nop _ (by omega))⟩, fun _ => g.2.2 u hu⟩⟩⟩
    · rw [a1, if_pos rfl]
      exact ⟨0, rfl, Or.inr ⟨rfl, fun g => a2 fun l hl _ => g.2.1 l hl⟩⟩
  · rw [if_neg e]
    exact ⟨0, rfl, Or.inr ⟨rfl, fun g => e (hS.mpr g.1)⟩⟩
