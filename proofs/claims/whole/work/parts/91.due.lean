/-! ===== layer 3: the model's isDue; a suit is ready in the class when it is due in the model ===== -/
theorem X7_areAlike (κ : jKt) (x y : Int32) : isB (P_X7_areAlike κ x y) (¬ 1 < x - y ∧ ¬ 1 < y - x) := by
  unfold P_X7_areAlike
  by_cases h1 : 1 < x - y
  · rw [if_pos h1]; exact ⟨0, rfl, Or.inr ⟨rfl, fun g => g.1 h1⟩⟩
  · rw [if_neg h1]
    by_cases h2 : 1 < y - x
    · rw [if_pos h2]; exact ⟨0, rfl, Or.inr ⟨rfl, fun g => g.2 h2⟩⟩
    · rw [if_neg h2]; exact ⟨1, rfl, Or.inl ⟨rfl, h1, h2⟩⟩
theorem X7_due46 {κ : jKt} {m s q : Nat} (hG : GR (mv κ m)) (hs : s < nn (mv κ m) 1) (hq : sl (mv κ m) s = 2 * q) : isB (P_X7_isDue_46 κ m (oN s) 4000 0) (∀ u, u < q → ¬ 1 < mv κ m (117 + 60 * s + 2 * u) - mv κ m (117 + 60 * s + (2 * u + 1)) ∧ ¬ 1 < mv κ m (117 + 60 * s + (2 * u + 1)) - mv κ m (117 + 60 * s + 2 * u)) := by
  have h6 : s < 6 := by have := hG.2.1.2.2; omega
  obtain ⟨hsl, h16, -⟩ := X7_sleeves hG hs
  have L : ∀ (k t f : Nat), t + k = q → k < f → isB (P_X7_isDue_46 κ m (oN s) f (oN (2 * t))) (∀ u, t ≤ u → u < q → ¬ 1 < mv κ m (117 + 60 * s + 2 * u) - mv κ m (117 + 60 * s + (2 * u + 1)) ∧ ¬ 1 < mv κ m (117 + 60 * s + (2 * u + 1)) - mv κ m (117 + 60 * s + 2 * u)) := by
    intro k
    induction k with
    | zero =>
      intro t f h1 h2
      obtain ⟨f, rfl⟩ : ∃ g, f = g + 1 := ⟨f - 1, by omega⟩
      rw [P_X7_isDue_46, hsl, bd_s, if_pos ((oN_le (by omega) (by omega)).mpr (by omega))]
      exact ⟨1, rfl, Or.inl ⟨rfl, fun l h1 h2 => by omega⟩⟩
    | succ k ih =>
      intro t f h1 h2
      obtain ⟨f, rfl⟩ : ∃ g, f = g + 1 := ⟨f - 1, by omega⟩
      have e1 : (oN (2 * t) + 1 : Int32) = oN (2 * t + 1) := oN_add _ 1
      have e2 : (oN (2 * t) + 2 : Int32) = oN (2 * (t + 1)) := oN_add _ 2
      have hi := ih (t + 1) f (by omega) (by omega)
      obtain ⟨x, a1, a2⟩ := X7_areAlike κ (mv κ m (117 + 60 * s + 2 * t)) (mv κ m (117 + 60 * s + (2 * t + 1)))
      rw [P_X7_isDue_46, hsl, bd_s, e1, e2, if_neg (fun h => by have := (oN_le (by omega) (by omega)).mp h; omega), X7_own h6 (by omega), bd_s, X7_own h6 (by omega), bd_s, a1, bd_s]
      rcases a2 with ⟨b1, b2⟩ | ⟨b1, b2⟩
      · rw [b1, if_neg (by decide)]
        refine isB_c hi ⟨fun g u h5 h6 => ?_, fun g u h5 h6 => g u (by omega) h6⟩
        by_cases e : u = t
        · rw [e]; exact b2
        · exact g u (by omega) h6
      · rw [b1, if_pos rfl]
        exact ⟨0, rfl, Or.inr ⟨rfl, fun g => b2 (g t (Nat.le_refl _) (by omega))⟩⟩
  exact isB_c (L q 0 4000 (by omega) (by omega)) ⟨fun g l h => g l (by omega) h, fun g l _ h => g l h⟩
theorem X7_isDue {κ : jKt} {m s q : Nat} (hG : GR (mv κ m)) (hs : s < nn (mv κ m) 1) (hq : sl (mv κ m) s = 2 * q) : isB (P_X7_isDue κ m (oN s)) ((∀ l, l < sl (mv κ m) s → mv κ m (101 + 60 * s + l) = 2 ∧ mv κ m (117 + 60 * s + l) = mv κ m (13 + 17 * nn (mv κ m) (98 + 60 * s) + l)) ∧
    ∀ u, u < q → ¬ 1 < mv κ m (117 + 60 * s + 2 * u) - mv κ m (117 + 60 * s + (2 * u + 1)) ∧ ¬ 1 < mv κ m (117 + 60 * s + (2 * u + 1)) - mv κ m (117 + 60 * s + 2 * u)) := by
  have h6 : s < 6 := by have := hG.2.1.2.2; omega
  obtain ⟨hsl, h16, -⟩ := X7_sleeves hG hs
  have hd := X7_due46 hG hs hq
  generalize (∀ u, u < q → ¬ 1 < mv κ m (117 + 60 * s + 2 * u) - mv κ m (117 + 60 * s + (2 * u + 1)) ∧ ¬ 1 < mv κ m (117 + 60 * s + (2 * u + 1)) - mv κ m (117 + 60 * s + 2 * u)) = E at hd ⊢
  have L : ∀ (k i f : Nat), i + k = sl (mv κ m) s → k < f → isB (P_X7_isDue_2 κ m (oN s) f (oN i)) ((∀ l, i ≤ l → l < sl (mv κ m) s → mv κ m (101 + 60 * s + l) = 2 ∧ mv κ m (117 + 60 * s + l) = mv κ m (13 + 17 * nn (mv κ m) (98 + 60 * s) + l)) ∧ E) := by
    intro k
    induction k with
    | zero =>
      intro i f h1 h2
      obtain ⟨f, rfl⟩ : ∃ g, f = g + 1 := ⟨f - 1, by omega⟩
      rw [P_X7_isDue_2, hsl, bd_s, if_pos ((oN_le (by omega) (by omega)).mpr (by omega))]
      exact isB_c hd ⟨fun g => ⟨fun l h1 h2 => by omega, g⟩, fun g => g.2⟩
    | succ k ih =>
      intro i f h1 h2
      obtain ⟨f, rfl⟩ : ∃ g, f = g + 1 := ⟨f - 1, by omega⟩
      have e1 : (oN i + 1 : Int32) = oN (i + 1) := oN_add i 1
      rw [P_X7_isDue_2, hsl, bd_s, e1, if_neg (fun h => by have := (oN_le (by omega) (by omega)).mp h; omega), X7_state h6 (by omega), bd_s]
      by_cases h3 : mv κ m (101 + 60 * s + i) = 2
      · rw [if_pos h3, X7_own h6 (by omega), bd_s, X7_wanted hG hs (by omega), bd_s]
        by_cases h4 : mv κ m (117 + 60 * s + i) = mv κ m (13 + 17 * nn (mv κ m) (98 + 60 * s) + i)
        · rw [if_pos h4]
          refine isB_c (ih (i + 1) f (by omega) (by omega)) ⟨fun g => ⟨fun l h5 h6 => ?_, g.2⟩, fun g => ⟨fun l h5 h6 => g.1 l (by omega) h6, g.2⟩⟩
          by_cases e : l = i
          · rw [e]; exact ⟨h3, h4⟩
          · exact g.1 l (by omega) h6
        · rw [if_neg h4]
          exact ⟨0, rfl, Or.inr ⟨rfl, fun g => h4 (g.1 i (Nat.le_refl _) (by omega)).2⟩⟩
      · rw [if_neg h3]
        exact ⟨0, rfl, Or.inr ⟨rfl, fun g => h3 (g.1 i (Nat.le_refl _) (by omega)).1⟩⟩
  exact isB_c (L (sl (mv κ m) s) 0 4000 (by omega) (by omega)) ⟨fun g => ⟨fun l h => g.1 l (by omega) h, g.2⟩, fun g => ⟨fun l _ h => g.1 l h, g.2⟩⟩
theorem alike_n : ∀ x, x < 61 → ∀ y, y < 61 → (jabs (oN x - oN y) ≤ 1 ↔ ¬ 1 < oN x - oN y ∧ ¬ 1 < oN y - oN x) := by decide +kernel
/-- the state of a sleeve is a planned, a cut or a sewn one -/
theorem GR.st {v : Nat → Int32} (hG : GR v) {s l : Nat} (hs : s < nn v 1) (hl : l < 16) : v (101 + 60 * s + l) = 0 ∨ v (101 + 60 * s + l) = 1 ∨ v (101 + 60 * s + l) = 2 := by
  have h := ((hG.2.2.2 s hs).2.2.2.2.1 l hl).1
  have h3 := h.2.2
  rw [h.1]
  rcases (by omega : nn v (101 + 60 * s + l) = 0 ∨ nn v (101 + 60 * s + l) = 1 ∨ nn v (101 + 60 * s + l) = 2) with e | e | e
  · rw [e]; exact Or.inl rfl
  · rw [e]; exact Or.inr (Or.inl rfl)
  · rw [e]; exact Or.inr (Or.inr rfl)
theorem SV_ready {κ κ' : jKt} {a b m s : Nat} (h : SV κ a (mv κ' m) s) (hG : GR (mv κ' m)) (hs : s < nn (mv κ' m) 1) (hc : CV κ b (mv κ' m) (nn (mv κ' m) (98 + 60 * s))) : P_X4_isReadyFor κ a b = P_X7_isDue κ' m (oN s) := by
  have h16 := (hG.sl16 hs).1
  have hq : sl (mv κ' m) s = 2 * nn (mv κ' m) (12 + 17 * nn (mv κ' m) (98 + 60 * s)) := rfl
  refine isB_eq (X4_isReadyFor (b := b) h.2.2.2.1 h16 hq) (isB_c (X7_isDue hG hs hq) ?_)
  have st : ∀ l, l < sl (mv κ' m) s → (sSt κ a l = 115 ↔ mv κ' m (101 + 60 * s + l) = 2) := by
    intro l hl
    rw [(h.2.2.2.2.2 l hl).1, ltr_s]
    rcases hG.st hs (by omega : l < 16) with e | e | e <;> rw [e] <;> decide
  have ln : ∀ l, l < sl (mv κ' m) s → mv κ' m (101 + 60 * s + l) = 2 → sLn κ a l = mv κ' m (117 + 60 * s + l) := fun l hl e => (h.2.2.2.2.2 l hl).2.1 (by rw [e]; decide)
  have num : ∀ l, l < sl (mv κ' m) s → mv κ' m (101 + 60 * s + l) = 2 → ∃ x, x < 61 ∧ mv κ' m (117 + 60 * s + l) = oN x := by
    intro l hl e
    have p := ((hG.2.2.2 s hs).2.2.2.2.1 l (by omega)).2 (by rw [e]; decide)
    exact ⟨nn (mv κ' m) (117 + 60 * s + l), by have := p.2.2; omega, p.1⟩
  constructor
  · rintro ⟨g1, g2⟩
    refine ⟨fun l hl => (st l hl).mpr (g1 l hl).1, fun l hl => ?_, fun u hu => ?_⟩
    · rw [ln l hl (g1 l hl).1, (g1 l hl).2, hc.2 l (by omega)]
    · have k0 := (g1 (2 * u) (by omega)).1
      have k1 := (g1 (2 * u + 1) (by omega)).1
      rw [ln _ (by omega) k0, ln _ (by omega) k1]
      obtain ⟨x, x1, x2⟩ := num _ (by omega) k0
      obtain ⟨y, y1, y2⟩ := num _ (by omega) k1
      have := g2 u hu
      rw [x2, y2] at this ⊢
      exact (alike_n x x1 y y1).mpr this
  · rintro ⟨g1, g2, g3⟩
    have s2 : ∀ l, l < sl (mv κ' m) s → mv κ' m (101 + 60 * s + l) = 2 := fun l hl => (st l hl).mp (g1 l hl)
    refine ⟨fun l hl => ⟨s2 l hl, ?_⟩, fun u hu => ?_⟩
    · rw [← ln l hl (s2 l hl), g2 l hl, hc.2 l (by omega)]
    · have k0 := s2 (2 * u) (by omega)
      have k1 := s2 (2 * u + 1) (by omega)
      have := g3 u hu
      rw [ln _ (by omega) k0, ln _ (by omega) k1] at this
      obtain ⟨x, x1, x2⟩ := num _ (by omega) k0
      obtain ⟨y, y1, y2⟩ := num _ (by omega) k1
      rw [x2, y2] at this ⊢
      exact (alike_n x x1 y y1).mp this
