/-! ===== layer 3: the model's row, and what its readers answer ===== -/
def nn (v : Nat → Int32) (i : Nat) : Nat := ix (v i)
/-- the model's row -/
def mv (κ : jKt) (m : Nat) : Nat → Int32 := fun j => kI κ (kR κ m 5) j
def isN (v : Nat → Int32) (i lo hi : Nat) : Prop := v i = oN (nn v i) ∧ lo ≤ nn v i ∧ nn v i ≤ hi
/-- how many sleeves the suit at place s has -/
def sl (v : Nat → Int32) (s : Nat) : Nat := 2 * nn v (12 + 17 * nn v (98 + 60 * s))
def GR (v : Nat → Int32) : Prop :=
  isN v 0 0 5 ∧ isN v 1 0 6 ∧
  (∀ c, c < nn v 0 → isN v (12 + 17 * c) 1 8 ∧ ∀ l, l < 2 * nn v (12 + 17 * c) → isN v (13 + 17 * c + l) 10 60) ∧
  (∀ s, s < nn v 1 → isN v (98 + 60 * s) 0 4 ∧ nn v (98 + 60 * s) < nn v 0 ∧ isN v (99 + 60 * s) 0 3 ∧ isN v (100 + 60 * s) 0 12 ∧
    (∀ l, l < 16 → isN v (101 + 60 * s + l) 0 2 ∧ (v (101 + 60 * s + l) ≠ 0 → isN v (117 + 60 * s + l) 10 60)) ∧
    (∀ d, d < nn v (100 + 60 * s) → isN v (133 + 60 * s + 2 * d) 0 15 ∧ isN v (134 + 60 * s + 2 * d) 0 15 ∧ nn v (133 + 60 * s + 2 * d) < sl v s ∧ nn v (134 + 60 * s + 2 * d) < sl v s ∧ nn v (133 + 60 * s + 2 * d) ≠ nn v (134 + 60 * s + 2 * d)))
theorem X7_at (κ : jKt) (c : Nat) : P_X7_at κ (oN c) = some (oN (12 + 17 * c)) := by
  unfold P_X7_at
  rw [show (12 : Int32) = oN 12 from rfl, show (17 : Int32) = oN 17 from rfl, oN_mul, oN_add]
theorem X7_of (κ : jKt) (s k : Nat) : P_X7_of κ (oN s) (oN k) = some (oN (97 + 60 * s + k)) := by
  unfold P_X7_of
  rw [show (97 : Int32) = oN 97 from rfl, show (60 : Int32) = oN 60 from rfl, oN_mul, oN_add, oN_add]
theorem X7_isIn (κ : jKt) (x lo hi : Int32) : P_X7_isIn κ x lo hi = some (if lo ≤ x ∧ x ≤ hi then 1 else 0) := by
  unfold P_X7_isIn
  by_cases h1 : x < lo
  · rw [if_pos h1, if_neg (fun h => absurd h1 (Int32.not_lt.mpr h.1))]
  · rw [if_neg h1]
    by_cases h2 : hi < x
    · rw [if_pos h2, if_neg (fun h => absurd h2 (Int32.not_lt.mpr h.2))]
    · rw [if_neg h2, if_pos ⟨Int32.not_lt.mp h1, Int32.not_lt.mp h2⟩]
theorem X7_legs {κ : jKt} {m c : Nat} (hc : c < 5) : P_X7_legs κ m (oN c) = some (2 * mv κ m (12 + 17 * c)) := by
  unfold P_X7_legs
  rw [X7_at, bd_s, ck_t ((oN_jin (by omega)).mpr (by omega)), oN_ix (by omega)]
  rfl
theorem X7_leg {κ : jKt} {m c l : Nat} (hc : c < 5) (hl : l < 17) : P_X7_leg κ m (oN c) (oN l) = some (mv κ m (13 + 17 * c + l)) := by
  unfold P_X7_leg
  rw [X7_at, bd_s, show (1 : Int32) = oN 1 from rfl, oN_add, oN_add, ck_t ((oN_jin (by omega)).mpr (by omega)), oN_ix (by omega)]
  unfold mv
  rw [show 12 + 17 * c + 1 + l = 13 + 17 * c + l by omega]
theorem X7_rd {κ : jKt} {m s k : Nat} (hs : s < 6) (hk : k < 60) : (bd (P_X7_of κ (oN s) (oN k)) fun y11 => ck (jin y11 457) <| some (kI κ (kR κ m 5) (ix y11))) = some (mv κ m (97 + 60 * s + k)) := by
  rw [X7_of, bd_s, ck_t ((oN_jin (by omega)).mpr (by omega)), oN_ix (by omega)]
  rfl
theorem X7_state {κ : jKt} {m s l : Nat} (hs : s < 6) (hl : l < 56) : P_X7_state κ m (oN s) (oN l) = some (mv κ m (101 + 60 * s + l)) := by
  unfold P_X7_state
  rw [show (4 : Int32) = oN 4 from rfl, oN_add, X7_rd hs (by omega)]
  rw [show 97 + 60 * s + (4 + l) = 101 + 60 * s + l by omega]
theorem X7_own {κ : jKt} {m s l : Nat} (hs : s < 6) (hl : l < 40) : P_X7_own κ m (oN s) (oN l) = some (mv κ m (117 + 60 * s + l)) := by
  unfold P_X7_own
  rw [show (20 : Int32) = oN 20 from rfl, oN_add, X7_rd hs (by omega)]
  rw [show 97 + 60 * s + (20 + l) = 117 + 60 * s + l by omega]
theorem X7_first {κ : jKt} {m s d : Nat} (hs : s < 6) (hd : d < 12) : P_X7_first κ m (oN s) (oN d) = some (mv κ m (133 + 60 * s + 2 * d)) := by
  unfold P_X7_first
  rw [show (36 : Int32) = oN 36 from rfl, show (2 : Int32) = oN 2 from rfl, oN_mul, oN_add, X7_rd hs (by omega)]
  rw [show 97 + 60 * s + (36 + 2 * d) = 133 + 60 * s + 2 * d by omega]
theorem X7_second {κ : jKt} {m s d : Nat} (hs : s < 6) (hd : d < 12) : P_X7_second κ m (oN s) (oN d) = some (mv κ m (134 + 60 * s + 2 * d)) := by
  unfold P_X7_second
  rw [show (36 : Int32) = oN 36 from rfl, show (2 : Int32) = oN 2 from rfl, show (1 : Int32) = oN 1 from rfl, oN_mul, oN_add, oN_add, X7_rd hs (by omega)]
  rw [show 97 + 60 * s + (36 + 2 * d + 1) = 134 + 60 * s + 2 * d by omega]
theorem X7_sleeves {κ : jKt} {m s : Nat} (hG : GR (mv κ m)) (hs : s < nn (mv κ m) 1) : P_X7_sleeves κ m (oN s) = some (oN (sl (mv κ m) s)) ∧ sl (mv κ m) s ≤ 16 ∧ 2 ≤ sl (mv κ m) s := by
  obtain ⟨g0, g1, g2, g3⟩ := hG
  have hs6 : s < 6 := by have := g1.2.2; omega
  obtain ⟨w1, w2, -⟩ := g3 s hs
  obtain ⟨p1, -⟩ := g2 _ w2
  refine ⟨?_, ?_, ?_⟩
  · unfold P_X7_sleeves
    rw [show (1 : Int32) = oN 1 from rfl, X7_of, bd_s, ck_t ((oN_jin (by omega)).mpr (by omega)), oN_ix (by omega)]
    have e : kI κ (kR κ m 5) (97 + 60 * s + 1) = oN (nn (mv κ m) (98 + 60 * s)) := by
      rw [← w1.1]
      unfold mv
      rw [show 97 + 60 * s + 1 = 98 + 60 * s by omega]
    rw [e, X7_legs (by have := w1.2.2; omega), bd_s, p1.1, show (2 : Int32) = oN 2 from rfl, oN_mul]
    rfl
  · unfold sl; have := p1.2.2; omega
  · unfold sl; have := p1.2.1; omega
theorem X7_isSleeve {κ : jKt} {m s : Nat} (hG : GR (mv κ m)) (hs : s < nn (mv κ m) 1) (x : Int32) : P_X7_isSleeve κ m (oN s) x = some (if 0 ≤ x ∧ x < oN (sl (mv κ m) s) then 1 else 0) := by
  obtain ⟨h1, h2, h3⟩ := X7_sleeves hG hs
  unfold P_X7_isSleeve
  rw [h1, bd_s, X7_isIn, bd_s]
  have e : (x ≤ oN (sl (mv κ m) s) - 1 ↔ x < oN (sl (mv κ m) s)) := by
    rw [show (1 : Int32) = oN 1 from rfl, oN_sub (by omega), Int32.le_iff_toInt_le, Int32.lt_iff_toInt_lt, oN_toInt (by omega), oN_toInt (by omega)]
    omega
  simp only [e]
  by_cases h : 0 ≤ x ∧ x < oN (sl (mv κ m) s)
  · rw [if_pos h]; rfl
  · rw [if_neg h]; rfl
/-- where the suit with an id stands -/
def fnd (v : Nat → Int32) (id : Int32) : Nat → Nat → Option Nat
  | _, 0 => none
  | s, n + 1 => if v (97 + 60 * s) = id then some s else fnd v id (s + 1) n
def fd (v : Nat → Int32) (id : Int32) : Option Nat := fnd v id 0 (nn v 1)
theorem fnd_some {v : Nat → Int32} {id : Int32} : ∀ (n s t : Nat), fnd v id s n = some t → s ≤ t ∧ t < s + n ∧ v (97 + 60 * t) = id := by
  intro n
  induction n with
  | zero => intro s t h; cases h
  | succ n ih =>
    intro s t h
    unfold fnd at h
    by_cases hv : v (97 + 60 * s) = id
    · rw [if_pos hv] at h
      cases h
      exact ⟨Nat.le_refl _, by omega, hv⟩
    · rw [if_neg hv] at h
      obtain ⟨a, b, c⟩ := ih (s + 1) t h
      exact ⟨by omega, by omega, c⟩
theorem X7_find_loop {κ : jKt} {m : Nat} {id : Int32} (hG : GR (mv κ m)) : ∀ (n s f : Nat), s + n = nn (mv κ m) 1 → n < f → P_X7_find_2 κ m id f (oN s) = some (match fnd (mv κ m) id s n with | some t => oN t | none => -1) := by
  have g1 := hG.2.1
  have e1 : kI κ (kR κ m 5) (ix 1) = oN (nn (mv κ m) 1) := g1.1
  intro n
  induction n with
  | zero =>
    intro s f hs hf
    obtain ⟨f, rfl⟩ : ∃ g, f = g + 1 := ⟨f - 1, by omega⟩
    rw [P_X7_find_2, e1, if_pos ((oN_le (by have := g1.2.2; omega) (by have := g1.2.2; omega)).mpr (by omega))]
    rfl
  | succ n ih =>
    intro s f hs hf
    obtain ⟨f, rfl⟩ : ∃ g, f = g + 1 := ⟨f - 1, by omega⟩
    have h6 := g1.2.2
    rw [P_X7_find_2, e1, if_neg (fun h => by have := (oN_le (by omega) (by omega)).mp h; omega)]
    have hof : P_X7_of κ (oN s) 0 = some (oN (97 + 60 * s + 0)) := X7_of κ s 0
    rw [hof, bd_s, ck_t ((oN_jin (by omega)).mpr (by omega)), oN_ix (by omega)]
    unfold fnd
    have e2 : kI κ (kR κ m 5) (97 + 60 * s + 0) = mv κ m (97 + 60 * s) := rfl
    rw [e2]
    by_cases hv : mv κ m (97 + 60 * s) = id
    · simp only [hv, if_true]
    · simp only [hv, if_false]
      rw [show (1 : Int32) = oN 1 from rfl, oN_add]
      exact ih (s + 1) f (by omega) (by omega)
theorem X7_find {κ : jKt} {m : Nat} (hG : GR (mv κ m)) (id : Int32) : P_X7_find κ m id = some (match fd (mv κ m) id with | some t => oN t | none => -1) := by
  unfold P_X7_find
  have h6 := hG.2.1.2.2
  exact X7_find_loop hG (nn (mv κ m) 1) 0 4000 (by omega) (by omega)
