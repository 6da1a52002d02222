/-! ===== layer 3: sets of sleeves as bits; what a suit's readers answer ===== -/
theorem b_1 : ∀ i, i < 32 → bt 1 i = decide (i = 0) := by decide +kernel
theorem b_bit {i j : Nat} (hi : i < 32) (hj : j < 32) : bt (1 <<< (oN i &&& 31)) j = decide (j = i) := by
  have h := b_shl i hi 1 hj
  rw [show (oN i &&& 31 : Int32) = nI i &&& 31 from rfl, h]
  by_cases h1 : i ≤ j
  · rw [b_1 _ (by omega)]
    by_cases h2 : j = i
    · subst h2; simp
    · have : ¬ j - i = 0 := by omega
      simp [this, h2]
  · have : ¬ j = i := by omega
    simp [h1, this]
theorem b_cont {x : Int32} {i : Nat} (hi : i < 32) : ((x >>> (oN i &&& 31)) &&& 1 = 1) ↔ bt x i = true := by
  have e : ∀ j, j < 32 → bt ((x >>> (oN i &&& 31)) &&& 1) j = (decide (j = 0) && bt x i) := by
    intro j hj
    rw [b_and, show (oN i &&& 31 : Int32) = nI i &&& 31 from rfl, b_sshr i hi x hj, b_1 j hj]
    by_cases h : j = 0
    · subst h
      rw [if_pos (by omega)]
      simp
    · simp [h]
  constructor
  · intro h
    have := e 0 (by omega)
    rw [h, b_1 0 (by omega)] at this
    simpa using this.symm
  · intro h
    apply b_ext
    intro j hj
    rw [e j hj, h, b_1 j hj]
    simp
theorem X4_contains {κ : jKt} {x : Int32} {i : Nat} (hi : i < 32) : P_X4_contains κ x (oN i) = some (if bt x i = true then 1 else 0) := by
  unfold P_X4_contains
  by_cases h : bt x i = true
  · rw [if_pos ((b_cont hi).mpr h), if_pos h]
  · rw [if_neg (fun g => h ((b_cont hi).mp g)), if_neg h]
/-- the letters, lengths and demands of the suit's sleeves -/
abbrev sSt (κ : jKt) (a : Nat) : Nat → Int32 := fun l => kI κ (kR κ a 5) l
abbrev sLn (κ : jKt) (a : Nat) : Nat → Int32 := fun l => kI κ (kR κ a 6) l
abbrev sDm (κ : jKt) (a : Nat) : Nat → Int32 := fun l => kI κ (kR κ a 7) l
abbrev cLg (κ : jKt) (a : Nat) : Nat → Int32 := fun l => kI κ (kR κ a 1) l
theorem X4_isPlanned {κ : jKt} {a i : Nat} (hi : i < 16) : P_X4_isPlanned κ a (oN i) = some (if sSt κ a i = 112 then 1 else 0) := by
  unfold P_X4_isPlanned
  rw [ck_t ((oN_jin (by omega)).mpr hi), oN_ix (by omega)]
  by_cases h : sSt κ a i = 112
  · rw [if_pos h]; first | rw [if_pos h] | (rw [if_neg (fun g => g h)]) | simp [h]
  · rw [if_neg h]; first | rw [if_neg h] | simp [h]
theorem X4_isSewn {κ : jKt} {a i : Nat} (hi : i < 16) : P_X4_isSewn κ a (oN i) = some (if sSt κ a i = 115 then 1 else 0) := by
  unfold P_X4_isSewn
  rw [ck_t ((oN_jin (by omega)).mpr hi), oN_ix (by omega)]
  by_cases h : sSt κ a i = 115
  · rw [if_pos h]; first | rw [if_pos h] | simp [h]
  · rw [if_neg h]; first | rw [if_neg h] | simp [h]
theorem X4_sewnSet_loop {κ : jKt} {a n : Nat} (hn : kI κ a 3 = oN n) (hn16 : n ≤ 16) : ∀ (k i f : Nat) (acc : Int32), i + k = n → k < f →
    ∃ S, P_X4_sewnSet_4 κ a f acc (oN i) = some S ∧ ∀ j, j < 32 → bt S j = (bt acc j || (decide (i ≤ j ∧ j < n) && decide (sSt κ a j = 115))) := by
  intro k
  induction k with
  | zero =>
    intro i f acc h1 h2
    obtain ⟨f, rfl⟩ : ∃ g, f = g + 1 := ⟨f - 1, by omega⟩
    refine ⟨acc, ?_, fun j hj => ?_⟩
    · rw [P_X4_sewnSet_4, hn, if_pos ((oN_le (by omega) (by omega)).mpr (by omega))]
    · have : ¬ (i ≤ j ∧ j < n) := by omega
      simp [this]
  | succ k ih =>
    intro i f acc h1 h2
    obtain ⟨f, rfl⟩ : ∃ g, f = g + 1 := ⟨f - 1, by omega⟩
    rw [P_X4_sewnSet_4, hn, if_neg (fun h => by have := (oN_le (by omega) (by omega)).mp h; omega), ck_t ((oN_jin (by omega)).mpr (by omega)), oN_ix (by omega), show (1 : Int32) = oN 1 from rfl, oN_add]
    by_cases hs : sSt κ a i = 115
    · rw [if_pos hs]
      obtain ⟨S, e1, e2⟩ := ih (i + 1) f (acc ||| (oN 1 <<< (oN i &&& 31))) (by omega) (by omega)
      refine ⟨S, e1, fun j hj => ?_⟩
      rw [e2 j hj, b_or, show (oN 1 <<< (oN i &&& 31) : Int32) = 1 <<< (oN i &&& 31) from rfl, b_bit (by omega) hj]
      by_cases hji : j = i
      · subst hji
        have g1 : j ≤ j ∧ j < n := by omega
        simp [hs, g1]
      · have g1 : (i + 1 ≤ j ∧ j < n) ↔ (i ≤ j ∧ j < n) := by omega
        simp [hji, g1]
    · rw [if_neg hs]
      obtain ⟨S, e1, e2⟩ := ih (i + 1) f acc (by omega) (by omega)
      refine ⟨S, e1, fun j hj => ?_⟩
      rw [e2 j hj]
      by_cases hji : j = i
      · subst hji
        have g1 : ¬ (j + 1 ≤ j ∧ j < n) := by omega
        simp [hs, g1]
      · have g1 : (i + 1 ≤ j ∧ j < n) ↔ (i ≤ j ∧ j < n) := by omega
        simp [g1]
theorem X4_sewnSet {κ : jKt} {a n : Nat} (hn : kI κ a 3 = oN n) (hn16 : n ≤ 16) : ∃ S, P_X4_sewnSet κ a = some S ∧ ∀ j, j < 32 → bt S j = (decide (j < n) && decide (sSt κ a j = 115)) := by
  obtain ⟨S, e1, e2⟩ := X4_sewnSet_loop hn hn16 n 0 4000 0 (by omega) (by omega)
  refine ⟨S, e1, fun j hj => ?_⟩
  rw [e2 j hj, b_0]
  simp
