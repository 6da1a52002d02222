/-! ===== layer 3: sums and 'for all' over the sleeves; the class's readers ===== -/
def sm (f : Nat → Int32) : Nat → Nat → Int32 → Int32
  | _, 0, a => a
  | i, n + 1, a => sm f (i + 1) n (a + f i)
theorem sm_c {f g : Nat → Int32} : ∀ (n i : Nat) (a : Int32), (∀ l, i ≤ l → l < i + n → f l = g l) → sm f i n a = sm g i n a := by
  intro n
  induction n with
  | zero => intro i a _; rfl
  | succ n ih =>
    intro i a h
    unfold sm
    rw [h i (Nat.le_refl _) (by omega)]
    exact ih _ _ (fun l h1 h2 => h l (by omega) (by omega))
theorem sm_a {f : Nat → Int32} : ∀ (n i : Nat) (a b : Int32), sm f i n (a + b) = sm f i n a + b := by
  intro n
  induction n with
  | zero => intro i a b; rfl
  | succ n ih =>
    intro i a b
    unfold sm
    rw [← ih, show a + b + f i = a + f i + b by rw [Int32.add_assoc, Int32.add_comm b, ← Int32.add_assoc]]
theorem sm_add {f g : Nat → Int32} : ∀ (n i : Nat) (a b : Int32), sm (fun l => f l + g l) i n (a + b) = sm f i n a + sm g i n b := by
  intro n
  induction n with
  | zero => intro i a b; rfl
  | succ n ih =>
    intro i a b
    unfold sm
    rw [show a + b + (f i + g i) = (a + f i) + (b + g i) by ac_rfl]
    exact ih _ _ _
def al (f : Nat → Bool) : Nat → Nat → Bool
  | _, 0 => true
  | i, n + 1 => f i && al f (i + 1) n
theorem al_iff {f : Nat → Bool} : ∀ (n i : Nat), al f i n = true ↔ ∀ l, i ≤ l → l < i + n → f l = true := by
  intro n
  induction n with
  | zero => intro i; exact ⟨fun _ l h1 h2 => by omega, fun _ => rfl⟩
  | succ n ih =>
    intro i
    unfold al
    rw [Bool.and_eq_true, ih]
    constructor
    · intro h l h1 h2
      by_cases e : l = i
      · rw [e]; exact h.1
      · exact h.2 l (by omega) (by omega)
    · intro h
      exact ⟨h i (Nat.le_refl _) (by omega), fun l h1 h2 => h l (by omega) (by omega)⟩
theorem X0_legSum {κ : jKt} {a n : Nat} (hn : kI κ a 0 = oN n) (h16 : n ≤ 16) : P_X0_legSum κ a = some (sm (cLg κ a) 0 n 0) := by
  have L : ∀ (k i f : Nat) (acc : Int32), i + k = n → k < f → P_X0_legSum_4 κ a f acc (oN i) = some (sm (cLg κ a) i k acc) := by
    intro k
    induction k with
    | zero =>
      intro i f acc h1 h2
      obtain ⟨f, rfl⟩ : ∃ g, f = g + 1 := ⟨f - 1, by omega⟩
      rw [P_X0_legSum_4, hn, if_pos ((oN_le (by omega) (by omega)).mpr (by omega))]
      rfl
    | succ k ih =>
      intro i f acc h1 h2
      obtain ⟨f, rfl⟩ : ∃ g, f = g + 1 := ⟨f - 1, by omega⟩
      rw [P_X0_legSum_4, hn, if_neg (fun h => by have := (oN_le (by omega) (by omega)).mp h; omega), ck_t ((oN_jin (by omega)).mpr (by omega)), oN_ix (by omega), bnd_e, show (1 : Int32) = oN 1 from rfl, oN_add]
      exact ih _ _ _ (by omega) (by omega)
  exact L n 0 4000 0 (by omega) (by omega)
theorem X4_clothInside {κ : jKt} {a n : Nat} (hn : kI κ a 3 = oN n) (h16 : n ≤ 16) : P_X4_clothInside κ a = some (sm (fun l => if sSt κ a l = 112 then 0 else sLn κ a l + 2) 0 n 0) := by
  have L : ∀ (k i f : Nat) (acc : Int32), i + k = n → k < f → P_X4_clothInside_4 κ a f acc (oN i) = some (sm (fun l => if sSt κ a l = 112 then 0 else sLn κ a l + 2) i k acc) := by
    intro k
    induction k with
    | zero =>
      intro i f acc h1 h2
      obtain ⟨f, rfl⟩ : ∃ g, f = g + 1 := ⟨f - 1, by omega⟩
      rw [P_X4_clothInside_4, hn, if_pos ((oN_le (by omega) (by omega)).mpr (by omega))]
      rfl
    | succ k ih =>
      intro i f acc h1 h2
      obtain ⟨f, rfl⟩ : ∃ g, f = g + 1 := ⟨f - 1, by omega⟩
      rw [P_X4_clothInside_4, hn, if_neg (fun h => by have := (oN_le (by omega) (by omega)).mp h; omega), X4_isPlanned (by omega), bd_s, sm]
      by_cases hs : sSt κ a i = 112
      · rw [if_pos hs, if_neg (by decide), show (1 : Int32) = oN 1 from rfl, oN_add, ih _ _ _ (by omega) (by omega)]
        simp only [hs, if_true, Int32.add_zero]
      · rw [if_neg hs, if_pos rfl, ck_t ((oN_jin (by omega)).mpr (by omega)), oN_ix (by omega), bnd_e, show (1 : Int32) = oN 1 from rfl, oN_add, ih _ _ _ (by omega) (by omega)]
        simp only [hs, if_false]
  exact L n 0 4000 0 (by omega) (by omega)
theorem X4_neededBySleeve {κ : jKt} {a b n : Nat} (hn : kI κ a 3 = oN n) (h16 : n ≤ 16) : P_X4_neededBySleeve κ a b = some (sm (fun l => if sSt κ a l = 112 then cLg κ b l + 2 else 0) 0 n 0) := by
  have L : ∀ (k i f : Nat) (acc : Int32), i + k = n → k < f → P_X4_neededBySleeve_4 κ a b f acc (oN i) = some (sm (fun l => if sSt κ a l = 112 then cLg κ b l + 2 else 0) i k acc) := by
    intro k
    induction k with
    | zero =>
      intro i f acc h1 h2
      obtain ⟨f, rfl⟩ : ∃ g, f = g + 1 := ⟨f - 1, by omega⟩
      rw [P_X4_neededBySleeve_4, hn, if_pos ((oN_le (by omega) (by omega)).mpr (by omega))]
      rfl
    | succ k ih =>
      intro i f acc h1 h2
      obtain ⟨f, rfl⟩ : ∃ g, f = g + 1 := ⟨f - 1, by omega⟩
      rw [P_X4_neededBySleeve_4, hn, if_neg (fun h => by have := (oN_le (by omega) (by omega)).mp h; omega), X4_isPlanned (by omega), bd_s, sm]
      by_cases hs : sSt κ a i = 112
      · rw [if_pos hs, if_neg (by decide), ck_t ((oN_jin (by omega)).mpr (by omega)), oN_ix (by omega), bnd_e, show (1 : Int32) = oN 1 from rfl, oN_add, ih _ _ _ (by omega) (by omega)]
        simp only [hs, if_true]
      · rw [if_neg hs, if_pos rfl, show (1 : Int32) = oN 1 from rfl, oN_add, ih _ _ _ (by omega) (by omega)]
        simp only [hs, if_false, Int32.add_zero]
  exact L n 0 4000 0 (by omega) (by omega)
theorem X4_priceFor {κ : jKt} {a b n : Nat} (hn : kI κ a 3 = oN n) (h16 : n ≤ 16) : P_X4_priceFor κ a b = some (sm (fun l => if sSt κ a l = 112 then cLg κ b l else sLn κ a l) 0 n (3 * kI κ a 4)) := by
  have L : ∀ (k i f : Nat) (acc : Int32), i + k = n → k < f → P_X4_priceFor_9 κ a b f acc (oN i) = some (sm (fun l => if sSt κ a l = 112 then cLg κ b l else sLn κ a l) i k acc) := by
    intro k
    induction k with
    | zero =>
      intro i f acc h1 h2
      obtain ⟨f, rfl⟩ : ∃ g, f = g + 1 := ⟨f - 1, by omega⟩
      rw [P_X4_priceFor_9, hn, if_pos ((oN_le (by omega) (by omega)).mpr (by omega))]
      rfl
    | succ k ih =>
      intro i f acc h1 h2
      obtain ⟨f, rfl⟩ : ∃ g, f = g + 1 := ⟨f - 1, by omega⟩
      rw [P_X4_priceFor_9, hn, if_neg (fun h => by have := (oN_le (by omega) (by omega)).mp h; omega), X4_isPlanned (by omega), bd_s, sm]
      by_cases hs : sSt κ a i = 112
      · rw [if_pos hs, if_neg (by decide), ck_t ((oN_jin (by omega)).mpr (by omega)), oN_ix (by omega), bnd_e, show (1 : Int32) = oN 1 from rfl, oN_add, ih _ _ _ (by omega) (by omega)]
        simp only [hs, if_true]
      · rw [if_neg hs, if_pos rfl, ck_t ((oN_jin (by omega)).mpr (by omega)), oN_ix (by omega), bnd_e, show (1 : Int32) = oN 1 from rfl, oN_add, ih _ _ _ (by omega) (by omega)]
        simp only [hs, if_false]
  unfold P_X4_priceFor
  rw [bnd_e]
  exact L n 0 4000 _ (by omega) (by omega)
theorem X4_neededByDifference {κ : jKt} {a b n : Nat} (hn : kI κ a 3 = oN n) (hb : kI κ b 0 = oN n) (h16 : n ≤ 16) : P_X4_neededByDifference κ a b = some (sm (fun l => if sSt κ a l = 112 then 0 else - (cLg κ b l + 2)) 0 n (sm (cLg κ b) 0 n 0 + 2 * oN n)) := by
  have L : ∀ (k i f : Nat) (acc : Int32), i + k = n → k < f → P_X4_neededByDifference_14 κ a b f acc (oN i) = some (sm (fun l => if sSt κ a l = 112 then 0 else - (cLg κ b l + 2)) i k acc) := by
    intro k
    induction k with
    | zero =>
      intro i f acc h1 h2
      obtain ⟨f, rfl⟩ : ∃ g, f = g + 1 := ⟨f - 1, by omega⟩
      rw [P_X4_neededByDifference_14, hn, if_pos ((oN_le (by omega) (by omega)).mpr (by omega))]
      rfl
    | succ k ih =>
      intro i f acc h1 h2
      obtain ⟨f, rfl⟩ : ∃ g, f = g + 1 := ⟨f - 1, by omega⟩
      rw [P_X4_neededByDifference_14, hn, if_neg (fun h => by have := (oN_le (by omega) (by omega)).mp h; omega), X4_isPlanned (by omega), bd_s, sm]
      by_cases hs : sSt κ a i = 112
      · rw [if_pos hs, if_neg (by decide), show (1 : Int32) = oN 1 from rfl, oN_add, ih _ _ _ (by omega) (by omega)]
        simp only [hs, if_true, Int32.add_zero]
      · rw [if_neg hs, if_pos rfl, ck_t ((oN_jin (by omega)).mpr (by omega)), oN_ix (by omega), bnd_e, show (1 : Int32) = oN 1 from rfl, oN_add, ih _ _ _ (by omega) (by omega)]
        simp only [hs, if_false, Int32.sub_eq_add_neg]
  unfold P_X4_neededByDifference
  rw [X0_legSum hb h16, bd_s, bnd_e, hn]
  exact L n 0 4000 _ (by omega) (by omega)
/-- both ways of the class to count the cloth a suit needs agree -/
theorem needed_both {κ : jKt} {a b n : Nat} (hn : kI κ a 3 = oN n) (hb : kI κ b 0 = oN n) (h16 : n ≤ 16) : P_X4_neededByDifference κ a b = P_X4_neededBySleeve κ a b := by
  rw [X4_neededByDifference hn hb h16, X4_neededBySleeve hn h16]
  have e2 : ∀ k i, sm (fun _ => (2 : Int32)) i k 0 = 2 * oN k := by
    intro k
    induction k with
    | zero => intro i; rfl
    | succ k ih =>
      intro i
      unfold sm
      rw [sm_a, ih, show oN (k + 1) = oN k + oN 1 from (oN_add k 1).symm, Int32.mul_add]
      rfl
  have e3 : sm (cLg κ b) 0 n 0 + 2 * oN n = sm (fun l => cLg κ b l + 2) 0 n 0 := by
    rw [← e2 n 0, ← sm_add]
    rfl
  have e4 : ∀ x : Int32, sm (fun l => if sSt κ a l = 112 then 0 else - (cLg κ b l + 2)) 0 n x = sm (fun l => if sSt κ a l = 112 then 0 else - (cLg κ b l + 2)) 0 n 0 + x := by
    intro x
    rw [← sm_a, Int32.zero_add]
  rw [e3, e4, ← sm_add, Int32.add_zero]
  congr 1
  refine sm_c n 0 0 (fun l _ _ => ?_)
  by_cases hs : sSt κ a l = 112
  · simp only [hs, if_true, Int32.zero_add]
  · simp only [hs, if_false]
    rw [Int32.add_comm, ← Int32.sub_eq_add_neg, Int32.sub_self]
