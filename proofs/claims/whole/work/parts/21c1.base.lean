/-! ===== layer 3: numbers ===== -/
abbrev oN (n : Nat) : Int32 := Int32.ofNat n
theorem oN_toInt {n : Nat} (h : n < 2 ^ 31) : (oN n).toInt = (n : Int) := Int32.toInt_ofNat_of_lt h
theorem oN_lt {a b : Nat} (ha : a < 2 ^ 31) (hb : b < 2 ^ 31) : oN a < oN b ↔ a < b := by
  rw [Int32.lt_iff_toInt_lt, oN_toInt ha, oN_toInt hb]; omega
theorem oN_le {a b : Nat} (ha : a < 2 ^ 31) (hb : b < 2 ^ 31) : oN a ≤ oN b ↔ a ≤ b := by
  rw [Int32.le_iff_toInt_le, oN_toInt ha, oN_toInt hb]; omega
theorem oN_eq {a b : Nat} (ha : a < 2 ^ 31) (hb : b < 2 ^ 31) : oN a = oN b ↔ a = b := by
  rw [← Int32.toInt_inj, oN_toInt ha, oN_toInt hb]; omega
theorem oN_add (a b : Nat) : oN a + oN b = oN (a + b) := (Int32.ofNat_add a b).symm
theorem oN_mul (a b : Nat) : oN a * oN b = oN (a * b) := (Int32.ofNat_mul a b).symm
theorem oN_ix {n : Nat} (h : n < 2 ^ 31) : ix (oN n) = n := by
  unfold ix Int32.toNatClampNeg
  rw [oN_toInt h]; omega
theorem oN_nneg {n : Nat} (h : n < 2 ^ 31) : ¬ oN n < 0 := by
  rw [Int32.lt_iff_toInt_lt, oN_toInt h]
  show ¬ (n : Int) < 0
  omega
theorem oN_jin {a m : Nat} (ha : a < 2 ^ 31) : jin (oN a) m ↔ a < m := by
  unfold jin
  have h1 : (oN a).toNatClampNeg = a := oN_ix ha
  rw [h1]
  have := oN_nneg ha
  constructor
  · intro h; exact Nat.not_le.mp fun g => h (Or.inr g)
  · intro h g; rcases g with g | g
    · exact this g
    · omega
theorem oN_of {x : Int32} (h : 0 ≤ x) : ∃ n, n < 2 ^ 31 ∧ x = oN n := by
  have h0 : (0 : Int) ≤ x.toInt := Int32.le_iff_toInt_le.mp h
  have h1 : x.toInt < 2 ^ 31 := x.toInt_lt
  refine ⟨x.toInt.toNat, by omega, ?_⟩
  rw [← Int32.toInt_inj, oN_toInt (by omega)]; omega
theorem oN_sub {a b : Nat} (h : b ≤ a) : oN a - oN b = oN (a - b) := by
  have e : oN a = oN (a - b) + oN b := by rw [oN_add]; congr 1; omega
  rw [e, Int32.add_sub_cancel]
theorem test_g1 (x n : Int32) (h : 0 ≤ x) (h2 : x < n) : x + 1 ≤ n := by grind
theorem test_g2 (k : Nat) (h : k < 5) : ix (12 + 17 * oN k) = 12 + 17 * k := by
  rw [show (12 : Int32) = oN 12 from rfl, show (17 : Int32) = oN 17 from rfl, oN_mul, oN_add, oN_ix (by omega)]
theorem bd_s {α β : Type} (a : α) (f : α → Option β) : bd (some a) f = f a := rfl
theorem bd2_s {α β γ : Type} (a : α) (b : β) (f : α → β → Option γ) : bd2 (some (a, b)) f = f a b := rfl
theorem bnd_e {α β : Type} (a : α) (f : α → Option β) : bnd a f = f a := rfl
theorem bdo_n {γ : Type} (fn : Option γ) (fs : Nat → Option γ) : bdo (some none) fn fs = fn := rfl
theorem bdo_s {γ : Type} (a : Nat) (fn : Option γ) (fs : Nat → Option γ) : bdo (some (some a)) fn fs = fs a := rfl
theorem bdx_o {α γ : Type} (a : α) (fe : String → Option γ) (f : α → Option γ) : bdx (some (.ok a)) fe f = f a := rfl
theorem bdx_e {α γ : Type} (E : String) (fe : String → Option γ) (f : α → Option γ) : bdx (some (.error E)) fe f = fe E := rfl
theorem bdx2_o {α β γ : Type} (a : α) (b : β) (fe : String → β → Option γ) (f : α → β → Option γ) : bdx2 (some (.ok a, b)) fe f = f a b := rfl
theorem bdx2_e {α β γ : Type} (E : String) (b : β) (fe : String → β → Option γ) (f : α → β → Option γ) : bdx2 (some (.error E, b)) fe f = fe E b := rfl
theorem kI_U (κ : jKt) (a j : Nat) (x : Int32) (b k : Nat) : kI (kU κ a j (.int x)) b k = if b = a ∧ k = j then x else kI κ b k := by
  unfold kI kU
  by_cases h : b = a ∧ k = j <;> simp [h]
theorem kI_Ur (κ : jKt) (a j : Nat) (x : Nat) (b k : Nat) : kI (kU κ a j (.ref x)) b k = if b = a ∧ k = j then 0 else kI κ b k := by
  unfold kI kU
  by_cases h : b = a ∧ k = j <;> simp [h]
theorem kR_U (κ : jKt) (a j : Nat) (x : Int32) (b k : Nat) : kR (kU κ a j (.int x)) b k = if b = a ∧ k = j then 0 else kR κ b k := by
  unfold kR kU
  by_cases h : b = a ∧ k = j <;> simp [h]
theorem kR_Ur (κ : jKt) (a j : Nat) (x : Nat) (b k : Nat) : kR (kU κ a j (.ref x)) b k = if b = a ∧ k = j then x else kR κ b k := by
  unfold kR kU
  by_cases h : b = a ∧ k = j <;> simp [h]
theorem oN_c (n : Nat) : (OfNat.ofNat n : Int32) = oN n := rfl
