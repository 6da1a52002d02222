/-! ===== layer 3: the count of the bits is the count of the sleeves ===== -/
theorem pop_all {x : Nat} (hx : x < 65536) : popS (oN x) = oN (pcn 16 x) := by
  have hk : x / 8192 = 0 ∨ x / 8192 = 1 ∨ x / 8192 = 2 ∨ x / 8192 = 3 ∨ x / 8192 = 4 ∨ x / 8192 = 5 ∨ x / 8192 = 6 ∨ x / 8192 = 7 := by omega
  rcases hk with h | h | h | h | h | h | h | h
  · have := pop_0 (x / 128 % 64) (by omega) (x % 128) (by omega)
    rw [show 8192 * 0 + 128 * (x / 128 % 64) + x % 128 = x by omega] at this
    exact this
  · have := pop_1 (x / 128 % 64) (by omega) (x % 128) (by omega)
    rw [show 8192 * 1 + 128 * (x / 128 % 64) + x % 128 = x by omega] at this
    exact this
  · have := pop_2 (x / 128 % 64) (by omega) (x % 128) (by omega)
    rw [show 8192 * 2 + 128 * (x / 128 % 64) + x % 128 = x by omega] at this
    exact this
  · have := pop_3 (x / 128 % 64) (by omega) (x % 128) (by omega)
    rw [show 8192 * 3 + 128 * (x / 128 % 64) + x % 128 = x by omega] at this
    exact this
  · have := pop_4 (x / 128 % 64) (by omega) (x % 128) (by omega)
    rw [show 8192 * 4 + 128 * (x / 128 % 64) + x % 128 = x by omega] at this
    exact this
  · have := pop_5 (x / 128 % 64) (by omega) (x % 128) (by omega)
    rw [show 8192 * 5 + 128 * (x / 128 % 64) + x % 128 = x by omega] at this
    exact this
  · have := pop_6 (x / 128 % 64) (by omega) (x % 128) (by omega)
    rw [show 8192 * 6 + 128 * (x / 128 % 64) + x % 128 = x by omega] at this
    exact this
  · have := pop_7 (x / 128 % 64) (by omega) (x % 128) (by omega)
    rw [show 8192 * 7 + 128 * (x / 128 % 64) + x % 128 = x by omega] at this
    exact this
def tbs (x : Nat) : Nat → Nat
  | 0 => 0
  | n + 1 => tbs x n + (if x.testBit n = true then 1 else 0)
theorem tbs_s (x : Nat) : ∀ n, tbs x (n + 1) = x % 2 + tbs (x / 2) n := by
  intro n
  induction n with
  | zero =>
    show 0 + (if x.testBit 0 = true then 1 else 0) = x % 2 + 0
    rw [Nat.testBit_zero]
    rcases Nat.mod_two_eq_zero_or_one x with h | h <;> rw [h] <;> decide
  | succ n ih =>
    show tbs x (n + 1) + (if x.testBit (n + 1) = true then 1 else 0) = x % 2 + (tbs (x / 2) n + (if (x / 2).testBit n = true then 1 else 0))
    rw [ih, Nat.testBit_succ]
    omega
theorem pcn_t : ∀ n x, pcn n x = tbs x n := by
  intro n
  induction n with
  | zero => intro x; rfl
  | succ n ih => intro x; rw [tbs_s, ← ih]; rfl
theorem cnt_t (S : Int32) : ∀ n, cnt S n = tbs S.toBitVec.toNat n := by
  intro n
  induction n with
  | zero => rfl
  | succ n ih =>
    show cnt S n + _ = tbs S.toBitVec.toNat n + _
    rw [ih]
    rfl
theorem cnt_16 {S : Int32} (h : ∀ j, 16 ≤ j → j < 32 → bt S j = false) : cnt S 32 = cnt S 16 := by
  have : ∀ k, 16 + k ≤ 32 → cnt S (16 + k) = cnt S 16 := by
    intro k
    induction k with
    | zero => intro _; rfl
    | succ k ih =>
      intro hk
      show cnt S (16 + k) + (if bt S (16 + k) = true then 1 else 0) = cnt S 16
      rw [ih (by omega), h (16 + k) (by omega) (by omega)]
      rfl
  exact this 16 (by omega)
theorem J6_cnt {κ : jKt} {S : Int32} (h : ∀ j, 16 ≤ j → j < 32 → bt S j = false) : P_J6_bitCount_0f7a4 κ S = some (oN (cnt S 32)) := by
  have hx : S.toBitVec.toNat < 65536 := by
    refine Nat.lt_pow_two_of_testBit (n := 16) _ (fun i hi => ?_)
    by_cases h32 : i < 32
    · exact h i hi h32
    · exact b_big (x := S) (by omega)
  have hS : oN S.toBitVec.toNat = S := by
    apply Int32.toBitVec_inj.mp
    show BitVec.ofNat 32 S.toBitVec.toNat = S.toBitVec
    exact BitVec.eq_of_toNat_eq (by rw [BitVec.toNat_ofNat]; exact Nat.mod_eq_of_lt S.toBitVec.isLt)
  rw [J6_pop, cnt_16 h, cnt_t, ← pcn_t, ← pop_all hx, hS]
/-- how many places below n have p -/
def cn (p : Nat → Bool) : Nat → Nat
  | 0 => 0
  | n + 1 => cn p n + (if p n = true then 1 else 0)
theorem sm_l {f : Nat → Int32} : ∀ (n i : Nat) (a : Int32), sm f i (n + 1) a = sm f i n a + f (i + n) := by
  intro n
  induction n with
  | zero => intro i a; rfl
  | succ n ih =>
    intro i a
    show sm f (i + 1) (n + 1) (a + f i) = sm f (i + 1) n (a + f i) + f (i + (n + 1))
    rw [ih, show i + 1 + n = i + (n + 1) by omega]
theorem sm_cn {p : Nat → Bool} : ∀ n, sm (fun l => if p l = true then 1 else 0) 0 n 0 = oN (cn p n) := by
  intro n
  induction n with
  | zero => rfl
  | succ n ih =>
    rw [sm_l, ih, Nat.zero_add]
    show _ = oN (cn p n + (if p n = true then 1 else 0))
    by_cases h : p n = true
    · rw [if_pos h, if_pos h, ← oN_add]; rfl
    · rw [if_neg h, if_neg h, Int32.add_zero]; rfl
theorem cnt_cn {S : Int32} {p : Nat → Bool} {n : Nat} (h : ∀ j, j < 32 → bt S j = (decide (j < n) && p j)) (hn : n ≤ 32) : cnt S 32 = cn p n := by
  have h1 : ∀ k, k ≤ n → cnt S k = cn p k := by
    intro k
    induction k with
    | zero => intro _; rfl
    | succ k ih =>
      intro hk
      show cnt S k + (if bt S k = true then 1 else 0) = cn p k + (if p k = true then 1 else 0)
      rw [ih (by omega), h k (by omega), decide_eq_true (by omega : k < n), Bool.true_and]
  have h2 : ∀ k, n + k ≤ 32 → cnt S (n + k) = cnt S n := by
    intro k
    induction k with
    | zero => intro _; rfl
    | succ k ih =>
      intro hk
      show cnt S (n + k) + (if bt S (n + k) = true then 1 else 0) = cnt S n
      rw [ih (by omega), h (n + k) (by omega), decide_eq_false (by omega : ¬ n + k < n)]
      rfl
  have := h2 (32 - n) (by omega)
  rw [show n + (32 - n) = 32 by omega] at this
  rw [this]
  exact h1 n (Nat.le_refl _)
theorem X4_sewnCount {κ : jKt} {a n : Nat} (hn : kI κ a 3 = oN n) (h16 : n ≤ 16) : P_X4_sewnCount κ a = some (sm (fun l => if sSt κ a l = 115 then 1 else 0) 0 n 0) ∧ P_X4_unsewnCount κ a = some (oN n - sm (fun l => if sSt κ a l = 115 then 1 else 0) 0 n 0) := by
  obtain ⟨S, s1, s2⟩ := X4_sewnSet hn h16
  have hc := J6_cnt (κ := κ) (S := S) (fun j h1 h2 => by rw [s2 j h2, decide_eq_false (by omega : ¬ j < n)]; rfl)
  have e : oN (cnt S 32) = sm (fun l => if sSt κ a l = 115 then 1 else 0) 0 n 0 := by
    rw [cnt_cn (p := fun l => decide (sSt κ a l = 115)) s2 (by omega), ← sm_cn]
    refine sm_c _ _ _ (fun l _ _ => ?_)
    by_cases h : sSt κ a l = 115
    · rw [if_pos (decide_eq_true h), if_pos h]
    · rw [if_neg (by rw [decide_eq_false h]; decide), if_neg h]
  rw [e] at hc
  refine ⟨?_, ?_⟩
  · unfold P_X4_sewnCount
    rw [s1, bd_s, hc, bd_s]
  · unfold P_X4_unsewnCount
    rw [s1, bd_s, hc, bd_s, hn]
