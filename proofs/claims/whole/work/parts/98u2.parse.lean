/-! ===== layer 3: the text of a script, read by both sides ===== -/
section PARSE
variable {ad : Nat → Nat} {κ κ1 κ2 : jKt} {T : Nat → Int32} {n : Nat}
/-- behind at most k digits from p -/
def eD (T : Nat → Int32) (n : Nat) : Nat → Nat → Nat
  | 0, p => p
  | k + 1, p => if p < n ∧ 48 ≤ T p ∧ T p ≤ 57 then eD T n k (p + 1) else p
/-- what k digits from p come to, behind a -/
def vO (T : Nat → Int32) : Nat → Nat → Int32 → Int32
  | 0, _, a => a
  | k + 1, p, a => vO T k (p + 1) (10 * a + (T p - 48))
theorem eD_ge : ∀ (k p : Nat), p ≤ eD T n k p ∧ eD T n k p ≤ p + k := by
  intro k
  induction k with
  | zero => intro p; exact ⟨Nat.le_refl _, Nat.le_refl _⟩
  | succ k ih =>
    intro p
    unfold eD
    by_cases z : p < n ∧ 48 ≤ T p ∧ T p ≤ 57
    · rw [if_pos z]; have := ih (p + 1); omega
    · rw [if_neg z]; omega
theorem eD_le : ∀ (k p : Nat), p ≤ n → eD T n k p ≤ n := by
  intro k
  induction k with
  | zero => intro p h; exact h
  | succ k ih =>
    intro p h
    unfold eD
    by_cases z : p < n ∧ 48 ≤ T p ∧ T p ≤ 57
    · rw [if_pos z]; exact ih (p + 1) (by omega)
    · rw [if_neg z]; exact h
/-- the class's text -/
def SC (ad : Nat → Nat) (κ : jKt) (T : Nat → Int32) (n : Nat) : Prop := n ≤ 60 ∧ kI κ (ad 8) 1 = oN n ∧ kR κ (ad 8) 0 = ad 9 ∧ ∀ j, j < n → kI κ (ad 9) j = T j
theorem c_digits (h : SC ad κ T n) : ∀ (k i f p : Nat) (m : Nat), i + k = m → m < 100 → k < f → p ≤ n → P_X2_endOfDigits_5 κ (ad 8) (oN m) f (oN p) (oN i) = some (oN (eD T n k p)) := by
  obtain ⟨h1, h2, h3, h4⟩ := h
  intro k
  induction k with
  | zero =>
    intro i f p m g1 g2 g3 g4
    obtain ⟨f, rfl⟩ : ∃ g, f = g + 1 := ⟨f - 1, by omega⟩
    rw [P_X2_endOfDigits_5, if_pos ((oN_le (by omega) (by omega)).mpr (by omega))]; rfl
  | succ k ih =>
    intro i f p m g1 g2 g3 g4
    obtain ⟨f, rfl⟩ : ∃ g, f = g + 1 := ⟨f - 1, by omega⟩
    have e1 : (oN i + 1 : Int32) = oN (i + 1) := oN_add _ 1
    have e2 : (oN p + 1 : Int32) = oN (p + 1) := oN_add _ 1
    rw [P_X2_endOfDigits_5, if_neg (fun q => by have := (oN_le (by omega) (by omega)).mp q; omega), h2, h3, oN_ix (by omega), e1, e2]
    unfold eD
    by_cases z : p < n
    · rw [if_neg (fun q => by have := (oN_le (by omega) (by omega)).mp q; omega), ck_t (jin_N (by omega) (by omega)), h4 p z]
      by_cases y : T p < 48
      · rw [if_pos y, if_neg (fun q => absurd y (Int32.not_lt.mpr q.2.1))]
      · rw [if_neg y, ck_t (jin_N (by omega) (by omega))]
        by_cases x : T p ≤ 57
        · rw [if_pos x, if_pos ⟨z, Int32.not_lt.mp y, x⟩]
          exact ih (i + 1) f (p + 1) m (by omega) g2 (by omega) (by omega)
        · rw [if_neg x, if_neg (fun q => x q.2.2)]
    · rw [if_pos ((oN_le (by omega) (by omega)).mpr (by omega)), if_neg (fun q => z q.1)]
theorem c_endD (h : SC ad κ T n) {p k : Nat} (hk : k < 100) (hp : p ≤ n) : P_X2_endOfDigits κ (ad 8) (oN p) (oN k) = some (oN (eD T n k p)) :=
  c_digits h k 0 4000 p k (by omega) hk (by omega) hp
theorem c_value (h : SC ad κ T n) : ∀ (k f p m : Nat) (a : Int32), p + k = m → m ≤ n → k < f → P_X2_valueOf_5 κ (ad 8) (oN m) f a (oN p) = some (vO T k p a) := by
  obtain ⟨h1, h2, h3, h4⟩ := h
  intro k
  induction k with
  | zero =>
    intro f p m a g1 g2 g3
    obtain ⟨f, rfl⟩ : ∃ g, f = g + 1 := ⟨f - 1, by omega⟩
    rw [P_X2_valueOf_5, if_pos ((oN_le (by omega) (by omega)).mpr (by omega))]; rfl
  | succ k ih =>
    intro f p m a g1 g2 g3
    obtain ⟨f, rfl⟩ : ∃ g, f = g + 1 := ⟨f - 1, by omega⟩
    have e2 : (oN p + 1 : Int32) = oN (p + 1) := oN_add _ 1
    rw [P_X2_valueOf_5, if_neg (fun q => by have := (oN_le (by omega) (by omega)).mp q; omega), ck_t (jin_N (by omega) (by omega)), h3, oN_ix (by omega), h4 p (by omega), bnd_e, e2]
    exact ih f (p + 1) m _ (by omega) g2 (by omega)
theorem c_val (h : SC ad κ T n) {p k : Nat} (hk : p + k ≤ n) : P_X2_valueOf κ (ad 8) (oN p) (oN (p + k)) = some (vO T k p 0) :=
  c_value h k 4000 p (p + k) 0 rfl hk (by have := h.1; omega)
/-- behind one sign of a form: # one digit, @ up to three, else the letter itself -/
def eS (T : Nat → Int32) (n : Nat) (c : Int32) (p : Nat) : Nat := if c = 35 then eD T n 1 p else if c = 64 then eD T n 3 p else if p < n ∧ T p = c then p + 1 else p
theorem c_endS (h : SC ad κ T n) (c : Int32) {p : Nat} (hp : p ≤ n) : P_X2_endOfSign κ (ad 8) c (oN p) = some (oN (eS T n c p)) := by
  obtain ⟨h1, h2, h3, h4⟩ := id h
  unfold P_X2_endOfSign eS
  by_cases z1 : c = 35
  · rw [if_pos z1, if_pos z1, show (1 : Int32) = oN 1 from rfl, c_endD h (by omega) hp, bd_s]
  · rw [if_neg z1, if_neg z1]
    by_cases z2 : c = 64
    · rw [if_pos z2, if_pos z2, show (3 : Int32) = oN 3 from rfl, c_endD h (by omega) hp, bd_s]
    · rw [if_neg z2, if_neg z2, h2, h3, oN_ix (by omega)]
      by_cases z : p < n
      · rw [if_neg (fun q => by have := (oN_le (by omega) (by omega)).mp q; omega), ck_t (jin_N (by omega) (by omega)), h4 p z]
        by_cases y : T p = c
        · rw [if_pos y, if_pos ⟨z, y⟩, show (oN p + 1 : Int32) = oN (p + 1) from oN_add _ 1]
        · rw [if_neg y, if_neg (fun q => y q.2)]
      · rw [if_pos ((oN_le (by omega) (by omega)).mpr (by omega)), if_neg (fun q => z q.1)]
end PARSE
