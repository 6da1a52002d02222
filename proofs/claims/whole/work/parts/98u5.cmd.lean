/-! ===== layer 3: the class reads a command ===== -/
theorem ng_N : ∀ e, e < 61 → (oN e ^^^ (-1) : Int32) < 0 ∧ (oN e ^^^ (-1)) ^^^ (-1) = oN e := by decide +kernel
theorem jmax_N : ∀ a, a < 61 → ∀ b, b < 61 → jmax (oN a) (oN b) = oN (max a b) := by decide +kernel
/-- the letters of the form k -/
def fm (k : Nat) : List Int32 := jbyts.getD (22 + k) []
theorem fm_na : ∀ k, k < 10 → na (fm k) ≤ 3 := by decide +kernel
/-- the first form that fits from p, of q forms from k on; else how far one came -/
def rK (T : Nat → Int32) (n p : Nat) : Nat → Nat → Nat → Except Nat (Nat × Nat × List Int32)
  | 0, _, e => .error e
  | q + 1, k, e => match rF T n (fm k) p with
    | .ok (p', as) => .ok (k, p', as)
    | .error e' => rK T n p q (k + 1) (max e e')
section CMD
variable {ad : Nat → Nat} {κ κ1 κ2 : jKt} {T : Nat → Int32} {n : Nat}
/-- where the class lays kinds and arguments; the number of commands read -/
def SK (ad : Nat → Nat) (κ : jKt) (c : Nat) : Prop := kR κ (ad 8) 3 = ad 11 ∧ kR κ (ad 8) 2 = ad 10 ∧ kI κ (ad 8) 4 = oN c
theorem SK.f {c b : Nat} (h : SK ad κ c) (f : FA11 ad b κ κ1) : SK ad κ1 c := by
  obtain ⟨h1, h2, h3⟩ := h
  refine ⟨?_, ?_, ?_⟩
  · unfold kR at *; rw [f 8 3 (by omega)]; exact h1
  · unfold kR at *; rw [f 8 2 (by omega)]; exact h2
  · unfold kI at *; rw [f 8 4 (by omega)]; exact h3
theorem form_N (κ : jKt) : ∀ k, k < 10 → P_X2_formOf κ (oN k) = some (22 + k) := by
  intro k hk
  have : k = 0 ∨ k = 1 ∨ k = 2 ∨ k = 3 ∨ k = 4 ∨ k = 5 ∨ k = 6 ∨ k = 7 ∨ k = 8 ∨ k = 9 := by omega
  rcases this with h | h | h | h | h | h | h | h | h | h <;> subst h <;> rfl
theorem c_readForm (hi : ∀ a b, ad a = ad b → a = b) (hS : SC ad κ T n) {c k p : Nat} (hK : SK ad κ c) (hc : c < 60) (hk : k < 10) (hp : p ≤ n) :
    match rF T n (fm k) p with
    | .error e => ∃ κ', P_X2_readForm κ (ad 8) (oN k) (oN p) = some (oN e ^^^ (-1), κ') ∧ e ≤ n ∧ FA11 ad (3 * c) κ κ'
    | .ok (p', as) => ∃ κ', P_X2_readForm κ (ad 8) (oN k) (oN p) = some (oN p', κ') ∧ p' ≤ n ∧ FA11 ad (3 * c) κ κ' ∧ ∀ t (ht : t < as.length), kI κ' (ad 11) (3 * c + t) = as[t] := by
  have h3 := fm_na k hk
  have hl := (fm_len (22 + k) (by omega) (by omega)).1
  have := c_form hi (a := 22 + k) (by omega) (by omega) (kSn (22 + k)) 0 4000 p (3 * c) κ (by omega) (by omega) hS hK.1 hp (by
    rw [List.drop_zero]; show 3 * c + na (fm k) ≤ 180; omega)
  rw [List.drop_zero] at this
  have e : P_X2_readForm κ (ad 8) (oN k) (oN p) = P_X2_readForm_19 (ad 8) (22 + k) 4000 κ (oN p) (oN (3 * c)) (oN 0) := by
    unfold P_X2_readForm
    rw [form_N κ k hk, bd_s, hK.2.2, show (3 : Int32) = oN 3 from rfl, oN_mul, bnd_e]; rfl
  rw [e]
  exact this
theorem c_command (hi : ∀ a b, ad a = ad b → a = b) {c p : Nat} (hc : c < 60) (hp : p ≤ n) : ∀ (q k f e : Nat) (κ : jKt), k + q = 10 → q < f → e ≤ n → SC ad κ T n → SK ad κ c →
    match rK T n p q k e with
    | .error e' => ∃ κ', P_X2_readCommand_4 (ad 8) (oN p) f κ (oN e) (oN k) = some (oN e' ^^^ (-1), κ') ∧ e' ≤ n ∧ FA11 ad (3 * c) κ κ'
    | .ok (k', p', as) => ∃ κ1 κ', P_X2_readCommand_4 (ad 8) (oN p) f κ (oN e) (oN k) = some (oN p', κ') ∧ k' < 10 ∧ p' ≤ n ∧ FA11 ad (3 * c) κ κ1 ∧ (∀ t (ht : t < as.length), kI κ1 (ad 11) (3 * c + t) = as[t]) ∧ κ' = kU κ1 (ad 10) c (.int (oN k')) := by
  intro q
  induction q with
  | zero =>
    intro k f e κ g1 g2 he hS hK
    obtain ⟨f, rfl⟩ : ∃ g, f = g + 1 := ⟨f - 1, by omega⟩
    refine ⟨κ, ?_, he, fun _ _ _ => rfl⟩
    have hk : k = 10 := by omega
    subst hk
    rw [P_X2_readCommand_4, if_pos (by decide)]
  | succ q ih =>
    intro k f e κ g1 g2 he hS hK
    obtain ⟨f, rfl⟩ : ∃ g, f = g + 1 := ⟨f - 1, by omega⟩
    have hn := hS.1
    have hk10 : ¬ (10 : Int32) ≤ oN k := fun h => by have := (oN_le (a := 10) (by omega) (by omega)).mp h; omega
    have e1 : (oN k + 1 : Int32) = oN (k + 1) := oN_add _ 1
    have hr := c_readForm hi hS hK hc (k := k) (by omega) hp
    rw [P_X2_readCommand_4, if_neg hk10, rK]
    cases hR : rF T n (fm k) p with
    | error e' =>
      rw [hR] at hr
      obtain ⟨κ1, r1, r2, r3⟩ := hr
      obtain ⟨n1, n2⟩ := ng_N e' (by omega)
      rw [r1, bd2_s, if_pos n1, n2, jmax_N e (by omega) e' (by omega), e1]
      have hq := ih (k + 1) f (max e e') κ1 (by omega) (by omega) (by omega) (hS.f r3) (hK.f r3)
      simp only []
      cases hR2 : rK T n p q (k + 1) (max e e') with
      | error e2 =>
        rw [hR2] at hq
        obtain ⟨κ', s1, s2, s3⟩ := hq
        exact ⟨κ', s1, s2, fun m j hm => (s3 m j hm).trans (r3 m j hm)⟩
      | ok w =>
        obtain ⟨k', p', as⟩ := w
        rw [hR2] at hq
        obtain ⟨κ2, κ', s1, s2, s3, s4, s5, s6⟩ := hq
        exact ⟨κ2, κ', s1, s2, s3, fun m j hm => (s4 m j hm).trans (r3 m j hm), s5, s6⟩
    | ok w =>
      obtain ⟨p', as⟩ := w
      rw [hR] at hr
      obtain ⟨κ1, r1, r2, r3, r4⟩ := hr
      have hK1 := hK.f r3
      rw [r1, bd2_s, if_neg (oN_nneg (by omega)), hK1.2.2, ck_t (jin_N hc (by omega)), hK1.2.1, oN_ix (by omega), bnd_e]
      exact ⟨κ1, _, rfl, by omega, r2, r3, r4, rfl⟩
end CMD
