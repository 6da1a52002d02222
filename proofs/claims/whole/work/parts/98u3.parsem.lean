/-! ===== layer 3: the text of a script, read by the model ===== -/
section PARSEM
variable {ad : Nat → Nat} {κ κ1 κ2 : jKt} {T : Nat → Int32} {n : Nat}
/-- the model's text, read up to p; e tells whether it went wrong -/
def SM (ad : Nat → Nat) (κ : jKt) (T : Nat → Int32) (n p : Nat) (e : Int32) : Prop :=
  (n ≤ 60 ∧ p ≤ n ∧ kR κ (ad 20) 11 = ad 27 ∧ kI κ (ad 20) 18 = oN n ∧ ∀ j, j < n → kI κ (ad 27) j = T j) ∧ kI κ (ad 20) 17 = oN p ∧ kI κ (ad 20) 20 = e
/-- only the place and the flag change -/
def Fq (ad : Nat → Nat) (κ κ' : jKt) : Prop := ∀ m j, ¬ (m = 20 ∧ (j = 17 ∨ j = 20)) → κ' (ad m) j = κ (ad m) j
theorem Fq.refl : Fq ad κ κ := fun _ _ _ => rfl
theorem Fq.trans (h : Fq ad κ κ1) (g : Fq ad κ1 κ2) : Fq ad κ κ2 := fun m j a => (g m j a).trans (h m j a)
theorem Fq.U (hi : ∀ a b, ad a = ad b → a = b) {j : Nat} (hj : j = 17 ∨ j = 20) (x : Int32) : Fq ad κ (kU κ (ad 20) j (.int x)) := fun m i a => by
  unfold kU
  rw [if_neg (fun g => a (by have := hi _ _ g.1; omega))]
theorem SM.p (hi : ∀ a b, ad a = ad b → a = b) {p : Nat} {e : Int32} (h : SM ad κ T n p e) {q : Nat} (hq : q ≤ n) : SM ad (kU κ (ad 20) 17 (.int (oN q))) T n q e := by
  obtain ⟨⟨h1, h2, h3, h4, h5⟩, h6, h7⟩ := h
  refine ⟨⟨h1, hq, by rw [kR_Un hi (by omega)]; exact h3, by rw [kI_Un hi, if_neg (by omega)]; exact h4, fun j hj => by rw [kI_Un hi, if_neg (by omega)]; exact h5 j hj⟩, by rw [kI_Un hi, if_pos ⟨rfl, rfl⟩], by rw [kI_Un hi, if_neg (by omega)]; exact h7⟩
theorem SM.e (hi : ∀ a b, ad a = ad b → a = b) {p : Nat} {e : Int32} (h : SM ad κ T n p e) (e' : Int32) : SM ad (kU κ (ad 20) 20 (.int e')) T n p e' := by
  obtain ⟨⟨h1, h2, h3, h4, h5⟩, h6, h7⟩ := h
  refine ⟨⟨h1, h2, by rw [kR_Un hi (by omega)]; exact h3, by rw [kI_Un hi, if_neg (by omega)]; exact h4, fun j hj => by rw [kI_Un hi, if_neg (by omega)]; exact h5 j hj⟩, by rw [kI_Un hi, if_neg (by omega)]; exact h6, by rw [kI_Un hi, if_pos ⟨rfl, rfl⟩]⟩
theorem m_sign {p : Nat} {e : Int32} (h : SM ad κ T n p e) : P_X7_sign κ (ad 20) = some (if p < n then T p else -1) := by
  obtain ⟨⟨h1, h2, h3, h4, h5⟩, h6, h7⟩ := h
  unfold P_X7_sign
  rw [h4, h6]
  by_cases z : p < n
  · rw [if_neg (fun q => by have := (oN_le (by omega) (by omega)).mp q; omega), ck_t (jin_N (by omega) (by omega)), h3, oN_ix (by omega), h5 p z, if_pos z]
  · rw [if_pos ((oN_le (by omega) (by omega)).mpr (by omega)), if_neg z]
theorem m_mark (hi : ∀ a b, ad a = ad b → a = b) {p : Nat} (h : SM ad κ T n p 0) {c : Int32} (hc : c ≠ -1) :
    ∃ κ', P_X7_mark κ (ad 20) c = some κ' ∧ Fq ad κ κ' ∧ if p < n ∧ T p = c then SM ad κ' T n (p + 1) 0 else SM ad κ' T n p 1 := by
  unfold P_X7_mark P_X7_mark_22
  rw [h.2.2, if_pos rfl, m_sign h, bd_s]
  by_cases z : p < n ∧ T p = c
  · have h1 := h.e hi 0
    have h2 := h1.p hi (q := p + 1) (by omega)
    rw [if_pos z.1, if_pos z.2, ck_t (by decide), bnd_e, h1.2.2, if_pos rfl, h1.2.1, show (oN p + 1 : Int32) = oN (p + 1) from oN_add _ 1, bnd_e]
    exact ⟨_, rfl, (Fq.U hi (Or.inr rfl) _).trans (Fq.U hi (Or.inl rfl) _), by rw [if_pos z]; exact h2⟩
  · have hne : ¬ (if p < n then T p else -1) = c := by
      intro q
      by_cases y : p < n
      · rw [if_pos y] at q; exact z ⟨y, q⟩
      · rw [if_neg y] at q; exact hc q.symm
    have h1 := h.e hi 1
    have h2 := h1.p hi (q := p) h.1.2.1
    rw [if_neg hne, ck_t (by decide), bnd_e, h1.2.2, if_neg (by decide), h1.2.1, show (oN p + 0 : Int32) = oN p from oN_add _ 0, bnd_e]
    exact ⟨_, rfl, (Fq.U hi (Or.inr rfl) _).trans (Fq.U hi (Or.inl rfl) _), by rw [if_neg z]; exact h2⟩
theorem m_digits4 (hi : ∀ a b, ad a = ad b → a = b) : ∀ (k i f p m : Nat) (κ : jKt) (a : Int32), i + k = m → m < 100 → k < f → SM ad κ T n p 0 →
    ∃ κ', P_X7_digits_4 (ad 20) (oN m) f κ a (oN i) = some (vO T (eD T n k p - p) p a, κ') ∧ Fq ad κ κ' ∧ SM ad κ' T n (eD T n k p) (if i + (eD T n k p - p) = 0 then 1 else 0) := by
  have fin : ∀ (i p : Nat) (κ : jKt) (a : Int32), i < 100 → SM ad κ T n p 0 → ∃ κ', P_X7_digits_59 κ (ad 20) a (oN i) = some (a, κ') ∧ Fq ad κ κ' ∧ SM ad κ' T n p (if i = 0 then 1 else 0) := by
    intro i p κ a g h
    unfold P_X7_digits_59
    rw [h.2.2]
    by_cases z : i = 0
    · subst z
      rw [if_pos (show oN 0 = 0 from rfl), ck_t (by decide), bnd_e, if_pos rfl]
      exact ⟨_, rfl, Fq.U hi (Or.inr rfl) _, h.e hi _⟩
    · have z' : ¬ oN i = 0 := fun q => z ((oN_eq (b := 0) (by omega) (by omega)).mp q)
      rw [if_neg z', ck_t (by decide), bnd_e, if_neg z]
      exact ⟨_, rfl, Fq.U hi (Or.inr rfl) _, h.e hi _⟩
  intro k
  induction k with
  | zero =>
    intro i f p m κ a g1 g2 g3 h
    obtain ⟨f, rfl⟩ : ∃ g, f = g + 1 := ⟨f - 1, by omega⟩
    rw [P_X7_digits_4, h.2.2, if_pos rfl, if_pos ((oN_le (by omega) (by omega)).mpr (by omega)), show eD T n 0 p = p from rfl, Nat.sub_self]
    exact fin i p κ a (by omega) h
  | succ k ih =>
    intro i f p m κ a g1 g2 g3 h
    obtain ⟨f, rfl⟩ : ∃ g, f = g + 1 := ⟨f - 1, by omega⟩
    have e1 : (oN i + 1 : Int32) = oN (i + 1) := oN_add _ 1
    rw [P_X7_digits_4, h.2.2, if_pos rfl, if_neg (fun q => by have := (oN_le (by omega) (by omega)).mp q; omega), m_sign h, bd_s, X7_isIn, bd_s, bd_s, e1]
    by_cases z : p < n ∧ 48 ≤ T p ∧ T p ≤ 57
    · have q1 : eD T n (k + 1) p = eD T n k (p + 1) := by rw [eD, if_pos z]
      have hge := eD_ge (T := T) (n := n) k (p + 1)
      have q2 : eD T n k (p + 1) - p = (eD T n k (p + 1) - (p + 1)) + 1 := by omega
      have h1 := h.p hi (q := p + 1) (by omega)
      obtain ⟨κ', b1, b2, b3⟩ := ih (i + 1) f (p + 1) m _ (10 * a + (T p - 48)) (by omega) g2 (by omega) h1
      have ea : (10 * a + T p - 48 : Int32) = 10 * a + (T p - 48) := by rw [Int32.sub_eq_add_neg, Int32.sub_eq_add_neg, Int32.add_assoc]
      rw [if_pos z.1, if_pos z.2, if_neg (by decide), h.2.1, show (oN p + 1 : Int32) = oN (p + 1) from oN_add _ 1, bnd_e, ea, q1, q2]
      refine ⟨κ', b1, (Fq.U hi (Or.inl rfl) _).trans b2, ?_⟩
      rw [show i + (eD T n k (p + 1) - (p + 1) + 1) = i + 1 + (eD T n k (p + 1) - (p + 1)) from by omega]
      exact b3
    · have q1 : eD T n (k + 1) p = p := by rw [eD, if_neg z]
      have hn : ¬ (48 ≤ (if p < n then T p else -1) ∧ (if p < n then T p else -1) ≤ 57) := by
        intro q
        by_cases y : p < n
        · rw [if_pos y] at q; exact z ⟨y, q⟩
        · rw [if_neg y] at q; exact absurd q.1 (by decide)
      rw [if_neg hn, if_pos rfl, q1, Nat.sub_self]
      exact fin i p κ a (by omega) h
theorem m_digits (hi : ∀ a b, ad a = ad b → a = b) {k p : Nat} (hk : k < 100) (h : SM ad κ T n p 0) :
    ∃ κ', P_X7_digits κ (ad 20) (oN k) = some (vO T (eD T n k p - p) p 0, κ') ∧ Fq ad κ κ' ∧ SM ad κ' T n (eD T n k p) (if eD T n k p = p then 1 else 0) := by
  obtain ⟨κ', b1, b2, b3⟩ := m_digits4 hi k 0 4000 p k κ 0 (by omega) hk (by omega) h
  refine ⟨κ', b1, b2, ?_⟩
  have hge := eD_ge (T := T) (n := n) k p
  by_cases z : eD T n k p = p
  · rw [if_pos (by omega)] at b3; rw [if_pos z]; exact b3
  · rw [if_neg (by omega)] at b3; rw [if_neg z]; exact b3
end PARSEM
