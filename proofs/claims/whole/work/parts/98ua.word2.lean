/-! ===== layer 3: the model reads a word ===== -/
/-- the first j letters of the word k stand at p -/
def pre (T : Nat → Int32) (n p k : Nat) : Nat → Bool
  | 0 => true
  | j + 1 => pre T n p k j && hd T n (p + j) j k
/-- how long the word k is -/
def wl (k : Nat) : Nat := waL.getD (k + 1) 0 - waL.getD k 0
theorem wl_b : ∀ k, k < 10 → 1 ≤ wl k ∧ wl k ≤ 9 ∧ waL.getD k 0 + wl k = waL.getD (k + 1) 0 := by decide +kernel
/-- only the place, the flag and the words' flags change -/
def Fw (ad : Nat → Nat) (κ κ' : jKt) : Prop := ∀ m j, ¬ (m = 20 ∧ (j = 17 ∨ j = 20)) → m ≠ 29 → κ' (ad m) j = κ (ad m) j
/-- the last word whose flag stands and that is j long -/
def lsw (F : Nat → Bool) (j : Nat) : Nat → Nat → Int32 → Int32
  | 0, _, r => r
  | q + 1, i, r => lsw F j q (i + 1) (if F i = true ∧ wl i = j then oN i else r)
theorem lsw_p {F : Nat → Bool} {j : Nat} : ∀ (q i : Nat) (r : Int32), (lsw F j q i r = r ∧ ∀ k, i ≤ k → k < i + q → ¬ (F k = true ∧ wl k = j)) ∨ ∃ k, i ≤ k ∧ k < i + q ∧ F k = true ∧ wl k = j ∧ lsw F j q i r = oN k := by
  intro q
  induction q with
  | zero => intro i r; exact Or.inl ⟨rfl, fun k h1 h2 => by omega⟩
  | succ q ih =>
    intro i r
    rw [lsw]
    rcases ih (i + 1) (if F i = true ∧ wl i = j then oN i else r) with ⟨h1, h2⟩ | ⟨k, h1, h2, h3, h4, h5⟩
    · by_cases z : F i = true ∧ wl i = j
      · rw [if_pos z] at h1 ⊢
        exact Or.inr ⟨i, Nat.le_refl _, by omega, z.1, z.2, h1⟩
      · rw [if_neg z] at h1 ⊢
        refine Or.inl ⟨h1, fun k g1 g2 => ?_⟩
        by_cases y : k = i
        · rw [y]; exact z
        · exact h2 k (by omega) (by omega)
    · exact Or.inr ⟨k, by omega, by omega, h3, h4, h5⟩
section WORD2
variable {ad : Nat → Nat} {κ κ1 κ2 : jKt} {T : Nat → Int32} {n p j : Nat}
theorem Fw.refl : Fw ad κ κ := fun _ _ _ _ => rfl
theorem Fw.trans (h : Fw ad κ κ1) (g : Fw ad κ1 κ2) : Fw ad κ κ2 := fun m i a b => (g m i a b).trans (h m i a b)
theorem Fq.w (h : Fq ad κ κ1) : Fw ad κ κ1 := fun m i a _ => h m i a
theorem F29.w (h : F29 ad κ κ1) : Fw ad κ κ1 := fun m i _ b => h m i b
theorem MW.w (h : MW ad κ) (f : Fw ad κ κ1) : MW ad κ1 := by
  obtain ⟨h1, h2, h3, h4, h5⟩ := h
  refine ⟨?_, ?_, ?_, fun i hi => ?_, fun i hi => ?_⟩
  · unfold kR at *; rw [f 20 13 (by omega) (by omega)]; exact h1
  · unfold kR at *; rw [f 20 14 (by omega) (by omega)]; exact h2
  · unfold kR at *; rw [f 20 15 (by omega) (by omega)]; exact h3
  · have := h4 i hi; unfold iS kI at *; rw [f 30 i (by omega) (by omega)]; exact this
  · have := h5 i hi; unfold iS kI at *; rw [f 31 i (by omega) (by omega)]; exact this
theorem FG.q {F : Nat → Bool} (h : FG ad κ F) (f : Fq ad κ κ1) : FG ad κ1 F := fun k hk => by
  have := h k hk
  unfold kI at *
  rw [f 29 k (by omega)]; exact this
theorem pre_le : ∀ (j k : Nat), k < 10 → pre T n p k j = true → j ≤ wl k ∧ p + j ≤ max p n := by
  intro j
  induction j with
  | zero => intro k _ _; omega
  | succ j ih =>
    intro k hk h
    rw [pre, Bool.and_eq_true] at h
    have h2 := h.2
    unfold hd at h2
    rw [Bool.and_eq_true, Bool.and_eq_true] at h2
    have a := of_decide_eq_true h2.1
    have b := of_decide_eq_true h2.2.1
    have := (wl_b k hk).2.2
    omega
theorem m_167 (K25 : jKt → Int32 → Int32 → Option (Int32 × jKt)) {F : Nat → Bool} (hW : MW ad κ) (hF : FG ad κ F) (hj : j < 60) : ∀ (q i f : Nat) (r : Int32), i + q = 10 → q < f → P_X7_word_167 (ad 20) (oN j) K25 f κ r (oN i) = K25 κ (oN j) (lsw F j q i r) := by
  obtain ⟨w1, w2, w3, w4, w5⟩ := id hW
  have w5' : ∀ j, j < 11 → kI κ (ad 31) j = oN (waL.getD j 0) := w5
  intro q
  induction q with
  | zero =>
    intro i f r g1 g2
    obtain ⟨f, rfl⟩ : ∃ g, f = g + 1 := ⟨f - 1, by omega⟩
    have hi10 : i = 10 := by omega
    subst hi10
    rw [P_X7_word_167, if_pos (by decide)]; rfl
  | succ q ih =>
    intro i f r g1 g2
    obtain ⟨f, rfl⟩ : ∃ g, f = g + 1 := ⟨f - 1, by omega⟩
    have hni : ¬ (10 : Int32) ≤ oN i := fun h => by have := (oN_le (a := 10) (by omega) (by omega)).mp h; omega
    have e1 : (oN i + 1 : Int32) = oN (i + 1) := oN_add _ 1
    have b1 := wa_b i (by omega)
    have b2 := wa_b (i + 1) (by omega)
    have b3 := (wl_b i (by omega)).2.2
    rw [P_X7_word_167, if_neg hni, ck_t (jin_N (by omega) (by omega)), w1, oN_ix (by omega), hF i (by omega), lsw, e1]
    by_cases z : F i = true
    · rw [z, if_pos rfl, if_pos rfl, ck_t (jin_N (by omega) (by omega)), ck_t (jin_N (by omega) (by omega)), w3, oN_ix (by omega), w5' _ (by omega), w5' _ (by omega), show (oN (waL.getD i 0) + oN j : Int32) = oN (waL.getD i 0 + j) from oN_add _ _]
      by_cases y : wl i = j
      · rw [if_pos (by rw [← y, b3]), if_pos ⟨rfl, y⟩]
        exact ih (i + 1) f (oN i) (by omega) (by omega)
      · rw [if_neg (fun g => y (by have := (oN_eq (by omega) (by omega)).mp g; omega)), if_neg (fun g => y g.2)]
        exact ih (i + 1) f r (by omega) (by omega)
    · rw [if_neg z, if_neg (by decide), if_neg (fun g => z g.1)]
      exact ih (i + 1) f r (by omega) (by omega)
theorem m_word25 (hi : ∀ a b, ad a = ad b → a = b) : ∀ (q j f : Nat) (κ : jKt) (F : Nat → Bool), j + q = 12 → q < f → MW ad κ → SM ad κ T n (p + j) 0 → FG ad κ F → (∀ k, k < 10 → F k = pre T n p k j) → (∃ k, k < 10 ∧ pre T n p k j = true) → (∀ k, k < 10 → pre T n p k (wl k) = true → j < wl k) →
    ∃ r κ', P_X7_word_25 (ad 20) f κ (oN j) (-1) = some (r, κ') ∧ Fw ad κ κ' ∧
      ((∃ k, k < 10 ∧ pre T n p k (wl k) = true ∧ r = oN k ∧ SM ad κ' T n (p + wl k) 0) ∨
       (∃ i, (∃ k, k < 10 ∧ pre T n p k i = true) ∧ (∀ k, k < 10 → ¬ pre T n p k (i + 1) = true) ∧ (∀ k, k < 10 → ¬ pre T n p k (wl k) = true) ∧ r = -1 ∧ SM ad κ' T n (p + i) 1)) := by
  intro q
  induction q with
  | zero =>
    intro j f κ F g1 g2 hW hS hF hP hE hN
    obtain ⟨k, k1, k2⟩ := hE
    have := (pre_le j k k1 k2).1
    have := (wl_b k k1).2.1
    omega
  | succ q ih =>
    intro j f κ F g1 g2 hW hS hF hP hE hN
    obtain ⟨f, rfl⟩ : ∃ g, f = g + 1 := ⟨f - 1, by omega⟩
    have hpn := hS.1.2.1
    have hn60 := hS.1.1
    obtain ⟨κ1, F1, a1, a2, a3, a4⟩ := m_col (j := j) hi (-1) (P_X7_word_25 (ad 20) f) (by omega) 10 0 4000 κ false F (by omega) (by omega) hW hS hF
    have a1' : P_X7_word_41 (ad 20) (oN j) (-1) (P_X7_word_25 (ad 20) f) 4000 κ 0 0 = _ := a1
    have hF1 : ∀ k, k < 10 → F1 k = pre T n p k (j + 1) := fun k hk => by
      rw [a3 k hk, if_pos (Nat.zero_le _), pre, hP k hk]
    have e1 : (oN j + 1 : Int32) = oN (j + 1) := oN_add _ 1
    have hW1 := hW.f a4
    have hS1 := hS.f a4
    rw [P_X7_word_25, if_neg (by decide), hS.2.2, if_pos rfl, a1']
    by_cases z : ∃ k, k < 10 ∧ pre T n p k (j + 1) = true
    · -- some word goes on
      have hany : (List.range 10).any (fun t => F (0 + t) && hd T n (p + j) j (0 + t)) = true := by
        obtain ⟨k, k1, k2⟩ := z
        rw [List.any_eq_true]
        refine ⟨k, List.mem_range.mpr k1, ?_⟩
        rw [Nat.zero_add, hP k k1]
        exact k2
      rw [hany]
      have hlt : p + (j + 1) ≤ n := by
        obtain ⟨k, k1, k2⟩ := z
        have := (pre_le (j + 1) k k1 k2).2
        omega
      have s1 := hS1.e hi 0
      have s2 := s1.p hi (q := p + (j + 1)) hlt
      have fq : Fq ad κ1 (kU (kU κ1 (ad 20) 20 (.int 0)) (ad 20) 17 (.int (oN (p + (j + 1))))) := (Fq.U hi (Or.inr rfl) _).trans (Fq.U hi (Or.inl rfl) _)
      have e2 : (oN (p + j) + 1 : Int32) = oN (p + (j + 1)) := oN_add _ 1
      have go : P_X7_word_140 κ1 (ad 20) (oN j) (-1) (if false || true then 1 else 0) (if false || true then 0 else 1) (ad 20) (P_X7_word_25 (ad 20) f) = P_X7_word_25 (ad 20) f (kU (kU κ1 (ad 20) 20 (.int 0)) (ad 20) 17 (.int (oN (p + (j + 1))))) (oN (j + 1)) (lsw F1 (j + 1) 10 0 (-1)) := by
        unfold P_X7_word_140
        rw [show (if false || true then (1 : Int32) else 0) = 1 from rfl, show (if false || true then (0 : Int32) else 1) = 0 from rfl, ck_t (by decide), bnd_e, if_neg (by decide), s1.2.1, e2, bnd_e, e1]
        exact m_167 (P_X7_word_25 (ad 20) f) (hW1.w fq.w) (a2.q fq) (by omega) 10 0 4000 (-1) (by omega) (by omega)
      rw [go]
      have fr : Fw ad κ (kU (kU κ1 (ad 20) 20 (.int 0)) (ad 20) 17 (.int (oN (p + (j + 1))))) := a4.w.trans fq.w
      rcases lsw_p (F := F1) (j := j + 1) 10 0 (-1) with ⟨l1, l2⟩ | ⟨k, l1, l2, l3, l4, l5⟩
      · rw [l1]
        obtain ⟨r, κ', b1, b2, b3⟩ := ih (j + 1) f _ F1 (by omega) (by omega) (hW1.w fq.w) s2 (a2.q fq) hF1 z (fun k hk hp => by
          have h1 := hN k hk hp
          have h2 := l2 k (Nat.zero_le _) (by omega)
          by_cases y : wl k = j + 1
          · exfalso
            apply h2
            rw [hF1 k hk, ← y]
            exact ⟨hp, rfl⟩
          · omega)
        exact ⟨r, κ', b1, fr.trans b2, b3⟩
      · obtain ⟨f, rfl⟩ : ∃ g, f = g + 1 := ⟨f - 1, by omega⟩
        rw [l5, P_X7_word_25, if_pos (Int32.not_lt.mp (oN_nneg (by omega)))]
        refine ⟨_, _, rfl, fr, Or.inl ⟨k, by omega, ?_, rfl, ?_⟩⟩
        · rw [l4, ← hF1 k (by omega)]; exact l3
        · rw [l4]; exact s2
    · -- none goes on
      have hany : (List.range 10).any (fun t => F (0 + t) && hd T n (p + j) j (0 + t)) = false := by
        rw [← Bool.not_eq_true, List.any_eq_true]
        rintro ⟨k, k1, k2⟩
        have k1' := List.mem_range.mp k1
        rw [Nat.zero_add, hP k k1'] at k2
        exact z ⟨k, k1', k2⟩
      rw [hany]
      have s1 := hS1.e hi 1
      have s2 := s1.p hi (q := p + j) hpn
      have fq : Fq ad κ1 (kU (kU κ1 (ad 20) 20 (.int 1)) (ad 20) 17 (.int (oN (p + j)))) := (Fq.U hi (Or.inr rfl) _).trans (Fq.U hi (Or.inl rfl) _)
      have e2 : (oN (p + j) + 0 : Int32) = oN (p + j) := oN_add _ 0
      have go : P_X7_word_140 κ1 (ad 20) (oN j) (-1) (if false || false then 1 else 0) (if false || false then 0 else 1) (ad 20) (P_X7_word_25 (ad 20) f) = P_X7_word_25 (ad 20) f (kU (kU κ1 (ad 20) 20 (.int 1)) (ad 20) 17 (.int (oN (p + j)))) (oN (j + 1)) (lsw F1 (j + 1) 10 0 (-1)) := by
        unfold P_X7_word_140
        rw [show (if false || false then (1 : Int32) else 0) = 0 from rfl, show (if false || false then (0 : Int32) else 1) = 1 from rfl, ck_t (by decide), bnd_e, if_pos rfl, s1.2.1, e2, bnd_e, e1]
        exact m_167 (P_X7_word_25 (ad 20) f) (hW1.w fq.w) (a2.q fq) (by omega) 10 0 4000 (-1) (by omega) (by omega)
      rw [go]
      have fr : Fw ad κ (kU (kU κ1 (ad 20) 20 (.int 1)) (ad 20) 17 (.int (oN (p + j)))) := a4.w.trans fq.w
      have hl : lsw F1 (j + 1) 10 0 (-1) = -1 := by
        rcases lsw_p (F := F1) (j := j + 1) 10 0 (-1) with ⟨l1, l2⟩ | ⟨k, l1, l2, l3, l4, l5⟩
        · exact l1
        · exfalso
          rw [hF1 k (by omega)] at l3
          exact z ⟨k, by omega, l3⟩
      obtain ⟨f, rfl⟩ : ∃ g, f = g + 1 := ⟨f - 1, by omega⟩
      rw [hl, P_X7_word_25, if_neg (by decide), s2.2.2, if_neg (by decide)]
      refine ⟨_, _, rfl, fr, Or.inr ⟨j, hE, fun k hk h => z ⟨k, hk, h⟩, fun k hk h => ?_, rfl, s2⟩⟩
      have h1 := hN k hk h
      have mono : ∀ i, j + 1 + i ≤ wl k → pre T n p k (j + 1 + i) = true → pre T n p k (j + 1) = true := by
        intro i
        induction i with
        | zero => intro _ h; exact h
        | succ i ihi =>
          intro h1 h2
          refine ihi (by omega) ?_
          rw [show j + 1 + (i + 1) = (j + 1 + i) + 1 from by omega, pre, Bool.and_eq_true] at h2
          exact h2.1
      exact z ⟨k, hk, mono (wl k - (j + 1)) (by omega) (by rw [show j + 1 + (wl k - (j + 1)) = wl k from by omega]; exact h)⟩
theorem m_word2 (hi : ∀ a b, ad a = ad b → a = b) : ∀ (q i f : Nat) (κ : jKt), i + q = 10 → q < f → MW ad κ → (∀ k, k < i → kI κ (ad 29) k = 1) → ∃ κ', P_X7_word_2 (ad 20) f κ (oN i) = P_X7_word_25 (ad 20) 4000 κ' 0 (-1) ∧ F29 ad κ κ' ∧ FG ad κ' (fun _ => true) := by
  intro q
  induction q with
  | zero =>
    intro i f κ g1 g2 hW hk
    obtain ⟨f, rfl⟩ : ∃ g, f = g + 1 := ⟨f - 1, by omega⟩
    have hi10 : i = 10 := by omega
    subst hi10
    refine ⟨κ, ?_, fun _ _ _ => rfl, fun k hk2 => by rw [if_pos rfl]; exact hk k hk2⟩
    rw [P_X7_word_2, if_pos (by decide)]
  | succ q ih =>
    intro i f κ g1 g2 hW hk
    obtain ⟨f, rfl⟩ : ∃ g, f = g + 1 := ⟨f - 1, by omega⟩
    have hni : ¬ (10 : Int32) ≤ oN i := fun h => by have := (oN_le (a := 10) (by omega) (by omega)).mp h; omega
    have e1 : (oN i + 1 : Int32) = oN (i + 1) := oN_add _ 1
    have f1 : F29 ad κ (kU κ (ad 29) i (.int 1)) := F29.U hi _ _
    obtain ⟨κ', b1, b2, b3⟩ := ih (i + 1) f (kU κ (ad 29) i (.int 1)) (by omega) (by omega) (hW.f f1) (fun k hk2 => by
      rw [kI_Un hi]
      by_cases z : k = i
      · rw [if_pos ⟨rfl, z⟩]
      · rw [if_neg (fun g => z g.2)]; exact hk k (by omega))
    refine ⟨κ', ?_, fun m t hm => (b2 m t hm).trans (f1 m t hm), b3⟩
    rw [P_X7_word_2, if_neg hni, ck_t (jin_N (by omega) (by omega)), hW.1, oN_ix (by omega), bnd_e, e1]
    exact b1
/-- the model reads a word from p -/
theorem m_word (hi : ∀ a b, ad a = ad b → a = b) (hW : MW ad κ) (hS : SM ad κ T n p 0) : ∃ r κ', P_X7_word κ (ad 20) = some (r, κ') ∧ Fw ad κ κ' ∧
      ((∃ k, k < 10 ∧ pre T n p k (wl k) = true ∧ r = oN k ∧ SM ad κ' T n (p + wl k) 0) ∨
       (∃ i, (∃ k, k < 10 ∧ pre T n p k i = true) ∧ (∀ k, k < 10 → ¬ pre T n p k (i + 1) = true) ∧ (∀ k, k < 10 → ¬ pre T n p k (wl k) = true) ∧ r = -1 ∧ SM ad κ' T n (p + i) 1)) := by
  obtain ⟨κ1, a1, a2, a3⟩ := m_word2 hi 10 0 4000 κ (by omega) (by omega) hW (fun k hk => absurd hk (Nat.not_lt_zero _))
  obtain ⟨r, κ', b1, b2, b3⟩ := m_word25 (p := p) hi 12 0 4000 κ1 (fun _ => true) (by omega) (by omega) (hW.f a2) (hS.f a2) a3 (fun k _ => rfl) ⟨0, by omega, rfl⟩ (fun k hk _ => by have := (wl_b k hk).1; omega)
  exact ⟨r, κ', a1.trans b1, a2.w.trans b2, b3⟩
end WORD2
