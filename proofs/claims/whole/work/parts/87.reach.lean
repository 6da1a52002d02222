/-! ===== layer 3: what comes behind a sleeve: the model's closure ===== -/
def sub (S T : Int32) : Prop := ∀ j, j < 32 → bt S j = true → bt T j = true
def cnt (S : Int32) : Nat → Nat
  | 0 => 0
  | n + 1 => cnt S n + (if bt S n = true then 1 else 0)
theorem cnt_ub (S : Int32) : ∀ n, cnt S n ≤ n := by
  intro n
  induction n with
  | zero => exact Nat.le_refl _
  | succ n ih => unfold cnt; split <;> omega
theorem cnt_le {S T : Int32} (h : sub S T) : ∀ n, n ≤ 32 → cnt S n ≤ cnt T n := by
  intro n
  induction n with
  | zero => intro _; exact Nat.le_refl _
  | succ n ih =>
    intro hn
    have := ih (by omega)
    have hb := h n (by omega)
    unfold cnt
    by_cases h1 : bt S n = true
    · rw [if_pos h1, if_pos (hb h1)]; omega
    · rw [if_neg h1]; omega
theorem cnt_eq {S T : Int32} (h : sub S T) : ∀ n, n ≤ 32 → cnt T n ≤ cnt S n → ∀ j, j < n → bt T j = true → bt S j = true := by
  intro n
  induction n with
  | zero => intro _ _ j hj; omega
  | succ n ih =>
    intro hn hc j hj hT
    have hle := cnt_le h n (by omega)
    have hb := h n (by omega)
    unfold cnt at hc
    by_cases h1 : bt S n = true
    · rw [if_pos h1, if_pos (hb h1)] at hc
      by_cases e : j = n
      · rw [e]; exact h1
      · exact ih (by omega) (by omega) j (by omega) hT
    · rw [if_neg h1] at hc
      by_cases h2 : bt T n = true
      · rw [if_pos h2] at hc; omega
      · rw [if_neg h2] at hc
        by_cases e : j = n
        · rw [e] at hT; exact absurd hT h2
        · exact ih (by omega) (by omega) j (by omega) hT
theorem cnt_lt {S T : Int32} (h : sub S T) (hne : T ≠ S) : cnt S 32 < cnt T 32 := by
  rcases Nat.lt_or_ge (cnt S 32) (cnt T 32) with g | g
  · exact g
  · exfalso
    apply hne
    apply b_ext
    intro j hj
    have h1 := cnt_eq h 32 (Nat.le_refl _) g j hj
    have h2 := h j hj
    cases hS : bt S j <;> cases hT : bt T j
    · rfl
    · rw [hS, hT] at h1; exact absurd (h1 rfl) (by decide)
    · rw [hS, hT] at h2; exact absurd (h2 rfl) (by decide)
    · rfl
theorem sub_r (S : Int32) : sub S S := fun _ _ h => h
theorem sub_t {S T U : Int32} (h : sub S T) (g : sub T U) : sub S U := fun j hj x => g j hj (h j hj x)
/-- the sleeve l can be reached from f by the demands of the suit s -/
def rch (v : Nat → Int32) (s f l : Nat) : Prop := Relation.TransGen (fun f l => dmB v s l f) f l
theorem X7_pass {κ : jKt} {m s x : Nat} (hG : GR (mv κ m)) (hs : s < nn (mv κ m) 1) (hx : x < 2 ^ 31) (S0 : Int32) (K : Int32 → Int32 → Option Int32) : ∀ (k d f : Nat) (S : Int32), d + k = nn (mv κ m) (100 + 60 * s) → k < f →
    ∃ S', P_X7_behind_17 κ m (oN s) (oN x) S0 K f S (oN d) = K S' S0 ∧ sub S S' ∧
      (∀ e, d ≤ e → e < nn (mv κ m) (100 + 60 * s) → (nn (mv κ m) (133 + 60 * s + 2 * e) = x ∨ bt S (nn (mv κ m) (133 + 60 * s + 2 * e)) = true) → bt S' (nn (mv κ m) (134 + 60 * s + 2 * e)) = true) ∧
      ∀ P : Nat → Prop, (∀ j, j < 32 → bt S j = true → P j) → (∀ e, e < nn (mv κ m) (100 + 60 * s) → (nn (mv κ m) (133 + 60 * s + 2 * e) = x ∨ P (nn (mv κ m) (133 + 60 * s + 2 * e))) → P (nn (mv κ m) (134 + 60 * s + 2 * e))) → ∀ j, j < 32 → bt S' j = true → P j := by
  have h6 : s < 6 := by have := hG.2.1.2.2; omega
  obtain ⟨-, -, -, gd, -, gp⟩ := hG.2.2.2 s hs
  have hof : P_X7_of κ (oN s) 3 = some (oN (97 + 60 * s + 3)) := X7_of κ s 3
  have hN : kI κ (kR κ m 5) (97 + 60 * s + 3) = oN (nn (mv κ m) (100 + 60 * s)) := by
    rw [← gd.1]; unfold mv; rw [show 97 + 60 * s + 3 = 100 + 60 * s by omega]
  have h12 := gd.2.2
  intro k
  induction k with
  | zero =>
    intro d f S h1 h2
    obtain ⟨f, rfl⟩ : ∃ g, f = g + 1 := ⟨f - 1, by omega⟩
    refine ⟨S, ?_, sub_r S, fun e h3 h4 => by omega, fun P hP _ => hP⟩
    rw [P_X7_behind_17, hof, bd_s, ck_t ((oN_jin (by omega)).mpr (by omega)), oN_ix (by omega), hN, if_pos ((oN_le (by omega) (by omega)).mpr (by omega))]
  | succ k ih =>
    intro d f S h1 h2
    obtain ⟨f, rfl⟩ : ∃ g, f = g + 1 := ⟨f - 1, by omega⟩
    obtain ⟨p1, p2, p3, p4, p5⟩ := gp d (by omega)
    have hF := p1.2.2
    have hL := p2.2.2
    rw [P_X7_behind_17, hof, bd_s, ck_t ((oN_jin (by omega)).mpr (by omega)), oN_ix (by omega), hN, if_neg (fun h => by have := (oN_le (by omega) (by omega)).mp h; omega), X7_first h6 (by omega), bd_s, bd_s, p1.1]
    have e1 : (oN d + 1 : Int32) = oN (d + 1) := oN_add d 1
    -- the pair is taken
    have take : (nn (mv κ m) (133 + 60 * s + 2 * d) = x ∨ bt S (nn (mv κ m) (133 + 60 * s + 2 * d)) = true) → ∃ S', P_X7_behind_58 κ m (oN s) (oN x) S S0 (oN d) K (P_X7_behind_17 κ m (oN s) (oN x) S0 K f) = K S' S0 ∧ sub S S' ∧
      (∀ e, d ≤ e → e < nn (mv κ m) (100 + 60 * s) → (nn (mv κ m) (133 + 60 * s + 2 * e) = x ∨ bt S (nn (mv κ m) (133 + 60 * s + 2 * e)) = true) → bt S' (nn (mv κ m) (134 + 60 * s + 2 * e)) = true) ∧
      ∀ P : Nat → Prop, (∀ j, j < 32 → bt S j = true → P j) → (∀ e, e < nn (mv κ m) (100 + 60 * s) → (nn (mv κ m) (133 + 60 * s + 2 * e) = x ∨ P (nn (mv κ m) (133 + 60 * s + 2 * e))) → P (nn (mv κ m) (134 + 60 * s + 2 * e))) → ∀ j, j < 32 → bt S' j = true → P j := by
      intro ht
      obtain ⟨S', q1, q2, q3, q4⟩ := ih (d + 1) f (S ||| (1 <<< (oN (nn (mv κ m) (134 + 60 * s + 2 * d)) &&& 31))) (by omega) (by omega)
      have hb : ∀ j, j < 32 → bt (S ||| (1 <<< (oN (nn (mv κ m) (134 + 60 * s + 2 * d)) &&& 31))) j = (bt S j || decide (j = nn (mv κ m) (134 + 60 * s + 2 * d))) := by
        intro j hj
        rw [b_or, b_bit (by omega) hj]
      refine ⟨S', ?_, fun j hj h => q2 j hj (by rw [hb j hj, h]; rfl), fun e h3 h4 h5 => ?_, fun P hP hc => q4 P (fun j hj h => ?_) hc⟩
      · unfold P_X7_behind_58 P_X7_behind_63
        rw [if_neg (by decide), X7_second h6 (by omega), bd_s, p2.1, e1]
        exact q1
      · by_cases hed : e = d
        · rw [hed]
          refine q2 _ (by omega) ?_
          rw [hb _ (by omega)]
          simp
        · refine q3 e (by omega) h4 ?_
          rcases h5 with h5 | h5
          · exact Or.inl h5
          · have hFe := (gp e h4).1.2.2
            exact Or.inr (by rw [hb _ (by omega), h5]; rfl)
      · rw [hb j hj] at h
        by_cases hS : bt S j = true
        · exact hP j hj hS
        · have hj2 : j = nn (mv κ m) (134 + 60 * s + 2 * d) := by simpa [hS] using h
          rw [hj2]
          refine hc d (by omega) ?_
          rcases ht with ht | ht
          · exact Or.inl ht
          · exact Or.inr (hP _ (by omega) ht)
    by_cases h3 : nn (mv κ m) (133 + 60 * s + 2 * d) = x
    · rw [if_pos (by rw [h3])]
      exact take (Or.inl h3)
    · rw [if_neg (fun h => h3 ((oN_eq (by omega) hx).mp h))]
      by_cases h4 : bt S (nn (mv κ m) (133 + 60 * s + 2 * d)) = true
      · rw [if_pos ((b_cont (by omega)).mpr h4)]
        exact take (Or.inr h4)
      · rw [if_neg (fun h => h4 ((b_cont (by omega)).mp h))]
        obtain ⟨S', q1, q2, q3, q4⟩ := ih (d + 1) f S (by omega) (by omega)
        refine ⟨S', ?_, q2, fun e h5 h6' h7 => ?_, q4⟩
        · unfold P_X7_behind_63
          rw [if_pos rfl, Int32.or_zero, e1]
          exact q1
        · by_cases hed : e = d
          · rw [hed] at h7
            rcases h7 with h7 | h7
            · exact absurd h7 h3
            · exact absurd h7 h4
          · exact q3 e (by omega) h6' h7
theorem X7_behind {κ : jKt} {m s x : Nat} (hG : GR (mv κ m)) (hs : s < nn (mv κ m) 1) (hx : x < 2 ^ 31) : ∃ R, P_X7_behind κ m (oN s) (oN x) = some R ∧ ∀ j, j < 32 → (bt R j = true ↔ rch (mv κ m) s x j) := by
  obtain ⟨-, -, -, gd, -, gp⟩ := hG.2.2.2 s hs
  have h12 := gd.2.2
  -- closed under the demands, from x on
  have fin : ∀ R : Int32, (∀ e, e < nn (mv κ m) (100 + 60 * s) → (nn (mv κ m) (133 + 60 * s + 2 * e) = x ∨ bt R (nn (mv κ m) (133 + 60 * s + 2 * e)) = true) → bt R (nn (mv κ m) (134 + 60 * s + 2 * e)) = true) → ∀ j, rch (mv κ m) s x j → bt R j = true := by
    intro R hc j hr
    induction hr with
    | single h =>
      obtain ⟨d, h1, h2, h3⟩ := h
      rw [← h3]; exact hc d h1 (Or.inl h2)
    | tail _ h ih =>
      obtain ⟨d, h1, h2, h3⟩ := h
      rw [← h3]; exact hc d h1 (Or.inr (by rw [h2]; exact ih))
  have snd : ∀ e, e < nn (mv κ m) (100 + 60 * s) → (nn (mv κ m) (133 + 60 * s + 2 * e) = x ∨ rch (mv κ m) s x (nn (mv κ m) (133 + 60 * s + 2 * e))) → rch (mv κ m) s x (nn (mv κ m) (134 + 60 * s + 2 * e)) := by
    intro e h1 h2
    rcases h2 with h2 | h2
    · exact Relation.TransGen.single ⟨e, h1, h2, rfl⟩
    · exact Relation.TransGen.tail h2 ⟨e, h1, rfl, rfl⟩
  have L : ∀ (k f : Nat) (S p : Int32), 32 ≤ cnt p 32 + k → k < f → sub p S →
      (∀ e, e < nn (mv κ m) (100 + 60 * s) → (nn (mv κ m) (133 + 60 * s + 2 * e) = x ∨ bt p (nn (mv κ m) (133 + 60 * s + 2 * e)) = true) → bt S (nn (mv κ m) (134 + 60 * s + 2 * e)) = true) →
      (∀ j, j < 32 → bt S j = true → rch (mv κ m) s x j) →
      ∃ R, P_X7_behind_5 κ m (oN s) (oN x) f S p = some R ∧ ∀ j, j < 32 → (bt R j = true ↔ rch (mv κ m) s x j) := by
    intro k
    induction k with
    | zero =>
      intro f S p h1 h2 h3 h4 h5
      obtain ⟨f, rfl⟩ : ∃ g, f = g + 1 := ⟨f - 1, by omega⟩
      have he : S = p := by
        rcases Classical.em (S = p) with h | h
        · exact h
        · have := cnt_lt h3 h
          have := cnt_ub S 32
          omega
      subst he
      exact ⟨S, by rw [P_X7_behind_5, if_pos rfl], fun j hj => ⟨h5 j hj, fin S h4 j⟩⟩
    | succ k ih =>
      intro f S p h1 h2 h3 h4 h5
      obtain ⟨f, rfl⟩ : ∃ g, f = g + 1 := ⟨f - 1, by omega⟩
      by_cases he : S = p
      · subst he
        exact ⟨S, by rw [P_X7_behind_5, if_pos rfl], fun j hj => ⟨h5 j hj, fin S h4 j⟩⟩
      · obtain ⟨S', q1, q2, q3, q4⟩ := X7_pass hG hs hx S (P_X7_behind_5 κ m (oN s) (oN x) f) (nn (mv κ m) (100 + 60 * s)) 0 4000 S (by omega) (by omega)
        have hlt := cnt_lt h3 he
        obtain ⟨R, r1, r2⟩ := ih f S' S (by omega) (by omega) q2 (fun e h6 h7 => q3 e (by omega) h6 h7) (q4 _ h5 snd)
        refine ⟨R, ?_, r2⟩
        rw [P_X7_behind_5, if_neg he]
        exact q1.trans r1
  have z0 : ∀ j, j < 32 → bt 0 j = true → rch (mv κ m) s x j := by
    intro j hj h
    have : bt 0 j = false := by
      have : ∀ i, i < 32 → bt 0 i = false := by decide +kernel
      exact this j hj
    rw [this] at h; cases h
  obtain ⟨S', q1, q2, q3, q4⟩ := X7_pass hG hs hx 0 (P_X7_behind_5 κ m (oN s) (oN x) 3999) (nn (mv κ m) (100 + 60 * s)) 0 4000 0 (by omega) (by omega)
  obtain ⟨R, r1, r2⟩ := L 32 3999 S' 0 (by omega) (by omega) q2 (fun e h6 h7 => q3 e (by omega) h6 h7) (q4 _ z0 snd)
  refine ⟨R, ?_, r2⟩
  unfold P_X7_behind
  rw [P_X7_behind_5, if_neg (by decide)]
  exact q1.trans r1
