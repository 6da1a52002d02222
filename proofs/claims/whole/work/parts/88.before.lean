/-! ===== layer 3: what comes before a sleeve: the class's closure ===== -/
theorem cnt_hi {S : Int32} {n : Nat} (h : ∀ j, n ≤ j → j < 32 → bt S j = false) (hn : n ≤ 32) : cnt S 32 ≤ n := by
  have : ∀ k, n + k ≤ 32 → cnt S (n + k) = cnt S n := by
    intro k
    induction k with
    | zero => intro _; rfl
    | succ k ih =>
      intro hk
      show cnt S (n + k) + (if bt S (n + k) = true then 1 else 0) = cnt S n
      rw [ih (by omega), h (n + k) (by omega) (by omega)]
      rfl
  have e := this (32 - n) (by omega)
  rw [show n + (32 - n) = 32 by omega] at e
  have := cnt_ub S n
  omega
theorem cnt_pos {S : Int32} {j : Nat} (hb : bt S j = true) : ∀ n, j < n → 1 ≤ cnt S n := by
  intro n
  induction n with
  | zero => intro h; omega
  | succ n ih =>
    intro h
    unfold cnt
    by_cases e : j = n
    · rw [← e, if_pos hb]; omega
    · have := ih (by omega); omega
theorem tg_head {α : Type} {r : α → α → Prop} {a b c : α} (h : r a b) (g : Relation.TransGen r b c) : Relation.TransGen r a c := by
  induction g with
  | single k => exact Relation.TransGen.tail (Relation.TransGen.single h) k
  | tail _ k ih => exact Relation.TransGen.tail ih k
theorem tg_mono {α : Type} {r q : α → α → Prop} (hm : ∀ a b, r a b → q a b) {a b : α} (g : Relation.TransGen r a b) : Relation.TransGen q a b := by
  induction g with
  | single k => exact Relation.TransGen.single (hm _ _ k)
  | tail _ k ih => exact Relation.TransGen.tail ih (hm _ _ k)
/-- f is ahead of l by the suit's own sets -/
def bfr (κ : jKt) (a n f l : Nat) : Prop := Relation.TransGen (fun f l => l < n ∧ bt (sDm κ a l) f = true) f l
theorem X4_pass {κ : jKt} {a n p : Nat} (hn : kI κ a 3 = oN n) (h16 : n ≤ 16) (S : Int32) (K : Int32 → Int32 → Option Int32) : ∀ (k i f : Nat) (acc : Int32), i + k = n → k < f →
    ∃ S', P_X4_allBefore_23 κ a S (oN p) K f acc (oN i) = K S' (oN (p + 1)) ∧ ∀ j, j < 32 → (bt S' j = true ↔ bt acc j = true ∨ ∃ l, i ≤ l ∧ l < n ∧ bt S l = true ∧ bt (sDm κ a l) j = true) := by
  intro k
  induction k with
  | zero =>
    intro i f acc h1 h2
    obtain ⟨f, rfl⟩ : ∃ g, f = g + 1 := ⟨f - 1, by omega⟩
    have e1 : (oN p + 1 : Int32) = oN (p + 1) := oN_add p 1
    refine ⟨acc, ?_, fun j hj => ⟨Or.inl, ?_⟩⟩
    · rw [P_X4_allBefore_23, hn, if_pos ((oN_le (by omega) (by omega)).mpr (by omega)), e1]
    · rintro (h | ⟨l, h3, h4, -⟩)
      · exact h
      · omega
  | succ k ih =>
    intro i f acc h1 h2
    obtain ⟨f, rfl⟩ : ∃ g, f = g + 1 := ⟨f - 1, by omega⟩
    have e1 : (oN i + 1 : Int32) = oN (i + 1) := oN_add i 1
    rw [P_X4_allBefore_23, hn, if_neg (fun h => by have := (oN_le (by omega) (by omega)).mp h; omega), X4_contains (by omega), bd_s, e1]
    by_cases hb : bt S i = true
    · rw [if_pos hb, if_neg (by decide), ck_t ((oN_jin (by omega)).mpr (by omega)), oN_ix (by omega), bnd_e]
      obtain ⟨S', q1, q2⟩ := ih (i + 1) f (acc ||| sDm κ a i) (by omega) (by omega)
      refine ⟨S', q1, fun j hj => ?_⟩
      rw [q2 j hj, b_or, Bool.or_eq_true]
      constructor
      · rintro ((h | h) | ⟨l, h3, h4, h5⟩)
        · exact Or.inl h
        · exact Or.inr ⟨i, Nat.le_refl _, by omega, hb, h⟩
        · exact Or.inr ⟨l, by omega, h4, h5⟩
      · rintro (h | ⟨l, h3, h4, h5, h6⟩)
        · exact Or.inl (Or.inl h)
        · by_cases e : l = i
          · rw [e] at h6; exact Or.inl (Or.inr h6)
          · exact Or.inr ⟨l, by omega, h4, h5, h6⟩
    · rw [if_neg hb, if_pos rfl]
      obtain ⟨S', q1, q2⟩ := ih (i + 1) f acc (by omega) (by omega)
      refine ⟨S', q1, fun j hj => ?_⟩
      rw [q2 j hj]
      constructor
      · rintro (h | ⟨l, h3, h4, h5⟩)
        · exact Or.inl h
        · exact Or.inr ⟨l, by omega, h4, h5⟩
      · rintro (h | ⟨l, h3, h4, h5, h6⟩)
        · exact Or.inl h
        · by_cases e : l = i
          · rw [e] at h5; exact absurd h5 hb
          · exact Or.inr ⟨l, by omega, h4, h5, h6⟩
theorem X4_allBefore {κ : jKt} {a n x : Nat} (hn : kI κ a 3 = oN n) (h16 : n ≤ 16) (hD : ∀ l j, l < n → j < 32 → bt (sDm κ a l) j = true → j < n) (hx : x < n) : ∃ R, P_X4_allBefore κ a (oN x) = some R ∧ ∀ j, j < 32 → (bt R j = true ↔ bfr κ a n j x) := by
  have com : ∀ R : Int32, sub (sDm κ a x) R → (∀ l, l < n → bt R l = true → sub (sDm κ a l) R) → ∀ j y, bfr κ a n j y → j < 32 → (y = x ∨ bt R y = true) → bt R j = true := by
    intro R h1 h2 j y hr hj
    induction hr with
    | single h =>
      rintro (g | g)
      · rw [g] at h; exact h1 _ hj h.2
      · exact h2 _ h.1 g _ hj h.2
    | tail hb h ih =>
      rename_i b c
      intro g
      apply ih
      have hb32 : b < 32 := by
        cases hb with
        | single k => have := k.1; omega
        | tail _ k => have := k.1; omega
      rcases g with g | g
      · rw [g] at h; exact Or.inr (h1 _ hb32 h.2)
      · exact Or.inr (h2 _ h.1 g _ hb32 h.2)
  have low : ∀ S : Int32, (∀ j, j < 32 → bt S j = true → bfr κ a n j x) → cnt S 32 ≤ n := by
    intro S hs
    refine cnt_hi (fun j h1 h2 => ?_) (by omega)
    cases hb : bt S j
    · rfl
    · exfalso
      have hr := hs j h2 hb
      have : ∀ y, bfr κ a n j y → j < n := by
        intro y hy
        induction hy with
        | single k => exact hD _ _ k.1 h2 k.2
        | tail _ _ ih => exact ih
      have := this x hr
      omega
  have L : ∀ (k p f : Nat) (S : Int32), p + k = n → k < f → sub (sDm κ a x) S → (∀ j, j < 32 → bt S j = true → bfr κ a n j x) → ((∀ l, l < n → bt S l = true → sub (sDm κ a l) S) ∨ p + 1 ≤ cnt S 32) →
      ∃ R, P_X4_allBefore_9 κ a f S (oN p) = some R ∧ ∀ j, j < 32 → (bt R j = true ↔ bfr κ a n j x) := by
    intro k
    induction k with
    | zero =>
      intro p f S h1 h2 h3 h4 h5
      obtain ⟨f, rfl⟩ : ∃ g, f = g + 1 := ⟨f - 1, by omega⟩
      have hl := low S h4
      rcases h5 with h5 | h5
      · refine ⟨S, ?_, fun j hj => ⟨h4 j hj, fun hr => com S h3 h5 j x hr hj (Or.inl rfl)⟩⟩
        rw [P_X4_allBefore_9, hn, if_pos ((oN_le (by omega) (by omega)).mpr (by omega))]
      · omega
    | succ k ih =>
      intro p f S h1 h2 h3 h4 h5
      obtain ⟨f, rfl⟩ : ∃ g, f = g + 1 := ⟨f - 1, by omega⟩
      obtain ⟨S', q1, q2⟩ := X4_pass (p := p) hn h16 S (P_X4_allBefore_9 κ a f) n 0 4000 S (by omega) (by omega)
      have hsub : sub S S' := fun j hj h => (q2 j hj).mpr (Or.inl h)
      have hclo : S' = S → ∀ l, l < n → bt S l = true → sub (sDm κ a l) S := by
        intro e l hl hb j hj h
        rw [← e]
        exact (q2 j hj).mpr (Or.inr ⟨l, by omega, hl, hb, h⟩)
      have h4' : ∀ j, j < 32 → bt S' j = true → bfr κ a n j x := by
        intro j hj h
        rcases (q2 j hj).mp h with g | ⟨l, g1, g2, g3, g4⟩
        · exact h4 j hj g
        · exact tg_head ⟨g2, g4⟩ (h4 l (by omega) g3)
      have h5' : (∀ l, l < n → bt S' l = true → sub (sDm κ a l) S') ∨ p + 1 + 1 ≤ cnt S' 32 := by
        by_cases e : S' = S
        · left; rw [e]; exact hclo e
        · rcases h5 with h5 | h5
          · exfalso
            apply e
            apply b_ext
            intro j hj
            cases hS : bt S j
            · cases hT : bt S' j
              · rfl
              · rcases (q2 j hj).mp hT with g | ⟨l, g1, g2, g3, g4⟩
                · rw [hS] at g; cases g
                · rw [h5 l g2 g3 j hj g4] at hS; cases hS
            · rw [hsub j hj hS]
          · right
            have := cnt_lt hsub e
            omega
      obtain ⟨R, r1, r2⟩ := ih (p + 1) f S' (by omega) (by omega) (sub_t h3 hsub) h4' h5'
      refine ⟨R, ?_, r2⟩
      rw [P_X4_allBefore_9, hn, if_neg (fun h => by have := (oN_le (by omega) (by omega)).mp h; omega)]
      exact q1.trans r1
  obtain ⟨R, r1, r2⟩ := L n 0 4000 (sDm κ a x) (by omega) (by omega) (sub_r _) (fun j hj h => Relation.TransGen.single ⟨hx, h⟩) (by
    rcases Classical.em (∃ j, j < 32 ∧ bt (sDm κ a x) j = true) with ⟨j, hj, hb⟩ | h
    · right
      have := cnt_pos hb 32 hj
      omega
    · left
      intro l hl hb
      exact absurd ⟨l, by omega, hb⟩ h)
  refine ⟨R, ?_, r2⟩
  unfold P_X4_allBefore
  rw [ck_t ((oN_jin (by omega)).mpr (by omega)), oN_ix (by omega), bnd_e]
  exact r1
theorem X4_comesBefore {κ : jKt} {a n x y : Nat} (hn : kI κ a 3 = oN n) (h16 : n ≤ 16) (hD : ∀ l j, l < n → j < 32 → bt (sDm κ a l) j = true → j < n) (hy : y < n) (hx : x < 32) : ∃ r, P_X4_comesBefore κ a (oN x) (oN y) = some r ∧ (r = 0 ∨ r = 1) ∧ (r = 1 ↔ bfr κ a n x y) := by
  obtain ⟨R, r1, r2⟩ := X4_allBefore hn h16 hD hy
  unfold P_X4_comesBefore
  rw [r1, bd_s, X4_contains hx, bd_s]
  by_cases h : bt R x = true
  · rw [if_pos h]
    exact ⟨1, rfl, Or.inr rfl, fun _ => (r2 x hx).mp h, fun _ => rfl⟩
  · rw [if_neg h]
    exact ⟨0, rfl, Or.inl rfl, fun g => absurd g (by decide), fun g => absurd ((r2 x hx).mpr g) h⟩
