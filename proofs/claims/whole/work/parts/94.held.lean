/-! ===== layer 3: sewn sleeves, held sleeves, sums of legs ===== -/
theorem SV_sewn {κ κ' : jKt} {a m s : Nat} (h : SV κ a (mv κ' m) s) (hG : GR (mv κ' m)) (hs : s < nn (mv κ' m) 1) : P_X4_sewnCount κ a = P_X7_count κ' m (oN s) 2 ∧ P_X4_unsewnCount κ a = (P_X7_count κ' m (oN s) 2).map (fun x => oN (sl (mv κ' m) s) - x) := by
  have h16 := (hG.sl16 hs).1
  have e : sm (fun l => if sSt κ a l = 115 then (1 : Int32) else 0) 0 (sl (mv κ' m) s) 0 = sm (fun l => if mv κ' m (101 + 60 * s + l) = 2 then 1 else 0) 0 (sl (mv κ' m) s) 0 := by
    refine sm_c _ _ _ (fun l _ hl => ?_)
    have st : sSt κ a l = 115 ↔ mv κ' m (101 + 60 * s + l) = 2 := by
      rw [(h.2.2.2.2.2 l (by omega)).1, ltr_s]
      rcases hG.st hs (by omega : l < 16) with e | e | e <;> rw [e] <;> decide
    by_cases hp : mv κ' m (101 + 60 * s + l) = 2
    · rw [if_pos hp, if_pos (st.mpr hp)]
    · rw [if_neg hp, if_neg (fun g => hp (st.mp g))]
  obtain ⟨c1, c2⟩ := X4_sewnCount h.2.2.2.1 h16
  rw [c1, c2, X7_count hG hs, e]
  exact ⟨rfl, rfl⟩
theorem X7_all {κ : jKt} {m c : Nat} (hG : GR (mv κ m)) (hc : c < nn (mv κ m) 0) : P_X7_all κ m (oN c) = some (sm (fun l => mv κ m (13 + 17 * c + l)) 0 (2 * nn (mv κ m) (12 + 17 * c)) 0) := by
  have h5 : c < 5 := by have := hG.1.2.2; omega
  obtain ⟨p1, -⟩ := hG.2.2.1 c hc
  have h8 := p1.2.2
  have hl : P_X7_legs κ m (oN c) = some (oN (2 * nn (mv κ m) (12 + 17 * c))) := by
    rw [X7_legs h5, p1.1, show (2 : Int32) = oN 2 from rfl, oN_mul]
  have L : ∀ (k i f : Nat) (acc : Int32), i + k = 2 * nn (mv κ m) (12 + 17 * c) → k < f → P_X7_all_4 κ m (oN c) f acc (oN i) = some (sm (fun l => mv κ m (13 + 17 * c + l)) i k acc) := by
    intro k
    induction k with
    | zero =>
      intro i f acc h1 h2
      obtain ⟨f, rfl⟩ : ∃ g, f = g + 1 := ⟨f - 1, by omega⟩
      rw [P_X7_all_4, hl, bd_s, if_pos ((oN_le (by omega) (by omega)).mpr (by omega))]
      rfl
    | succ k ih =>
      intro i f acc h1 h2
      obtain ⟨f, rfl⟩ : ∃ g, f = g + 1 := ⟨f - 1, by omega⟩
      have e1 : (oN i + 1 : Int32) = oN (i + 1) := oN_add i 1
      rw [P_X7_all_4, hl, bd_s, if_neg (fun h => by have := (oN_le (by omega) (by omega)).mp h; omega), X7_leg h5 (by omega), bd_s, e1, sm]
      exact ih _ _ _ (by omega) (by omega)
  exact L _ 0 4000 0 (by omega) (by omega)
theorem CV_sum {κ κ' : jKt} {a m c : Nat} (h : CV κ a (mv κ' m) c) (hG : GR (mv κ' m)) (hc : c < nn (mv κ' m) 0) : P_X0_legSum κ a = P_X7_all κ' m (oN c) := by
  obtain ⟨p1, -⟩ := hG.2.2.1 c hc
  have h8 := p1.2.2
  rw [X0_legSum h.1 (by omega), X7_all hG hc]
  congr 1
  exact sm_c _ _ _ (fun l _ hl => h.2 l (by omega))
/-- a sleeve is held back by what is not in S -/
theorem X4_isHeldBack {κ : jKt} {a l : Nat} (hl : l < 16) (S : Int32) : isB (P_X4_isHeldBack κ a (oN l) S) (∃ f, f < 32 ∧ bt (sDm κ a l) f = true ∧ bt S f = false) := by
  unfold P_X4_isHeldBack
  rw [ck_t ((oN_jin (by omega)).mpr hl), oN_ix (by omega)]
  have hb : ∀ f, f < 32 → bt (sDm κ a l &&& (S ^^^ (-1))) f = (bt (sDm κ a l) f && !bt S f) := by
    intro f hf
    rw [b_and, b_xor, b_m1 f hf, Bool.xor_true]
  by_cases h : sDm κ a l &&& (S ^^^ (-1)) = 0
  · rw [if_pos h]
    refine ⟨0, rfl, Or.inr ⟨rfl, ?_⟩⟩
    rintro ⟨f, h1, h2, h3⟩
    have := hb f h1
    rw [h, b_0, h2, h3] at this
    cases this
  · rw [if_neg h]
    refine ⟨1, rfl, Or.inl ⟨rfl, ?_⟩⟩
    apply Classical.byContradiction
    intro g
    apply h
    apply b_ext
    intro f hf
    rw [hb f hf, b_0]
    cases h1 : bt (sDm κ a l) f
    · rfl
    · cases h2 : bt S f
      · exact absurd ⟨f, hf, h1, h2⟩ g
      · rfl
/-- the model's row of the sleeves done -/
abbrev dn (κ : jKt) (m : Nat) : Nat → Int32 := fun l => kI κ (kR κ m 10) l
theorem X7_isHeld {κ : jKt} {m s l : Nat} (hG : GR (mv κ m)) (hs : s < nn (mv κ m) 1) (hl : l < 2 ^ 31) : isB (P_X7_isHeld κ m (oN s) (oN l)) (∃ f, dmB (mv κ m) s l f ∧ dn κ m f = 0) := by
  have h6 : s < 6 := by have := hG.2.1.2.2; omega
  obtain ⟨-, -, -, gd, -, gp⟩ := hG.2.2.2 s hs
  have hof : P_X7_of κ (oN s) 3 = some (oN (97 + 60 * s + 3)) := X7_of κ s 3
  have hN : kI κ (kR κ m 5) (97 + 60 * s + 3) = oN (nn (mv κ m) (100 + 60 * s)) := by
    rw [← gd.1]; unfold mv; rw [show 97 + 60 * s + 3 = 100 + 60 * s by omega]
  have h12 := gd.2.2
  have L : ∀ (k d f : Nat), d + k = nn (mv κ m) (100 + 60 * s) → k < f → isB (P_X7_isHeld_2 κ m (oN s) (oN l) f (oN d)) (∃ e, d ≤ e ∧ e < nn (mv κ m) (100 + 60 * s) ∧ nn (mv κ m) (134 + 60 * s + 2 * e) = l ∧ dn κ m (nn (mv κ m) (133 + 60 * s + 2 * e)) = 0) := by
    intro k
    induction k with
    | zero =>
      intro d f h1 h2
      obtain ⟨f, rfl⟩ : ∃ g, f = g + 1 := ⟨f - 1, by omega⟩
      rw [P_X7_isHeld_2, hof, bd_s, ck_t ((oN_jin (by omega)).mpr (by omega)), oN_ix (by omega), hN, if_pos ((oN_le (by omega) (by omega)).mpr (by omega))]
      refine ⟨0, rfl, Or.inr ⟨rfl, ?_⟩⟩
      rintro ⟨e, h3, h4, -⟩
      omega
    | succ k ih =>
      intro d f h1 h2
      obtain ⟨f, rfl⟩ : ∃ g, f = g + 1 := ⟨f - 1, by omega⟩
      obtain ⟨p1, p2, p3, p4, p5⟩ := gp d (by omega)
      have hF := p1.2.2
      have hL := p2.2.2
      have e1 : (oN d + 1 : Int32) = oN (d + 1) := oN_add d 1
      have hi := ih (d + 1) f (by omega) (by omega)
      rw [P_X7_isHeld_2, hof, bd_s, ck_t ((oN_jin (by omega)).mpr (by omega)), oN_ix (by omega), hN, if_neg (fun h => by have := (oN_le (by omega) (by omega)).mp h; omega), X7_second h6 (by omega), bd_s, p2.1, e1]
      have go : ¬ (nn (mv κ m) (134 + 60 * s + 2 * d) = l ∧ dn κ m (nn (mv κ m) (133 + 60 * s + 2 * d)) = 0) → isB (P_X7_isHeld_2 κ m (oN s) (oN l) f (oN (d + 1))) (∃ e, d ≤ e ∧ e < nn (mv κ m) (100 + 60 * s) ∧ nn (mv κ m) (134 + 60 * s + 2 * e) = l ∧ dn κ m (nn (mv κ m) (133 + 60 * s + 2 * e)) = 0) := by
        intro hno
        refine isB_c hi ⟨?_, ?_⟩
        · rintro ⟨e, h3, h4, h5⟩; exact ⟨e, by omega, h4, h5⟩
        · rintro ⟨e, h3, h4, h5⟩
          by_cases he : e = d
          · rw [he] at h5; exact absurd h5 hno
          · exact ⟨e, by omega, h4, h5⟩
      by_cases h3 : nn (mv κ m) (134 + 60 * s + 2 * d) = l
      · rw [if_pos (by rw [h3]), X7_first h6 (by omega), bd_s, p1.1, ck_t ((oN_jin (by omega)).mpr (by omega)), oN_ix (by omega)]
        by_cases h4 : dn κ m (nn (mv κ m) (133 + 60 * s + 2 * d)) = 0
        · rw [if_pos h4]
          exact ⟨1, rfl, Or.inl ⟨rfl, d, Nat.le_refl _, by omega, h3, h4⟩⟩
        · rw [if_neg h4]
          exact go (fun g => h4 g.2)
      · rw [if_neg (fun h => h3 ((oN_eq (by omega) hl).mp h))]
        exact go (fun g => h3 g.1)
  refine isB_c (L _ 0 4000 (Nat.zero_add _) (by omega)) ⟨?_, ?_⟩
  · rintro ⟨e, -, h2, h3, h4⟩
    exact ⟨_, ⟨e, h2, rfl, h3⟩, h4⟩
  · rintro ⟨f, ⟨e, h2, h3, h4⟩, h5⟩
    exact ⟨e, by omega, h2, h4, by rw [h3]; exact h5⟩
