/-! ===== layer 3: the forms, by their words ===== -/
/-- what a form wants behind its word -/
def ar (k : Nat) : List Int32 := (fm k).drop (wl k)
theorem fm_w : ∀ k, k < 10 → ∀ i, i < wl k → i < (fm k).length ∧ (fm k).getD i 0 = oN (wdL.getD (waL.getD k 0 + i) 0) ∧ (fm k).getD i 0 ≠ 35 ∧ (fm k).getD i 0 ≠ 64 := by decide +kernel
theorem fm_pf : ∀ k, k < 10 → ∀ k0, k0 < 10 → k ≠ k0 → (List.range (wl k0)).any (fun t => decide (wl k ≤ t) || (wdL.getD (waL.getD k 0 + t) 0 != wdL.getD (waL.getD k0 0 + t) 0)) = true := by decide +kernel
section FORMS
variable {T : Nat → Int32} {n p : Nat}
theorem rF_ge : ∀ (G : List Int32) (p e : Nat), rF T n G p = .error e → p ≤ e := by
  intro G
  induction G with
  | nil => intro p e h; rw [rF] at h; cases h
  | cons c G ih =>
    intro p e h
    have hge := (eS_ge (T := T) (n := n) c p).1
    rw [rF] at h
    by_cases z : eS T n c p = p
    · rw [if_pos z] at h; injection h with h; omega
    · rw [if_neg z] at h
      cases hR : rF T n G (eS T n c p) with
      | error e' =>
        rw [hR] at h
        injection h with h
        have := ih _ _ hR
        omega
      | ok w => rw [hR] at h; cases h
theorem rF_app : ∀ (G H : List Int32) (p : Nat), rF T n (G ++ H) p = match rF T n G p with
    | .error e => .error e
    | .ok (p', as) => match rF T n H p' with
      | .error e => .error e
      | .ok (p2, bs) => .ok (p2, as ++ bs) := by
  intro G
  induction G with
  | nil =>
    intro H p
    rw [List.nil_append, rF]
    simp only []
    cases rF T n H p with
    | error e => rfl
    | ok w => rfl
  | cons c G ih =>
    intro H p
    rw [List.cons_append, rF, rF]
    by_cases z : eS T n c p = p
    · rw [if_pos z, if_pos z]
    · rw [if_neg z, if_neg z, ih]
      cases rF T n G (eS T n c p) with
      | error e => rfl
      | ok w =>
        obtain ⟨p', as⟩ := w
        simp only []
        cases rF T n H p' with
        | error e => rfl
        | ok w2 =>
          obtain ⟨p2, bs⟩ := w2
          by_cases y : isA c = true
          · simp only [if_pos y, List.cons_append]
          · simp only [if_neg y]
theorem pre_hd {k : Nat} : ∀ (i t : Nat), t < i → pre T n p k i = true → hd T n (p + t) t k = true := by
  intro i
  induction i with
  | zero => intro t h; omega
  | succ i ih =>
    intro t h hp
    rw [pre, Bool.and_eq_true] at hp
    by_cases z : t = i
    · rw [z]; exact hp.2
    · exact ih t (by omega) hp.1
theorem pre_mono {k : Nat} : ∀ (i t : Nat), t ≤ i → pre T n p k i = true → pre T n p k t = true := by
  intro i
  induction i with
  | zero => intro t h hp; rw [show t = 0 from by omega]; exact hp
  | succ i ih =>
    intro t h hp
    by_cases z : t = i + 1
    · rw [z]; exact hp
    · rw [pre, Bool.and_eq_true] at hp
      exact ih t (by omega) hp.1
theorem hd_t {j k : Nat} (h : hd T n p j k = true) : waL.getD k 0 + j < waL.getD (k + 1) 0 ∧ p < n ∧ T p = oN (wdL.getD (waL.getD k 0 + j) 0) := by
  unfold hd at h
  rw [Bool.and_eq_true, Bool.and_eq_true] at h
  exact ⟨of_decide_eq_true h.1, of_decide_eq_true h.2.1, beq_iff_eq.mp h.2.2⟩
theorem pre_e {k : Nat} : ∀ (w : Nat), ¬ pre T n p k w = true → ∃ m, m < w ∧ pre T n p k m = true ∧ ¬ pre T n p k (m + 1) = true := by
  intro w
  induction w with
  | zero => intro h; exact absurd rfl h
  | succ w ih =>
    intro h
    by_cases z : pre T n p k w = true
    · exact ⟨w, by omega, z, h⟩
    · obtain ⟨m, m1, m2⟩ := ih z
      exact ⟨m, by omega, m2⟩
theorem fm_drop {k i : Nat} (hk : k < 10) (hi : i < wl k) : (fm k).drop i = oN (wdL.getD (waL.getD k 0 + i) 0) :: (fm k).drop (i + 1) := by
  obtain ⟨h1, h2, -⟩ := fm_w k hk i hi
  rw [List.drop_eq_getElem_cons h1, gD32 _ _ h1, h2]
theorem eS_w {k i : Nat} (hk : k < 10) (hi : i < wl k) (q : Nat) : eS T n (oN (wdL.getD (waL.getD k 0 + i) 0)) q = (if q < n ∧ T q = oN (wdL.getD (waL.getD k 0 + i) 0) then q + 1 else q) ∧ ¬ isA (oN (wdL.getD (waL.getD k 0 + i) 0)) = true := by
  obtain ⟨h1, h2, h3, h4⟩ := fm_w k hk i hi
  rw [h2] at h3 h4
  refine ⟨by rw [eS, if_neg h3, if_neg h4], ?_⟩
  unfold isA
  rw [Bool.or_eq_true, beq_iff_eq, beq_iff_eq]
  rintro (h | h)
  · exact h3 h
  · exact h4 h
theorem rF_w {k : Nat} (hk : k < 10) : ∀ i, i ≤ wl k → pre T n p k i = true → rF T n (fm k) p = rF T n ((fm k).drop i) (p + i) := by
  intro i
  induction i with
  | zero => intro _ _; rfl
  | succ i ih =>
    intro h1 h2
    have h2' := h2
    rw [pre, Bool.and_eq_true] at h2
    obtain ⟨t1, t2, t3⟩ := hd_t h2.2
    obtain ⟨e1, e2⟩ := eS_w (T := T) (n := n) hk (by omega : i < wl k) (p + i)
    rw [if_pos ⟨t2, t3⟩] at e1
    rw [ih (by omega) h2.1, fm_drop hk (by omega), rF, e1, if_neg (by omega)]
    cases rF T n ((fm k).drop (i + 1)) (p + i + 1) with
    | error e => rfl
    | ok w =>
      obtain ⟨p', as⟩ := w
      simp only [if_neg e2]
theorem rF_e {k i : Nat} (hk : k < 10) (hi : i < wl k) (h : pre T n p k i = true) (h2 : ¬ pre T n p k (i + 1) = true) : rF T n (fm k) p = .error (p + i) := by
  obtain ⟨e1, e2⟩ := eS_w (T := T) (n := n) hk hi (p + i)
  rw [pre, Bool.and_eq_true] at h2
  have hn : ¬ (p + i < n ∧ T (p + i) = oN (wdL.getD (waL.getD k 0 + i) 0)) := fun g => h2 ⟨h, by
    unfold hd
    rw [Bool.and_eq_true, Bool.and_eq_true]
    exact ⟨decide_eq_true (by have := (wl_b k hk).2.2; omega), decide_eq_true g.1, beq_iff_eq.mpr g.2⟩⟩
  rw [if_neg hn] at e1
  rw [rF_w hk i (by omega) h, fm_drop hk hi, rF, e1, if_pos rfl]
theorem pre_pf {k k0 i : Nat} (hk : k < 10) (hk0 : k0 < 10) (hne : k ≠ k0) (h : pre T n p k i = true) (h0 : pre T n p k0 (wl k0) = true) : i < wl k0 := by
  have hf := fm_pf k hk k0 hk0 hne
  rw [List.any_eq_true] at hf
  obtain ⟨t, t1, t2⟩ := hf
  have t1' := List.mem_range.mp t1
  refine Nat.lt_of_not_le fun hle => ?_
  obtain ⟨a1, a2, a3⟩ := hd_t (pre_hd i t (by omega) h)
  obtain ⟨b1, b2, b3⟩ := hd_t (pre_hd (wl k0) t t1' h0)
  have hw := (wl_b k hk).2.2
  have w1 := wd_b (waL.getD k 0 + t) (by have := wa_b (k + 1) (by omega); omega)
  have w2 := wd_b (waL.getD k0 0 + t) (by have := wa_b (k0 + 1) (by omega); omega)
  have he : wdL.getD (waL.getD k 0 + t) 0 = wdL.getD (waL.getD k0 0 + t) 0 := (oN_eq (by omega) (by omega)).mp (a3.symm.trans b3)
  rw [Bool.or_eq_true] at t2
  rcases t2 with t2 | t2
  · have := of_decide_eq_true t2; omega
  · exact (bne_iff_ne.mp t2) he
theorem rK_err {M : Nat} : ∀ (q k e : Nat), e ≤ M → (∀ i, k ≤ i → i < k + q → ∃ e', rF T n (fm i) p = .error e' ∧ e' ≤ M) → (e = M ∨ ∃ i, k ≤ i ∧ i < k + q ∧ rF T n (fm i) p = .error M) → rK T n p q k e = .error M := by
  intro q
  induction q with
  | zero =>
    intro k e h1 h2 h3
    rw [rK]
    rcases h3 with h3 | ⟨i, i1, i2, -⟩
    · rw [h3]
    · omega
  | succ q ih =>
    intro k e h1 h2 h3
    obtain ⟨e', a1, a2⟩ := h2 k (Nat.le_refl _) (by omega)
    rw [rK, a1]
    refine ih (k + 1) (max e e') (by omega) (fun i i1 i2 => h2 i (by omega) (by omega)) ?_
    rcases h3 with h3 | ⟨i, i1, i2, i3⟩
    · exact Or.inl (by omega)
    · by_cases z : i = k
      · rw [z, a1] at i3
        injection i3 with i3
        exact Or.inl (by omega)
      · exact Or.inr ⟨i, by omega, by omega, i3⟩
theorem rK_one {k0 p' : Nat} {as : List Int32} (h0 : rF T n (fm k0) p = .ok (p', as)) : ∀ (q k e : Nat), k ≤ k0 → k0 < k + q → (∀ i, k ≤ i → i < k0 → ∃ e', rF T n (fm i) p = .error e') → rK T n p q k e = .ok (k0, p', as) := by
  intro q
  induction q with
  | zero => intro k e h1 h2 _; omega
  | succ q ih =>
    intro k e h1 h2 h3
    rw [rK]
    by_cases z : k = k0
    · rw [z, h0]
    · obtain ⟨e', a1⟩ := h3 k (Nat.le_refl _) (by omega)
      rw [a1]
      exact ih (k + 1) (max e e') (by omega) (by omega) (fun i i1 i2 => h3 i (by omega) i2)
theorem rK_A {k0 : Nat} (hk : k0 < 10) (h : pre T n p k0 (wl k0) = true) : rK T n p 10 0 p = match rF T n (ar k0) (p + wl k0) with
    | .error e => .error e
    | .ok (p', as) => .ok (k0, p', as) := by
  have h0 : rF T n (fm k0) p = rF T n (ar k0) (p + wl k0) := rF_w hk (wl k0) (Nat.le_refl _) h
  have he : ∀ i, i < 10 → i ≠ k0 → ∃ e', rF T n (fm i) p = .error e' ∧ e' ≤ p + wl k0 := by
    intro i hi hne
    have hn : ¬ pre T n p i (wl i) = true := fun g => by
      have a := pre_pf hi hk hne g h
      have b := pre_pf hk hi (Ne.symm hne) h g
      omega
    obtain ⟨m, m1, m2, m3⟩ := pre_e (wl i) hn
    have := pre_pf hi hk hne m2 h
    exact ⟨p + m, rF_e hi m1 m2 m3, by omega⟩
  cases hR : rF T n (ar k0) (p + wl k0) with
  | error e =>
    have hge := rF_ge _ _ _ hR
    refine rK_err 10 0 p (by omega) (fun i _ i2 => ?_) (Or.inr ⟨k0, Nat.zero_le _, by omega, h0.trans hR⟩)
    by_cases z : i = k0
    · rw [z]; exact ⟨e, h0.trans hR, Nat.le_refl _⟩
    · obtain ⟨e', a1, a2⟩ := he i (by omega) z
      exact ⟨e', a1, by omega⟩
  | ok w =>
    obtain ⟨p', as⟩ := w
    exact rK_one (h0.trans hR) 10 0 p (Nat.zero_le _) (by omega) (fun i _ i2 => by
      obtain ⟨e', a1, -⟩ := he i (by omega) (by omega)
      exact ⟨e', a1⟩)
theorem rK_B {i : Nat} (h1 : ∃ k, k < 10 ∧ pre T n p k i = true) (h2 : ∀ k, k < 10 → ¬ pre T n p k (i + 1) = true) (h3 : ∀ k, k < 10 → ¬ pre T n p k (wl k) = true) : rK T n p 10 0 p = .error (p + i) := by
  refine rK_err 10 0 p (by omega) (fun k _ k2 => ?_) (Or.inr ?_)
  · obtain ⟨m, m1, m2, m3⟩ := pre_e (wl k) (h3 k (by omega))
    refine ⟨p + m, rF_e (by omega) m1 m2 m3, ?_⟩
    by_cases z : m ≤ i
    · omega
    · exact absurd (pre_mono m (i + 1) (by omega) m2) (h2 k (by omega))
  · obtain ⟨k, k1, k2⟩ := h1
    refine ⟨k, Nat.zero_le _, by omega, ?_⟩
    have hle := (pre_le i k k1 k2).1
    have hne : i ≠ wl k := fun g => h3 k k1 (by rw [← g]; exact k2)
    exact rF_e k1 (by omega) k2 (h2 k k1)
end FORMS
