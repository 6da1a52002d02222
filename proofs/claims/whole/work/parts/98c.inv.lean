/-! ===== layer 3: what holds of the row goes on to hold ===== -/
theorem GX_gen {v v' : Nat → Int32} {K K' : Nat} (h : GX v K) (a0 : isN v' 0 0 5) (a1 : nn v 0 ≤ nn v' 0) (a2 : isN v' 1 0 6) (a3 : ∀ c, c < 4 → isN v' (8 + c) 0 2000) (a4 : v' 2 = oN (nn v' 2) ∧ nn v 2 ≤ nn v' 2 ∧ nn v' 2 ≤ K') (a5 : ∀ c, c < nn v' 0 → GC v' c)
    (a6 : ∀ t, t < nn v' 1 → (∃ s, s < nn v 1 ∧ TS v s v' t) ∨ (GS v' t ∧ SX v' t)) (a7 : ∀ s t, s < t → t < nn v' 1 → v' (97 + 60 * s) ≠ v' (97 + 60 * t)) : GX v' K' := by
  obtain ⟨g1, g2, g3, g4, g5⟩ := h
  have gS := (GR_iff.mp g1).2.2.2
  refine ⟨GR_iff.mpr ⟨a0, a2, a5, fun t ht => ?_⟩, a3, ⟨a4.1, a4.2.2⟩, fun t ht => ?_, a7⟩
  · rcases a6 t ht with ⟨s, s1, s2⟩ | q
    · exact GS_c s2 a1 (gS s s1)
    · exact q.1
  · rcases a6 t ht with ⟨s, s1, s2⟩ | q
    · exact SX_c s2 a4.2.1 (gS s s1) (g4 s s1)
    · exact q.2
theorem fd_some {v : Nat → Int32} {id : Int32} {s : Nat} (h : fd v id = some s) : s < nn v 1 ∧ v (97 + 60 * s) = id := by
  obtain ⟨h1, h2, h3⟩ := fnd_some _ _ _ h
  exact ⟨by omega, h3⟩
theorem sm_b {f : Nat → Int32} {B : Nat} : ∀ (k i a : Nat), (∀ l, i ≤ l → l < i + k → ∃ n, n ≤ B ∧ f l = oN n) → ∃ m, a ≤ m ∧ m ≤ a + B * k ∧ sm f i k (oN a) = oN m := by
  intro k
  induction k with
  | zero => intro i a _; exact ⟨a, Nat.le_refl _, by omega, rfl⟩
  | succ k ih =>
    intro i a h
    obtain ⟨n, n1, n2⟩ := h i (Nat.le_refl _) (by omega)
    obtain ⟨m, m1, m2, m3⟩ := ih (i + 1) (a + n) (fun l h1 h2 => h l (by omega) (by omega))
    refine ⟨m, by omega, ?_, ?_⟩
    · rw [Nat.mul_succ]; omega
    · rw [sm, n2, oN_add]; exact m3
theorem oN_0 {n : Nat} (h : n < 2 ^ 31) : (0 : Int32) ≤ oN n := by
  rw [show (0 : Int32) = oN 0 from rfl]
  exact (oN_le (by omega) h).mpr (by omega)
/-- one suit's places may change, and the sums in front -/
theorem GX_one {v v' : Nat → Int32} {K s : Nat} (h : GX v K) (hs : s < nn v 1) (hl : ∀ j, j < 97 → j < 3 ∨ 12 ≤ j → v' j = v j) (hst : ∀ c, c < 4 → isN v' (8 + c) 0 2000) (ho : ∀ t k, t ≠ s → t < 6 → k < 60 → v' (97 + 60 * t + k) = v (97 + 60 * t + k)) (hid : v' (97 + 60 * s) = v (97 + 60 * s)) (hGS : GS v' s) (hSX : SX v' s) : GX v' K := by
  have hR := GR_iff.mp h.1
  have n0 : nn v' 0 = nn v 0 := nn_c (hl 0 (by omega) (by omega))
  have n1 : nn v' 1 = nn v 1 := nn_c (hl 1 (by omega) (by omega))
  have n2 : nn v' 2 = nn v 2 := nn_c (hl 2 (by omega) (by omega))
  have c5 := hR.1.2.2
  have s6 := hR.2.1.2.2
  have hidall : ∀ t, t < 6 → v' (97 + 60 * t) = v (97 + 60 * t) := fun t ht => by
    by_cases e : t = s
    · rw [e]; exact hid
    · exact ho t 0 e ht (by omega)
  refine GX_gen h (isN_c (hl 0 (by omega) (by omega)) hR.1) (by omega) (isN_c (hl 1 (by omega) (by omega)) hR.2.1) hst ⟨by rw [n2, hl 2 (by omega) (by omega)]; exact h.2.2.1.1, by omega, by rw [n2]; exact h.2.2.1.2⟩ (fun c hc => ?_) (fun t ht => ?_) (fun a b hab hb => ?_)
  · exact GC_c (fun k hk => hl _ (by omega) (by omega)) (hR.2.2.1 c (by omega))
  · by_cases e : t = s
    · rw [e]; exact Or.inr ⟨hGS, hSX⟩
    · refine Or.inl ⟨t, by omega, fun k hk => ho t k e (by omega) hk, ?_⟩
      have hw := (hR.2.2.2 t (by omega)).1.2.2
      exact hl _ (by omega) (by omega)
  · rw [hidall a (by omega), hidall b (by omega)]
    exact h.2.2.2.2 a b hab (by omega)
/-- only the sums in front and the stocks change -/
theorem GX_low {v v' : Nat → Int32} {K : Nat} (h : GX v K) (hl : ∀ j, j < 3 ∨ 12 ≤ j → v' j = v j) (hst : ∀ c, c < 4 → isN v' (8 + c) 0 2000) : GX v' K := by
  have hR := GR_iff.mp h.1
  have n0 : nn v' 0 = nn v 0 := nn_c (hl 0 (by omega))
  have n1 : nn v' 1 = nn v 1 := nn_c (hl 1 (by omega))
  have n2 : nn v' 2 = nn v 2 := nn_c (hl 2 (by omega))
  refine GX_gen h (isN_c (hl 0 (by omega)) hR.1) (by omega) (isN_c (hl 1 (by omega)) hR.2.1) hst ⟨by rw [n2, hl 2 (by omega)]; exact h.2.2.1.1, by omega, by rw [n2]; exact h.2.2.1.2⟩ (fun c hc => ?_) (fun t ht => ?_) (fun a b hab hb => ?_)
  · exact GC_c (fun k hk => hl _ (by omega)) (hR.2.2.1 c (by omega))
  · exact Or.inl ⟨t, by omega, fun k hk => hl _ (by omega), hl _ (by omega)⟩
  · rw [hl _ (by omega), hl _ (by omega)]
    exact h.2.2.2.2 a b hab (by omega)
theorem I0 {v v' : Nat → Int32} {K : Nat} {a b x : Int32} (h : GX v K) (e : o0 v a b = .ok (x, v')) : GX v' K ∧ 0 ≤ x := by
  unfold o0 at e
  by_cases g1 : 0 ≤ a ∧ a ≤ 3
  · rw [ifnn g1] at e
    by_cases g2 : 1 ≤ b ∧ b ≤ 999
    · rw [ifnn g2] at e
      obtain ⟨n, n1, n2, n3⟩ := in_n (lo := 0) (hi := 3) g1.1 g1.2 (by omega) (by omega)
      obtain ⟨m, m1, m2, m3⟩ := in_n (lo := 1) (hi := 999) g2.1 g2.2 (by omega) (by omega)
      have hix : ix a = n := by rw [n1, oN_ix (by omega)]
      have hq := h.2.1 n (by omega)
      have hq2 := hq.2.2
      have es : v (8 + n) + b = oN (nn v (8 + n) + m) := by rw [hq.1, m1, oN_add, nn_n hq.1 (by omega)]
      rw [hix, es] at e
      by_cases g3 : oN (nn v (8 + n) + m) ≤ 2000
      · rw [if_pos g3] at e
        have g4 : nn v (8 + n) + m ≤ 2000 := (oN_le (by omega) (by omega)).mp g3
        injection e with e
        injection e with e1 e2
        subst e2
        refine ⟨GX_low h (fun j hj => ?_) (fun c hc => ?_), by rw [← e1]; exact oN_0 (by omega)⟩
        · rw [ud_n (by omega), ud_n (by omega)]
        · by_cases ec : c = n
          · subst ec
            exact isN_n (by rw [ud_n (by omega), ud_e]) (by omega) g4 (by omega)
          · exact isN_c (by rw [ud_n (by omega), ud_n (by omega)]) (h.2.1 c hc)
      · rw [if_neg g3] at e; cases e
    · rw [if_pos g2] at e; cases e
  · rw [if_pos g1] at e; cases e
theorem I1 {v v' : Nat → Int32} {K : Nat} {a b x : Int32} (h : GX v K) (e : o1 v a b = .ok (x, v')) : GX v' K ∧ 0 ≤ x := by
  have hR := GR_iff.mp h.1
  have hn0 := hR.1
  have hn5 := hn0.2.2
  have hs6 := hR.2.1.2.2
  unfold o1 at e
  by_cases g1 : 1 ≤ a ∧ a ≤ 8
  · rw [ifnn g1] at e
    by_cases g2 : 10 ≤ b ∧ b ≤ 60
    · rw [ifnn g2] at e
      by_cases g3 : v 0 = 5
      · rw [if_pos g3] at e; cases e
      · rw [if_neg g3] at e
        obtain ⟨p, p1, p2, p3⟩ := in_n (lo := 1) (hi := 8) g1.1 g1.2 (by omega) (by omega)
        obtain ⟨m, m1, m2, m3⟩ := in_n (lo := 10) (hi := 60) g2.1 g2.2 (by omega) (by omega)
        have hpix : ix a = p := by rw [p1, oN_ix (by omega)]
        have hc5 : nn v 0 < 5 := by
          rcases Nat.lt_or_ge (nn v 0) 5 with q | q
          · exact q
          · exact absurd (by rw [hn0.1, show nn v 0 = 5 by omega]; rfl) g3
        injection e with e
        injection e with e1 e2
        rw [hpix] at e2
        generalize hC : nn v 0 = C at *
        have v0 : v' 0 = oN (C + 1) := by rw [← e2]; simp only [if_true]; rw [hn0.1, hC]; exact oN_add C 1
        have n0 : nn v' 0 = C + 1 := nn_n v0 (by omega)
        have same : ∀ j, j ≠ 0 → ¬ (12 + 17 * C ≤ j ∧ j < 29 + 17 * C) → v' j = v j := by
          intro j j1 j2
          rw [← e2]
          simp only []
          rw [if_neg j1, if_neg (by omega), if_neg (by omega)]
        have n1 : nn v' 1 = nn v 1 := nn_c (same 1 (by omega) (by omega))
        have n2 : nn v' 2 = nn v 2 := nn_c (same 2 (by omega) (by omega))
        refine ⟨GX_gen h (isN_n v0 (by omega) (by omega) (by omega)) (by omega) (isN_c (same 1 (by omega) (by omega)) hR.2.1) (fun c hc => isN_c (same _ (by omega) (by omega)) (h.2.1 c hc)) ⟨by rw [n2, same 2 (by omega) (by omega)]; exact h.2.2.1.1, by omega, by rw [n2]; exact h.2.2.1.2⟩ (fun c hc => ?_) (fun t ht => ?_) (fun s t hst ht => ?_), by rw [← e1, hn0.1]; exact oN_0 (by omega)⟩
        · by_cases ec : c = C
          · subst ec
            have vp : v' (12 + 17 * c) = oN p := by rw [← e2]; simp only []; rw [if_neg (by omega), if_pos trivial, p1]
            refine ⟨isN_n vp p2 p3 (by omega), fun l hl => ?_⟩
            rw [nn_n vp (by omega)] at hl
            refine isN_n (n := m) ?_ m2 m3 (by omega)
            rw [← e2]
            simp only []
            rw [if_neg (by omega), if_neg (by omega), if_pos (by omega), if_pos (by omega), m1]
          · exact GC_c (fun k hk => same _ (by omega) (by omega)) (hR.2.2.1 c (by omega))
        · rw [n1] at ht
          have hw := (hR.2.2.2 t ht).2.1
          exact Or.inl ⟨t, ht, fun k hk => same _ (by omega) (by omega), same _ (by omega) (by omega)⟩
        · rw [n1] at ht
          rw [same _ (by omega) (by omega), same _ (by omega) (by omega)]
          exact h.2.2.2.2 s t hst ht
    · rw [if_pos g2] at e; cases e
  · rw [if_pos g1] at e; cases e
theorem I2 {v v' : Nat → Int32} {K : Nat} {a l b x : Int32} (h : GX v K) (e : o2 v a l b = .ok (x, v')) : GX v' K ∧ 0 ≤ x := by
  have hR := GR_iff.mp h.1
  have hn0 := hR.1
  have hn5 := hn0.2.2
  have hs6 := hR.2.1.2.2
  unfold o2 at e
  by_cases g1 : 0 ≤ a ∧ a < v 0 ∧ 0 ≤ l ∧ l < 2 * v (12 + 17 * ix a)
  · rw [ifnn g1] at e
    by_cases g2 : 10 ≤ b ∧ b ≤ 60
    · rw [ifnn g2] at e
      obtain ⟨m, m1, m2⟩ := lt_n g1.1 (by rw [← hn0.1]; exact g1.2.1) (by omega)
      obtain ⟨p1, pl⟩ := hR.2.2.1 m m2
      have p8 := p1.2.2
      have hx : ix a = m := by rw [m1, oN_ix (by omega)]
      have e2 : 2 * v (12 + 17 * m) = oN (2 * nn v (12 + 17 * m)) := by rw [p1.1, show (2 : Int32) = oN 2 from rfl, oN_mul, nn_n p1.1 (by omega)]
      obtain ⟨t, t1, t2⟩ := lt_n g1.2.2.1 (by rw [← e2, ← hx]; exact g1.2.2.2) (by omega)
      have hlx : ix l = t := by rw [t1, oN_ix (by omega)]
      obtain ⟨q, q1, q2, q3⟩ := in_n (lo := 10) (hi := 60) g2.1 g2.2 (by omega) (by omega)
      rw [hx, hlx] at e
      injection e with e
      injection e with e1 e3
      subst e3
      have same : ∀ j, j ≠ 13 + 17 * m + t → ud v (13 + 17 * m + t) b j = v j := fun j hj => ud_n hj
      have n0 : nn (ud v (13 + 17 * m + t) b) 0 = nn v 0 := nn_c (same 0 (by omega))
      have n1 : nn (ud v (13 + 17 * m + t) b) 1 = nn v 1 := nn_c (same 1 (by omega))
      have n2 : nn (ud v (13 + 17 * m + t) b) 2 = nn v 2 := nn_c (same 2 (by omega))
      refine ⟨GX_gen h (isN_c (same 0 (by omega)) hn0) (by omega) (isN_c (same 1 (by omega)) hR.2.1) (fun c hc => isN_c (same _ (by omega)) (h.2.1 c hc)) ⟨by rw [n2, same 2 (by omega)]; exact h.2.2.1.1, by omega, by rw [n2]; exact h.2.2.1.2⟩ (fun c hc => ?_) (fun s hs => ?_) (fun s u hsu hu => ?_), ?_⟩
      · by_cases ec : c = m
        · subst ec
          refine ⟨isN_c (same _ (by omega)) p1, fun i hi => ?_⟩
          rw [nn_c (same (12 + 17 * c) (by omega))] at hi
          by_cases ei : i = t
          · rw [ei]; exact isN_n (n := q) (by rw [ud_e, q1]) q2 q3 (by omega)
          · exact isN_c (same _ (by omega)) (pl i hi)
        · refine GC_c (fun k hk => same _ ?_) (hR.2.2.1 c (by omega))
          rcases Nat.lt_or_gt_of_ne ec with q9 | q9 <;> omega
      · rw [n1] at hs
        have hw := (hR.2.2.2 s hs).2.1
        refine Or.inl ⟨s, hs, fun k hk => same _ (by omega), same _ ?_⟩
        intro q9
        rcases Nat.lt_trichotomy (nn v (98 + 60 * s)) m with q8 | q8 | q8 <;> omega
      · rw [n1] at hu
        rw [same _ (by omega), same _ (by omega)]
        exact h.2.2.2.2 s u hsu hu
      · rw [← e1]
        have := pl t (by omega)
        rw [this.1]
        exact oN_0 (by have := this.2.2; omega)
    · rw [if_pos g2] at e; cases e
  · rw [if_pos g1] at e; cases e
theorem isN_z {v : Nat → Int32} {i hi : Nat} (e : v i = 0) : isN v i 0 hi := isN_n (n := 0) e (Nat.le_refl _) (Nat.zero_le _) (by omega)
theorem I3 {v v' : Nat → Int32} {K : Nat} {a b x : Int32} (h : GX v K) (hK : K < 2 ^ 30) (e : o3 v a b = .ok (x, v')) : GX v' (K + 1) ∧ 0 ≤ x := by
  have hR := GR_iff.mp h.1
  have hn0 := hR.1
  have hn5 := hn0.2.2
  have hn1 := hR.2.1
  have hs6 := hn1.2.2
  have hn2 := h.2.2.1
  unfold o3 at e
  by_cases g1 : 0 ≤ a ∧ a < v 0
  · rw [ifnn g1] at e
    by_cases g2 : 0 ≤ b ∧ b ≤ 3
    · rw [ifnn g2] at e
      by_cases g3 : v 1 = 6
      · rw [if_pos g3] at e; cases e
      · rw [if_neg g3] at e
        obtain ⟨m, m1, m2⟩ := lt_n g1.1 (by rw [← hn0.1]; exact g1.2) (by omega)
        obtain ⟨q, q1, q2, q3⟩ := in_n (lo := 0) (hi := 3) g2.1 g2.2 (by omega) (by omega)
        have hc6 : nn v 1 < 6 := by
          rcases Nat.lt_or_ge (nn v 1) 6 with q | q
          · exact q
          · exact absurd (by rw [hn1.1, show nn v 1 = 6 by omega]; rfl) g3
        injection e with e
        injection e with e1 e2
        generalize hC : nn v 1 = C at *
        have v1 : v' 1 = oN (C + 1) := by rw [← e2]; simp only []; rw [if_pos trivial, hn1.1, hC]; exact oN_add C 1
        have v2 : v' 2 = oN (nn v 2 + 1) := by
          rw [← e2]; simp only []; rw [if_neg (by omega), if_pos trivial]
          have := oN_add (nn v 2) 1
          rw [← hn2.1] at this
          exact this
        have n1 : nn v' 1 = C + 1 := nn_n v1 (by omega)
        have n2 : nn v' 2 = nn v 2 + 1 := nn_n v2 (by omega)
        have same : ∀ j, j ≠ 1 → j ≠ 2 → ¬ (97 + 60 * C ≤ j ∧ j < 157 + 60 * C) → v' j = v j := by
          intro j j1 j2 j3
          rw [← e2]
          simp only []
          rw [if_neg j1, if_neg j2, if_neg j3]
        have new0 : v' (97 + 60 * C) = v 2 := by rw [← e2]; simp only []; rw [if_neg (by omega), if_neg (by omega), if_pos (by omega), if_pos trivial]
        have new1 : v' (98 + 60 * C) = a := by rw [← e2]; simp only []; rw [if_neg (by omega), if_neg (by omega), if_pos (by omega), if_neg (by omega), if_pos trivial]
        have new2 : v' (99 + 60 * C) = b := by rw [← e2]; simp only []; rw [if_neg (by omega), if_neg (by omega), if_pos (by omega), if_neg (by omega), if_neg (by omega), if_pos trivial]
        have newz : ∀ k, 3 ≤ k → k < 60 → v' (97 + 60 * C + k) = 0 := by
          intro k k1 k2
          rw [← e2]; simp only []; rw [if_neg (by omega), if_neg (by omega), if_pos (by omega), if_neg (by omega), if_neg (by omega), if_neg (by omega)]
        have n0 : nn v' 0 = nn v 0 := nn_c (same 0 (by omega) (by omega) (by omega))
        have z100 : v' (100 + 60 * C) = 0 := by have := newz 3 (by omega) (by omega); rw [show 97 + 60 * C + 3 = 100 + 60 * C by omega] at this; exact this
        have nod : ∀ l f, ¬ dmB v' C l f := by
          rintro l f ⟨d, d1, -⟩
          rw [nn_n (n := 0) z100 (by omega)] at d1
          omega
        refine ⟨GX_gen h (isN_c (same 0 (by omega) (by omega) (by omega)) hn0) (by omega) (isN_n v1 (by omega) (by omega) (by omega)) (fun c hc => isN_c (same _ (by omega) (by omega) (by omega)) (h.2.1 c hc)) ⟨by rw [n2]; exact v2, by omega, by rw [n2]; omega⟩ (fun c hc => GC_c (fun k hk => same _ (by omega) (by omega) (by omega)) (hR.2.2.1 c (by omega))) (fun t ht => ?_) (fun s t hst ht => ?_), by rw [← e1, hn2.1]; exact oN_0 (by omega)⟩
        · rw [n1] at ht
          by_cases et : t = C
          · subst et
            right
            refine ⟨⟨isN_n (n := m) (by rw [new1, m1]) (by omega) (by omega) (by omega), by rw [nn_n (n := m) (by rw [new1, m1]) (by omega)]; omega, isN_n (n := q) (by rw [new2, q1]) q2 q3 (by omega), isN_z z100, fun l hl => ?_, fun d hd => ?_⟩, ?_, ?_, fun l hl => ?_, fun l f hd => absurd hd (nod l f)⟩
            · have z := newz (4 + l) (by omega) (by omega)
              rw [show 97 + 60 * t + (4 + l) = 101 + 60 * t + l by omega] at z
              exact ⟨isN_z z, fun g => absurd z g⟩
            · rw [nn_n (n := 0) z100 (by omega)] at hd; omega
            · rw [new0, nn_c (v := v) (i := 2) new0]; exact hn2.1
            · rw [nn_c (v := v) (i := 2) new0]; omega
            · cases hl with
              | single k => exact nod _ _ k
              | tail _ k => exact nod _ _ k
          · refine Or.inl ⟨t, by omega, fun k hk => same _ (by omega) (by omega) ?_, same _ (by omega) (by omega) ?_⟩
            · rcases Nat.lt_or_gt_of_ne et with q9 | q9 <;> omega
            · have hw := (hR.2.2.2 t (by omega)).1.2.2
              omega
        · rw [n1] at ht
          have hs' : v' (97 + 60 * s) = v (97 + 60 * s) := same _ (by omega) (by omega) (by omega)
          by_cases et : t = C
          · subst et
            rw [hs', new0, hn2.1]
            obtain ⟨x1, x2, -⟩ := h.2.2.2.1 s (by omega)
            rw [x1]
            intro q9
            have := (oN_eq (by omega) (by omega)).mp q9
            omega
          · rw [hs', same _ (by omega) (by omega) (by omega)]
            exact h.2.2.2.2 s t hst (by omega)
    · rw [if_pos g2] at e; cases e
  · rw [if_pos g1] at e; cases e
/-- a change of the suit that has the number -/
theorem oS_ok {v : Nat → Int32} {id : Int32} {g : Nat → oR} {r : Int32 × (Nat → Int32)} (e : oS v id g = .ok r) : ∃ s, fd v id = some s ∧ s < nn v 1 ∧ v (97 + 60 * s) = id ∧ g s = .ok r := by
  unfold oS at e
  cases hf : fd v id with
  | none => rw [hf] at e; cases e
  | some s =>
    rw [hf] at e
    exact ⟨s, rfl, (fd_some hf).1, (fd_some hf).2, e⟩
/-- the sleeve's number -/
theorem slv {v : Nat → Int32} {s : Nat} {l : Int32} (h16 : sl v s ≤ 16) (g : 0 ≤ l ∧ l < oN (sl v s)) : ∃ t, l = oN t ∧ ix l = t ∧ t < sl v s := by
  obtain ⟨t, t1, t2⟩ := lt_n g.1 g.2 (by omega)
  exact ⟨t, t1, by rw [t1, oN_ix (by omega)], t2⟩
theorem sl_c {v v' : Nat → Int32} {s : Nat} (h1 : v' (98 + 60 * s) = v (98 + 60 * s)) (h2 : v' (12 + 17 * nn v (98 + 60 * s)) = v (12 + 17 * nn v (98 + 60 * s))) : sl v' s = sl v s := by
  unfold sl
  rw [nn_c h1, nn_c h2]
theorem dm_c {v v' : Nat → Int32} {s : Nat} (h12 : nn v (100 + 60 * s) ≤ 12) (h3 : v' (100 + 60 * s) = v (100 + 60 * s)) (h4 : ∀ k, k < 24 → v' (133 + 60 * s + k) = v (133 + 60 * s + k)) (l f : Nat) : dmB v' s l f ↔ dmB v s l f := by
  unfold dmB
  rw [nn_c h3]
  constructor
  · rintro ⟨d, d1, d2, d3⟩
    have e1 := h4 (2 * d) (by omega)
    have e2 := h4 (2 * d + 1) (by omega)
    rw [show 133 + 60 * s + (2 * d + 1) = 134 + 60 * s + 2 * d by omega] at e2
    exact ⟨d, d1, by rw [← d2]; exact (nn_c e1).symm, by rw [← d3]; exact (nn_c e2).symm⟩
  · rintro ⟨d, d1, d2, d3⟩
    have e1 := h4 (2 * d) (by omega)
    have e2 := h4 (2 * d + 1) (by omega)
    rw [show 133 + 60 * s + (2 * d + 1) = 134 + 60 * s + 2 * d by omega] at e2
    exact ⟨d, d1, by rw [← d2]; exact nn_c e1, by rw [← d3]; exact nn_c e2⟩
/-- the states and lengths of one suit change, its demands stay -/
theorem GX_sl {v v' : Nat → Int32} {K s : Nat} (h : GX v K) (hs : s < nn v 1) (hl : ∀ j, j < 97 → j < 3 ∨ 12 ≤ j → v' j = v j) (hst : ∀ c, c < 4 → isN v' (8 + c) 0 2000) (ho : ∀ j, 97 ≤ j → ¬ (101 + 60 * s ≤ j ∧ j < 133 + 60 * s) → v' j = v j)
    (hn : ∀ l, l < 16 → isN v' (101 + 60 * s + l) 0 2 ∧ (v' (101 + 60 * s + l) ≠ 0 → isN v' (117 + 60 * s + l) 10 60)) (hc : ∀ l f, dmB v s l f → v' (101 + 60 * s + l) = 2 → v' (101 + 60 * s + f) = 2) : GX v' K := by
  have hR := GR_iff.mp h.1
  have c5 := hR.1.2.2
  have s6 := hR.2.1.2.2
  obtain ⟨g1, g2, g3, g4, g5, g6⟩ := hR.2.2.2 s hs
  obtain ⟨x1, x2, x3, x4⟩ := h.2.2.2.1 s hs
  have w4 := g1.2.2
  have h12 := g4.2.2
  have e98 : v' (98 + 60 * s) = v (98 + 60 * s) := ho _ (by omega) (by omega)
  have e97 : v' (97 + 60 * s) = v (97 + 60 * s) := ho _ (by omega) (by omega)
  have e100 : v' (100 + 60 * s) = v (100 + 60 * s) := ho _ (by omega) (by omega)
  have esl : sl v' s = sl v s := sl_c e98 (hl _ (by omega) (by omega))
  have ed : ∀ l f, dmB v' s l f ↔ dmB v s l f := dm_c h12 e100 (fun k hk => ho _ (by omega) (by omega))
  have n0 : nn v' 0 = nn v 0 := nn_c (hl 0 (by omega) (by omega))
  have n2 : nn v' 2 = nn v 2 := nn_c (hl 2 (by omega) (by omega))
  refine GX_one h hs hl hst (fun t k ht h6 hk => ho _ (by omega) ?_) e97 ⟨isN_c e98 g1, by rw [nn_c e98, n0]; exact g2, isN_c (ho _ (by omega) (by omega)) g3, isN_c e100 g4, hn, fun d hd => ?_⟩ ⟨by rw [nn_c e97, e97]; exact x1, by rw [nn_c e97, n2]; exact x2, fun l hl => x3 l (tg_mono (fun a b k => (ed b a).mp k) hl), fun l f hd => hc l f ((ed l f).mp hd)⟩
  · rcases Nat.lt_or_gt_of_ne ht with q9 | q9 <;> omega
  · rw [nn_c e100] at hd
    have e1 : v' (133 + 60 * s + 2 * d) = v (133 + 60 * s + 2 * d) := ho _ (by omega) (by omega)
    have e2 : v' (134 + 60 * s + 2 * d) = v (134 + 60 * s + 2 * d) := ho _ (by omega) (by omega)
    obtain ⟨p1, p2, p3, p4, p5⟩ := g6 d hd
    rw [nn_c e1, nn_c e2, esl]
    exact ⟨isN_c e1 p1, isN_c e2 p2, p3, p4, p5⟩
theorem I4 {v v' : Nat → Int32} {K : Nat} {id l x : Int32} (h : GX v K) (e : o4 v id l = .ok (x, v')) : GX v' K ∧ 0 ≤ x := by
  have hR := GR_iff.mp h.1
  have c5 := hR.1.2.2
  have s6 := hR.2.1.2.2
  obtain ⟨s, -, hs, -, e⟩ := oS_ok e
  obtain ⟨g1, g2, g3, g4, g5, g6⟩ := hR.2.2.2 s hs
  have h16 := (h.1.sl16 hs).1
  by_cases q1 : 0 ≤ l ∧ l < oN (sl v s)
  · rw [ifnn q1] at e
    obtain ⟨t, t1, t2, t3⟩ := slv h16 q1
    rw [t2] at e
    by_cases q2 : v (101 + 60 * s + t) = 0
    · rw [ifnn q2] at e
      by_cases q3 : v (13 + 17 * nn v (98 + 60 * s) + t) + 2 ≤ v (8 + nn v (99 + 60 * s))
      · rw [if_pos q3] at e
        have w4 := g1.2.2
        have k3 := g3.2.2
        have hw := (hR.2.2.1 _ g2).2 t (by unfold sl at t3; omega)
        have hk := h.2.1 (nn v (99 + 60 * s)) (by omega)
        have hw2 := hw.2
        have hk2 := hk.2.2
        rw [hw.1] at e q3
        rw [hk.1] at e q3
        generalize nn v (13 + 17 * nn v (98 + 60 * s) + t) = w at *
        generalize hkk : nn v (99 + 60 * s) = k at *
        have e2w : (oN w + 2 : Int32) = oN (w + 2) := oN_add w 2
        rw [e2w] at e q3
        have q4 := (oN_le (by omega) (by omega)).mp q3
        rw [oN_sub q4] at e
        injection e with e
        injection e with e1 e2
        subst e2
        refine ⟨GX_sl h hs (fun j j1 j2 => by rw [ud_n (by omega), ud_n (by omega), ud_n (by omega)]) (fun c hc => ?_) (fun j j1 j2 => by rw [ud_n (by omega), ud_n (by omega), ud_n (by omega)]) (fun i hi => ?_) (fun i f hd hi2 => ?_), by rw [← e1]; exact oN_0 (by omega)⟩
        · by_cases ec : c = k
          · subst ec
            exact isN_n (n := nn v (8 + c) - (w + 2)) (by rw [ud_n (by omega), ud_n (by omega), ud_e]) (by omega) (by omega) (by omega)
          · exact isN_c (by rw [ud_n (by omega), ud_n (by omega), ud_n (by omega)]) (h.2.1 c hc)
        · by_cases ei : i = t
          · subst ei
            refine ⟨isN_n (n := 1) (by rw [ud_n (by omega), ud_e]; rfl) (by omega) (by omega) (by omega), fun _ => isN_n (n := w) (by rw [ud_e]) (by omega) (by omega) (by omega)⟩
          · have a1 : ∀ k0 x0 y0 z0, ud (ud (ud v (8 + k0) x0) (101 + 60 * s + t) y0) (117 + 60 * s + t) z0 (101 + 60 * s + i) = ud v (8 + k0) x0 (101 + 60 * s + i) := fun k0 x0 y0 z0 => by rw [ud_n (by omega), ud_n (by omega)]
            have a2 : ∀ k0 x0 y0 z0, ud (ud (ud v (8 + k0) x0) (101 + 60 * s + t) y0) (117 + 60 * s + t) z0 (117 + 60 * s + i) = ud v (8 + k0) x0 (117 + 60 * s + i) := fun k0 x0 y0 z0 => by rw [ud_n (by omega), ud_n (by omega)]
            have b1 : ud v (8 + k) (oN (nn v (8 + k) - (w + 2))) (101 + 60 * s + i) = v (101 + 60 * s + i) := ud_n (by omega)
            have b2 : ud v (8 + k) (oN (nn v (8 + k) - (w + 2))) (117 + 60 * s + i) = v (117 + 60 * s + i) := ud_n (by omega)
            exact ⟨isN_c ((a1 _ _ _ _).trans b1) (g5 i hi).1, fun hp => isN_c ((a2 _ _ _ _).trans b2) ((g5 i hi).2 (by rw [← b1, ← a1]; exact hp))⟩
        · have hx := (h.2.2.2.1 s hs).2.2.2 i f hd
          have hf : f < sl v s := h.1.E hs i f hd
          have hi16 : i < 16 := by
            obtain ⟨d, d1, d2, d3⟩ := hd
            have := (g6 d d1).2.1.2.2
            omega
          by_cases ei : i = t
          · subst ei
            rw [ud_n (by omega), ud_e] at hi2
            exact absurd hi2 (by decide)
          · rw [ud_n (by omega), ud_n (by omega), ud_n (by omega)] at hi2
            have := hx hi2
            by_cases ef : f = t
            · subst ef; rw [q2] at this; exact absurd this (by decide)
            · rw [ud_n (by omega), ud_n (by omega), ud_n (by omega)]; exact this
      · rw [if_neg q3] at e; cases e
    · rw [if_pos q2] at e; cases e
  · rw [if_pos q1] at e; cases e
theorem I5 {v v' : Nat → Int32} {K : Nat} {id l x : Int32} (h : GX v K) (e : o5 v id l = .ok (x, v')) : GX v' K ∧ 0 ≤ x := by
  have hR := GR_iff.mp h.1
  have c5 := hR.1.2.2
  have s6 := hR.2.1.2.2
  obtain ⟨s, -, hs, -, e⟩ := oS_ok e
  obtain ⟨g1, g2, g3, g4, g5, g6⟩ := hR.2.2.2 s hs
  have h16 := (h.1.sl16 hs).1
  by_cases q1 : 0 ≤ l ∧ l < oN (sl v s)
  · rw [ifnn q1] at e
    obtain ⟨t, t1, t2, t3⟩ := slv h16 q1
    rw [t2] at e
    by_cases q2 : v (101 + 60 * s + t) = 1
    · rw [ifnn q2] at e
      by_cases q3 : pb (∃ f, dmB v s t f ∧ v (101 + 60 * s + f) ≠ 2) = true
      · rw [if_pos q3] at e; cases e
      · rw [if_neg q3] at e
        injection e with e
        injection e with e1 e2
        subst e2
        refine ⟨GX_sl h hs (fun j j1 j2 => by rw [ud_n (by omega)]) (fun c hc => isN_c (by rw [ud_n (by omega)]) (h.2.1 c hc)) (fun j j1 j2 => by rw [ud_n (by omega)]) (fun i hi => ?_) (fun i f hd hi2 => ?_), ?_⟩
        · have a2 : ud v (101 + 60 * s + t) 2 (117 + 60 * s + i) = v (117 + 60 * s + i) := ud_n (by omega)
          by_cases ei : i = t
          · subst ei
            exact ⟨isN_n (n := 2) (by rw [ud_e]; rfl) (by omega) (by omega) (by omega), fun _ => isN_c a2 ((g5 i hi).2 (by rw [q2]; decide))⟩
          · have a1 : ud v (101 + 60 * s + t) 2 (101 + 60 * s + i) = v (101 + 60 * s + i) := ud_n (by omega)
            exact ⟨isN_c a1 (g5 i hi).1, fun hp => isN_c a2 ((g5 i hi).2 (by rw [← a1]; exact hp))⟩
        · by_cases ef : f = t
          · rw [ef, ud_e]
          · rw [ud_n (by omega)]
            by_cases ei : i = t
            · subst ei
              exact Classical.byContradiction fun hc => q3 (pb_t.mpr ⟨f, hd, hc⟩)
            · rw [ud_n (by omega)] at hi2
              exact (h.2.2.2.1 s hs).2.2.2 i f hd hi2
        · rw [← e1]
          obtain ⟨m, m1, m2, m3⟩ := sm_b (f := fun j => if ud v (101 + 60 * s + t) 2 (101 + 60 * s + j) = 2 then (1 : Int32) else 0) (B := 1) (sl v s) 0 0 (fun l _ _ => by
            by_cases q : ud v (101 + 60 * s + t) 2 (101 + 60 * s + l) = 2
            · exact ⟨1, Nat.le_refl _, by simp only [q, if_true]; rfl⟩
            · exact ⟨0, by omega, by simp only [q, if_false]; rfl⟩)
          rw [show (0 : Int32) = oN 0 from rfl] at m3 ⊢
          rw [m3]
          exact (oN_le (by omega) (by omega)).mpr (by omega)
    · rw [if_pos q2] at e; cases e
  · rw [if_pos q1] at e; cases e
theorem I6 {v v' : Nat → Int32} {K : Nat} {id l x : Int32} (h : GX v K) (e : o6 v id l = .ok (x, v')) : GX v' K ∧ 0 ≤ x := by
  have hR := GR_iff.mp h.1
  have c5 := hR.1.2.2
  have s6 := hR.2.1.2.2
  obtain ⟨s, -, hs, -, e⟩ := oS_ok e
  obtain ⟨g1, g2, g3, g4, g5, g6⟩ := hR.2.2.2 s hs
  have h16 := (h.1.sl16 hs).1
  by_cases q1 : 0 ≤ l ∧ l < oN (sl v s)
  · rw [ifnn q1] at e
    obtain ⟨t, t1, t2, t3⟩ := slv h16 q1
    rw [t2] at e
    by_cases q2 : v (101 + 60 * s + t) = 0
    · rw [if_pos q2] at e; cases e
    · rw [if_neg q2] at e
      by_cases q3 : pb (∃ f, dmB v s f t ∧ v (101 + 60 * s + f) = 2) = true
      · rw [if_pos q3] at e; cases e
      · rw [if_neg q3] at e
        injection e with e
        injection e with e1 e2
        have hown := (g5 t (by omega)).2 q2
        have hown2 := hown.2.2
        generalize hX : v (117 + 60 * s + t) + 2 = X at e1 e2
        generalize hY : v 4 + X = Y at e2
        subst e2
        refine ⟨GX_sl h hs (fun j j1 j2 => by rw [ud_n (by omega), ud_n (by omega), ud_n (by omega)]) (fun c hc => isN_c (by rw [ud_n (by omega), ud_n (by omega), ud_n (by omega)]) (h.2.1 c hc)) (fun j j1 j2 => by rw [ud_n (by omega), ud_n (by omega), ud_n (by omega)]) (fun i hi => ?_) (fun i f hd hi2 => ?_), ?_⟩
        · by_cases ei : i = t
          · subst ei
            have z : ud (ud (ud v (101 + 60 * s + i) 0) (117 + 60 * s + i) 0) 4 Y (101 + 60 * s + i) = 0 := by rw [ud_n (by omega), ud_n (by omega), ud_e]
            exact ⟨isN_z z, fun hp => absurd z hp⟩
          · have a1 : ud (ud (ud v (101 + 60 * s + t) 0) (117 + 60 * s + t) 0) 4 Y (101 + 60 * s + i) = v (101 + 60 * s + i) := by rw [ud_n (by omega), ud_n (by omega), ud_n (by omega)]
            have a2 : ud (ud (ud v (101 + 60 * s + t) 0) (117 + 60 * s + t) 0) 4 Y (117 + 60 * s + i) = v (117 + 60 * s + i) := by rw [ud_n (by omega), ud_n (by omega), ud_n (by omega)]
            exact ⟨isN_c a1 (g5 i hi).1, fun hp => isN_c a2 ((g5 i hi).2 (by rw [← a1]; exact hp))⟩
        · have hi16 : i < 16 := by
            obtain ⟨d, d1, d2, d3⟩ := hd
            have := (g6 d d1).2.1.2.2
            omega
          have hf := h.1.E hs i f hd
          have ei : i ≠ t := by
            intro ei
            subst ei
            rw [ud_n (by omega), ud_n (by omega), ud_e] at hi2
            exact absurd hi2 (by decide)
          rw [ud_n (by omega), ud_n (by omega), ud_n (by omega)] at hi2
          have ef : f ≠ t := by
            intro ef
            subst ef
            exact q3 (pb_t.mpr ⟨i, hd, hi2⟩)
          rw [ud_n (by omega), ud_n (by omega), ud_n (by omega)]
          exact (h.2.2.2.1 s hs).2.2.2 i f hd hi2
        · rw [← e1, ← hX, hown.1]
          have e9 : (oN (nn v (117 + 60 * s + t)) + 2 : Int32) = oN (nn v (117 + 60 * s + t) + 2) := oN_add _ 2
          rw [e9]
          exact oN_0 (by omega)
  · rw [if_pos q1] at e; cases e
