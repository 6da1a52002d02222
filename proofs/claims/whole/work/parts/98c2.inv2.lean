/-! ===== layer 3: what holds of the row goes on to hold: demands, goings ===== -/
/-- one more step a .. b makes a way only where there was one, or by way of it -/
theorem tg_new {r : Nat → Nat → Prop} {a b : Nat} {x y : Nat} (h : Relation.TransGen (fun p q => r p q ∨ (p = a ∧ q = b)) x y) : Relation.TransGen r x y ∨ ((x = a ∨ Relation.TransGen r x a) ∧ (y = b ∨ Relation.TransGen r b y)) := by
  induction h with
  | single k =>
    rcases k with k | ⟨k1, k2⟩
    · exact Or.inl (Relation.TransGen.single k)
    · exact Or.inr ⟨Or.inl k1, Or.inl k2⟩
  | tail _ k ih =>
    rcases k with k | ⟨k1, k2⟩
    · rcases ih with ih | ⟨i1, i2⟩
      · exact Or.inl (Relation.TransGen.tail ih k)
      · refine Or.inr ⟨i1, Or.inr ?_⟩
        rcases i2 with e | e
        · rw [e] at k; exact Relation.TransGen.single k
        · exact Relation.TransGen.tail e k
    · rcases ih with ih | ⟨i1, i2⟩
      · rw [k1] at ih; exact Or.inr ⟨Or.inr ih, Or.inl k2⟩
      · exact Or.inr ⟨i1, Or.inl k2⟩
theorem tg_trans {r : Nat → Nat → Prop} {x y z : Nat} (h : Relation.TransGen r x y) (g : Relation.TransGen r y z) : Relation.TransGen r x z := by
  induction g with
  | single k => exact Relation.TransGen.tail h k
  | tail _ k ih => exact Relation.TransGen.tail ih k
theorem I7 {v v' : Nat → Int32} {K : Nat} {id a b x : Int32} (h : GX v K) (e : o7 v id a b = .ok (x, v')) : GX v' K ∧ 0 ≤ x := by
  have hR := GR_iff.mp h.1
  have c5 := hR.1.2.2
  have s6 := hR.2.1.2.2
  obtain ⟨s, -, hs, -, e⟩ := oS_ok e
  obtain ⟨g1, g2, g3, g4, g5, g6⟩ := hR.2.2.2 s hs
  obtain ⟨x1, x2, x3, x4⟩ := h.2.2.2.1 s hs
  have h16 := (h.1.sl16 hs).1
  have w4 := g1.2.2
  have h12 := g4.2.2
  by_cases q1 : 0 ≤ a ∧ a < oN (sl v s)
  · rw [ifnn q1] at e
    by_cases q2 : 0 ≤ b ∧ b < oN (sl v s)
    · rw [ifnn q2] at e
      obtain ⟨p, p1, p2, p3⟩ := slv h16 q1
      obtain ⟨q, q1', q2', q3'⟩ := slv h16 q2
      by_cases q3 : a = b
      · rw [if_pos q3] at e; cases e
      · rw [if_neg q3, p2, q2'] at e
        by_cases q4 : pb (dmB v s q p) = true ∨ v (100 + 60 * s) = 12 ∨ (v (101 + 60 * s + q) = 2 ∧ v (101 + 60 * s + p) ≠ 2)
        · rw [if_pos q4] at e; cases e
        · rw [if_neg q4] at e
          by_cases q5 : pb (rch v s q p) = true
          · rw [if_pos q5] at e; cases e
          · rw [if_neg q5] at e
            have hpq : p ≠ q := fun e9 => q3 (by rw [p1, q1', e9])
            have hD12 : nn v (100 + 60 * s) < 12 := by
              rcases Nat.lt_or_ge (nn v (100 + 60 * s)) 12 with z | z
              · exact z
              · exact absurd (Or.inr (Or.inl (by rw [g4.1, show nn v (100 + 60 * s) = 12 by omega]; rfl))) q4
            injection e with e
            injection e with e1 e2
            have eN : v (100 + 60 * s) + 1 = oN (nn v (100 + 60 * s) + 1) := by
              have := oN_add (nn v (100 + 60 * s)) 1
              rw [← g4.1] at this
              exact this
            rw [eN] at e1 e2
            generalize hD : nn v (100 + 60 * s) = D at *
            have same : ∀ j, j ≠ 100 + 60 * s → j ≠ 133 + 60 * s + 2 * D → j ≠ 134 + 60 * s + 2 * D → v' j = v j := by
              intro j j1 j2 j3
              rw [← e2, ud_n j1, ud_n j3, ud_n j2]
            have v100 : v' (100 + 60 * s) = oN (D + 1) := by rw [← e2, ud_e]
            have vf : v' (133 + 60 * s + 2 * D) = oN p := by rw [← e2, ud_n (by omega), ud_n (by omega), ud_e, p1]
            have vs : v' (134 + 60 * s + 2 * D) = oN q := by rw [← e2, ud_n (by omega), ud_e, q1']
            have n100 : nn v' (100 + 60 * s) = D + 1 := nn_n v100 (by omega)
            have nf : nn v' (133 + 60 * s + 2 * D) = p := nn_n vf (by omega)
            have ns : nn v' (134 + 60 * s + 2 * D) = q := nn_n vs (by omega)
            have of_ : ∀ d, d < D → nn v' (133 + 60 * s + 2 * d) = nn v (133 + 60 * s + 2 * d) := fun d hd => nn_c (same _ (by omega) (by omega) (by omega))
            have os_ : ∀ d, d < D → nn v' (134 + 60 * s + 2 * d) = nn v (134 + 60 * s + 2 * d) := fun d hd => nn_c (same _ (by omega) (by omega) (by omega))
            have esl : sl v' s = sl v s := sl_c (same _ (by omega) (by omega) (by omega)) (same _ (by omega) (by omega) (by omega))
            have ed : ∀ l f, dmB v' s l f ↔ (dmB v s l f ∨ (f = p ∧ l = q)) := by
              intro l f
              unfold dmB
              rw [n100, hD]
              constructor
              · rintro ⟨d, d1, d2, d3⟩
                by_cases ed : d = D
                · subst ed
                  rw [nf] at d2; rw [ns] at d3
                  exact Or.inr ⟨d2.symm, d3.symm⟩
                · rw [of_ d (by omega)] at d2; rw [os_ d (by omega)] at d3
                  exact Or.inl ⟨d, by omega, d2, d3⟩
              · rintro (⟨d, d1, d2, d3⟩ | ⟨d1, d2⟩)
                · exact ⟨d, by omega, by rw [of_ d d1]; exact d2, by rw [os_ d d1]; exact d3⟩
                · exact ⟨D, by omega, by rw [nf, d1], by rw [ns, d2]⟩
            have n0 : nn v' 0 = nn v 0 := nn_c (same 0 (by omega) (by omega) (by omega))
            have n2 : nn v' 2 = nn v 2 := nn_c (same 2 (by omega) (by omega) (by omega))
            have e97 : v' (97 + 60 * s) = v (97 + 60 * s) := same _ (by omega) (by omega) (by omega)
            have e98 : v' (98 + 60 * s) = v (98 + 60 * s) := same _ (by omega) (by omega) (by omega)
            refine ⟨GX_one h hs (fun j j1 j2 => same _ (by omega) (by omega) (by omega)) (fun c hc => isN_c (same _ (by omega) (by omega) (by omega)) (h.2.1 c hc)) (fun t k ht h6 hk => same _ ?_ ?_ ?_) e97 ⟨isN_c e98 g1, by rw [nn_c e98, n0]; exact g2, isN_c (same _ (by omega) (by omega) (by omega)) g3, isN_n v100 (by omega) (by omega) (by omega), fun l hl => ?_, fun d hd => ?_⟩ ⟨by rw [nn_c e97, e97]; exact x1, by rw [nn_c e97, n2]; exact x2, fun l hl => ?_, fun l f hd hl => ?_⟩, by rw [← e1]; exact oN_0 (by omega)⟩
            · rcases Nat.lt_or_gt_of_ne ht with q9 | q9 <;> omega
            · rcases Nat.lt_or_gt_of_ne ht with q9 | q9 <;> omega
            · rcases Nat.lt_or_gt_of_ne ht with q9 | q9 <;> omega
            · have a1 : v' (101 + 60 * s + l) = v (101 + 60 * s + l) := same _ (by omega) (by omega) (by omega)
              have a2 : v' (117 + 60 * s + l) = v (117 + 60 * s + l) := same _ (by omega) (by omega) (by omega)
              exact ⟨isN_c a1 (g5 l hl).1, fun hp => isN_c a2 ((g5 l hl).2 (by rw [← a1]; exact hp))⟩
            · rw [n100] at hd
              by_cases edd : d = D
              · subst edd
                rw [nf, ns, esl]
                exact ⟨isN_n vf (by omega) (by omega) (by omega), isN_n vs (by omega) (by omega) (by omega), p3, q3', hpq⟩
              · obtain ⟨p1', p2', p3', p4', p5'⟩ := g6 d (by omega)
                rw [of_ d (by omega), os_ d (by omega), esl]
                exact ⟨isN_c (same _ (by omega) (by omega) (by omega)) p1', isN_c (same _ (by omega) (by omega) (by omega)) p2', p3', p4', p5'⟩
            · have hl' := tg_new (a := p) (b := q) (r := fun f l => dmB v s l f) (tg_mono (fun f l k => (ed l f).mp k) hl)
              rcases hl' with hl' | ⟨i1, i2⟩
              · exact x3 l hl'
              · apply q5
                apply pb_t.mpr
                rcases i1 with i1 | i1 <;> rcases i2 with i2 | i2
                · exact absurd (i1.symm.trans i2) hpq
                · rw [i1] at i2; exact i2
                · rw [i2] at i1; exact i1
                · exact tg_trans i2 i1
            · have f16 : f < 16 := by
                rcases (ed l f).mp hd with z | ⟨z, -⟩
                · have := h.1.E hs l f z; omega
                · omega
              have l16 : l < 16 := by
                rcases (ed l f).mp hd with ⟨d, z1, z2, z3⟩ | ⟨-, z⟩
                · have := (g6 d (by omega)).2.1.2.2; omega
                · omega
              have a1 : v' (101 + 60 * s + l) = v (101 + 60 * s + l) := same _ (by omega) (by omega) (by omega)
              have a2 : v' (101 + 60 * s + f) = v (101 + 60 * s + f) := same _ (by omega) (by omega) (by omega)
              rw [a1] at hl
              rw [a2]
              rcases (ed l f).mp hd with z | ⟨z1, z2⟩
              · exact x4 l f z hl
              · rw [z2] at hl
                rw [z1]
                exact Classical.byContradiction fun hc => q4 (Or.inr (Or.inr ⟨hl, hc⟩))
    · rw [if_pos q2] at e; cases e
  · rw [if_pos q1] at e; cases e
/-- a suit goes: the others move up -/
theorem GX_rem {v : Nat → Int32} {K s : Nat} (h : GX v K) (hs : s < nn v 1) : GX (rem v s) K := by
  have hR := GR_iff.mp h.1
  have c5 := hR.1.2.2
  have s6 := hR.2.1.2.2
  have same : ∀ j, j ≠ 1 → ¬ (97 + 60 * s ≤ j ∧ j < 457) → rem v s j = v j := by
    intro j j1 j2
    unfold rem
    rw [if_neg j1, if_neg j2]
  have up : ∀ j, 97 + 60 * s ≤ j → j + 60 < 457 → rem v s j = v (j + 60) := by
    intro j j1 j2
    unfold rem
    rw [if_neg (by omega), if_pos (by omega), if_pos j2]
  have v1 : rem v s 1 = oN (nn v 1 - 1) := by
    unfold rem
    rw [if_pos rfl, hR.2.1.1, show (1 : Int32) = oN 1 from rfl, oN_sub (by omega), nn_n hR.2.1.1 (by omega)]
  have n1 : nn (rem v s) 1 = nn v 1 - 1 := nn_n v1 (by omega)
  have n0 : nn (rem v s) 0 = nn v 0 := nn_c (same 0 (by omega) (by omega))
  have n2 : nn (rem v s) 2 = nn v 2 := nn_c (same 2 (by omega) (by omega))
  have ts : ∀ t, t < nn v 1 - 1 → TS v (if t < s then t else t + 1) (rem v s) t := by
    intro t ht
    by_cases q : t < s
    · rw [if_pos q]
      have w4 := (hR.2.2.2 t (by omega)).1.2.2
      exact ⟨fun k hk => same _ (by omega) (by omega), same _ (by omega) (by omega)⟩
    · rw [if_neg q]
      have w4 := (hR.2.2.2 (t + 1) (by omega)).1.2.2
      refine ⟨fun k hk => ?_, same _ (by omega) (by omega)⟩
      rw [up _ (by omega) (by omega), show 97 + 60 * t + k + 60 = 97 + 60 * (t + 1) + k by omega]
  have hid : ∀ t, t < nn v 1 - 1 → rem v s (97 + 60 * t) = v (97 + 60 * (if t < s then t else t + 1)) := fun t ht => (ts t ht).1 0 (by omega)
  refine GX_gen h (isN_c (same 0 (by omega) (by omega)) hR.1) (by omega) (isN_n v1 (by omega) (by omega) (by omega)) (fun c hc => isN_c (same _ (by omega) (by omega)) (h.2.1 c hc)) ⟨by rw [n2, same 2 (by omega) (by omega)]; exact h.2.2.1.1, by omega, by rw [n2]; exact h.2.2.1.2⟩ (fun c hc => GC_c (fun k hk => same _ (by omega) (by omega)) (hR.2.2.1 c (by omega))) (fun t ht => ?_) (fun a b hab hb => ?_)
  · rw [n1] at ht
    exact Or.inl ⟨_, by split <;> omega, ts t ht⟩
  · rw [n1] at hb
    rw [hid a (by omega), hid b hb]
    refine h.2.2.2.2 _ _ ?_ ?_
    · split <;> split <;> omega
    · split <;> omega
theorem clo_n {v : Nat → Int32} {K s : Nat} (h : GX v K) (hs : s < nn v 1) : ∃ m, m ≤ 1200 ∧ clo v s = oN m := by
  have h16 := (h.1.sl16 hs).1
  have g5 := ((GR_iff.mp h.1).2.2.2 s hs).2.2.2.2.1
  obtain ⟨m, m1, m2, m3⟩ := sm_b (f := fun l => if v (101 + 60 * s + l) = 0 then 0 else v (117 + 60 * s + l) + 2) (B := 62) (sl v s) 0 0 (fun l _ hl => by
    by_cases q : v (101 + 60 * s + l) = 0
    · exact ⟨0, by omega, by simp only [q, if_true]; rfl⟩
    · have := (g5 l (by omega)).2 q
      refine ⟨nn v (117 + 60 * s + l) + 2, by have := this.2.2; omega, ?_⟩
      simp only [q, if_false]
      have e9 := oN_add (nn v (117 + 60 * s + l)) 2
      rw [← this.1] at e9
      exact e9)
  refine ⟨m, ?_, m3⟩
  have : 62 * sl v s ≤ 62 * 16 := Nat.mul_le_mul_left _ h16
  omega
theorem wor_n {v : Nat → Int32} {K s : Nat} (h : GX v K) (hs : s < nn v 1) : ∃ m, m ≤ 1200 ∧ wor v s = oN m := by
  have h16 := (h.1.sl16 hs).1
  have hR := GR_iff.mp h.1
  obtain ⟨g1, g2, g3, g4, g5, g6⟩ := hR.2.2.2 s hs
  have h12 := g4.2.2
  have e3 : 3 * v (100 + 60 * s) = oN (3 * nn v (100 + 60 * s)) := by rw [g4.1, show (3 : Int32) = oN 3 from rfl, oN_mul, nn_n g4.1 (by omega)]
  obtain ⟨m, m1, m2, m3⟩ := sm_b (f := fun l => if v (101 + 60 * s + l) = 0 then v (13 + 17 * nn v (98 + 60 * s) + l) else v (117 + 60 * s + l)) (B := 60) (sl v s) 0 (3 * nn v (100 + 60 * s)) (fun l _ hl => by
    by_cases q : v (101 + 60 * s + l) = 0
    · have := (hR.2.2.1 _ g2).2 l (by unfold sl at hl; omega)
      exact ⟨nn v (13 + 17 * nn v (98 + 60 * s) + l), this.2.2, by simp only [q, if_true]; exact this.1⟩
    · have := (g5 l (by omega)).2 q
      exact ⟨nn v (117 + 60 * s + l), this.2.2, by simp only [q, if_false]; exact this.1⟩)
  refine ⟨m, ?_, by unfold wor; rw [e3]; exact m3⟩
  have : 60 * sl v s ≤ 60 * 16 := Nat.mul_le_mul_left _ h16
  omega
theorem I8 {v v' : Nat → Int32} {K : Nat} {id x : Int32} (h : GX v K) (e : o8 v id = .ok (x, v')) : GX v' K ∧ 0 ≤ x := by
  obtain ⟨s, -, hs, -, e⟩ := oS_ok e
  obtain ⟨m, m1, m2⟩ := wor_n h hs
  by_cases q : pb (dueP v s) = true
  · rw [if_pos q] at e
    injection e with e
    injection e with e1 e2
    subst e2
    have h1 : GX (ud (ud (ud v 5 (v 5 + clo v s)) 6 (v 6 + wor v s)) 7 (v 7 + 1)) K := GX_low h (fun j hj => by rw [ud_n (by omega), ud_n (by omega), ud_n (by omega)]) (fun c hc => isN_c (by rw [ud_n (by omega), ud_n (by omega), ud_n (by omega)]) (h.2.1 c hc))
    refine ⟨GX_rem h1 ?_, by rw [← e1, m2]; exact oN_0 (by omega)⟩
    rw [nn_c (v := v) (i := 1) (by rw [ud_n (by omega), ud_n (by omega), ud_n (by omega)])]
    exact hs
  · rw [if_neg q] at e; cases e
theorem I9 {v v' : Nat → Int32} {K : Nat} {id x : Int32} (h : GX v K) (e : o9 v id = .ok (x, v')) : GX v' K ∧ 0 ≤ x := by
  obtain ⟨s, -, hs, -, e⟩ := oS_ok e
  obtain ⟨m, m1, m2⟩ := clo_n h hs
  injection e with e
  injection e with e1 e2
  subst e2
  have h1 : GX (ud v 4 (v 4 + clo v s)) K := GX_low h (fun j hj => by rw [ud_n (by omega)]) (fun c hc => isN_c (by rw [ud_n (by omega)]) (h.2.1 c hc))
  refine ⟨GX_rem h1 ?_, by rw [← e1, m2]; exact oN_0 (by omega)⟩
  rw [nn_c (v := v) (i := 1) (by rw [ud_n (by omega)])]
  exact hs
theorem IK {v v' : Nat → Int32} {K k : Nat} {a b c x : Int32} (h : GX v K) (hK : K < 2 ^ 30) (e : oK k v a b c = .ok (x, v')) : GX v' (K + 1) ∧ 0 ≤ x := by
  have up : ∀ {P : Prop}, GX v' K ∧ P → GX v' (K + 1) ∧ P := fun q => ⟨q.1.up (by omega), q.2⟩
  match k, e with
  | 0, e => exact up (I0 h e)
  | 1, e => exact up (I1 h e)
  | 2, e => exact up (I2 h e)
  | 3, e => exact I3 h hK e
  | 4, e => exact up (I4 h e)
  | 5, e => exact up (I5 h e)
  | 6, e => exact up (I6 h e)
  | 7, e => exact up (I7 h e)
  | 8, e => exact up (I8 h e)
  | n + 9, e => exact up (I9 h e)
