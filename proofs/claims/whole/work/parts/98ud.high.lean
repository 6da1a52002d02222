/-! ===== layer 3: a change lets alone what lies behind the row ===== -/
section HIGH
variable {v v' : Nat → Int32} {K : Nat} {j : Nat}
theorem H0 {a b x : Int32} (e : o0 v a b = .ok (x, v')) (hj : 457 ≤ j) : v' j = v j := by
  unfold o0 at e
  by_cases g1 : 0 ≤ a ∧ a ≤ 3
  · rw [ifnn g1] at e
    by_cases g2 : 1 ≤ b ∧ b ≤ 999
    · rw [ifnn g2] at e
      obtain ⟨n, n1, n2, n3⟩ := in_n (lo := 0) (hi := 3) g1.1 g1.2 (by omega) (by omega)
      have hix : ix a = n := by rw [n1, oN_ix (by omega)]
      rw [hix] at e
      by_cases g3 : v (8 + n) + b ≤ 2000
      · rw [if_pos g3] at e
        injection e with e
        injection e with e1 e2
        rw [← e2, ud_n (by omega), ud_n (by omega)]
      · rw [if_neg g3] at e; cases e
    · rw [if_pos g2] at e; cases e
  · rw [if_pos g1] at e; cases e
theorem H1 (h : GX v K) {a b x : Int32} (e : o1 v a b = .ok (x, v')) (hj : 457 ≤ j) : v' j = v j := by
  have hR := GR_iff.mp h.1
  have hn0 := hR.1
  have hn5 := hn0.2.2
  unfold o1 at e
  by_cases g1 : 1 ≤ a ∧ a ≤ 8
  · rw [ifnn g1] at e
    by_cases g2 : 10 ≤ b ∧ b ≤ 60
    · rw [ifnn g2] at e
      by_cases g3 : v 0 = 5
      · rw [if_pos g3] at e; cases e
      · rw [if_neg g3] at e
        injection e with e
        injection e with e1 e2
        rw [← e2]
        simp only []
        rw [if_neg (by omega), if_neg (by omega), if_neg (by omega)]
    · rw [if_pos g2] at e; cases e
  · rw [if_pos g1] at e; cases e
theorem H2 (h : GX v K) {a l b x : Int32} (e : o2 v a l b = .ok (x, v')) (hj : 457 ≤ j) : v' j = v j := by
  have hR := GR_iff.mp h.1
  have hn0 := hR.1
  have hn5 := hn0.2.2
  unfold o2 at e
  by_cases g1 : 0 ≤ a ∧ a < v 0 ∧ 0 ≤ l ∧ l < 2 * v (12 + 17 * ix a)
  · rw [ifnn g1] at e
    by_cases g2 : 10 ≤ b ∧ b ≤ 60
    · rw [ifnn g2] at e
      obtain ⟨m, m1, m2⟩ := lt_n g1.1 (by rw [← hn0.1]; exact g1.2.1) (by omega)
      obtain ⟨p1, pl⟩ := hR.2.2.1 m m2
      have p8 := p1.2.2
      have hx : ix a = m := by rw [m1, oN_ix (by omega)]
      have e2 : 2 * v (12 + 17 * m) = oN (2 * nn v (12 + 17 * m)) := by rw [p1.1, show (2 : Int32) = oN 2 from rfl, oN_mul, nn_n p1.1 (by omega)]
      obtain ⟨t, t1, t2⟩ := lt_n g1.2.2.1 (by rw [← e2, ← hx]; exact g1.2.2.2) (by omega)
      have ht : ix l = t := by rw [t1, oN_ix (by omega)]
      rw [hx, ht] at e
      injection e with e
      injection e with e1 e2
      rw [← e2, ud_n (by omega)]
    · rw [if_pos g2] at e; cases e
  · rw [if_pos g1] at e; cases e
theorem H3 (h : GX v K) {a b x : Int32} (e : o3 v a b = .ok (x, v')) (hj : 457 ≤ j) : v' j = v j := by
  have hR := GR_iff.mp h.1
  have hn1 := hR.2.1
  have hs6 := hn1.2.2
  unfold o3 at e
  by_cases g1 : 0 ≤ a ∧ a < v 0
  · rw [ifnn g1] at e
    by_cases g2 : 0 ≤ b ∧ b ≤ 3
    · rw [ifnn g2] at e
      by_cases g3 : v 1 = 6
      · rw [if_pos g3] at e; cases e
      · rw [if_neg g3] at e
        have hlt : nn v 1 ≠ 6 := fun q => g3 (by rw [hn1.1, q]; rfl)
        injection e with e
        injection e with e1 e2
        rw [← e2]
        simp only []
        rw [if_neg (by omega), if_neg (by omega), if_neg (by omega)]
    · rw [if_pos g2] at e; cases e
  · rw [if_pos g1] at e; cases e
theorem H4 (h : GX v K) {id l x : Int32} (e : o4 v id l = .ok (x, v')) (hj : 457 ≤ j) : v' j = v j := by
  have hR := GR_iff.mp h.1
  have s6 := hR.2.1.2.2
  obtain ⟨s, -, hs, -, e⟩ := oS_ok e
  obtain ⟨g1, g2, g3, g4, g5, g6⟩ := hR.2.2.2 s hs
  have h16 := (h.1.sl16 hs).1
  have w3 := g3.2.2
  by_cases q1 : 0 ≤ l ∧ l < oN (sl v s)
  · rw [ifnn q1] at e
    obtain ⟨t, t1, t2, t3⟩ := slv h16 q1
    rw [t2] at e
    by_cases q2 : v (101 + 60 * s + t) = 0
    · rw [ifnn q2] at e
      by_cases q3 : v (13 + 17 * nn v (98 + 60 * s) + t) + 2 ≤ v (8 + nn v (99 + 60 * s))
      · rw [if_pos q3] at e
        injection e with e
        injection e with e1 e2
        rw [← e2, ud_n (by omega), ud_n (by omega), ud_n (by omega)]
      · rw [if_neg q3] at e; cases e
    · rw [if_pos q2] at e; cases e
  · rw [if_pos q1] at e; cases e
theorem H5 (h : GX v K) {id l x : Int32} (e : o5 v id l = .ok (x, v')) (hj : 457 ≤ j) : v' j = v j := by
  have hR := GR_iff.mp h.1
  have s6 := hR.2.1.2.2
  obtain ⟨s, -, hs, -, e⟩ := oS_ok e
  have h16 := (h.1.sl16 hs).1
  by_cases q1 : 0 ≤ l ∧ l < oN (sl v s)
  · rw [ifnn q1] at e
    obtain ⟨t, t1, t2, t3⟩ := slv h16 q1
    rw [t2] at e
    by_cases q2 : v (101 + 60 * s + t) = 1
    · rw [ifnn q2] at e
      by_cases q3 : pb (∃ f, dmB v s t f ∧ v (101 + 60 * s + f) ≠ 2) = true
      · rw [if_pos q3] at e; cases e
      · rw [if_neg q3] at e
        injection e with e
        injection e with e1 e2
        rw [← e2, ud_n (by omega)]
    · rw [if_pos q2] at e; cases e
  · rw [if_pos q1] at e; cases e
theorem H6 (h : GX v K) {id l x : Int32} (e : o6 v id l = .ok (x, v')) (hj : 457 ≤ j) : v' j = v j := by
  have hR := GR_iff.mp h.1
  have s6 := hR.2.1.2.2
  obtain ⟨s, -, hs, -, e⟩ := oS_ok e
  have h16 := (h.1.sl16 hs).1
  by_cases q1 : 0 ≤ l ∧ l < oN (sl v s)
  · rw [ifnn q1] at e
    obtain ⟨t, t1, t2, t3⟩ := slv h16 q1
    rw [t2] at e
    by_cases q2 : v (101 + 60 * s + t) = 0
    · rw [if_pos q2] at e; cases e
    · rw [if_neg q2] at e
      by_cases q3 : pb (∃ f, dmB v s f t ∧ v (101 + 60 * s + f) = 2) = true
      · rw [if_pos q3] at e; cases e
      · rw [if_neg q3] at e
        injection e with e
        injection e with e1 e2
        rw [← e2, ud_n (by omega), ud_n (by omega), ud_n (by omega)]
  · rw [if_pos q1] at e; cases e
theorem H7 (h : GX v K) {id a b x : Int32} (e : o7 v id a b = .ok (x, v')) (hj : 457 ≤ j) : v' j = v j := by
  have hR := GR_iff.mp h.1
  have s6 := hR.2.1.2.2
  obtain ⟨s, -, hs, -, e⟩ := oS_ok e
  obtain ⟨g1, g2, g3, g4, g5, g6⟩ := hR.2.2.2 s hs
  have h12 := g4.2.2
  by_cases q1 : 0 ≤ a ∧ a < oN (sl v s)
  · rw [ifnn q1] at e
    by_cases q2 : 0 ≤ b ∧ b < oN (sl v s)
    · rw [ifnn q2] at e
      by_cases q3 : a = b
      · rw [if_pos q3] at e; cases e
      · rw [if_neg q3] at e
        by_cases q4 : pb (dmB v s (ix b) (ix a)) = true ∨ v (100 + 60 * s) = 12 ∨ (v (101 + 60 * s + ix b) = 2 ∧ v (101 + 60 * s + ix a) ≠ 2)
        · rw [if_pos q4] at e; cases e
        · rw [if_neg q4] at e
          have hlt : nn v (100 + 60 * s) ≠ 12 := fun q => q4 (Or.inr (Or.inl (by rw [g4.1, q]; rfl)))
          by_cases q5 : pb (rch v s (ix b) (ix a)) = true
          · rw [if_pos q5] at e; cases e
          · rw [if_neg q5] at e
            injection e with e
            injection e with e1 e2
            rw [← e2, ud_n (by omega), ud_n (by omega), ud_n (by omega)]
    · rw [if_pos q2] at e; cases e
  · rw [if_pos q1] at e; cases e
theorem rem_h {s : Nat} (hj : 457 ≤ j) : rem v s j = v j := by
  unfold rem
  rw [if_neg (by omega), if_neg (by omega)]
theorem H8 {id x : Int32} (e : o8 v id = .ok (x, v')) (hj : 457 ≤ j) : v' j = v j := by
  obtain ⟨s, -, hs, -, e⟩ := oS_ok e
  by_cases q : pb (dueP v s) = true
  · rw [if_pos q] at e
    injection e with e
    injection e with e1 e2
    rw [← e2, rem_h hj, ud_n (by omega), ud_n (by omega), ud_n (by omega)]
  · rw [if_neg q] at e; cases e
theorem H9 {id x : Int32} (e : o9 v id = .ok (x, v')) (hj : 457 ≤ j) : v' j = v j := by
  obtain ⟨s, -, hs, -, e⟩ := oS_ok e
  injection e with e
  injection e with e1 e2
  rw [← e2, rem_h hj, ud_n (by omega)]
theorem HK {k : Nat} {a b c x : Int32} (hk : k < 10) (h : GX v K) (e : oK k v a b c = .ok (x, v')) (hj : 457 ≤ j) : v' j = v j := by
  match k, hk, e with
  | 0, _, e => exact H0 e hj
  | 1, _, e => exact H1 h e hj
  | 2, _, e => exact H2 h e hj
  | 3, _, e => exact H3 h e hj
  | 4, _, e => exact H4 h e hj
  | 5, _, e => exact H5 h e hj
  | 6, _, e => exact H6 h e hj
  | 7, _, e => exact H7 h e hj
  | 8, _, e => exact H8 e hj
  | 9, _, e => exact H9 e hj
end HIGH
