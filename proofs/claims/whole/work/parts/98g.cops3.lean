/-! ===== layer 3: the class's changes: demands, goings ===== -/
theorem dm_add {v : Nat → Int32} {s p q D : Nat} (hD : nn v (100 + 60 * s) = D) (h12 : D < 12) (hp : p < 16) (hq : q < 16) (l f : Nat) : dmB (ud (ud (ud v (133 + 60 * s + 2 * D) (oN p)) (134 + 60 * s + 2 * D) (oN q)) (100 + 60 * s) (oN (D + 1))) s l f ↔ (dmB v s l f ∨ (f = p ∧ l = q)) := by
  generalize hv' : ud (ud (ud v (133 + 60 * s + 2 * D) (oN p)) (134 + 60 * s + 2 * D) (oN q)) (100 + 60 * s) (oN (D + 1)) = v'
  have same : ∀ j, j ≠ 100 + 60 * s → j ≠ 133 + 60 * s + 2 * D → j ≠ 134 + 60 * s + 2 * D → v' j = v j := by
    intro j j1 j2 j3
    rw [← hv', ud_n j1, ud_n j3, ud_n j2]
  have n100 : nn v' (100 + 60 * s) = D + 1 := nn_n (by rw [← hv', ud_e]) (by omega)
  have nf : nn v' (133 + 60 * s + 2 * D) = p := nn_n (by rw [← hv', ud_n (by omega), ud_n (by omega), ud_e]) (by omega)
  have ns : nn v' (134 + 60 * s + 2 * D) = q := nn_n (by rw [← hv', ud_n (by omega), ud_e]) (by omega)
  have of_ : ∀ d, d < D → nn v' (133 + 60 * s + 2 * d) = nn v (133 + 60 * s + 2 * d) := fun d hd => nn_c (same _ (by omega) (by omega) (by omega))
  have os_ : ∀ d, d < D → nn v' (134 + 60 * s + 2 * d) = nn v (134 + 60 * s + 2 * d) := fun d hd => nn_c (same _ (by omega) (by omega) (by omega))
  unfold dmB
  rw [n100, hD]
  constructor
  · rintro ⟨d, d1, d2, d3⟩
    by_cases ed : d = D
    · subst ed
      rw [nf] at d2; rw [ns] at d3
      exact Or.inr ⟨d2.symm, d3.symm⟩
    · rw [of_ d (by omega)] at d2; rw [os_ d (by omega)] at d3
      exact Or.inl ⟨d, by omega, d2, d3⟩
  · rintro (⟨d, d1, d2, d3⟩ | ⟨d1, d2⟩)
    · exact ⟨d, by omega, by rw [of_ d d1]; exact d2, by rw [os_ d d1]; exact d3⟩
    · exact ⟨D, by omega, by rw [nf, d1], by rw [ns, d2]⟩
section COPS3
variable {ad : Nat → Nat} {κ κ1 : jKt} {pr tr r : Nat} {pa : Nat → Nat} {su : Nat → Nat → Nat} {v : Nat → Int32}
theorem C7 (hi : ∀ a b, ad a = ad b → a = b) (hP : PT ad κ pr tr pa su) (hr : r < 11) (hR : RRel (iS ad κ) r (su r) v) (hG : GR v) (id a b : Int32) : ∃ x κ', P_X5_addDemand κ (ad (bR r)) id a b = some (x, κ') ∧ CO ad κ κ' r pr tr pa su (o7 v id a b) x := by
  have h0 := CS.refl (ad := ad) (r := r) κ
  have hR0 := hR
  have hR' := GR_iff.mp hG
  have m6 := hR'.2.1.2.2
  unfold o7 oS P_X5_addDemand
  rw [X5_suit hP hr hR hG]
  cases hf : fd v id with
  | none =>
    simp only []
    rw [bdo_n]
    exact ⟨_, _, rfl, CO_e hP _⟩
  | some s =>
    obtain ⟨hs, -⟩ := fd_some hf
    obtain ⟨g1, g2, g3, g4, g5, g6⟩ := hR'.2.2.2 s hs
    have h16 := (hG.sl16 hs).1
    have h12 := g4.2.2
    have k6 := hP.s6 hr (i := s) (by omega)
    have hV := RRel.sv hP hr hR hs k6
    obtain ⟨b1, ⟨b2, b4, b5, b6, b7, b8, b9, b10⟩, b3, bs, bi⟩ := hR
    obtain ⟨s1, s2, s3, s4, s5, s6⟩ := bs s hs
    simp only []
    rw [bdo_s, X4_hasSleeve hV.2.2.2.1, bd_s]
    by_cases q1 : 0 ≤ a ∧ a < oN (sl v s)
    · obtain ⟨p, p1, p2, p3⟩ := slv h16 q1
      rw [if_pos q1, if_neg (by decide), ifnn q1, X4_hasSleeve hV.2.2.2.1, bd_s]
      by_cases q2 : 0 ≤ b ∧ b < oN (sl v s)
      · obtain ⟨q, q1', q2', q3'⟩ := slv h16 q2
        have hjb : jin b 16 := by rw [q1']; exact (oN_jin (by omega)).mpr (by omega)
        rw [if_pos q2, if_neg (by decide), ifnn q2, p2, q2']
        by_cases q3 : a = b
        · rw [if_pos q3, if_pos q3]
          exact ⟨_, _, rfl, CO_e hP _⟩
        · have hdm : P_X4_hasDemand κ (ad (bR r + 14 + 4 * su r s)) a b = some (if pb (dmB v s q p) = true then 1 else 0) := by
            rw [p1, q1', X4_hasDemand (by omega) (by omega)]
            have := hV.E q p q3' (by omega)
            by_cases z : dmB v s q p
            · rw [if_pos (this.mpr z), if_pos (pb_t.mpr z)]
            · rw [if_neg (fun y => z (this.mp y)), if_neg (fun y => z (pb_t.mp y))]
          have h4' : kI κ (ad (bR r + 14 + 4 * su r s)) 4 = v (100 + 60 * s) := s5
          rw [if_neg q3, if_neg q3, hdm, bd_s]
          by_cases z1 : dmB v s q p
          · rw [if_pos (pb_t.mpr z1), if_neg (by decide), if_pos (Or.inl (pb_t.mpr z1))]
            exact ⟨_, _, rfl, CO_e hP _⟩
          · rw [if_neg (show ¬ pb (dmB v s q p) = true from fun y => z1 (pb_t.mp y)), if_pos rfl, h4']
            by_cases z2 : v (100 + 60 * s) = 12
            · rw [if_pos z2, if_pos (Or.inr (Or.inl z2))]
              exact ⟨_, _, rfl, CO_e hP _⟩
            · have sw : ∀ (y : Int32) (t : Nat), y = oN t → t < sl v s → P_X4_isSewn κ (ad (bR r + 14 + 4 * su r s)) y = some (if v (101 + 60 * s + t) = 2 then 1 else 0) := by
                intro y t e ht
                rw [e, X4_isSewn (by omega)]
                have := hV.sewn hG hs t ht
                unfold sew0 at this
                rw [decide_eq_true_iff] at this
                by_cases z : v (101 + 60 * s + t) = 2
                · rw [if_pos (this.mpr z), if_pos z]
                · rw [if_neg (fun y => z (this.mp y)), if_neg z]
              have go : ¬ (v (101 + 60 * s + q) = 2 ∧ v (101 + 60 * s + p) ≠ 2) → ∃ x κ', P_X5_addDemand_84 κ a b (ad (bR r + 14 + 4 * su r s)) = some (x, κ') ∧ CO ad κ κ' r pr tr pa su (if pb (dmB v s q p) = true ∨ v (100 + 60 * s) = 12 ∨ (v (101 + 60 * s + q) = 2 ∧ v (101 + 60 * s + p) ≠ 2) then .error (-4) else if pb (rch v s q p) = true then .error (-5) else .ok (v (100 + 60 * s) + 1, ud (ud (ud v (133 + 60 * s + 2 * nn v (100 + 60 * s)) a) (134 + 60 * s + 2 * nn v (100 + 60 * s)) b) (100 + 60 * s) (v (100 + 60 * s) + 1))) x := by
                intro hnl
                have hn : ¬ (pb (dmB v s q p) = true ∨ v (100 + 60 * s) = 12 ∨ (v (101 + 60 * s + q) = 2 ∧ v (101 + 60 * s + p) ≠ 2)) := by
                  rintro (y | y | y)
                  · exact z1 (pb_t.mp y)
                  · exact z2 y
                  · exact hnl y
                rw [if_neg hn]
                unfold P_X5_addDemand_84
                obtain ⟨y, y1, y2, y3⟩ := SV_before hV hG hs (x := q) (y := p) q3' p3
                rw [← q1', ← p1] at y1
                rw [y1, bd_s]
                by_cases q5 : rch v s q p
                · have := y3.mpr q5
                  rw [this, if_neg (by decide), if_pos (pb_t.mpr q5)]
                  exact ⟨_, _, rfl, CO_e hP _⟩
                · have y0 : y = 0 := by
                    rcases y2 with e | e
                    · exact e
                    · exact absurd (y3.mp e) q5
                  have hD12 : nn v (100 + 60 * s) < 12 := by
                    rcases Nat.lt_or_ge (nn v (100 + 60 * s)) 12 with z | z
                    · exact z
                    · exact absurd (by rw [g4.1, show nn v (100 + 60 * s) = 12 by omega]; rfl) z2
                  have eN : v (100 + 60 * s) + 1 = oN (nn v (100 + 60 * s) + 1) := by
                    have := oN_add (nn v (100 + 60 * s)) 1
                    rw [← g4.1] at this
                    exact this
                  rw [y0, if_pos rfl, if_neg (fun z => q5 (pb_t.mp z))]
                  unfold P_X4_addPair
                  have hdr : kI κ (ad (bR r + 17 + 4 * su r s)) q = iS ad κ (bR r + 14 + 4 * su r s + 3) q := by rw [show bR r + 14 + 4 * su r s + 3 = bR r + 17 + 4 * su r s by omega]; rfl
                  have h1 := h0.U hi (n := bR r + 17 + 4 * su r s) (j := q) (x := iS ad κ (bR r + 14 + 4 * su r s + 3) q ||| (1 <<< (a &&& 31))) (iSl_s3 q k6) ⟨by omega, by omega⟩
                  have r4' : kI (kU κ (ad (bR r + 17 + 4 * su r s)) q (.int (iS ad κ (bR r + 14 + 4 * su r s + 3) q ||| (1 <<< (a &&& 31))))) (ad (bR r + 14 + 4 * su r s)) 4 + 1 = oN (nn v (100 + 60 * s) + 1) := by
                    have := h1.rd (bR r + 14 + 4 * su r s) 4
                    rw [uS_n (by omega), s5] at this
                    rw [this, eN]
                  have h2 := h1.U hi (n := bR r + 14 + 4 * su r s) (j := 4) (x := oN (nn v (100 + 60 * s) + 1)) (iSl_s0 k6 (by omega)) ⟨by omega, by omega⟩
                  have r5 := h2.rd (bR r + 14 + 4 * su r s) 4
                  rw [uS_e] at r5
                  rw [ck_t hjb, ck_t hjb, q2', hP.q7 hr k6, hdr, bnd_e, r4', bnd_e, bd2_s, r5, eN, p1, q1']
                  rw [p1] at h2
                  refine ⟨_, _, rfl, h2.ok hP ?_⟩
                  have edm := dm_add (v := v) (s := s) (p := p) (q := q) rfl hD12 (by omega) (by omega)
                  generalize hD : nn v (100 + 60 * s) = D at *
                  have sm : ∀ n j, ¬ (n = bR r + 17 + 4 * su r s ∧ j = q) → ¬ (n = bR r + 14 + 4 * su r s ∧ j = 4) → uS (uS (iS ad κ) (bR r + 17 + 4 * su r s) q (iS ad κ (bR r + 14 + 4 * su r s + 3) q ||| (1 <<< (oN p &&& 31)))) (bR r + 14 + 4 * su r s) 4 (oN (D + 1)) n j = iS ad κ n j := fun n j w1 w2 => by rw [uS_n w2, uS_n w1]
                  have rw0 : ∀ j, j ≠ 100 + 60 * s → j ≠ 133 + 60 * s + 2 * D → j ≠ 134 + 60 * s + 2 * D → ud (ud (ud v (133 + 60 * s + 2 * D) (oN p)) (134 + 60 * s + 2 * D) (oN q)) (100 + 60 * s) (oN (D + 1)) j = v j := fun j w1 w2 w3 => by rw [ud_n w1, ud_n w3, ud_n w2]
                  have w4 := g1.2.2
                  refine RRel_one hR0 hG (fun i h => hP.s6 hr h) hs (fun c hc => ?_) ?_ ?_ ?_ ?_ ?_ ?_ ?_ ?_ (rw0 _ (by omega) (by omega) (by omega)) (rw0 _ (by omega) (by omega) (by omega)) (fun j j1 j2 => rw0 _ (by omega) (by omega) (by omega)) (fun u k hu h6 hk => rw0 _ ?_ ?_ ?_) (fun n j w1 w2 => sm _ _ (by omega) (by omega)) ?_
                  · rw [sm _ _ (by omega) (by omega), rw0 _ (by omega) (by omega) (by omega)]; exact b1 c hc
                  · rw [sm _ _ (by omega) (by omega), rw0 _ (by omega) (by omega) (by omega)]; exact b2
                  · rw [sm _ _ (by omega) (by omega), rw0 _ (by omega) (by omega) (by omega)]; exact b4
                  · rw [sm _ _ (by omega) (by omega), rw0 _ (by omega) (by omega) (by omega)]; exact b5
                  · rw [sm _ _ (by omega) (by omega), rw0 _ (by omega) (by omega) (by omega)]; exact b6
                  · rw [sm _ _ (by omega) (by omega), rw0 _ (by omega) (by omega) (by omega)]; exact b7
                  · rw [sm _ _ (by omega) (by omega), rw0 _ (by omega) (by omega) (by omega)]; exact b8
                  · rw [sm _ _ (by omega) (by omega), rw0 _ (by omega) (by omega) (by omega)]; exact b9
                  · rw [sm _ _ (by omega) (by omega), rw0 _ (by omega) (by omega) (by omega)]; exact b10
                  · rcases Nat.lt_or_gt_of_ne hu with q9 | q9 <;> omega
                  · rcases Nat.lt_or_gt_of_ne hu with q9 | q9 <;> omega
                  · rcases Nat.lt_or_gt_of_ne hu with q9 | q9 <;> omega
                  · have esl : sl (ud (ud (ud v (133 + 60 * s + 2 * D) (oN p)) (134 + 60 * s + 2 * D) (oN q)) (100 + 60 * s) (oN (D + 1))) s = sl v s := sl_c (rw0 _ (by omega) (by omega) (by omega)) (rw0 _ (by omega) (by omega) (by omega))
                    refine ⟨by rw [sm _ _ (by omega) (by omega), rw0 _ (by omega) (by omega) (by omega)]; exact s1, by rw [sm _ _ (by omega) (by omega), rw0 _ (by omega) (by omega) (by omega)]; exact s2, by rw [sm _ _ (by omega) (by omega), rw0 _ (by omega) (by omega) (by omega)]; exact s3, by rw [sm _ _ (by omega) (by omega), esl]; exact s4, by rw [uS_e, ud_e], fun i hi2 => ?_⟩
                    rw [esl] at hi2
                    obtain ⟨u1, u2, u3⟩ := s6 i hi2
                    refine ⟨by rw [sm _ _ (by omega) (by omega), rw0 _ (by omega) (by omega) (by omega)]; exact u1, fun hp => ?_, fun f hf => ?_⟩
                    · rw [rw0 _ (by omega) (by omega) (by omega)] at hp
                      rw [sm _ _ (by omega) (by omega), rw0 _ (by omega) (by omega) (by omega)]; exact u2 hp
                    · rw [edm]
                      by_cases e : i = q
                      · subst e
                        have e17 : uS (uS (iS ad κ) (bR r + 17 + 4 * su r s) i (iS ad κ (bR r + 14 + 4 * su r s + 3) i ||| (1 <<< (oN p &&& 31)))) (bR r + 14 + 4 * su r s) 4 (oN (D + 1)) (bR r + 14 + 4 * su r s + 3) i = iS ad κ (bR r + 14 + 4 * su r s + 3) i ||| (1 <<< (oN p &&& 31)) := by
                          rw [uS_n (by omega), show bR r + 14 + 4 * su r s + 3 = bR r + 17 + 4 * su r s by omega, uS_e]
                        rw [e17, b_or, b_bit (by omega) hf, Bool.or_eq_true, decide_eq_true_iff, u3 f hf]
                        constructor
                        · rintro (w | w)
                          · exact Or.inl w
                          · exact Or.inr ⟨w, rfl⟩
                        · rintro (w | w)
                          · exact Or.inl w
                          · exact Or.inr w.1
                      · rw [sm _ _ (by omega) (by omega), u3 f hf]
                        exact ⟨Or.inl, fun w => w.elim (fun w => w) (fun w => absurd w.2 e)⟩
              rw [if_neg z2, sw b q q1' q3', bd_s]
              by_cases z3 : v (101 + 60 * s + q) = 2
              · rw [if_pos z3, if_neg (by decide), sw a p p1 p3, bd_s]
                by_cases z4 : v (101 + 60 * s + p) = 2
                · rw [if_pos z4, if_neg (by decide)]
                  exact go (fun y => y.2 z4)
                · rw [if_neg z4, if_pos rfl, if_pos (Or.inr (Or.inr ⟨z3, z4⟩))]
                  exact ⟨_, _, rfl, CO_e hP _⟩
              · rw [if_neg z3, if_pos rfl]
                exact go (fun y => z3 y.1)
      · rw [if_neg q2, if_pos rfl, if_pos q2]
        exact ⟨_, _, rfl, CO_e hP _⟩
    · rw [if_neg q1, if_pos rfl, if_pos q1]
      exact ⟨_, _, rfl, CO_e hP _⟩
/-- one pointer of a room's row of suits is laid anew -/
def suU (su : Nat → Nat → Nat) (r i w : Nat) : Nat → Nat → Nat := fun a b => if a = r ∧ b = i then w else su a b
theorem kR_sw (hi : ∀ a b, ad a = ad b → a = b) {n j x b k : Nat} (h : ¬ (b = n ∧ k = j)) : kR (kU κ (ad n) j (.ref x)) (ad b) k = kR κ (ad b) k := by
  rw [kR_Ur, if_neg (fun g => h ⟨hi _ _ g.1, g.2⟩)]
theorem PT_sw (hi : ∀ a b, ad a = ad b → a = b) (h : PT ad κ pr tr pa su) {i w : Nat} (hw : w < 6) : PT ad (kU κ (ad (bR r + 3)) i (.ref (ad (bR r + 14 + 4 * w)))) pr tr pa (suU su r i w) := by
  have key : ∀ b k, ¬ (b = bR r + 3 ∧ k = i) → kR (kU κ (ad (bR r + 3)) i (.ref (ad (bR r + 14 + 4 * w)))) (ad b) k = kR κ (ad b) k := fun b k hb => kR_sw hi hb
  obtain ⟨⟨a0, a1, a2, a3, a4, a5, a6⟩, b0, ⟨c0, c1, c2, c3, c4⟩, ⟨d0, d1, d2⟩, e0, f0⟩ := h
  refine ⟨⟨?_, ?_, ?_, ?_, ?_, ?_, ?_⟩, fun i hi8 => ?_, ⟨?_, ?_, ?_, ?_, ?_⟩, ⟨?_, ?_, ?_⟩, fun k hk => ?_, fun r2 hr => ?_⟩
  · rw [key _ _ (by unfold bR; omega)]; exact a0
  · rw [key _ _ (by unfold bR; omega)]; exact a1
  · rw [key _ _ (by unfold bR; omega)]; exact a2
  · rw [key _ _ (by unfold bR; omega)]; exact a3
  · rw [key _ _ (by unfold bR; omega)]; exact a4
  · rw [key _ _ (by unfold bR; omega)]; exact a5
  · rw [key _ _ (by unfold bR; omega)]; exact a6
  · rw [key _ _ (by unfold bR; omega)]; exact b0 i hi8
  · rw [key _ _ (by unfold bR; omega)]; exact c0
  · rw [key _ _ (by unfold bR; omega)]; exact c1
  · rw [key _ _ (by unfold bR; omega)]; exact c2
  · rw [key _ _ (by unfold bR; omega)]; exact c3
  · rw [key _ _ (by unfold bR; omega)]; exact c4
  · rw [key _ _ (by unfold bR; omega)]; exact d0
  · rw [key _ _ (by unfold bR; omega)]; exact d1
  · rw [key _ _ (by unfold bR; omega)]; exact d2
  · rw [key _ _ (by unfold bR; omega)]; exact e0 k hk
  · obtain ⟨⟨g0, g1, g2⟩, g3, g4, g5⟩ := f0 r2 hr
    refine ⟨⟨?_, ?_, ?_⟩, fun i2 h5 => ⟨?_, ?_⟩, fun i2 h6 => ?_, fun k h6 => ⟨?_, ?_, ?_⟩⟩
    · rw [key _ _ (by unfold bR; omega)]; exact g0
    · rw [key _ _ (by unfold bR; omega)]; exact g1
    · rw [key _ _ (by unfold bR; omega)]; exact g2
    · rw [key _ _ (by unfold bR; omega)]; exact (g3 i2 h5).1
    · rw [key _ _ (by unfold bR; omega)]; exact (g3 i2 h5).2
    · unfold suU
      by_cases e : r2 = r ∧ i2 = i
      · rw [if_pos e, e.1, e.2, kR_Ur, if_pos ⟨rfl, rfl⟩]
        exact ⟨rfl, hw⟩
      · rw [if_neg e, key _ _ (fun q => e ⟨by have := q.1; unfold bR at this; omega, q.2⟩)]
        exact g4 i2 h6
    · rw [key _ _ (by unfold bR; omega)]; exact (g5 k h6).1
    · rw [key _ _ (by unfold bR; omega)]; exact (g5 k h6).2.1
    · rw [key _ _ (by unfold bR; omega)]; exact (g5 k h6).2.2
/-- the places of the suits after the turn i of the removing of the suit at s -/
def mvd (f : Nat → Nat) (s i : Nat) : Nat → Nat := fun j => if i ≤ s then f j else if s ≤ j ∧ j < i then f (j + 1) else if j = i then f s else f j
theorem kI_sw (hi : ∀ a b, ad a = ad b → a = b) {n j x b k : Nat} (h : ¬ (b = n ∧ k = j)) : iS ad (kU κ (ad n) j (.ref x)) b k = iS ad κ b k := by
  unfold iS
  rw [kI_Ur, if_neg (fun g => h ⟨hi _ _ g.1, g.2⟩)]
theorem X5_remove (hi : ∀ a b, ad a = ad b → a = b) (hP : PT ad κ pr tr pa su) (hr : r < 11) {S : Nat → Nat → Int32} (hS : iS ad κ = S) {v0 : Nat → Int32} {K : Nat} (hX : GX v0 K) (hR : RRel S r (su r) v0) {s : Nat} (hs : s < nn v0 1) {id : Int32} (hid : v0 (97 + 60 * s) = id) :
    ∃ κ' su', P_X5_removeSuit κ (ad (bR r)) id = some κ' ∧ (∀ q, q ≠ r → su' q = su q) ∧ PT ad κ' pr tr pa su' ∧ (∀ n j, ¬ inR r n → κ' (ad n) j = κ (ad n) j) ∧ RRel (iS ad κ') r (su' r) (rem v0 s) := by
  have hG := hX.1
  have hR' := GR_iff.mp hG
  have hn1 := hR'.2.1
  have m6 := hn1.2.2
  have c5 := hR'.1.2.2
  obtain ⟨b1, ⟨b2, b4, b5, b6, b7, b8, b9, b10⟩, b3, bs, bi⟩ := hR
  have hids : ∀ t, t < nn v0 1 → S (bR r + 14 + 4 * su r t) 0 = v0 (97 + 60 * t) := fun t ht => (bs t ht).1
  have hdis : ∀ t, t < nn v0 1 → t ≠ s → v0 (97 + 60 * t) ≠ id := by
    intro t ht hne e
    rw [← hid] at e
    rcases Nat.lt_or_gt_of_ne hne with z | z
    · exact hX.2.2.2.2 t s z hs e
    · exact hX.2.2.2.2 s t z ht e.symm
  have L : ∀ (q i f : Nat) (κ1 : jKt) (su1 : Nat → Nat → Nat), i + q + 1 = nn v0 1 → q < f → PT ad κ1 pr tr pa su1 → (∀ a, a ≠ r → su1 a = su a) → (∀ j, su1 r j = mvd (su r) s i j) → (∀ n j, n ≠ bR r + 3 → κ1 (ad n) j = κ (ad n) j) →
      ∃ κ2 su2, P_X5_removeSuit_2 (ad (bR r)) id f κ1 (oN i) = some (kU κ2 (ad (bR r)) 4 (.int (v0 1 - 1))) ∧ PT ad κ2 pr tr pa su2 ∧ (∀ a, a ≠ r → su2 a = su a) ∧ (∀ j, su2 r j = mvd (su r) s (nn v0 1 - 1) j) ∧ ∀ n j, n ≠ bR r + 3 → κ2 (ad n) j = κ (ad n) j := by
    intro q
    induction q with
    | zero =>
      intro i f κ1 su1 h1 h2 hP1 h3 h4 h5
      obtain ⟨f, rfl⟩ : ∃ g, f = g + 1 := ⟨f - 1, by omega⟩
      have e1 : (oN i + 1 : Int32) = oN (i + 1) := oN_add i 1
      have r4 : kI κ1 (ad (bR r)) 4 = oN (nn v0 1) := by
        rw [← hn1.1]
        unfold kI; rw [h5 _ _ (by omega)]
        have := b4; rw [← hS] at this; exact this
      refine ⟨κ1, su1, ?_, hP1, h3, fun j => by rw [h4 j, show nn v0 1 - 1 = i by omega], h5⟩
      rw [P_X5_removeSuit_2, r4, e1, if_pos ((oN_le (by omega) (by omega)).mpr (by omega)), bnd_e, ← hn1.1]
    | succ q ih =>
      intro i f κ1 su1 h1 h2 hP1 h3 h4 h5
      obtain ⟨f, rfl⟩ : ∃ g, f = g + 1 := ⟨f - 1, by omega⟩
      have e1 : (oN i + 1 : Int32) = oN (i + 1) := oN_add i 1
      have r4 : kI κ1 (ad (bR r)) 4 = oN (nn v0 1) := by
        rw [← hn1.1]
        unfold kI; rw [h5 _ _ (by omega)]
        have := b4; rw [← hS] at this; exact this
      have hk6 := hP1.s6 hr (i := i) (by omega)
      have hk7 := hP1.s6 hr (i := i + 1) (by omega)
      have rid : ∀ w, kI κ1 (ad (bR r + 14 + 4 * w)) 0 = S (bR r + 14 + 4 * w) 0 := by
        intro w
        unfold kI; rw [h5 _ _ (by omega)]
        rw [← hS]; rfl
      rw [P_X5_removeSuit_2, r4, e1, if_neg (fun h => by have := (oN_le (by omega) (by omega)).mp h; omega), ck_t ((oN_jin (by omega)).mpr (by omega)), oN_ix (by omega), hP1.r3 hr, hP1.st hr (by omega), rid, h4 i]
      by_cases z : i < s
      · have em : mvd (su r) s i i = su r i := by unfold mvd; rw [if_pos (by omega)]
        rw [em, hids i (by omega), if_neg (hdis i (by omega) (by omega))]
        refine ih (i + 1) f κ1 su1 (by omega) (by omega) hP1 h3 (fun j => ?_) h5
        rw [h4 j]
        unfold mvd
        rw [if_pos (by omega), if_pos (by omega)]
      · have em : mvd (su r) s i i = su r s := by
          unfold mvd
          by_cases z2 : i = s
          · rw [if_pos (by omega), z2]
          · rw [if_neg (by omega), if_neg (by omega), if_pos rfl]
        have em1 : mvd (su r) s i (i + 1) = su r (i + 1) := by
          unfold mvd
          by_cases z2 : i = s
          · rw [if_pos (by omega)]
          · rw [if_neg (by omega), if_neg (by omega), if_neg (by omega)]
        have hsid : S (bR r + 14 + 4 * su r s) 0 = id := by rw [hids s hs]; exact hid
        have s1e : su1 r (i + 1) = su r (i + 1) := by rw [h4, em1]
        have s0e : su1 r i = su r s := by rw [h4, em]
        have hPa := PT_sw (r := r) (i := i) (w := su1 r (i + 1)) hi hP1 hk7
        have hPb := PT_sw (r := r) (i := i + 1) (w := su1 r i) hi hPa hk6
        rw [em, hsid, if_pos rfl, ck_t ((oN_jin (by omega)).mpr (by omega)), ck_t ((oN_jin (by omega)).mpr (by omega)), ck_t ((oN_jin (by omega)).mpr (by omega)), oN_ix (by omega), hP1.st hr (by omega), bnd_e, ck_t ((oN_jin (by omega)).mpr (by omega)), hPa.r3 hr, bnd_e]
        rw [← s0e]
        refine ih (i + 1) f _ (suU (suU su1 r i (su1 r (i + 1))) r (i + 1) (su1 r i)) (by omega) (by omega) hPb (fun a ha => ?_) (fun j => ?_) (fun n j hn => ?_)
        · funext b
          unfold suU
          rw [if_neg (fun g => ha g.1), if_neg (fun g => ha g.1), h3 a ha]
        · unfold suU
          by_cases j1 : j = i + 1
          · rw [if_pos ⟨rfl, j1⟩, s0e]
            unfold mvd
            rw [if_neg (by omega), if_neg (by omega), if_pos j1]
          · rw [if_neg (fun g => j1 g.2)]
            by_cases j2 : j = i
            · rw [if_pos ⟨rfl, j2⟩, s1e]
              unfold mvd
              rw [if_neg (by omega), if_pos (by omega), j2]
            · rw [if_neg (fun g => j2 g.2), h4 j]
              unfold mvd
              by_cases z2 : i = s
              · rw [if_pos (show i ≤ s by omega), if_neg (show ¬ i + 1 ≤ s by omega), if_neg (show ¬ (s ≤ j ∧ j < i + 1) by omega), if_neg j1]
              · rw [if_neg (show ¬ i ≤ s by omega), if_neg (show ¬ i + 1 ≤ s by omega)]
                by_cases z3 : s ≤ j ∧ j < i
                · rw [if_pos z3, if_pos (show s ≤ j ∧ j < i + 1 by omega)]
                · rw [if_neg z3, if_neg j2, if_neg (show ¬ (s ≤ j ∧ j < i + 1) by omega), if_neg j1]
        · unfold kU
          rw [if_neg (fun g => hn (hi _ _ g.1)), if_neg (fun g => hn (hi _ _ g.1))]
          exact h5 n j hn
  obtain ⟨κ2, su2, q1, q2, q3, q4, q5⟩ := L (nn v0 1 - 1) 0 4000 κ su (by omega) (by omega) hP (fun _ _ => rfl) (fun j => by unfold mvd; rw [if_pos (by omega)]) (fun _ _ _ => rfl)
  have hi2 : ∀ n j, n ≠ bR r + 3 → iS ad κ2 n j = S n j := by
    intro n j hn
    rw [← hS]
    unfold iS kI
    rw [q5 n j hn]
  have hs4 : iSl (bR r) 4 := iSl_r0 (by omega)
  have hPf : PT ad (kU κ2 (ad (bR r)) 4 (.int (v0 1 - 1))) pr tr pa su2 := PT_U hi q2 hs4
  have same : ∀ j, j ≠ 1 → ¬ (97 + 60 * s ≤ j ∧ j < 457) → rem v0 s j = v0 j := by
    intro j j1 j2
    unfold rem
    rw [if_neg j1, if_neg j2]
  have up : ∀ j, 97 + 60 * s ≤ j → j + 60 < 457 → rem v0 s j = v0 (j + 60) := by
    intro j j1 j2
    unfold rem
    rw [if_neg (by omega), if_pos (by omega), if_pos j2]
  have v1 : rem v0 s 1 = oN (nn v0 1 - 1) := by
    unfold rem
    rw [if_pos rfl, hn1.1, show (1 : Int32) = oN 1 from rfl, oN_sub (by omega), nn_n hn1.1 (by omega)]
  have n1 : nn (rem v0 s) 1 = nn v0 1 - 1 := nn_n v1 (by omega)
  have n0 : nn (rem v0 s) 0 = nn v0 0 := nn_c (same 0 (by omega) (by omega))
  have smF : ∀ n j, n ≠ bR r + 3 → ¬ (n = bR r ∧ j = 4) → iS ad (kU κ2 (ad (bR r)) 4 (.int (v0 1 - 1))) n j = S n j := by
    intro n j z1 z2
    rw [iS_U hi, if_neg z2]; exact hi2 n j z1
  refine ⟨_, su2, q1, q3, hPf, fun n j hn => ?_, fun c hc => ?_, ⟨?_, ?_, ?_, ?_, ?_, ?_, ?_, ?_⟩, fun c hc => ?_, fun t ht => ?_, fun i k hi6 hk6 e => ?_⟩
  · unfold kU
    rw [if_neg (fun g => by have := hi _ _ g.1; omega)]
    exact q5 n j (by omega)
  · rw [smF _ _ (by omega) (by omega), same _ (by omega) (by omega)]; exact b1 c hc
  · rw [smF _ _ (by omega) (by omega), same _ (by omega) (by omega)]; exact b2
  · rw [iS_U hi, if_pos ⟨rfl, rfl⟩]
    unfold rem
    rw [if_pos rfl]
  · rw [smF _ _ (by omega) (by omega), same _ (by omega) (by omega)]; exact b5
  · rw [smF _ _ (by omega) (by omega), same _ (by omega) (by omega)]; exact b6
  · rw [smF _ _ (by omega) (by omega), same _ (by omega) (by omega)]; exact b7
  · rw [smF _ _ (by omega) (by omega), same _ (by omega) (by omega)]; exact b8
  · rw [smF _ _ (by omega) (by omega), same _ (by omega) (by omega)]; exact b9
  · rw [smF _ _ (by omega) (by omega), same _ (by omega) (by omega)]; exact b10
  · rw [n0] at hc
    exact CRel_c (fun i hi2 j => smF _ _ (by omega) (by omega)) (fun k _ => same _ (by omega) (by omega)) (hR'.2.2.1 c hc) (b3 c hc)
  · rw [n1] at ht
    have em : su2 r t = su r (if t < s then t else t + 1) := by
      rw [q4]
      unfold mvd
      by_cases z : t < s
      · rw [if_pos z]
        by_cases z2 : nn v0 1 - 1 ≤ s
        · rw [if_pos z2]
        · rw [if_neg z2, if_neg (by omega), if_neg (by omega)]
      · rw [if_neg z, if_neg (by omega), if_pos (by omega)]
    rw [em]
    by_cases z : t < s
    · rw [if_pos z]
      have hw := (hR'.2.2.2 t (by omega)).1.2.2
      exact SRel_c (s := t) (fun i hi2 j => smF _ _ (by omega) (by omega)) ⟨fun k hk => same _ (by omega) (by omega), same _ (by omega) (by omega)⟩ (hR'.2.2.2 t (by omega)) (hG.sl16 (by omega)).1 (bs t (by omega))
    · rw [if_neg z]
      have hw := (hR'.2.2.2 (t + 1) (by omega)).1.2.2
      refine SRel_c (s := t + 1) (fun i hi2 j => smF _ _ (by omega) (by omega)) ⟨fun k hk => ?_, same _ (by omega) (by omega)⟩ (hR'.2.2.2 (t + 1) (by omega)) (hG.sl16 (by omega)).1 (bs (t + 1) (by omega))
      rw [up _ (by omega) (by omega), show 97 + 60 * t + k + 60 = 97 + 60 * (t + 1) + k by omega]
  · rw [q4, q4] at e
    unfold mvd at e
    by_cases z2 : nn v0 1 - 1 ≤ s
    · rw [if_pos z2, if_pos z2] at e
      exact bi i k hi6 hk6 e
    · rw [if_neg z2, if_neg z2] at e
      by_cases x1 : s ≤ i ∧ i < nn v0 1 - 1
      · rw [if_pos x1] at e
        by_cases y1 : s ≤ k ∧ k < nn v0 1 - 1
        · rw [if_pos y1] at e; have := bi _ _ (by omega) (by omega) e; omega
        · rw [if_neg y1] at e
          by_cases y2 : k = nn v0 1 - 1
          · rw [if_pos y2] at e; have := bi _ _ (by omega) (by omega) e; omega
          · rw [if_neg y2] at e; have := bi _ _ (by omega) (by omega) e; omega
      · rw [if_neg x1] at e
        by_cases x2 : i = nn v0 1 - 1
        · rw [if_pos x2] at e
          by_cases y1 : s ≤ k ∧ k < nn v0 1 - 1
          · rw [if_pos y1] at e; have := bi _ _ (by omega) (by omega) e; omega
          · rw [if_neg y1] at e
            by_cases y2 : k = nn v0 1 - 1
            · omega
            · rw [if_neg y2] at e; have := bi _ _ (by omega) (by omega) e; omega
        · rw [if_neg x2] at e
          by_cases y1 : s ≤ k ∧ k < nn v0 1 - 1
          · rw [if_pos y1] at e; have := bi _ _ (by omega) (by omega) e; omega
          · rw [if_neg y1] at e
            by_cases y2 : k = nn v0 1 - 1
            · rw [if_pos y2] at e; have := bi _ _ (by omega) (by omega) e; omega
            · rw [if_neg y2] at e; exact bi _ _ (by omega) (by omega) e
/-- only the sums in front change -/
theorem RRel_low {S S' : Nat → Nat → Int32} {su : Nat → Nat} {v v' : Nat → Int32} (hR : RRel S r su v) (hG : GR v) (hsu : ∀ i, i < 6 → su i < 6)
    (h6 : S' (bR r) 6 = v' 3) (h7 : S' (bR r) 7 = v' 4) (h8 : S' (bR r) 8 = v' 5) (h9 : S' (bR r) 9 = v' 6) (h10 : S' (bR r) 10 = v' 7) (hv : ∀ j, j < 3 ∨ 8 ≤ j → v' j = v j) (hS : ∀ n j, n ≠ bR r ∨ j < 6 → S' n j = S n j) : RRel S' r su v' := by
  obtain ⟨b1, ⟨b2, b4, b5, -⟩, b3, bs, bi⟩ := hR
  have hR' := GR_iff.mp hG
  have c5 := hR'.1.2.2
  have m6 := hR'.2.1.2.2
  refine ⟨fun c hc => by rw [hS _ _ (by omega), hv _ (by omega)]; exact b1 c hc, ⟨by rw [hS _ _ (by omega), hv _ (by omega)]; exact b2, by rw [hS _ _ (by omega), hv _ (by omega)]; exact b4, by rw [hS _ _ (by omega), hv _ (by omega)]; exact b5, h6, h7, h8, h9, h10⟩, fun c hc => ?_, fun t ht => ?_, bi⟩
  · rw [nn_c (hv 0 (by omega))] at hc
    exact CRel_c (fun i hi2 j => hS _ _ (by omega)) (fun k _ => hv _ (by omega)) (hR'.2.2.1 c hc) (b3 c hc)
  · rw [nn_c (hv 1 (by omega))] at ht
    have hkt := hsu t (by omega)
    exact SRel_c (s := t) (fun i hi2 j => hS _ _ (by omega)) ⟨fun k hk => hv _ (by omega), hv _ (by omega)⟩ (hR'.2.2.2 t ht) (hG.sl16 ht).1 (bs t ht)
theorem isB_d {r q : Option Int32} {P : Prop} (h : isB r P) (g : isB q P) : r = q := isB_eq h g
theorem X4_ready (hP : PT ad κ pr tr pa su) (hr : r < 11) (hR : RRel (iS ad κ) r (su r) v) (hG : GR v) {s : Nat} (hs : s < nn v 1) (hk : su r s < 6) : isB (P_X4_isReadyFor κ (ad (bR r + 14 + 4 * su r s)) (ad (bR r + 4 + 2 * nn v (98 + 60 * s)))) (dueP v s) := by
  have hV := RRel.sv hP hr hR hs hk
  have g2 := ((GR_iff.mp hG).2.2.2 s hs).2.1
  have g1 := ((GR_iff.mp hG).2.2.2 s hs).1
  have w4 := g1.2.2
  have hC := RRel.cv hP hr hR g2 (by omega)
  -- any heap whose model row is v
  have e : mv (kU (fun _ j => Value.int (v j)) 1 5 (.ref 2)) 1 = v := by
    funext j
    show kI (kU (fun _ j => Value.int (v j)) 1 5 (.ref 2)) (kR (kU (fun _ j => Value.int (v j)) 1 5 (.ref 2)) 1 5) j = v j
    rw [kR_Ur, if_pos ⟨rfl, rfl⟩, kI_Ur, if_neg (by omega)]
    rfl
  have h1 := SV_ready (κ' := kU (fun _ j => Value.int (v j)) 1 5 (.ref 2)) (m := 1) (by rw [e]; exact hV) (by rw [e]; exact hG) (by rw [e]; exact hs) (b := ad (bR r + 4 + 2 * nn v (98 + 60 * s))) (by rw [e]; exact hC)
  have h2 := X7_isDue (κ := kU (fun _ j => Value.int (v j)) 1 5 (.ref 2)) (m := 1) (s := s) (q := nn v (12 + 17 * nn v (98 + 60 * s))) (by rw [e]; exact hG) (by rw [e]; exact hs) (by rw [e]; rfl)
  rw [e] at h2
  rw [h1]
  exact h2
theorem C8 (hi : ∀ a b, ad a = ad b → a = b) (hP : PT ad κ pr tr pa su) (hr : r < 11) (hR : RRel (iS ad κ) r (su r) v) {K : Nat} (hX : GX v K) (id : Int32) : ∃ x κ', P_X5_handOver κ (ad (bR r)) id = some (x, κ') ∧ CO ad κ κ' r pr tr pa su (o8 v id) x := by
  have h0 := CS.refl (ad := ad) (r := r) κ
  have hG := hX.1
  have hR' := GR_iff.mp hG
  have m6 := hR'.2.1.2.2
  unfold o8 oS P_X5_handOver
  rw [X5_suit hP hr hR hG]
  cases hf : fd v id with
  | none =>
    simp only []
    rw [bdo_n]
    exact ⟨_, _, rfl, CO_e hP _⟩
  | some s =>
    obtain ⟨hs, hid⟩ := fd_some hf
    have g1 := (hR'.2.2.2 s hs).1
    have w4 := g1.2.2
    have g2 := (hR'.2.2.2 s hs).2.1
    have k6 := hP.s6 hr (i := s) (by omega)
    have hV := RRel.sv hP hr hR hs k6
    have hC := RRel.cv hP hr hR g2 (by omega)
    obtain ⟨x, x1, x2⟩ := X4_ready hP hr hR hG hs k6
    simp only []
    rw [bdo_s, X5_wearer hP hr hV hG hs, bd_s, x1, bd_s]
    rcases x2 with ⟨y1, y2⟩ | ⟨y1, y2⟩
    · have r8 : kI κ (ad (bR r)) 8 = v 5 := hR.2.1.2.2.2.2.2.1
      have h1 := h0.U hi (n := bR r) (j := 8) (x := v 5 + clo v s) (iSl_r0 (by omega)) ⟨by omega, by omega⟩
      have r9 := h1.rd (bR r) 9
      rw [uS_n (by omega), hR.2.1.2.2.2.2.2.2.1] at r9
      have h2 := h1.U hi (n := bR r) (j := 9) (x := v 6 + wor v s) (iSl_r0 (by omega)) ⟨by omega, by omega⟩
      have r10 := h2.rd (bR r) 10
      rw [uS_n (by omega), uS_n (by omega), hR.2.1.2.2.2.2.2.2.2] at r10
      have h3 := h2.U hi (n := bR r) (j := 10) (x := v 7 + 1) (iSl_r0 (by omega)) ⟨by omega, by omega⟩
      have hlow : RRel (uS (uS (uS (iS ad κ) (bR r) 8 (v 5 + clo v s)) (bR r) 9 (v 6 + wor v s)) (bR r) 10 (v 7 + 1)) r (su r) (ud (ud (ud v 5 (v 5 + clo v s)) 6 (v 6 + wor v s)) 7 (v 7 + 1)) := by
        refine RRel_low hR hG (fun i h => hP.s6 hr h) ?_ ?_ ?_ ?_ ?_ (fun j hj => by rw [ud_n (by omega), ud_n (by omega), ud_n (by omega)]) (fun n j hn => by rw [uS_n (by omega), uS_n (by omega), uS_n (by omega)])
        · rw [uS_n (by omega), uS_n (by omega), uS_n (by omega), ud_n (by omega), ud_n (by omega), ud_n (by omega)]; exact hR.2.1.2.2.2.1
        · rw [uS_n (by omega), uS_n (by omega), uS_n (by omega), ud_n (by omega), ud_n (by omega), ud_n (by omega)]; exact hR.2.1.2.2.2.2.1
        · rw [uS_n (by omega), uS_n (by omega), uS_e, ud_n (by omega), ud_n (by omega), ud_e]
        · rw [uS_n (by omega), uS_e, ud_n (by omega), ud_e]
        · rw [uS_e, ud_e]
      have hX3 : GX (ud (ud (ud v 5 (v 5 + clo v s)) 6 (v 6 + wor v s)) 7 (v 7 + 1)) K := GX_low hX (fun j hj => by rw [ud_n (by omega), ud_n (by omega), ud_n (by omega)]) (fun c hc => isN_c (by rw [ud_n (by omega), ud_n (by omega), ud_n (by omega)]) (hX.2.1 c hc))
      obtain ⟨κ', su', z1, z2, z3, z4, z5⟩ := X5_remove hi (h3.pt hP) hr (funext fun n => funext fun j => h3.2 n j) hX3 hlow (s := s) (by rw [nn_c (v := v) (i := 1) (by rw [ud_n (by omega), ud_n (by omega), ud_n (by omega)])]; exact hs) (id := id) (by rw [ud_n (by omega), ud_n (by omega), ud_n (by omega)]; exact hid)
      have hw := SV_worth hV hG hs hC
      have hcl := SV_cloth hV hG hs
      rw [y1, if_neg (by decide), bd_s, show P_X4_priceFor κ (ad (bR r + 14 + 4 * su r s)) (ad (bR r + 4 + 2 * nn v (98 + 60 * s))) = some (wor v s) from hw, bd_s, show P_X4_clothInside κ (ad (bR r + 14 + 4 * su r s)) = some (clo v s) from hcl, bd_s, r8, bnd_e, r9, bnd_e, r10, bnd_e, z1, bd_s, if_pos (pb_t.mpr y2)]
      exact ⟨_, _, rfl, su', z2, z3, fun n j hn => (z4 n j hn).trans (h3.1 n j (fun g => absurd g hn)), rfl, z5⟩
    · rw [y1, if_pos rfl, if_neg (fun z => y2 (pb_t.mp z))]
      exact ⟨_, _, rfl, CO_e hP _⟩
theorem C9 (hi : ∀ a b, ad a = ad b → a = b) (hP : PT ad κ pr tr pa su) (hr : r < 11) (hR : RRel (iS ad κ) r (su r) v) {K : Nat} (hX : GX v K) (id : Int32) : ∃ x κ', P_X5_throwAway κ (ad (bR r)) id = some (x, κ') ∧ CO ad κ κ' r pr tr pa su (o9 v id) x := by
  have h0 := CS.refl (ad := ad) (r := r) κ
  have hG := hX.1
  have hR' := GR_iff.mp hG
  have m6 := hR'.2.1.2.2
  unfold o9 oS P_X5_throwAway
  rw [X5_suit hP hr hR hG]
  cases hf : fd v id with
  | none =>
    simp only []
    rw [bdo_n]
    exact ⟨_, _, rfl, CO_e hP _⟩
  | some s =>
    obtain ⟨hs, hid⟩ := fd_some hf
    have k6 := hP.s6 hr (i := s) (by omega)
    have hV := RRel.sv hP hr hR hs k6
    have r7 : kI κ (ad (bR r)) 7 = v 4 := hR.2.1.2.2.2.2.1
    have h1 := h0.U hi (n := bR r) (j := 7) (x := v 4 + clo v s) (iSl_r0 (by omega)) ⟨by omega, by omega⟩
    have hlow : RRel (uS (iS ad κ) (bR r) 7 (v 4 + clo v s)) r (su r) (ud v 4 (v 4 + clo v s)) := by
      refine RRel_low hR hG (fun i h => hP.s6 hr h) ?_ ?_ ?_ ?_ ?_ (fun j hj => by rw [ud_n (by omega)]) (fun n j hn => by rw [uS_n (by omega)])
      · rw [uS_n (by omega), ud_n (by omega)]; exact hR.2.1.2.2.2.1
      · rw [uS_e, ud_e]
      · rw [uS_n (by omega), ud_n (by omega)]; exact hR.2.1.2.2.2.2.2.1
      · rw [uS_n (by omega), ud_n (by omega)]; exact hR.2.1.2.2.2.2.2.2.1
      · rw [uS_n (by omega), ud_n (by omega)]; exact hR.2.1.2.2.2.2.2.2.2
    have hX3 : GX (ud v 4 (v 4 + clo v s)) K := GX_low hX (fun j hj => by rw [ud_n (by omega)]) (fun c hc => isN_c (by rw [ud_n (by omega)]) (hX.2.1 c hc))
    obtain ⟨κ', su', z1, z2, z3, z4, z5⟩ := X5_remove hi (h1.pt hP) hr (funext fun n => funext fun j => h1.2 n j) hX3 hlow (s := s) (by rw [nn_c (v := v) (i := 1) (by rw [ud_n (by omega)])]; exact hs) (id := id) (by rw [ud_n (by omega)]; exact hid)
    have hcl := SV_cloth hV hG hs
    simp only []
    rw [bdo_s, show P_X4_clothInside κ (ad (bR r + 14 + 4 * su r s)) = some (clo v s) from hcl, bd_s, r7, bnd_e, z1, bd_s]
    exact ⟨_, _, rfl, su', z2, z3, fun n j hn => (z4 n j hn).trans (h1.1 n j (fun g => absurd g hn)), rfl, z5⟩
end COPS3
