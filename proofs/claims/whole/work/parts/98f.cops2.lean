/-! ===== layer 3: the class's changes of one suit ===== -/
section COPS2
variable {ad : Nat → Nat} {κ κ1 : jKt} {pr tr r : Nat} {pa : Nat → Nat} {su : Nat → Nat → Nat} {v : Nat → Int32}
theorem X5_suit (hP : PT ad κ pr tr pa su) (hr : r < 11) (hR : RRel (iS ad κ) r (su r) v) (hG : GR v) (id : Int32) : P_X5_suitWithId κ (ad (bR r)) id = some (match fd v id with | none => none | some s => some (ad (bR r + 14 + 4 * su r s))) := by
  obtain ⟨b1, ⟨b2, b4, b5, b6, b7, b8, b9, b10⟩, b3, bs, bi⟩ := hR
  have hn1 := hG.2.1
  have m6 := hn1.2.2
  have e4' : kI κ (ad (bR r)) 4 = oN (nn v 1) := by rw [← hn1.1]; exact b4
  have L : ∀ (n s f : Nat), s + n = nn v 1 → n < f → P_X5_suitWithId_2 κ (ad (bR r)) id f (oN s) = some (match fnd v id s n with | none => none | some s => some (ad (bR r + 14 + 4 * su r s))) := by
    intro n
    induction n with
    | zero =>
      intro s f h1 h2
      obtain ⟨f, rfl⟩ : ∃ g, f = g + 1 := ⟨f - 1, by omega⟩
      rw [P_X5_suitWithId_2, e4', if_pos ((oN_le (by omega) (by omega)).mpr (by omega))]
      rfl
    | succ n ih =>
      intro s f h1 h2
      obtain ⟨f, rfl⟩ : ∃ g, f = g + 1 := ⟨f - 1, by omega⟩
      have e1 : (oN s + 1 : Int32) = oN (s + 1) := oN_add s 1
      have hid : kI κ (ad (bR r + 14 + 4 * su r s)) 0 = v (97 + 60 * s) := (bs s (by omega)).1
      rw [P_X5_suitWithId_2, e4', if_neg (fun h => by have := (oN_le (by omega) (by omega)).mp h; omega), ck_t ((oN_jin (by omega)).mpr (by omega)), oN_ix (by omega), hP.r3 hr, hP.st hr (by omega), hid, e1]
      unfold fnd
      by_cases hv : v (97 + 60 * s) = id
      · rw [if_pos hv, if_pos hv, ck_t ((oN_jin (by omega)).mpr (by omega))]
      · rw [if_neg hv, if_neg hv]
        exact ih (s + 1) f (by omega) (by omega)
  exact L (nn v 1) 0 4000 (by omega) (by omega)
theorem X5_wearer (hP : PT ad κ pr tr pa su) (hr : r < 11) {a : Nat} {s : Nat} (h : SV κ a v s) (hG : GR v) (hs : s < nn v 1) : P_X5_wearerOf κ (ad (bR r)) a = some (ad (bR r + 4 + 2 * nn v (98 + 60 * s))) := by
  have g1 := ((GR_iff.mp hG).2.2.2 s hs).1
  have w4 := g1.2.2
  unfold P_X5_wearerOf
  rw [h.2.1, g1.1, ck_t ((oN_jin (by omega)).mpr (by omega)), oN_ix (by omega), hP.r1 hr, hP.cu hr (by omega), nn_n g1.1 (by omega)]
/-- a change of one suit's states and lengths, stocks and sums -/
theorem RRel_one {S S' : Nat → Nat → Int32} {su : Nat → Nat} {v v' : Nat → Int32} {s : Nat} (hR : RRel S r su v) (hG : GR v) (hsu : ∀ i, i < 6 → su i < 6) (hs : s < nn v 1)
    (hst : ∀ c, c < 4 → S' (bR r + 1) c = v' (8 + c)) (h2 : S' (bR r) 2 = v' 0) (h4 : S' (bR r) 4 = v' 1) (h5 : S' (bR r) 5 = v' 2) (h6 : S' (bR r) 6 = v' 3) (h7 : S' (bR r) 7 = v' 4) (h8 : S' (bR r) 8 = v' 5) (h9 : S' (bR r) 9 = v' 6) (h10 : S' (bR r) 10 = v' 7)
    (e0 : v' 0 = v 0) (e1 : v' 1 = v 1) (eC : ∀ j, 12 ≤ j → j < 97 → v' j = v j) (eO : ∀ t k, t ≠ s → t < 6 → k < 60 → v' (97 + 60 * t + k) = v (97 + 60 * t + k))
    (hS : ∀ n j, bR r + 4 ≤ n → ¬ (bR r + 14 + 4 * su s ≤ n ∧ n < bR r + 18 + 4 * su s) → S' n j = S n j) (hN : SRel S' (bR r + 14 + 4 * su s) v' s) : RRel S' r su v' := by
  obtain ⟨b1, -, b3, bs, bi⟩ := hR
  have hR' := GR_iff.mp hG
  have c5 := hR'.1.2.2
  have m6 := hR'.2.1.2.2
  have hks := hsu s (by omega)
  refine ⟨hst, ⟨h2, h4, h5, h6, h7, h8, h9, h10⟩, fun c hc => ?_, fun t ht => ?_, bi⟩
  · rw [nn_c e0] at hc
    exact CRel_c (fun i hi2 j => hS _ _ (by omega) (by omega)) (fun k _ => eC _ (by omega) (by omega)) (hR'.2.2.1 c hc) (b3 c hc)
  · rw [nn_c e1] at ht
    by_cases e : t = s
    · rw [e]; exact hN
    · have hne : su t ≠ su s := fun z => e (bi t s (by omega) (by omega) z)
      have hkt := hsu t (by omega)
      have hw := (hR'.2.2.2 t ht).1.2.2
      refine SRel_c (s := t) (fun i hi2 j => hS _ _ (by omega) ?_) ⟨fun k hk => eO t k e (by omega) hk, eC _ (by omega) (by omega)⟩ (hR'.2.2.2 t ht) (hG.sl16 ht).1 (bs t ht)
      rcases Nat.lt_or_gt_of_ne hne with q9 | q9 <;> omega
theorem C4 (hi : ∀ a b, ad a = ad b → a = b) (hP : PT ad κ pr tr pa su) (hr : r < 11) (hR : RRel (iS ad κ) r (su r) v) (hG : GR v) (id l : Int32) : ∃ x κ', P_X5_cutSleeve κ (ad (bR r)) id l = some (x, κ') ∧ CO ad κ κ' r pr tr pa su (o4 v id l) x := by
  have h0 := CS.refl (ad := ad) (r := r) κ
  have hR0 := hR
  have hR' := GR_iff.mp hG
  have m6 := hR'.2.1.2.2
  unfold o4 oS P_X5_cutSleeve
  rw [X5_suit hP hr hR hG]
  cases hf : fd v id with
  | none =>
    simp only []
    rw [bdo_n]
    exact ⟨_, _, rfl, CO_e hP _⟩
  | some s =>
    obtain ⟨hs, -⟩ := fd_some hf
    obtain ⟨g1, g2, g3, g4, g5, g6⟩ := hR'.2.2.2 s hs
    have h16 := (hG.sl16 hs).1
    have k6 := hP.s6 hr (i := s) (by omega)
    have hV := RRel.sv hP hr hR hs k6
    obtain ⟨b1, ⟨b2, b4, b5, b6, b7, b8, b9, b10⟩, b3, bs, bi⟩ := hR
    obtain ⟨s1, s2, s3, s4, s5, s6⟩ := bs s hs
    simp only []
    rw [bdo_s, X4_hasSleeve hV.2.2.2.1, bd_s]
    by_cases q1 : 0 ≤ l ∧ l < oN (sl v s)
    · obtain ⟨t, t1, t2, t3⟩ := slv h16 q1
      have hj : jin l 16 := by rw [t1]; exact (oN_jin (by omega)).mpr (by omega)
      obtain ⟨u1, u2, u3⟩ := s6 t t3
      have hpl : P_X4_isPlanned κ (ad (bR r + 14 + 4 * su r s)) l = some (if v (101 + 60 * s + t) = 0 then 1 else 0) := by
        rw [t1, X4_isPlanned (by omega), (hV.2.2.2.2.2 t t3).1]
        by_cases z : v (101 + 60 * s + t) = 0
        · rw [if_pos ((ltr_p _).mpr z), if_pos z]
        · rw [if_neg (fun y => z ((ltr_p _).mp y)), if_neg z]
      rw [if_pos q1, if_neg (by decide), ifnn q1, hpl, bd_s, t2]
      by_cases q2 : v (101 + 60 * s + t) = 0
      · have w4 := g1.2.2
        have k3 := g3.2.2
        have hlw : kI κ (ad (bR r + 5 + 2 * nn v (98 + 60 * s))) t = v (13 + 17 * nn v (98 + 60 * s) + t) := by
          have := (b3 _ g2).2 t (by unfold sl at t3; exact t3)
          rw [show bR r + 4 + 2 * nn v (98 + 60 * s) + 1 = bR r + 5 + 2 * nn v (98 + 60 * s) by omega] at this
          exact this
        have hcl : kI κ (ad (bR r + 14 + 4 * su r s)) 2 = oN (nn v (99 + 60 * s)) := by rw [← g3.1]; exact s3
        have hst : kI κ (ad (bR r + 1)) (nn v (99 + 60 * s)) = v (8 + nn v (99 + 60 * s)) := b1 _ (by omega)
        rw [if_pos q2, if_neg (by decide), ifnn q2, X5_wearer hP hr hV hG hs, bd_s, ck_t hj, hP.lg hr (by omega), hlw, bnd_e, hcl, ck_t ((oN_jin (by omega)).mpr (by omega)), oN_ix (by omega), hP.r0 hr, hst]
        by_cases q3 : v (13 + 17 * nn v (98 + 60 * s) + t) + 2 ≤ v (8 + nn v (99 + 60 * s))
        · have h1 := h0.U hi (n := bR r + 15 + 4 * su r s) (j := t) (x := 99) (iSl_s1 t k6) ⟨by omega, by omega⟩
          have h2 := h1.U hi (n := bR r + 16 + 4 * su r s) (j := t) (x := v (13 + 17 * nn v (98 + 60 * s) + t)) (iSl_s2 t k6) ⟨by omega, by omega⟩
          have r2 := h2.rd (bR r + 14 + 4 * su r s) 2
          rw [uS_n (by omega), uS_n (by omega)] at r2
          have r2' : iS ad κ (bR r + 14 + 4 * su r s) 2 = oN (nn v (99 + 60 * s)) := hcl
          rw [r2'] at r2
          have r3 := h2.rd (bR r + 1) (nn v (99 + 60 * s))
          rw [uS_n (by omega), uS_n (by omega), b1 _ (by omega)] at r3
          have h3 := h2.U hi (n := bR r + 1) (j := nn v (99 + 60 * s)) (x := v (8 + nn v (99 + 60 * s)) - (v (13 + 17 * nn v (98 + 60 * s) + t) + 2)) (iSl_r1 r _) ⟨by omega, by omega⟩
          have r4 := h3.rd (bR r + 14 + 4 * su r s) 2
          rw [uS_n (by omega), uS_n (by omega), uS_n (by omega), r2'] at r4
          have r5 := h3.rd (bR r + 1) (nn v (99 + 60 * s))
          rw [uS_e] at r5
          rw [if_pos q3, if_pos q3, ck_t hj, hP.q5 hr k6, bnd_e, ck_t hj, (h1.pt hP).q6 hr k6, bnd_e, r2, bnd_e, ck_t ((oN_jin (by omega)).mpr (by omega)), ck_t ((oN_jin (by omega)).mpr (by omega)), oN_ix (by omega), (h2.pt hP).r0 hr, r3, bnd_e, r4, ck_t ((oN_jin (by omega)).mpr (by omega)), oN_ix (by omega), (h3.pt hP).r0 hr, r5]
          have sm : ∀ n j, (n ≠ bR r + 1 ∨ j ≠ nn v (99 + 60 * s)) → ¬ (n = bR r + 15 + 4 * su r s ∧ j = t) → ¬ (n = bR r + 16 + 4 * su r s ∧ j = t) → uS (uS (uS (iS ad κ) (bR r + 15 + 4 * su r s) t 99) (bR r + 16 + 4 * su r s) t (v (13 + 17 * nn v (98 + 60 * s) + t))) (bR r + 1) (nn v (99 + 60 * s)) (v (8 + nn v (99 + 60 * s)) - (v (13 + 17 * nn v (98 + 60 * s) + t) + 2)) n j = iS ad κ n j := by
            intro n j z1 z2 z3
            rw [uS_n (by omega), uS_n z3, uS_n z2]
          have smc : uS (uS (uS (iS ad κ) (bR r + 15 + 4 * su r s) t 99) (bR r + 16 + 4 * su r s) t (v (13 + 17 * nn v (98 + 60 * s) + t))) (bR r + 1) (nn v (99 + 60 * s)) (v (8 + nn v (99 + 60 * s)) - (v (13 + 17 * nn v (98 + 60 * s) + t) + 2)) (bR r + 1) (nn v (99 + 60 * s)) = v (8 + nn v (99 + 60 * s)) - (v (13 + 17 * nn v (98 + 60 * s) + t) + 2) := uS_e _ _ _ _
          have sms : uS (uS (uS (iS ad κ) (bR r + 15 + 4 * su r s) t 99) (bR r + 16 + 4 * su r s) t (v (13 + 17 * nn v (98 + 60 * s) + t))) (bR r + 1) (nn v (99 + 60 * s)) (v (8 + nn v (99 + 60 * s)) - (v (13 + 17 * nn v (98 + 60 * s) + t) + 2)) (bR r + 14 + 4 * su r s + 1) t = 99 := by rw [uS_n (by omega), uS_n (by omega), show bR r + 14 + 4 * su r s + 1 = bR r + 15 + 4 * su r s by omega, uS_e]
          have sml : uS (uS (uS (iS ad κ) (bR r + 15 + 4 * su r s) t 99) (bR r + 16 + 4 * su r s) t (v (13 + 17 * nn v (98 + 60 * s) + t))) (bR r + 1) (nn v (99 + 60 * s)) (v (8 + nn v (99 + 60 * s)) - (v (13 + 17 * nn v (98 + 60 * s) + t) + 2)) (bR r + 14 + 4 * su r s + 2) t = v (13 + 17 * nn v (98 + 60 * s) + t) := by rw [uS_n (by omega), show bR r + 14 + 4 * su r s + 2 = bR r + 16 + 4 * su r s by omega, uS_e]
          generalize uS (uS (uS (iS ad κ) (bR r + 15 + 4 * su r s) t 99) (bR r + 16 + 4 * su r s) t (v (13 + 17 * nn v (98 + 60 * s) + t))) (bR r + 1) (nn v (99 + 60 * s)) (v (8 + nn v (99 + 60 * s)) - (v (13 + 17 * nn v (98 + 60 * s) + t) + 2)) = S' at *
          have rw0 : ∀ j, j ≠ 8 + nn v (99 + 60 * s) → j ≠ 101 + 60 * s + t → j ≠ 117 + 60 * s + t → ud (ud (ud v (8 + nn v (99 + 60 * s)) (v (8 + nn v (99 + 60 * s)) - (v (13 + 17 * nn v (98 + 60 * s) + t) + 2))) (101 + 60 * s + t) 1) (117 + 60 * s + t) (v (13 + 17 * nn v (98 + 60 * s) + t)) j = v j := by
            intro j z1 z2 z3
            rw [ud_n z3, ud_n z2, ud_n z1]
          have rwc : ud (ud (ud v (8 + nn v (99 + 60 * s)) (v (8 + nn v (99 + 60 * s)) - (v (13 + 17 * nn v (98 + 60 * s) + t) + 2))) (101 + 60 * s + t) 1) (117 + 60 * s + t) (v (13 + 17 * nn v (98 + 60 * s) + t)) (8 + nn v (99 + 60 * s)) = v (8 + nn v (99 + 60 * s)) - (v (13 + 17 * nn v (98 + 60 * s) + t) + 2) := by rw [ud_n (by omega), ud_n (by omega), ud_e]
          have rws : ud (ud (ud v (8 + nn v (99 + 60 * s)) (v (8 + nn v (99 + 60 * s)) - (v (13 + 17 * nn v (98 + 60 * s) + t) + 2))) (101 + 60 * s + t) 1) (117 + 60 * s + t) (v (13 + 17 * nn v (98 + 60 * s) + t)) (101 + 60 * s + t) = 1 := by rw [ud_n (by omega), ud_e]
          have rwl : ud (ud (ud v (8 + nn v (99 + 60 * s)) (v (8 + nn v (99 + 60 * s)) - (v (13 + 17 * nn v (98 + 60 * s) + t) + 2))) (101 + 60 * s + t) 1) (117 + 60 * s + t) (v (13 + 17 * nn v (98 + 60 * s) + t)) (117 + 60 * s + t) = v (13 + 17 * nn v (98 + 60 * s) + t) := by rw [ud_e]
          generalize ud (ud (ud v (8 + nn v (99 + 60 * s)) (v (8 + nn v (99 + 60 * s)) - (v (13 + 17 * nn v (98 + 60 * s) + t) + 2))) (101 + 60 * s + t) 1) (117 + 60 * s + t) (v (13 + 17 * nn v (98 + 60 * s) + t)) = v' at *
          refine ⟨_, _, rfl, h3.ok hP (RRel_one hR0 hG (fun i h => hP.s6 hr h) hs (fun c hc => ?_) ?_ ?_ ?_ ?_ ?_ ?_ ?_ ?_ (rw0 _ (by omega) (by omega) (by omega)) (rw0 _ (by omega) (by omega) (by omega)) (fun j j1 j2 => rw0 _ (by omega) (by omega) (by omega)) (fun u k hu h6 hk => rw0 _ (by omega) ?_ ?_) (fun n j z1 z2 => sm _ _ (by omega) (by omega) (by omega)) ?_)⟩
          · by_cases e : c = nn v (99 + 60 * s)
            · rw [e, smc, rwc]
            · rw [sm _ _ (by omega) (by omega) (by omega), rw0 _ (by omega) (by omega) (by omega)]; exact b1 c hc
          · rw [sm _ _ (by omega) (by omega) (by omega), rw0 _ (by omega) (by omega) (by omega)]; exact b2
          · rw [sm _ _ (by omega) (by omega) (by omega), rw0 _ (by omega) (by omega) (by omega)]; exact b4
          · rw [sm _ _ (by omega) (by omega) (by omega), rw0 _ (by omega) (by omega) (by omega)]; exact b5
          · rw [sm _ _ (by omega) (by omega) (by omega), rw0 _ (by omega) (by omega) (by omega)]; exact b6
          · rw [sm _ _ (by omega) (by omega) (by omega), rw0 _ (by omega) (by omega) (by omega)]; exact b7
          · rw [sm _ _ (by omega) (by omega) (by omega), rw0 _ (by omega) (by omega) (by omega)]; exact b8
          · rw [sm _ _ (by omega) (by omega) (by omega), rw0 _ (by omega) (by omega) (by omega)]; exact b9
          · rw [sm _ _ (by omega) (by omega) (by omega), rw0 _ (by omega) (by omega) (by omega)]; exact b10
          · rcases Nat.lt_or_gt_of_ne hu with q9 | q9 <;> omega
          · rcases Nat.lt_or_gt_of_ne hu with q9 | q9 <;> omega
          · have esl : sl v' s = sl v s := sl_c (rw0 _ (by omega) (by omega) (by omega)) (rw0 _ (by omega) (by omega) (by omega))
            have edm := dm_c (v' := v') g4.2.2 (rw0 _ (by omega) (by omega) (by omega)) (fun k hk => rw0 _ (by omega) (by omega) (by omega))
            refine ⟨by rw [sm _ _ (by omega) (by omega) (by omega), rw0 _ (by omega) (by omega) (by omega)]; exact s1, by rw [sm _ _ (by omega) (by omega) (by omega), rw0 _ (by omega) (by omega) (by omega)]; exact s2, by rw [sm _ _ (by omega) (by omega) (by omega), rw0 _ (by omega) (by omega) (by omega)]; exact s3, by rw [sm _ _ (by omega) (by omega) (by omega), esl]; exact s4, by rw [sm _ _ (by omega) (by omega) (by omega), rw0 _ (by omega) (by omega) (by omega)]; exact s5, fun i hi2 => ?_⟩
            rw [esl] at hi2
            obtain ⟨u1, u2, u3⟩ := s6 i hi2
            by_cases e : i = t
            · subst e
              refine ⟨by rw [sms, rws]; rfl, fun _ => by rw [sml, rwl], fun f hf => ?_⟩
              rw [sm _ _ (by omega) (by omega) (by omega), edm]; exact u3 f hf
            · refine ⟨by rw [sm _ _ (by omega) (by omega) (by omega), rw0 _ (by omega) (by omega) (by omega)]; exact u1, fun hp => ?_, fun f hf => ?_⟩
              · rw [rw0 _ (by omega) (by omega) (by omega)] at hp
                rw [sm _ _ (by omega) (by omega) (by omega), rw0 _ (by omega) (by omega) (by omega)]; exact u2 hp
              · rw [sm _ _ (by omega) (by omega) (by omega), edm]; exact u3 f hf
        · rw [if_neg q3, if_neg q3]
          exact ⟨_, _, rfl, CO_e hP _⟩
      · rw [if_neg q2, if_pos rfl, if_pos q2]
        exact ⟨_, _, rfl, CO_e hP _⟩
    · rw [if_neg q1, if_pos rfl, if_pos q1]
      exact ⟨_, _, rfl, CO_e hP _⟩
theorem C5 (hi : ∀ a b, ad a = ad b → a = b) (hP : PT ad κ pr tr pa su) (hr : r < 11) (hR : RRel (iS ad κ) r (su r) v) {K : Nat} (hX : GX v K) (id l : Int32) : ∃ x κ', P_X5_sewSleeve κ (ad (bR r)) id l = some (x, κ') ∧ CO ad κ κ' r pr tr pa su (o5 v id l) x := by
  have h0 := CS.refl (ad := ad) (r := r) κ
  have hG := hX.1
  have hR0 := hR
  have hR' := GR_iff.mp hG
  have m6 := hR'.2.1.2.2
  have hI : ∀ x w, o5 v id l = .ok (x, w) → GX w K := fun x w e => (I5 hX e).1
  revert hI
  unfold o5 oS P_X5_sewSleeve
  rw [X5_suit hP hr hR hG]
  cases hf : fd v id with
  | none =>
    intro _
    simp only []
    rw [bdo_n]
    exact ⟨_, _, rfl, CO_e hP _⟩
  | some s =>
    obtain ⟨hs, -⟩ := fd_some hf
    obtain ⟨g1, g2, g3, g4, g5, g6⟩ := hR'.2.2.2 s hs
    have h16 := (hG.sl16 hs).1
    have k6 := hP.s6 hr (i := s) (by omega)
    have hV := RRel.sv hP hr hR hs k6
    obtain ⟨b1, ⟨b2, b4, b5, b6, b7, b8, b9, b10⟩, b3, bs, bi⟩ := hR
    obtain ⟨s1, s2, s3, s4, s5, s6⟩ := bs s hs
    simp only []
    rw [bdo_s, X4_hasSleeve hV.2.2.2.1, bd_s]
    by_cases q1 : 0 ≤ l ∧ l < oN (sl v s)
    · obtain ⟨t, t1, t2, t3⟩ := slv h16 q1
      have hj : jin l 16 := by rw [t1]; exact (oN_jin (by omega)).mpr (by omega)
      have hst : kI κ (kR κ (ad (bR r + 14 + 4 * su r s)) 5) t = ltr (v (101 + 60 * s + t)) := (hV.2.2.2.2.2 t t3).1
      have h99 : ltr (v (101 + 60 * s + t)) = 99 ↔ v (101 + 60 * s + t) = 1 := by
        rcases hG.st hs (by omega : t < 16) with e | e | e <;> rw [e] <;> decide
      rw [if_pos q1, if_neg (show ¬ (1 : Int32) = 0 by decide), ifnn q1, ck_t hj, t2, hst]
      by_cases q2 : v (101 + 60 * s + t) = 1
      · obtain ⟨S0, z1, z2⟩ := hV.set hG hs
        obtain ⟨x, x1, x2⟩ := X4_isHeldBack (κ := κ) (a := ad (bR r + 14 + 4 * su r s)) (l := t) (by omega) S0
        rw [← t1] at x1
        have hkey : (∃ f, f < 32 ∧ bt (sDm κ (ad (bR r + 14 + 4 * su r s)) t) f = true ∧ bt S0 f = false) ↔ ∃ f, dmB v s t f ∧ v (101 + 60 * s + f) ≠ 2 := by
          constructor
          · rintro ⟨f, f1, f2, f3⟩
            have f4 := (hV.E t f t3 f1).mp f2
            have f5 := hG.E hs t f f4
            rw [z2 f f1, decide_eq_true f5, Bool.true_and] at f3
            exact ⟨f, f4, fun z => by unfold sew0 at f3; rw [decide_eq_true z] at f3; cases f3⟩
          · rintro ⟨f, f1, f2⟩
            have f5 := hG.E hs t f f1
            refine ⟨f, by omega, (hV.E t f t3 (by omega)).mpr f1, ?_⟩
            rw [z2 f (by omega), decide_eq_true f5, Bool.true_and]
            unfold sew0
            exact decide_eq_false f2
        rw [if_pos (h99.mpr q2), ifnn q2, z1, bd_s, x1, bd_s]
        intro hI
        rcases x2 with ⟨y1, y2⟩ | ⟨y1, y2⟩
        · rw [y1, if_neg (by decide), if_pos (pb_t.mpr (hkey.mp y2))]
          exact ⟨_, _, rfl, CO_e hP _⟩
        · have hno : ¬ pb (∃ f, dmB v s t f ∧ v (101 + 60 * s + f) ≠ 2) = true := fun z => y2 (hkey.mpr (pb_t.mp z))
          have hX1 := hI _ _ (if_neg hno)
          have h1 := h0.U hi (n := bR r + 15 + 4 * su r s) (j := t) (x := 115) (iSl_s1 t k6) ⟨by omega, by omega⟩
          have smx : ∀ n j, ¬ (n = bR r + 15 + 4 * su r s ∧ j = t) → uS (iS ad κ) (bR r + 15 + 4 * su r s) t 115 n j = iS ad κ n j := fun n j z => uS_n z
          have rw0 : ∀ j, j ≠ 101 + 60 * s + t → ud v (101 + 60 * s + t) 2 j = v j := fun j z => ud_n z
          have hR1 : RRel (uS (iS ad κ) (bR r + 15 + 4 * su r s) t 115) r (su r) (ud v (101 + 60 * s + t) 2) := by
            refine RRel_one hR0 hG (fun i h => hP.s6 hr h) hs (fun c hc => ?_) ?_ ?_ ?_ ?_ ?_ ?_ ?_ ?_ (rw0 _ (by omega)) (rw0 _ (by omega)) (fun j j1 j2 => rw0 _ (by omega)) (fun u k hu h6 hk => rw0 _ ?_) (fun n j z1 z2 => smx _ _ (by omega)) ?_
            · rw [smx _ _ (by omega), rw0 _ (by omega)]; exact b1 c hc
            · rw [smx _ _ (by omega), rw0 _ (by omega)]; exact b2
            · rw [smx _ _ (by omega), rw0 _ (by omega)]; exact b4
            · rw [smx _ _ (by omega), rw0 _ (by omega)]; exact b5
            · rw [smx _ _ (by omega), rw0 _ (by omega)]; exact b6
            · rw [smx _ _ (by omega), rw0 _ (by omega)]; exact b7
            · rw [smx _ _ (by omega), rw0 _ (by omega)]; exact b8
            · rw [smx _ _ (by omega), rw0 _ (by omega)]; exact b9
            · rw [smx _ _ (by omega), rw0 _ (by omega)]; exact b10
            · rcases Nat.lt_or_gt_of_ne hu with q9 | q9 <;> omega
            · have w4 := g1.2.2
              have esl : sl (ud v (101 + 60 * s + t) 2) s = sl v s := sl_c (rw0 _ (by omega)) (rw0 _ (by omega))
              have edm := dm_c (v' := ud v (101 + 60 * s + t) 2) g4.2.2 (rw0 _ (by omega)) (fun k hk => rw0 _ (by omega))
              refine ⟨by rw [smx _ _ (by omega), rw0 _ (by omega)]; exact s1, by rw [smx _ _ (by omega), rw0 _ (by omega)]; exact s2, by rw [smx _ _ (by omega), rw0 _ (by omega)]; exact s3, by rw [smx _ _ (by omega), esl]; exact s4, by rw [smx _ _ (by omega), rw0 _ (by omega)]; exact s5, fun i hi2 => ?_⟩
              rw [esl] at hi2
              obtain ⟨u1, u2, u3⟩ := s6 i hi2
              by_cases e : i = t
              · subst e
                refine ⟨by rw [show bR r + 14 + 4 * su r s + 1 = bR r + 15 + 4 * su r s by omega, uS_e, ud_e]; rfl, fun _ => by rw [smx _ _ (by omega), rw0 _ (by omega)]; exact u2 (by rw [q2]; decide), fun f hf => ?_⟩
                rw [smx _ _ (by omega), edm]; exact u3 f hf
              · refine ⟨by rw [smx _ _ (by omega), rw0 _ (by omega)]; exact u1, fun hp => ?_, fun f hf => ?_⟩
                · rw [rw0 _ (by omega)] at hp
                  rw [smx _ _ (by omega), rw0 _ (by omega)]; exact u2 hp
                · rw [smx _ _ (by omega), edm]; exact u3 f hf
          have hp1 := h1.pt hP
          have eS : iS ad (kU κ (ad (bR r + 15 + 4 * su r s)) t (.int 115)) = uS (iS ad κ) (bR r + 15 + 4 * su r s) t 115 := funext fun n => funext fun j => h1.2 n j
          have hs' : s < nn (ud v (101 + 60 * s + t) 2) 1 := by rw [nn_c (v := v) (i := 1) (rw0 _ (by omega))]; exact hs
          have hV1 := RRel.sv hp1 hr (by rw [eS]; exact hR1) hs' k6
          have esl : sl (ud v (101 + 60 * s + t) 2) s = sl v s := sl_c (rw0 _ (by omega)) (rw0 _ (by have := g1.2.2; omega))
          have hcnt := (X4_sewnCount hV1.2.2.2.1 (hX1.1.sl16 hs').1).1
          rw [y1, if_pos rfl, ck_t hj, hP.q5 hr k6, bnd_e, hcnt, bd_s, if_neg hno]
          have e9 : sm (fun l => if sSt (kU κ (ad (bR r + 15 + 4 * su r s)) t (.int 115)) (ad (bR r + 14 + 4 * su r s)) l = 115 then (1 : Int32) else 0) 0 (sl (ud v (101 + 60 * s + t) 2) s) 0 = sm (fun j => if ud v (101 + 60 * s + t) 2 (101 + 60 * s + j) = 2 then 1 else 0) 0 (sl v s) 0 := by
            rw [esl]
            refine sm_c _ _ _ (fun i _ hi2 => ?_)
            have := hV1.sewn hX1.1 hs' i (by rw [esl]; omega)
            unfold sew0 at this
            rw [decide_eq_true_iff] at this
            by_cases z : ud v (101 + 60 * s + t) 2 (101 + 60 * s + i) = 2
            · rw [if_pos z, if_pos (this.mpr z)]
            · rw [if_neg z, if_neg (fun y => z (this.mp y))]
          rw [e9]
          exact ⟨_, _, rfl, h1.ok hP hR1⟩
      · rw [if_neg (fun z => q2 (h99.mp z)), if_pos q2]
        intro _
        exact ⟨_, _, rfl, CO_e hP _⟩
    · rw [if_neg q1, if_pos rfl, if_pos q1]
      intro _
      exact ⟨_, _, rfl, CO_e hP _⟩
theorem C6 (hi : ∀ a b, ad a = ad b → a = b) (hP : PT ad κ pr tr pa su) (hr : r < 11) (hR : RRel (iS ad κ) r (su r) v) (hG : GR v) (id l : Int32) : ∃ x κ', P_X5_unpickSleeve κ (ad (bR r)) id l = some (x, κ') ∧ CO ad κ κ' r pr tr pa su (o6 v id l) x := by
  have h0 := CS.refl (ad := ad) (r := r) κ
  have hR0 := hR
  have hR' := GR_iff.mp hG
  have m6 := hR'.2.1.2.2
  unfold o6 oS P_X5_unpickSleeve
  rw [X5_suit hP hr hR hG]
  cases hf : fd v id with
  | none =>
    simp only []
    rw [bdo_n]
    exact ⟨_, _, rfl, CO_e hP _⟩
  | some s =>
    obtain ⟨hs, -⟩ := fd_some hf
    obtain ⟨g1, g2, g3, g4, g5, g6⟩ := hR'.2.2.2 s hs
    have h16 := (hG.sl16 hs).1
    have k6 := hP.s6 hr (i := s) (by omega)
    have hV := RRel.sv hP hr hR hs k6
    obtain ⟨b1, ⟨b2, b4, b5, b6, b7, b8, b9, b10⟩, b3, bs, bi⟩ := hR
    obtain ⟨s1, s2, s3, s4, s5, s6⟩ := bs s hs
    simp only []
    rw [bdo_s, X4_hasSleeve hV.2.2.2.1, bd_s]
    by_cases q1 : 0 ≤ l ∧ l < oN (sl v s)
    · obtain ⟨t, t1, t2, t3⟩ := slv h16 q1
      have hj : jin l 16 := by rw [t1]; exact (oN_jin (by omega)).mpr (by omega)
      have hpl : P_X4_isPlanned κ (ad (bR r + 14 + 4 * su r s)) l = some (if v (101 + 60 * s + t) = 0 then 1 else 0) := by
        rw [t1, X4_isPlanned (by omega), (hV.2.2.2.2.2 t t3).1]
        by_cases z : v (101 + 60 * s + t) = 0
        · rw [if_pos ((ltr_p _).mpr z), if_pos z]
        · rw [if_neg (fun y => z ((ltr_p _).mp y)), if_neg z]
      rw [if_pos q1, if_neg (by decide), ifnn q1, hpl, bd_s, t2]
      by_cases q2 : v (101 + 60 * s + t) = 0
      · rw [if_pos q2, if_neg (by decide), if_pos q2]
        exact ⟨_, _, rfl, CO_e hP _⟩
      · obtain ⟨x, x1, x2⟩ := X4_isNeededBySewn (κ := κ) (a := ad (bR r + 14 + 4 * su r s)) (x := t) hV.2.2.2.1 h16 (by omega)
        rw [← t1] at x1
        have hkey : (∃ i, i < sl v s ∧ sSt κ (ad (bR r + 14 + 4 * su r s)) i = 115 ∧ bt (sDm κ (ad (bR r + 14 + 4 * su r s)) i) t = true) ↔ ∃ f, dmB v s f t ∧ v (101 + 60 * s + f) = 2 := by
          constructor
          · rintro ⟨f, f1, f2, f3⟩
            refine ⟨f, (hV.E f t f1 (by omega)).mp f3, ?_⟩
            have := (hV.sewn hG hs f f1).mp f2
            unfold sew0 at this
            exact decide_eq_true_iff.mp this
          · rintro ⟨f, f1, f2⟩
            have f5 : f < sl v s := by
              obtain ⟨d, d1, d2, d3⟩ := f1
              have := (g6 d d1).2.2.2.1
              omega
            refine ⟨f, f5, (hV.sewn hG hs f f5).mpr ?_, (hV.E f t f5 (by omega)).mpr f1⟩
            unfold sew0
            exact decide_eq_true f2
        rw [if_neg q2, if_pos rfl, if_neg q2, x1, bd_s]
        rcases x2 with ⟨y1, y2⟩ | ⟨y1, y2⟩
        · rw [y1, if_neg (by decide), if_pos (pb_t.mpr (hkey.mp y2))]
          exact ⟨_, _, rfl, CO_e hP _⟩
        · have hno : ¬ pb (∃ f, dmB v s f t ∧ v (101 + 60 * s + f) = 2) = true := fun z => y2 (hkey.mpr (pb_t.mp z))
          have w4 := g1.2.2
          have hln : kI κ (ad (bR r + 16 + 4 * su r s)) t = v (117 + 60 * s + t) := by
            have := (s6 t t3).2.1 q2
            rw [show bR r + 14 + 4 * su r s + 2 = bR r + 16 + 4 * su r s by omega] at this
            exact this
          have h1 := h0.U hi (n := bR r + 15 + 4 * su r s) (j := t) (x := 112) (iSl_s1 t k6) ⟨by omega, by omega⟩
          have r7 := h1.rd (bR r) 7
          rw [uS_n (by omega), b7] at r7
          have h2 := h1.U hi (n := bR r) (j := 7) (x := v 4 + (v (117 + 60 * s + t) + 2)) (iSl_r0 (by omega)) ⟨by omega, by omega⟩
          rw [y1, if_pos rfl, ck_t hj, hP.q6 hr k6, hln, bnd_e, ck_t hj, hP.q5 hr k6, bnd_e, r7, bnd_e, if_neg hno]
          generalize hW : v 4 + (v (117 + 60 * s + t) + 2) = W at *
          have sm : ∀ n j, ¬ (n = bR r + 15 + 4 * su r s ∧ j = t) → ¬ (n = bR r ∧ j = 7) → uS (uS (iS ad κ) (bR r + 15 + 4 * su r s) t 112) (bR r) 7 W n j = iS ad κ n j := fun n j z1 z2 => by rw [uS_n z2, uS_n z1]
          have rw0 : ∀ j, j ≠ 101 + 60 * s + t → j ≠ 117 + 60 * s + t → j ≠ 4 → ud (ud (ud v (101 + 60 * s + t) 0) (117 + 60 * s + t) 0) 4 W j = v j := fun j z1 z2 z3 => by rw [ud_n z3, ud_n z2, ud_n z1]
          refine ⟨_, _, rfl, h2.ok hP (RRel_one hR0 hG (fun i h => hP.s6 hr h) hs (fun c hc => ?_) ?_ ?_ ?_ ?_ ?_ ?_ ?_ ?_ (rw0 _ (by omega) (by omega) (by omega)) (rw0 _ (by omega) (by omega) (by omega)) (fun j j1 j2 => rw0 _ (by omega) (by omega) (by omega)) (fun u k hu h6 hk => rw0 _ ?_ ?_ (by omega)) (fun n j z1 z2 => sm _ _ (by omega) (by omega)) ?_)⟩
          · rw [sm _ _ (by omega) (by omega), rw0 _ (by omega) (by omega) (by omega)]; exact b1 c hc
          · rw [sm _ _ (by omega) (by omega), rw0 _ (by omega) (by omega) (by omega)]; exact b2
          · rw [sm _ _ (by omega) (by omega), rw0 _ (by omega) (by omega) (by omega)]; exact b4
          · rw [sm _ _ (by omega) (by omega), rw0 _ (by omega) (by omega) (by omega)]; exact b5
          · rw [sm _ _ (by omega) (by omega), rw0 _ (by omega) (by omega) (by omega)]; exact b6
          · rw [uS_e, ud_e]
          · rw [sm _ _ (by omega) (by omega), rw0 _ (by omega) (by omega) (by omega)]; exact b8
          · rw [sm _ _ (by omega) (by omega), rw0 _ (by omega) (by omega) (by omega)]; exact b9
          · rw [sm _ _ (by omega) (by omega), rw0 _ (by omega) (by omega) (by omega)]; exact b10
          · rcases Nat.lt_or_gt_of_ne hu with q9 | q9 <;> omega
          · rcases Nat.lt_or_gt_of_ne hu with q9 | q9 <;> omega
          · have esl : sl (ud (ud (ud v (101 + 60 * s + t) 0) (117 + 60 * s + t) 0) 4 W) s = sl v s := sl_c (rw0 _ (by omega) (by omega) (by omega)) (rw0 _ (by omega) (by omega) (by omega))
            have edm := dm_c (v' := ud (ud (ud v (101 + 60 * s + t) 0) (117 + 60 * s + t) 0) 4 W) g4.2.2 (rw0 _ (by omega) (by omega) (by omega)) (fun k hk => rw0 _ (by omega) (by omega) (by omega))
            refine ⟨by rw [sm _ _ (by omega) (by omega), rw0 _ (by omega) (by omega) (by omega)]; exact s1, by rw [sm _ _ (by omega) (by omega), rw0 _ (by omega) (by omega) (by omega)]; exact s2, by rw [sm _ _ (by omega) (by omega), rw0 _ (by omega) (by omega) (by omega)]; exact s3, by rw [sm _ _ (by omega) (by omega), esl]; exact s4, by rw [sm _ _ (by omega) (by omega), rw0 _ (by omega) (by omega) (by omega)]; exact s5, fun i hi2 => ?_⟩
            rw [esl] at hi2
            obtain ⟨u1, u2, u3⟩ := s6 i hi2
            by_cases e : i = t
            · subst e
              have z0 : ud (ud (ud v (101 + 60 * s + i) 0) (117 + 60 * s + i) 0) 4 W (101 + 60 * s + i) = 0 := by rw [ud_n (by omega), ud_n (by omega), ud_e]
              refine ⟨by rw [z0, uS_n (by omega), show bR r + 14 + 4 * su r s + 1 = bR r + 15 + 4 * su r s by omega, uS_e]; rfl, fun hp => absurd z0 hp, fun f hf => ?_⟩
              rw [sm _ _ (by omega) (by omega), edm]; exact u3 f hf
            · refine ⟨by rw [sm _ _ (by omega) (by omega), rw0 _ (by omega) (by omega) (by omega)]; exact u1, fun hp => ?_, fun f hf => ?_⟩
              · rw [rw0 _ (by omega) (by omega) (by omega)] at hp
                rw [sm _ _ (by omega) (by omega), rw0 _ (by omega) (by omega) (by omega)]; exact u2 hp
              · rw [sm _ _ (by omega) (by omega), edm]; exact u3 f hf
    · rw [if_neg q1, if_pos rfl, if_pos q1]
      exact ⟨_, _, rfl, CO_e hP _⟩
end COPS2
