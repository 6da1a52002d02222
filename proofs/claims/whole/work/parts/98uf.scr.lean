/-! ===== layer 3: runScript in the class ===== -/
section SCRIPTC
variable {ad : Nat → Nat} {κ κ1 κ2 : jKt} {T : Nat → Int32} {n : Nat} {v : Nat → Int32} {K ch : Nat} {ps : Nat → Nat → Int32} {hs : Int32} {sv : Nat → Int32}
theorem rA_len : ∀ (q p : Nat) (l : List (Nat × List Int32)), rA T n q p = .ok l → l.length ≤ q := by
  intro q
  induction q with
  | zero => intro p l h; rw [rA] at h; cases h
  | succ q ih =>
    intro p l h
    rw [rA] at h
    cases hR : rK T n p 10 0 p with
    | error e => rw [hR] at h; cases h
    | ok w =>
      obtain ⟨k, p', as⟩ := w
      rw [hR] at h
      simp only [] at h
      by_cases z : p' < n
      · rw [if_pos z] at h
        by_cases y : T p' = 59
        · rw [if_pos y] at h
          cases hR2 : rA T n q (p' + 1) with
          | error e => rw [hR2] at h; cases h
          | ok l' =>
            rw [hR2] at h
            injection h with h
            have := ih _ _ hR2
            rw [← h, List.length_cons]; omega
        · rw [if_neg y] at h; cases h
      · rw [if_neg z] at h
        injection h with h
        rw [← h, List.length_cons, List.length_nil]; omega
theorem kUn (hi : ∀ a b, ad a = ad b → a = b) {m i j k : Nat} {w : Value} (h : ¬ (m = i ∧ k = j)) : kU κ (ad i) j w (ad m) k = κ (ad m) k := by
  unfold kU
  rw [if_neg (fun g => h ⟨hi _ _ g.1, g.2⟩)]
/-- what runScript leaves as it is, next to the class's half -/
def FSc (ad : Nat → Nat) (κ κ' : jKt) : Prop := ∀ m j, (2 ≤ m ∧ m < 100 ∧ m ≠ 8 ∧ m ≠ 10 ∧ m ≠ 11) → κ' (ad m) j = κ (ad m) j
theorem c_script (hi : ∀ a b, ad a = ad b → a = b) (hC : CH ad κ v ch ps hs sv) (hG : GH v ch ps hs sv K) (hK : K + 64 < 2 ^ 30) (hn : n ≤ 60) (h8 : iS ad κ 8 1 = oN n) (hT : ∀ j, j < n → iS ad κ 9 j = T j) :
    match rA T n 60 0 with
    | .error e => e ≤ n ∧ ∃ κ', P_X6_runScript κ (ad 0) = some (.error "java/lang/IllegalArgumentException", κ') ∧ CH ad κ' v ch ps hs sv ∧ FSc ad κ κ' ∧ iS ad κ' 8 1 = 0 ∧ iS ad κ' 0 8 = oN e ∧ iS ad κ' 0 9 = iS ad κ 0 9
    | .ok l => match rn l v 0 with
      | .error t => t < 60 ∧ ∃ κ', P_X6_runScript κ (ad 0) = some (.error "java/lang/IllegalStateException", κ') ∧ CH ad κ' v ch ps hs sv ∧ FSc ad κ κ' ∧ iS ad κ' 8 1 = 0 ∧ iS ad κ' 0 8 = iS ad κ 0 8 ∧ iS ad κ' 0 9 = oN t
      | .ok v' => GH v' (chN ch) (psN ps ch v) hs sv (K + 61) ∧ ∃ κ', P_X6_runScript κ (ad 0) = some (.ok (oN l.length), κ') ∧ CH ad κ' v' (chN ch) (psN ps ch v) hs sv ∧ FSc ad κ κ' ∧ iS ad κ' 8 1 = 0 ∧ iS ad κ' 0 8 = iS ad κ 0 8 ∧ iS ad κ' 0 9 = iS ad κ 0 9 := by
  obtain ⟨pr0, tr0, pa0, su0, ⟨hP0, -⟩, -⟩ := id hC
  have p7 : kR κ (ad 0) 7 = ad 8 := hP0.1.2.2.2.2.2.1
  obtain ⟨q9, q10, q11⟩ := hP0.2.2.2.1
  -- the text is read
  have f4 : ∀ m j, ¬ (m = 8 ∧ j = 4) → kU κ (ad 8) 4 (.int 0) (ad m) j = κ (ad m) j := fun m j h => kUn hi h
  have hS : SC ad (kU κ (ad 8) 4 (.int 0)) T n := by
    refine ⟨hn, ?_, ?_, fun j hj => ?_⟩
    · rw [kI_Un hi, if_neg (by omega)]; exact h8
    · rw [kR_Un hi (by omega)]; exact q9
    · rw [kI_Un hi, if_neg (by omega)]; exact hT j hj
  have hSK : SK ad (kU κ (ad 8) 4 (.int 0)) 0 := by
    refine ⟨?_, ?_, ?_⟩
    · rw [kR_Un hi (by omega)]; exact q11
    · rw [kR_Un hi (by omega)]; exact q10
    · rw [kI_Un hi, if_pos ⟨rfl, rfl⟩]; rfl
  have hr := c_read hi 60 0 4000 0 (kU κ (ad 8) 4 (.int 0)) (by omega) (by omega) (Nat.zero_le _) hS hSK
  have eR : P_X2_read κ (ad 8) = P_X2_read_9 (ad 8) 4000 (kU κ (ad 8) 4 (.int 0)) (oN 0) (oN 0) := by
    unfold P_X2_read
    rw [bnd_e, show (oN 0 : Int32) = 0 from rfl]
  -- the state behind the reading
  have behind : ∀ {κ1 : jKt}, FRd ad 0 (kU κ (ad 8) 4 (.int 0)) κ1 → ∀ m j, ¬ (m = 11 ∨ m = 10 ∨ (m = 8 ∧ (j = 1 ∨ j = 4))) → kU κ1 (ad 8) 1 (.int 0) (ad m) j = κ (ad m) j := fun h m j hm => by
    rw [kUn hi (by omega), h m j (by omega), f4 m j (by omega)]
  have iSl_t : ∀ m j, (m = 11 ∨ m = 10 ∨ (m = 8 ∧ (j = 1 ∨ j = 4))) → iSl m j := fun m j h => by unfold iSl; omega
  cases hA : rA T n 60 0 with
  | error e =>
    rw [hA] at hr
    obtain ⟨κ1, r1, r2, r3⟩ := hr
    have fb := behind r3
    have hne : ¬ oN e = -1 := fun g => by have := oN_nneg (n := e) (by omega); rw [g] at this; exact this (by decide)
    refine ⟨r2, kU (kU κ1 (ad 8) 1 (.int 0)) (ad 0) 8 (.int (oN e)), ?_, ?_, ?_, ?_, ?_, ?_⟩
    · unfold P_X6_runScript
      have p7' : kR κ1 (ad 0) 7 = ad 8 := by
        have := r3 0 7 (by omega)
        unfold kR at *
        rw [this, f4 0 7 (by omega)]; exact p7
      rw [p7, eR, r1, bd2_s, p7', bnd_e, if_neg hne, bnd_e]
    · have g : ∀ m j, ¬ (m = 11 ∨ m = 10 ∨ (m = 8 ∧ (j = 1 ∨ j = 4)) ∨ (m = 0 ∧ j = 8)) → kU (kU κ1 (ad 8) 1 (.int 0)) (ad 0) 8 (.int (oN e)) (ad m) j = κ (ad m) j := fun m j h => by
        rw [kUn hi (by omega), fb m j (by omega)]
      exact hC.k hG (fun j hj => g 0 j (by omega)) (fun j => g 1 j (by omega)) (fun m j _ hs' => g m j (fun q => hs' (by unfold iSl; omega))) (fun m j hm => g m j (by omega))
    · intro m j hm
      rw [kUn hi (by omega), fb m j (by omega)]
    · rw [iS_U hi, if_neg (by omega), iS_U hi, if_pos ⟨rfl, rfl⟩]
    · rw [iS_U hi, if_pos ⟨rfl, rfl⟩]
    · rw [iS_U hi, if_neg (by omega)]
      unfold iS kI
      rw [fb 0 9 (by omega)]
  | ok l =>
    rw [hA] at hr
    obtain ⟨κ1, r1, r3, r4, r5, r6⟩ := hr
    rw [Nat.zero_add] at r4 r5
    have fb := behind r3
    have p7' : kR κ1 (ad 0) 7 = ad 8 := by
      have := r3 0 7 (by omega)
      unfold kR at *
      rw [this, f4 0 7 (by omega)]; exact p7
    have hC2 : CH ad (kU κ1 (ad 8) 1 (.int 0)) v ch ps hs sv := hC.k hG (fun j hj => fb 0 j (by omega)) (fun j => fb 1 j (by omega)) (fun m j _ hs' => fb m j (fun q => hs' (iSl_t m j q))) (fun m j hm => fb m j (by omega))
    obtain ⟨pr, tr, pa, su, ⟨hP, ⟨c1, c2, c3⟩, c4, c5, c6, c7, c8⟩, hv, hp, h3, h10⟩ := hC2
    obtain ⟨κ3, t1, t2, t3⟩ := X5_take (a := tr) (b := pr) hi hP (by omega) (by omega) (fun q => c3 q.symm) (c6 tr (by omega)) hv hG.1.1
    have hP1 := t2.pt hP
    have keep1 : ∀ {r : Nat} {w : Nat → Int32}, r < 11 → r ≠ tr → GR w → RRel (iS ad (kU κ1 (ad 8) 1 (.int 0))) r (su r) w → RRel (iS ad κ3) r (su r) w := fun hr hne hw hR => RRel_k hR (fun i h6 => hP.s6 hr h6) hw (fun n j n1 n2 => t2 n j (fun g => absurd g (inR_ne hne n1 n2)))
    have F1 : ∀ n j, n < 100 → κ3 (ad n) j = kU κ1 (ad 8) 1 (.int 0) (ad n) j := fun n j hn => t2 n j (fun g => absurd g (by unfold inR bR; omega))
    have hCL : CL ad κ3 0 l := fun t ht => by
      obtain ⟨d1, d2, d3, d4⟩ := r6 t ht
      refine ⟨?_, d2, d3, fun u hu => ?_⟩
      · rw [← d1]; unfold kI; rw [F1 10 _ (by omega), kUn hi (by omega)]
      · rw [← d4 u hu]; unfold kI; rw [F1 11 _ (by omega), kUn hi (by omega)]
    have h84 : kI κ3 (ad 8) 4 = oN (0 + l.length) := by
      rw [Nat.zero_add, ← r4]; unfold kI; rw [F1 8 4 (by omega), kUn hi (by omega)]
    have hpf := c_perf (pr := pr) (tr := tr) (pa := pa) hi (by omega) l 0 4000 κ3 v K su (by omega) hP1 t3 hG.1 (by omega) hCL h84 (by omega)
    have p1 : kR (kU κ1 (ad 8) 1 (.int 0)) (ad 0) 1 = ad (bR tr) := hP.1.2.1
    have p0 : kR (kU κ1 (ad 8) 1 (.int 0)) (ad 0) 0 = ad (bR pr) := hP.1.1
    have p1' : kR κ3 (ad 0) 1 = ad (bR tr) := hP1.1.2.1
    have p7'' : kR κ3 (ad 0) 7 = ad 8 := hP1.1.2.2.2.2.2.1
    have head : P_X6_runScript κ (ad 0) = bd2 (P_X2_performIn_2 (ad 8) (ad (bR tr)) 4000 κ3 (oN 0)) fun y66 κ67 => if y66 = (-1) then bd (P_X6_adoptTrial κ67 (ad 0)) fun κ70 => some (.ok (kI κ70 (kR κ70 (ad 0) 7) 4), κ70) else bnd (kU κ67 (ad 0) 9 (.int y66)) fun κ72 => some (.error "java/lang/IllegalStateException", κ72) := by
      unfold P_X6_runScript P_X2_performIn
      rw [p7, eR, r1, bd2_s, p7', bnd_e, if_pos rfl, p1, p0, t1, bd_s, p7'', p1', show (oN 0 : Int32) = 0 from rfl]
    have e81 : iS ad (kU κ1 (ad 8) 1 (.int 0)) 8 1 = 0 := by rw [iS_U hi, if_pos ⟨rfl, rfl⟩]
    have e08 : iS ad (kU κ1 (ad 8) 1 (.int 0)) 0 8 = iS ad κ 0 8 := by unfold iS kI; rw [fb 0 8 (by omega)]
    have e09 : iS ad (kU κ1 (ad 8) 1 (.int 0)) 0 9 = iS ad κ 0 9 := by unfold iS kI; rw [fb 0 9 (by omega)]
    simp only []
    cases hN : rn l v 0 with
    | error t =>
      rw [hN] at hpf
      obtain ⟨κ4, su', q1, q2, q3, q4, q6, q5⟩ := hpf
      have hne : ¬ oN t = -1 := fun g => by have := oN_nneg (n := t) (by omega); rw [g] at this; exact this (by decide)
      have F2 : ∀ n j, n < 100 → κ4 (ad n) j = kU κ1 (ad 8) 1 (.int 0) (ad n) j := fun n j hn => (q5 n j (by unfold inR bR; omega)).trans (F1 n j hn)
      have I2 : ∀ n j, n < 100 → iS ad κ4 n j = iS ad (kU κ1 (ad 8) 1 (.int 0)) n j := fun n j hn => by unfold iS kI; rw [F2 n j hn]
      have keep2 : ∀ {r : Nat} {w : Nat → Int32}, r < 11 → r ≠ tr → GR w → RRel (iS ad (kU κ1 (ad 8) 1 (.int 0))) r (su r) w → RRel (iS ad κ4) r (su' r) w := fun {r w} hr hne hw hR => by
        rw [q3 r hne]
        exact RRel_k (keep1 hr hne hw hR) (fun i h6 => hP.s6 hr h6) hw (fun n j n1 n2 => q5 n j (inR_ne hne n1 n2))
      have hinj : ∀ r, r < 11 → ∀ i k, i < 6 → k < 6 → su' r i = su' r k → i = k := by
        intro r hr
        by_cases e : r = tr
        · rw [e]; exact q6
        · rw [q3 r e]; exact c6 r hr
      have hC4 : CH ad κ4 v ch ps hs sv := ⟨pr, tr, pa, su', ⟨q4, ⟨c1, c2, c3⟩, c4, c5, hinj, c7, by rw [I2 0 5 (by omega)]; exact c8⟩, keep2 (by omega) c3 hG.1.1 hv, fun i hic => keep2 (by have := (c4 i (by omega)).1; omega) (c4 i (by omega)).2.2 (hG.2.1 i hic).1 (hp i hic), by rw [I2 0 3 (by omega)]; exact h3, fun z => keep2 (by omega) (by omega) (hG.2.2 z).1 (h10 z)⟩
      have f9 : ∀ m j, ¬ (m = 0 ∧ j = 9) → kU κ4 (ad 0) 9 (.int (oN t)) (ad m) j = κ4 (ad m) j := fun m j h => kUn hi h
      refine ⟨q2, kU κ4 (ad 0) 9 (.int (oN t)), ?_, ?_, ?_, ?_, ?_, ?_⟩
      · rw [head, q1, bd2_s, if_neg hne, bnd_e]
      · exact hC4.k hG (fun j hj => f9 0 j (by omega)) (fun j => f9 1 j (by omega)) (fun m j _ hs' => f9 m j (fun q => hs' (by unfold iSl; omega))) (fun m j hm => f9 m j (by omega))
      · intro m j hm
        rw [f9 m j (by omega), F2 m j (by omega), fb m j (by omega)]
      · rw [iS_U hi, if_neg (by omega), I2 8 1 (by omega)]; exact e81
      · rw [iS_U hi, if_neg (by omega), I2 0 8 (by omega)]; exact e08
      · rw [iS_U hi, if_pos ⟨rfl, rfl⟩]
    | ok v' =>
      rw [hN] at hpf
      obtain ⟨κ4, su', q1, q3, q4, q5, q6, q7⟩ := hpf
      have F2 : ∀ n j, n < 100 → κ4 (ad n) j = kU κ1 (ad 8) 1 (.int 0) (ad n) j := fun n j hn => (q5 n j (by unfold inR bR; omega)).trans (F1 n j hn)
      have I2 : ∀ n j, n < 100 → iS ad κ4 n j = iS ad (kU κ1 (ad 8) 1 (.int 0)) n j := fun n j hn => by unfold iS kI; rw [F2 n j hn]
      have keep2 : ∀ {r : Nat} {w : Nat → Int32}, r < 11 → r ≠ tr → GR w → RRel (iS ad (kU κ1 (ad 8) 1 (.int 0))) r (su r) w → RRel (iS ad κ4) r (su' r) w := fun {r w} hr hne hw hR => by
        rw [q3 r hne]
        exact RRel_k (keep1 hr hne hw hR) (fun i h6 => hP.s6 hr h6) hw (fun n j n1 n2 => q5 n j (inR_ne hne n1 n2))
      have hinj : ∀ r, r < 11 → ∀ i k, i < 6 → k < 6 → su' r i = su' r k → i = k := by
        intro r hr
        by_cases e : r = tr
        · rw [e]; exact q6.2.2.2.2
        · rw [q3 r e]; exact c6 r hr
      obtain ⟨κ5, r1', r2', r3'⟩ := X6_adopt (K := K) (v := v) (v' := v') (ps := ps) (hs := hs) (sv := sv) hi ⟨q4, ⟨c1, c2, c3⟩, c4, c5, hinj, c7, by rw [I2 0 5 (by omega)]; exact c8⟩ hG q7.1 (keep2 (by omega) c3 hG.1.1 hv) q6 (fun i hic => keep2 (by have := (c4 i (by omega)).1; omega) (c4 i (by omega)).2.2 (hG.2.1 i hic).1 (hp i hic)) (by rw [I2 0 3 (by omega)]; exact h3) (fun z => keep2 (by omega) (by omega) (hG.2.2 z).1 (h10 z))
      have F3 : ∀ n j, (2 ≤ n ∧ n < 100) ∨ (n = 0 ∧ j ≠ 0 ∧ j ≠ 1 ∧ j ≠ 3 ∧ j ≠ 5) → κ5 (ad n) j = kU κ1 (ad 8) 1 (.int 0) (ad n) j := fun n j hn => (r3'.cl n j hn).trans (F2 n j (by omega))
      have I3 : ∀ n j, (2 ≤ n ∧ n < 100) ∨ (n = 0 ∧ j ≠ 0 ∧ j ≠ 1 ∧ j ≠ 3 ∧ j ≠ 5) → iS ad κ5 n j = iS ad (kU κ1 (ad 8) 1 (.int 0)) n j := fun n j hn => by unfold iS kI; rw [F3 n j hn]
      refine ⟨(hG.up (K' := K + 60) (by omega)).next c7 (q7.up (by omega)), κ5, ?_, r2', ?_, ?_, ?_, ?_⟩
      · have p75 : kR κ5 (ad 0) 7 = ad 8 := by unfold kR; rw [F3 0 7 (by omega)]; exact hP.1.2.2.2.2.2.1
        have e84 : kI κ5 (ad 8) 4 = oN l.length := by
          rw [← r4]; unfold kI; rw [F3 8 4 (by omega), kUn hi (by omega)]
        rw [head, q1, bd2_s, if_pos rfl, r1', bd_s, p75, e84]
      · intro m j hm
        rw [F3 m j (by omega), fb m j (by omega)]
      · rw [I3 8 1 (by omega)]; exact e81
      · rw [I3 0 8 (by omega)]; exact e08
      · rw [I3 0 9 (by omega)]; exact e09
end SCRIPTC
