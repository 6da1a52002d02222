/-! ===== layer 3: undo, save, restore; the state as a whole ===== -/
/-- what a call of the model may touch -/
def FMe (ad : Nat → Nat) (κ κ' : jKt) : Prop := ∀ n j, ¬ (21 ≤ n ∧ n ≤ 24) → ¬ (n = 20 ∧ (j = 0 ∨ j = 1 ∨ j = 4)) → κ' (ad n) j = κ (ad n) j
section UNDO
variable {ad : Nat → Nat} {κ κ1 κ2 : jKt} {pr tr x : Nat} {pa : Nat → Nat} {su : Nat → Nat → Nat} {v w : Nat → Int32} {K ch : Nat} {ps : Nat → Nat → Int32} {hs : Int32} {sv : Nat → Int32}
theorem FMd.e (h : FMd ad κ κ1) : FMe ad κ κ1 := fun n j a b => h n j a (by omega)
theorem c_undo (hi : ∀ a b, ad a = ad b → a = b) (hC : CH ad κ v ch ps hs sv) (hG : GH v ch ps hs sv K) : (ch = 0 → P_X6_undo κ (ad 0) = some (.error "java/util/NoSuchElementException", κ)) ∧ (ch ≠ 0 → ∀ w, (∀ j, j < 457 → w j = ps (ch - 1) j) → ∃ κ', P_X6_undo κ (ad 0) = some (.ok (oN (ch - 1)), κ') ∧ CH ad κ' w (ch - 1) ps hs sv ∧ FCl ad κ κ') := by
  obtain ⟨pr, tr, pa, su, ⟨hP, ⟨c1, c2, c3⟩, c4, c5, c6, c7, c8⟩, hv, hp, h3, h10⟩ := hC
  have e5 : kI κ (ad 0) 5 = oN ch := c8
  refine ⟨fun z => ?_, fun z w hw => ?_⟩
  · subst z
    unfold P_X6_undo
    rw [e5, if_pos (show oN 0 = 0 from rfl)]
  · have e1 : (oN ch - 1 : Int32) = oN (ch - 1) := by rw [show (1 : Int32) = oN 1 from rfl, oN_sub (by omega)]
    have h1 := PT_U (n := 0) (j := 5) (x := oN (ch - 1)) hi hP (iSl_0 (by omega))
    have f1 : FA ad κ (kU κ (ad 0) 5 (.int (oN (ch - 1)))) := FA.U hi (by omega)
    have r1 : kI (kU κ (ad 0) 5 (.int (oN (ch - 1)))) (ad 0) 5 = oN (ch - 1) := by
      have := iS_U hi (κ := κ) (n := 0) (j := 5) (x := oN (ch - 1)) 0 5
      rw [if_pos ⟨rfl, rfl⟩] at this
      exact this
    have p1 : kR (kU κ (ad 0) 5 (.int (oN (ch - 1)))) (ad 1) (ch - 1) = ad (bR (pa (ch - 1))) := h1.2.1 _ (by omega)
    have p0 : kR (kU κ (ad 0) 5 (.int (oN (ch - 1)))) (ad 0) 0 = ad (bR pr) := h1.1.1
    have h2 := PT_pr (x := pa (ch - 1)) hi h1
    have f2 := f1.trans (FA.U (κ := kU κ (ad 0) 5 (.int (oN (ch - 1)))) hi (n := 0) (j := 0) (w := .ref (ad (bR (pa (ch - 1))))) (by omega))
    have r2 : kI (kU (kU κ (ad 0) 5 (.int (oN (ch - 1)))) (ad 0) 0 (.ref (ad (bR (pa (ch - 1)))))) (ad 0) 5 = oN (ch - 1) := by
      have := kI_sw (κ := kU κ (ad 0) 5 (.int (oN (ch - 1)))) hi (n := 0) (j := 0) (x := ad (bR (pa (ch - 1)))) (b := 0) (k := 5) (by omega)
      exact this.trans r1
    have h3' := PT_pa (x := pr) (i := ch - 1) hi h2
    have f3 := f2.trans (FA.U (κ := kU (kU κ (ad 0) 5 (.int (oN (ch - 1)))) (ad 0) 0 (.ref (ad (bR (pa (ch - 1)))))) hi (n := 1) (j := ch - 1) (w := .ref (ad (bR pr))) (by omega))
    have r3 : kI (kU (kU (kU κ (ad 0) 5 (.int (oN (ch - 1)))) (ad 0) 0 (.ref (ad (bR (pa (ch - 1)))))) (ad 1) (ch - 1) (.ref (ad (bR pr)))) (ad 0) 5 = oN (ch - 1) := by
      have := kI_sw (κ := kU (kU κ (ad 0) 5 (.int (oN (ch - 1)))) (ad 0) 0 (.ref (ad (bR (pa (ch - 1)))))) hi (n := 1) (j := ch - 1) (x := ad (bR pr)) (b := 0) (k := 5) (by omega)
      exact this.trans r2
    have keep : ∀ {r : Nat} {w : Nat → Int32}, r < 11 → GR w → RRel (iS ad κ) r (su r) w → RRel (iS ad (kU (kU (kU κ (ad 0) 5 (.int (oN (ch - 1)))) (ad 0) 0 (.ref (ad (bR (pa (ch - 1)))))) (ad 1) (ch - 1) (.ref (ad (bR pr))))) r (su r) w := fun hr hw hR => RRel_k hR (fun i h6 => hP.s6 hr h6) hw (fun n j n1 n2 => f3 n j (by unfold bR at n1; omega) (by unfold bR at n1; omega))
    obtain ⟨k1, k2, k3⟩ := c4 (ch - 1) (by omega)
    refine ⟨_, ?_, ⟨pa (ch - 1), tr, paU pa (ch - 1) pr, su, ⟨h3', ⟨k1, c2, k3⟩, fun i hi8 => ?_, fun i j hi8 hj8 q => ?_, c6, by omega, r3⟩, ?_, fun i hic => ?_, ?_, fun z => keep (by omega) (hG.2.2 z).1 (h10 z)⟩, f3.cl⟩
    · unfold P_X6_undo
      rw [e5, if_neg (fun q => z ((oN_z (by omega)).mp q)), e1, bnd_e, r1, ck_t ((oN_jin (by omega)).mpr (by omega)), oN_ix (by omega), h1.pp, p1, bnd_e, r2, ck_t ((oN_jin (by omega)).mpr (by omega)), oN_ix (by omega), h2.pp, p0, bnd_e, r3]
    · unfold paU
      by_cases e : i = ch - 1
      · rw [if_pos e]; exact ⟨c1, fun q => k2 q.symm, c3⟩
      · rw [if_neg e]
        obtain ⟨m1, m2, m3⟩ := c4 i hi8
        exact ⟨m1, fun q => e (c5 _ _ hi8 (by omega) q), m3⟩
    · unfold paU at q
      by_cases e : i = ch - 1
      · rw [if_pos e] at q
        by_cases e2 : j = ch - 1
        · omega
        · rw [if_neg e2] at q
          exact absurd q.symm (c4 j hj8).2.1
      · rw [if_neg e] at q
        by_cases e2 : j = ch - 1
        · rw [if_pos e2] at q
          exact absurd q (c4 i hi8).2.1
        · rw [if_neg e2] at q
          exact c5 _ _ hi8 hj8 q
    · exact keep (by omega) (GX_457 (hG.2.1 (ch - 1) (by omega)) hw).1 (RRel_457 (hp (ch - 1) (by omega)) (hG.2.1 (ch - 1) (by omega)).1 hw)
    · unfold paU
      rw [if_neg (by omega)]
      exact keep (by have := (c4 i (by omega)).1; omega) (hG.2.1 i (by omega)).1 (hp i (by omega))
    · unfold iS kI
      rw [f3 0 3 (by omega) (by omega)]
      exact h3
theorem m_undo (hi : ∀ a b, ad a = ad b → a = b) (hP : PT ad κ pr tr pa su) (hch : ch ≤ 8) (hM : MH ad κ v ch ps hs sv) : (ch = 0 → ∃ κ', P_X7_undo κ (ad 20) = some (0, κ') ∧ iS ad κ' 20 0 = 1 ∧ FMe ad κ κ' ∧ MH ad κ' v ch ps hs sv) ∧
    (ch ≠ 0 → ∃ κ' w, P_X7_undo κ (ad 20) = some (oN (ch - 1), κ') ∧ iS ad κ' 20 0 = 0 ∧ FMe ad κ κ' ∧ (∀ j, j < 457 → w j = ps (ch - 1) j) ∧ MH ad κ' w (ch - 1) ps hs sv) := by
  obtain ⟨m1, m2, m3, m4, m5⟩ := hM
  have r1 : kI κ (ad 20) 1 = oN ch := m2
  refine ⟨fun z => ?_, fun z => ?_⟩
  · subst z
    have f1 : FMd ad κ (kU κ (ad 20) 0 (.int 1)) := FMd.U hi (by omega)
    have t1 : kI (kU κ (ad 20) 0 (.int 1)) (ad 20) 0 = 1 := by
      have := iS_U hi (κ := κ) (n := 20) (j := 0) (x := 1) 20 0
      rw [if_pos ⟨rfl, rfl⟩] at this
      exact this
    have Fi : ∀ n j, ¬ (n = 20 ∧ j = 0) → iS ad (kU κ (ad 20) 0 (.int 1)) n j = iS ad κ n j := fun n j h => by rw [iS_U hi, if_neg h]
    unfold P_X7_undo P_X7_undo_13
    rw [r1, if_pos (show oN 0 = 0 from rfl), bnd_e, t1, if_neg (by decide)]
    exact ⟨_, rfl, t1, f1.e, fun j => by rw [Fi _ _ (by omega)]; exact m1 j, by rw [Fi _ _ (by omega)]; exact m2, fun i hic => by omega, by rw [Fi _ _ (by omega)]; exact m4, fun z j hj => by rw [Fi _ _ (by omega)]; exact m5 z j hj⟩
  · have e1 : (oN ch - 1 : Int32) = oN (ch - 1) := by rw [show (1 : Int32) = oN 1 from rfl, oN_sub (by omega)]
    have f1 : FMd ad κ (kU κ (ad 20) 0 (.int 0)) := FMd.U hi (by omega)
    have t1 : kI (kU κ (ad 20) 0 (.int 0)) (ad 20) 0 = 0 := by
      have := iS_U hi (κ := κ) (n := 20) (j := 0) (x := 0) 20 0
      rw [if_pos ⟨rfl, rfl⟩] at this
      exact this
    have t2 : kI (kU κ (ad 20) 0 (.int 0)) (ad 20) 1 = oN ch := by
      have := iS_U hi (κ := κ) (n := 20) (j := 0) (x := 0) 20 1
      rw [if_neg (by omega)] at this
      exact this.trans m2
    have f2 := f1.trans (FMd.U (κ := kU κ (ad 20) 0 (.int 0)) hi (n := 20) (j := 1) (w := .int (oN (ch - 1))) (by omega))
    have hP2 := f2.pt hP
    have L : ∀ (q i f : Nat) (κ1 : jKt), i + q = 457 → q < f → PT ad κ1 pr tr pa su → (∀ j, iS ad κ1 21 j = if j < i then ps (ch - 1) j else v j) → (∀ n j, n ≠ 21 → κ1 (ad n) j = (kU (kU κ (ad 20) 0 (.int 0)) (ad 20) 1 (.int (oN (ch - 1)))) (ad n) j) →
        ∃ κ', P_X7_undo_37 (ad 20) f κ1 (oN i) = some (oN (ch - 1), κ') ∧ (∀ j, iS ad κ' 21 j = if j < 457 then ps (ch - 1) j else v j) ∧ (∀ n j, n ≠ 21 → κ' (ad n) j = (kU (kU κ (ad 20) 0 (.int 0)) (ad 20) 1 (.int (oN (ch - 1)))) (ad n) j) := by
      intro q
      induction q with
      | zero =>
        intro i f κ1 g1 g2 hP1 h1 h2
        obtain ⟨f, rfl⟩ : ∃ g, f = g + 1 := ⟨f - 1, by omega⟩
        have ei : i = 457 := by omega
        subst ei
        have rr : kI κ1 (ad 20) 1 = oN (ch - 1) := by
          unfold kI; rw [h2 20 1 (by omega)]
          have := iS_U hi (κ := kU κ (ad 20) 0 (.int 0)) (n := 20) (j := 1) (x := oN (ch - 1)) 20 1
          rw [if_pos ⟨rfl, rfl⟩] at this
          exact this
        exact ⟨κ1, by rw [P_X7_undo_37, if_pos (by decide), rr], h1, h2⟩
      | succ q ih =>
        intro i f κ1 g1 g2 hP1 h1 h2
        obtain ⟨f, rfl⟩ : ∃ g, f = g + 1 := ⟨f - 1, by omega⟩
        have ei1 : (oN i + 1 : Int32) = oN (i + 1) := oN_add i 1
        have rr : kI κ1 (ad 20) 1 = oN (ch - 1) := by
          unfold kI; rw [h2 20 1 (by omega)]
          have := iS_U hi (κ := kU κ (ad 20) 0 (.int 0)) (n := 20) (j := 1) (x := oN (ch - 1)) 20 1
          rw [if_pos ⟨rfl, rfl⟩] at this
          exact this
        have em : (oN (ch - 1) * 457 + oN i : Int32) = oN (457 * (ch - 1) + i) := by rw [show (457 : Int32) = oN 457 from rfl, oN_mul, oN_add, Nat.mul_comm]
        have p8 : kR κ1 (ad 20) 8 = ad 24 := hP1.2.2.2.2.1 3 (by omega)
        have rb : kI κ1 (ad 24) (457 * (ch - 1) + i) = ps (ch - 1) i := by
          have : iS ad κ1 24 (457 * (ch - 1) + i) = iS ad κ 24 (457 * (ch - 1) + i) := by
            unfold iS kI; rw [h2 24 _ (by omega)]
            unfold kU
            rw [if_neg (fun g => by have := hi _ _ g.1; omega), if_neg (fun g => by have := hi _ _ g.1; omega)]
          exact this.trans (m3 (ch - 1) (by omega) i (by omega))
        rw [P_X7_undo_37, if_neg (by rw [show (457 : Int32) = oN 457 from rfl]; exact fun h => by have := (oN_le (by omega) (by omega)).mp h; omega), rr, em, ck_t ((oN_jin (by omega)).mpr (by omega)), ck_t ((oN_jin (by omega)).mpr (by omega)), oN_ix (by omega), oN_ix (by omega), p8, hP1.p5, rb, bnd_e, ei1]
        refine ih (i + 1) f _ (by omega) (by omega) (PT_U hi hP1 (iSl_21 _ (by omega))) (fun j => ?_) (fun n j hn => ?_)
        · rw [iS_U hi]
          by_cases e : j = i
          · rw [if_pos ⟨rfl, e⟩, if_pos (by omega), e]
          · rw [if_neg (fun g => e g.2), h1 j]
            by_cases e2 : j < i
            · rw [if_pos e2, if_pos (by omega)]
            · rw [if_neg e2, if_neg (by omega)]
        · rw [← h2 n j hn]
          show kU κ1 (ad 21) i _ (ad n) j = _
          unfold kU
          rw [if_neg (fun g => hn (hi _ _ g.1))]
    obtain ⟨κ', q1, q2, q3⟩ := L 457 0 4000 _ (by omega) (by omega) hP2 (fun j => by rw [if_neg (by omega), iS_U hi, if_neg (by omega), iS_U hi, if_neg (by omega)]; exact m1 j) (fun _ _ _ => rfl)
    have q1' : P_X7_undo_37 (ad 20) 4000 (kU (kU κ (ad 20) 0 (.int 0)) (ad 20) 1 (.int (oN (ch - 1)))) 0 = some (oN (ch - 1), κ') := q1
    have Fi : ∀ n j, n ≠ 21 → ¬ (n = 20 ∧ (j = 0 ∨ j = 1)) → iS ad κ' n j = iS ad κ n j := fun n j h1 h2 => by
      have : iS ad κ' n j = iS ad (kU (kU κ (ad 20) 0 (.int 0)) (ad 20) 1 (.int (oN (ch - 1)))) n j := by unfold iS kI; rw [q3 n j h1]
      rw [this, iS_U hi, if_neg (by omega), iS_U hi, if_neg (by omega)]
    refine ⟨κ', fun j => if j < 457 then ps (ch - 1) j else v j, ?_, ?_, fun n j h1 h2 => ?_, fun j hj => if_pos hj, q2, ?_, fun i hic j hj => ?_, ?_, fun z j hj => ?_⟩
    · unfold P_X7_undo P_X7_undo_13
      rw [r1, if_neg (fun q => z ((oN_z (by omega)).mp q)), bnd_e, t1, if_pos rfl, t2, e1, bnd_e, q1']
    · have : iS ad κ' 20 0 = iS ad (kU (kU κ (ad 20) 0 (.int 0)) (ad 20) 1 (.int (oN (ch - 1)))) 20 0 := by unfold iS kI; rw [q3 20 0 (by omega)]
      rw [this, iS_U hi, if_neg (by omega)]
      exact t1
    · rw [q3 n j (by omega)]
      unfold kU
      rw [if_neg (fun g => by have := hi _ _ g.1; omega), if_neg (fun g => by have := hi _ _ g.1; omega)]
    · have : iS ad κ' 20 1 = iS ad (kU (kU κ (ad 20) 0 (.int 0)) (ad 20) 1 (.int (oN (ch - 1)))) 20 1 := by unfold iS kI; rw [q3 20 1 (by omega)]
      rw [this, iS_U hi, if_pos ⟨rfl, rfl⟩]
    · rw [Fi _ _ (by omega) (by omega)]; exact m3 i (by omega) j hj
    · rw [Fi _ _ (by omega) (by omega)]; exact m4
    · rw [Fi _ _ (by omega) (by omega)]; exact m5 z j hj
/-- the class saves -/
theorem c_save (hi : ∀ a b, ad a = ad b → a = b) (hC : CH ad κ v ch ps hs sv) (hG : GH v ch ps hs sv K) (w : Nat → Int32) (hw : ∀ j, j < 457 → w j = v j) : ∃ κ', P_X6_save κ (ad 0) = some (v 1, κ') ∧ CH ad κ' v ch ps 1 w ∧ FCl ad κ κ' := by
  obtain ⟨pr, tr, pa, su, ⟨hP, ⟨c1, c2, c3⟩, c4, c5, c6, c7, c8⟩, hv, hp, h3, h10⟩ := hC
  obtain ⟨κ1, t1, t2, t3⟩ := X5_take (a := 10) (b := pr) hi hP (by omega) (by omega) (by omega) (c6 10 (by omega)) hv hG.1.1
  have hP1 := t2.pt hP
  have h2 := PT_U (n := 0) (j := 3) (x := 1) hi hP1 (iSl_0 (by omega))
  have p2 : kR κ (ad 0) 2 = ad (bR 10) := hP.1.2.2.1
  have p0 : kR κ (ad 0) 0 = ad (bR pr) := hP.1.1
  have p0' : kR (kU κ1 (ad 0) 3 (.int 1)) (ad 0) 0 = ad (bR pr) := h2.1.1
  have F : ∀ n j, ¬ inR 10 n → ¬ (n = 0 ∧ j = 3) → (kU κ1 (ad 0) 3 (.int 1)) (ad n) j = κ (ad n) j := fun n j n1 n2 => by
    unfold kU
    rw [if_neg (fun g => n2 ⟨hi _ _ g.1, g.2⟩)]
    exact t2 n j (fun g => absurd g n1)
  have keep : ∀ {r : Nat} {w : Nat → Int32}, r < 10 → GR w → RRel (iS ad κ) r (su r) w → RRel (iS ad (kU κ1 (ad 0) 3 (.int 1))) r (su r) w := fun {r w} hr hw hR => RRel_k hR (fun i h6 => hP.s6 (by omega) h6) hw (fun n j n1 n2 => F n j (inR_ne (by omega) n1 n2) (by unfold bR at n1; omega))
  have hv2 := keep (by omega) hG.1.1 hv
  have e4 : kI (kU κ1 (ad 0) 3 (.int 1)) (ad (bR pr)) 4 = v 1 := hv2.2.1.2.1
  refine ⟨_, ?_, ⟨pr, tr, pa, su, ⟨h2, ⟨c1, c2, c3⟩, c4, c5, c6, c7, ?_⟩, hv2, fun i hic => keep (c4 i (by omega)).1 (hG.2.1 i hic).1 (hp i hic), ?_, fun _ => ?_⟩, fun n j hn => F n j (by unfold inR bR; omega) (by omega)⟩
  · unfold P_X6_save
    rw [p2, p0, t1, bd_s, bnd_e, p0', e4]
  · unfold iS kI
    rw [F 0 5 (by unfold inR bR; omega) (by omega)]
    exact c8
  · rw [iS_U hi, if_pos ⟨rfl, rfl⟩]
  · refine RRel_457 (v := v) ?_ hG.1.1 hw
    exact RRel_k t3 (fun i h6 => hP.s6 (by omega) h6) hG.1.1 (fun n j n1 n2 => by
      unfold kU
      rw [if_neg (fun g => by have := hi _ _ g.1; unfold bR at n1; omega)])
theorem m_save (hi : ∀ a b, ad a = ad b → a = b) (hP : PT ad κ pr tr pa su) (hM : MH ad κ v ch ps hs sv) : ∃ κ' w, P_X7_save κ (ad 20) = some (v 1, κ') ∧ FMe ad κ κ' ∧ (∀ j, j < 457 → w j = v j) ∧ MH ad κ' v ch ps 1 w := by
  obtain ⟨m1, m2, m3, m4, m5⟩ := hM
  have f1 : FMd ad κ (kU κ (ad 20) 0 (.int 0)) := FMd.U hi (by omega)
  have hP1 := f1.pt hP
  have p5 : kR (kU κ (ad 20) 0 (.int 0)) (ad 20) 5 = ad 21 := hP1.p5
  have p7 : kR (kU κ (ad 20) 0 (.int 0)) (ad 20) 7 = ad 23 := hP1.2.2.2.2.1 2 (by omega)
  obtain ⟨κ1, q1, q2, q3⟩ := X7_lays (κ := kU κ (ad 20) 0 (.int 0)) (a := 23) (b := 21) hi (by omega) (by omega)
  have hP2 : PT ad (kU κ1 (ad 20) 4 (.int 1)) pr tr pa su := by
    refine PT_K hP1 (fun b k hb => ?_)
    unfold kR kU
    rw [if_neg (fun g => hb (by rw [hi _ _ g.1, g.2]; exact iSl_20 (by omega)))]
    rw [q3 b k (fun g => hb (by rw [g]; exact iSl_21 k (by omega)))]
    rfl
  have F : ∀ n j, n ≠ 23 → ¬ (n = 20 ∧ (j = 0 ∨ j = 4)) → (kU κ1 (ad 20) 4 (.int 1)) (ad n) j = κ (ad n) j := fun n j n1 n2 => by
    have a1 : (kU κ1 (ad 20) 4 (.int 1)) (ad n) j = κ1 (ad n) j := by
      unfold kU
      rw [if_neg (fun g => by have := hi _ _ g.1; omega)]
    rw [a1, q3 n j n1]
    unfold kU
    rw [if_neg (fun g => by have := hi _ _ g.1; omega)]
  have Fi : ∀ n j, n ≠ 23 → ¬ (n = 20 ∧ (j = 0 ∨ j = 4)) → iS ad (kU κ1 (ad 20) 4 (.int 1)) n j = iS ad κ n j := fun n j n1 n2 => by unfold iS kI; rw [F n j n1 n2]
  have r1 : kI (kU κ1 (ad 20) 4 (.int 1)) (ad 21) 1 = v 1 := (Fi 21 1 (by omega) (by omega)).trans (m1 1)
  refine ⟨_, iS ad (kU κ1 (ad 20) 4 (.int 1)) 23, ?_, fun n j n1 n2 => F n j (by omega) (by omega), fun j hj => ?_, fun j => by rw [Fi _ _ (by omega) (by omega)]; exact m1 j, by rw [Fi _ _ (by omega) (by omega)]; exact m2, fun i hic j hj => by rw [Fi _ _ (by omega) (by omega)]; exact m3 i hic j hj, by rw [iS_U hi, if_pos ⟨rfl, rfl⟩], fun _ j _ => rfl⟩
  · unfold P_X7_save
    rw [bnd_e, p5, p7, q1, bd_s, bnd_e, hP2.p5, show ix 1 = 1 from rfl, r1]
  · rw [iS_U hi, if_neg (by omega), q2 j, if_pos hj, iS_U hi, if_neg (by omega)]
    exact m1 j
/-- the class restores -/
theorem c_restore (hi : ∀ a b, ad a = ad b → a = b) (hC : CH ad κ v ch ps hs sv) (hG : GH v ch ps hs sv K) : (hs = 0 → P_X6_restore κ (ad 0) = some (.error "java/lang/IllegalStateException", κ)) ∧ (hs ≠ 0 → ∀ w, (∀ j, j < 457 → w j = sv j) → ∃ κ', P_X6_restore κ (ad 0) = some (.ok (sv 1), κ') ∧ CH ad κ' w 0 ps hs sv ∧ FCl ad κ κ') := by
  obtain ⟨pr, tr, pa, su, ⟨hP, ⟨c1, c2, c3⟩, c4, c5, c6, c7, c8⟩, hv, hp, h3, h10⟩ := hC
  have e3 : kI κ (ad 0) 3 = hs := h3
  refine ⟨fun z => ?_, fun z w hw => ?_⟩
  · unfold P_X6_restore
    rw [e3, if_pos z]
  · obtain ⟨κ1, t1, t2, t3⟩ := X5_take (a := pr) (b := 10) hi hP (by omega) (by omega) (by omega) (c6 pr (by omega)) (h10 z) (hG.2.2 z).1
    have hP1 := t2.pt hP
    have h2 := PT_U (n := 0) (j := 5) (x := 0) hi hP1 (iSl_0 (by omega))
    have p2 : kR κ (ad 0) 2 = ad (bR 10) := hP.1.2.2.1
    have p0 : kR κ (ad 0) 0 = ad (bR pr) := hP.1.1
    have p0' : kR (kU κ1 (ad 0) 5 (.int 0)) (ad 0) 0 = ad (bR pr) := h2.1.1
    have F : ∀ n j, ¬ inR pr n → ¬ (n = 0 ∧ j = 5) → (kU κ1 (ad 0) 5 (.int 0)) (ad n) j = κ (ad n) j := fun n j n1 n2 => by
      unfold kU
      rw [if_neg (fun g => n2 ⟨hi _ _ g.1, g.2⟩)]
      exact t2 n j (fun g => absurd g n1)
    have hv1 : RRel (iS ad (kU κ1 (ad 0) 5 (.int 0))) pr (su pr) sv := RRel_k t3 (fun i h6 => hP.s6 (by omega) h6) (hG.2.2 z).1 (fun n j n1 n2 => by
      unfold kU
      rw [if_neg (fun g => by have := hi _ _ g.1; unfold bR at n1; omega)])
    have e4 : kI (kU κ1 (ad 0) 5 (.int 0)) (ad (bR pr)) 4 = sv 1 := hv1.2.1.2.1
    refine ⟨_, ?_, ⟨pr, tr, pa, su, ⟨h2, ⟨c1, c2, c3⟩, c4, c5, c6, by omega, ?_⟩, RRel_457 hv1 (hG.2.2 z).1 hw, fun i hic => by omega, ?_, fun _ => ?_⟩, fun n j hn => F n j (by unfold inR bR; omega) (by omega)⟩
    · unfold P_X6_restore
      rw [e3, if_neg z, p2, p0, t1, bd_s, bnd_e, p0', e4]
    · rw [iS_U hi, if_pos ⟨rfl, rfl⟩]; rfl
    · unfold iS kI
      rw [F 0 3 (by unfold inR bR; omega) (by omega)]
      exact h3
    · exact RRel_k (h10 z) (fun i h6 => hP.s6 (by omega) h6) (hG.2.2 z).1 (fun n j n1 n2 => F n j (inR_ne (by omega) n1 n2) (by unfold bR at n1; omega))
theorem m_restore (hi : ∀ a b, ad a = ad b → a = b) (hP : PT ad κ pr tr pa su) (hM : MH ad κ v ch ps hs sv) : (hs = 0 → ∃ κ', P_X7_restore κ (ad 20) = some (0, κ') ∧ iS ad κ' 20 0 = 1 ∧ FMe ad κ κ' ∧ MH ad κ' v ch ps hs sv) ∧
    (hs ≠ 0 → ∃ κ' w, P_X7_restore κ (ad 20) = some (sv 1, κ') ∧ iS ad κ' 20 0 = 0 ∧ FMe ad κ κ' ∧ (∀ j, j < 457 → w j = sv j) ∧ MH ad κ' w 0 ps hs sv) := by
  obtain ⟨m1, m2, m3, m4, m5⟩ := hM
  have r4 : kI κ (ad 20) 4 = hs := m4
  refine ⟨fun z => ?_, fun z => ?_⟩
  · have f1 : FMd ad κ (kU κ (ad 20) 0 (.int 1)) := FMd.U hi (by omega)
    have t1 : kI (kU κ (ad 20) 0 (.int 1)) (ad 20) 0 = 1 := by
      have := iS_U hi (κ := κ) (n := 20) (j := 0) (x := 1) 20 0
      rw [if_pos ⟨rfl, rfl⟩] at this
      exact this
    have Fi : ∀ n j, ¬ (n = 20 ∧ j = 0) → iS ad (kU κ (ad 20) 0 (.int 1)) n j = iS ad κ n j := fun n j h => by rw [iS_U hi, if_neg h]
    unfold P_X7_restore P_X7_restore_13
    rw [r4, if_pos z, bnd_e, t1, if_neg (by decide)]
    exact ⟨_, rfl, t1, f1.e, fun j => by rw [Fi _ _ (by omega)]; exact m1 j, by rw [Fi _ _ (by omega)]; exact m2, fun i hic j hj => by rw [Fi _ _ (by omega)]; exact m3 i hic j hj, by rw [Fi _ _ (by omega)]; exact m4, fun z j hj => by rw [Fi _ _ (by omega)]; exact m5 z j hj⟩
  · have f1 : FMd ad κ (kU κ (ad 20) 0 (.int 0)) := FMd.U hi (by omega)
    have hP1 := f1.pt hP
    have t1 : kI (kU κ (ad 20) 0 (.int 0)) (ad 20) 0 = 0 := by
      have := iS_U hi (κ := κ) (n := 20) (j := 0) (x := 0) 20 0
      rw [if_pos ⟨rfl, rfl⟩] at this
      exact this
    have p5 : kR (kU κ (ad 20) 0 (.int 0)) (ad 20) 5 = ad 21 := hP1.p5
    have p7 : kR (kU κ (ad 20) 0 (.int 0)) (ad 20) 7 = ad 23 := hP1.2.2.2.2.1 2 (by omega)
    obtain ⟨κ1, q1, q2, q3⟩ := X7_lays (κ := kU κ (ad 20) 0 (.int 0)) (a := 21) (b := 23) hi (by omega) (by omega)
    have hP2 : PT ad (kU κ1 (ad 20) 1 (.int 0)) pr tr pa su := by
      refine PT_K hP1 (fun b k hb => ?_)
      unfold kR kU
      rw [if_neg (fun g => hb (by rw [hi _ _ g.1, g.2]; exact iSl_20 (by omega)))]
      rw [q3 b k (fun g => hb (by rw [g]; exact iSl_21 k (by omega)))]
      rfl
    have F : ∀ n j, n ≠ 21 → ¬ (n = 20 ∧ (j = 0 ∨ j = 1)) → (kU κ1 (ad 20) 1 (.int 0)) (ad n) j = κ (ad n) j := fun n j n1 n2 => by
      have a1 : (kU κ1 (ad 20) 1 (.int 0)) (ad n) j = κ1 (ad n) j := by
        unfold kU
        rw [if_neg (fun g => by have := hi _ _ g.1; omega)]
      rw [a1, q3 n j n1]
      unfold kU
      rw [if_neg (fun g => by have := hi _ _ g.1; omega)]
    have Fi : ∀ n j, n ≠ 21 → ¬ (n = 20 ∧ (j = 0 ∨ j = 1)) → iS ad (kU κ1 (ad 20) 1 (.int 0)) n j = iS ad κ n j := fun n j n1 n2 => by unfold iS kI; rw [F n j n1 n2]
    have hw : ∀ j, j < 457 → iS ad (kU κ1 (ad 20) 1 (.int 0)) 21 j = sv j := fun j hj => by
      rw [iS_U hi, if_neg (by omega), q2 j, if_pos hj, iS_U hi, if_neg (by omega)]
      exact m5 z j hj
    have r1 : kI (kU κ1 (ad 20) 1 (.int 0)) (ad 21) 1 = sv 1 := hw 1 (by omega)
    refine ⟨_, iS ad (kU κ1 (ad 20) 1 (.int 0)) 21, ?_, ?_, fun n j n1 n2 => F n j (by omega) (by omega), hw, fun j => rfl, by rw [iS_U hi, if_pos ⟨rfl, rfl⟩]; rfl, fun i hic => by omega, by rw [Fi _ _ (by omega) (by omega)]; exact m4, fun z j hj => by rw [Fi _ _ (by omega) (by omega)]; exact m5 z j hj⟩
    · unfold P_X7_restore P_X7_restore_13
      rw [r4, if_neg z, bnd_e, t1, if_pos rfl, p5, p7, q1, bd_s, bnd_e, hP2.p5, show ix 1 = 1 from rfl, r1]
    · have : iS ad (kU κ1 (ad 20) 1 (.int 0)) 20 0 = iS ad (kU κ (ad 20) 0 (.int 0)) 20 0 := by
        rw [iS_U hi, if_neg (by omega)]
        unfold iS kI; rw [q3 20 0 (by omega)]
      rw [this]; exact t1
end UNDO
