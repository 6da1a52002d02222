/-! ===== layer 3: the calls of the law: texts and what a script left ===== -/
theorem chr_N : ∀ c, c < 127 → jch (oN c) ∧ jch (i2c (oN c)) ∧ i2c (oN c) = oN c := by decide +kernel
section OUTS
variable {ad : Nat → Nat} {κ κ1 κ2 κ3 : jKt} {K : Nat}
/-- the slots of the texts -/
def Of (n j : Nat) : Prop := Zf n j ∨ n = 9 ∨ n = 12 ∨ n = 27 ∨ n = 28 ∨ n = 40 ∨ n = 41 ∨ (n = 8 ∧ j = 1) ∨ (n = 20 ∧ (j = 16 ∨ j = 19))
theorem Of_i {n j : Nat} (h : Of n j) : iSl n j := by unfold Of Zf at h; unfold iSl; omega
theorem TX.k2 (h : TX ad κ) (e : ∀ n j, (n = 8 ∧ j = 1) ∨ n = 9 ∨ n = 27 ∨ (n = 20 ∧ j = 16) → κ1 (ad n) j = κ (ad n) j) : TX ad κ1 := by
  have e' : ∀ n j, (n = 8 ∧ j = 1) ∨ n = 9 ∨ n = 27 ∨ (n = 20 ∧ j = 16) → iS ad κ1 n j = iS ad κ n j := fun n j g => by unfold iS kI; rw [e n j g]
  obtain ⟨n, h1, h2, h3, h4⟩ := h
  exact ⟨n, h1, by rw [e' 8 1 (by omega)]; exact h2, by rw [e' 20 16 (by omega)]; exact h3, fun j hj => by rw [e' 9 j (by omega), e' 27 j (by omega)]; exact h4 j hj⟩
theorem OU.k2 (h : OU ad κ) (e : ∀ n j, n = 12 ∨ n = 28 ∨ (n = 20 ∧ j = 19) → κ1 (ad n) j = κ (ad n) j) : OU ad κ1 := by
  have e' : ∀ n j, n = 12 ∨ n = 28 ∨ (n = 20 ∧ j = 19) → iS ad κ1 n j = iS ad κ n j := fun n j g => by unfold iS kI; rw [e n j g]
  obtain ⟨L, h1, h2, h3, h4⟩ := h
  exact ⟨L, h1, h2, h3.k (fun j => e' 12 j (by omega)), h4.k (fun j => e' 28 j (by omega)) (e' 20 19 (by omega))⟩
/-- the state stands when only texts change -/
theorem INV.out (h : INV ad κ K) (f : ∀ n j, ¬ Of n j → κ1 (ad n) j = κ (ad n) j) (ht : TX ad κ1) (ho : OU ad κ1) : INV ad κ1 K := by
  obtain ⟨⟨v, ch, ps, hs, sv, h1, h2, h3⟩, h4, h5, h6, h7⟩ := h
  have e : ∀ n j, ¬ Of n j → iS ad κ1 n j = iS ad κ n j := fun n j hy => by unfold iS kI; rw [f n j hy]
  refine ⟨⟨v, ch, ps, hs, sv, h1.k h3 (fun j hj => f 0 j (by unfold Of Zf; omega)) (fun j => f 1 j (by unfold Of Zf; omega)) (fun n j _ hs => f n j (fun g => hs (Of_i g))) (fun n j hn => f n j (by unfold Of Zf; omega)), h2.k (fun n j hn => e n j (by unfold Of Zf; omega)), h3⟩, ?_, ht, ho, ?_⟩
  · unfold EF at h4 ⊢
    rw [e 0 8 (by unfold Of Zf; omega), e 20 2 (by unfold Of Zf; omega), e 0 9 (by unfold Of Zf; omega), e 20 3 (by unfold Of Zf; omega)]
    exact h4
  · exact ⟨fun j hj => by rw [e 30 j (by unfold Of Zf; omega)]; exact h7.1 j hj, fun j hj => by rw [e 31 j (by unfold Of Zf; omega)]; exact h7.2 j hj⟩
theorem ZF_20 (hi : ∀ a b, ad a = ad b → a = b) (s : Int32) : ZF ad κ (kU κ (ad 20) 0 (.int s)) := by
  intro n j a
  unfold kU
  rw [if_neg (fun g => a ?_)]
  have := hi _ _ g.1
  unfold Zf
  omega
theorem k20 (hi : ∀ a b, ad a = ad b → a = b) (s : Int32) : kI (kU κ (ad 20) 0 (.int s)) (ad 20) 0 = s := by rw [kI_Un hi, if_pos ⟨rfl, rfl⟩]
theorem l_errorPosition (hi : ∀ a b, ad a = ad b → a = b) (hI : INV ad κ K) : LSt ad K (P_L_errorPosition κ (ad 0) (ad 40)) (fun κ1 => P_X7_errorPosition κ1 (ad 20)) := by
  obtain ⟨-, ⟨⟨e1, e2⟩, -⟩, -⟩ := id hI
  have e1' : kI κ (ad 20) 2 = kI κ (ad 0) 8 := e1.symm
  by_cases h : kI κ (ad 0) 8 = -1
  · refine ⟨1, κ, 0, kU κ (ad 20) 0 (.int 1), ?_, ?_, k20 hi 1, fun q => absurd q (by decide), hI.zf (ZF_20 hi 1).two⟩
    · unfold P_L_errorPosition P_X6_errorPosition
      rw [if_pos h, bdx_e, if_pos rfl]
    · show P_X7_errorPosition κ (ad 20) = _
      unfold P_X7_errorPosition P_X7_errorPosition_13
      rw [e1', h, if_neg nneg1, bnd_e, k20 hi, if_neg (by decide)]
  · have z1 : ZF2 ad κ (kU κ (ad 40) 0 (.long (kI κ (ad 0) 8).toInt64)) := ZF2.U hi (Or.inl rfl)
    have e3 : kI (kU κ (ad 40) 0 (.long (kI κ (ad 0) 8).toInt64)) (ad 20) 2 = kI κ (ad 0) 8 := (z1.i (n := 20) (j := 2) (by unfold Zf; omega)).trans e1'
    have h0 : (0 : Int32) ≤ kI κ (ad 0) 8 := by
      rcases e2 with q | q
      · exact absurd q h
      · exact q
    refine ⟨0, kU κ (ad 40) 0 (.long (kI κ (ad 0) 8).toInt64), kI κ (ad 0) 8, kU (kU κ (ad 40) 0 (.long (kI κ (ad 0) 8).toInt64)) (ad 20) 0 (.int 0), ?_, ?_, k20 hi 0, fun _ => ?_, hI.zf (z1.trans (ZF_20 hi 0).two)⟩
    · unfold P_L_errorPosition P_X6_errorPosition
      rw [if_neg h, bdx_o]; rfl
    · show P_X7_errorPosition (kU κ (ad 40) 0 (.long (kI κ (ad 0) 8).toInt64)) (ad 20) = _
      unfold P_X7_errorPosition P_X7_errorPosition_13
      rw [e3, if_pos h0, bnd_e, k20 hi, if_pos rfl, show kI (kU (kU κ (ad 40) 0 (.long (kI κ (ad 0) 8).toInt64)) (ad 20) 0 (.int 0)) (ad 20) 2 = kI κ (ad 0) 8 from by rw [kI_Un hi, if_neg (by omega)]; exact e3]
    · rw [kL_z (ZF_20 hi 0), kL_U hi]
theorem l_failedCommand (hi : ∀ a b, ad a = ad b → a = b) (hI : INV ad κ K) : LSt ad K (P_L_failedCommand κ (ad 0) (ad 40)) (fun κ1 => P_X7_failedCommand κ1 (ad 20)) := by
  obtain ⟨-, ⟨-, e1, e2⟩, -⟩ := id hI
  have e1' : kI κ (ad 20) 3 = kI κ (ad 0) 9 := e1.symm
  by_cases h : kI κ (ad 0) 9 = -1
  · refine ⟨1, κ, 0, kU κ (ad 20) 0 (.int 1), ?_, ?_, k20 hi 1, fun q => absurd q (by decide), hI.zf (ZF_20 hi 1).two⟩
    · unfold P_L_failedCommand P_X6_failedCommand
      rw [if_pos h, bdx_e, if_pos rfl]
    · show P_X7_failedCommand κ (ad 20) = _
      unfold P_X7_failedCommand P_X7_failedCommand_13
      rw [e1', h, if_neg nneg1, bnd_e, k20 hi, if_neg (by decide)]
  · have z1 : ZF2 ad κ (kU κ (ad 40) 0 (.long (kI κ (ad 0) 9).toInt64)) := ZF2.U hi (Or.inl rfl)
    have e3 : kI (kU κ (ad 40) 0 (.long (kI κ (ad 0) 9).toInt64)) (ad 20) 3 = kI κ (ad 0) 9 := (z1.i (n := 20) (j := 3) (by unfold Zf; omega)).trans e1'
    have h0 : (0 : Int32) ≤ kI κ (ad 0) 9 := by
      rcases e2 with q | q
      · exact absurd q h
      · exact q
    refine ⟨0, kU κ (ad 40) 0 (.long (kI κ (ad 0) 9).toInt64), kI κ (ad 0) 9, kU (kU κ (ad 40) 0 (.long (kI κ (ad 0) 9).toInt64)) (ad 20) 0 (.int 0), ?_, ?_, k20 hi 0, fun _ => ?_, hI.zf (z1.trans (ZF_20 hi 0).two)⟩
    · unfold P_L_failedCommand P_X6_failedCommand
      rw [if_neg h, bdx_o]; rfl
    · show P_X7_failedCommand (kU κ (ad 40) 0 (.long (kI κ (ad 0) 9).toInt64)) (ad 20) = _
      unfold P_X7_failedCommand P_X7_failedCommand_13
      rw [e3, if_pos h0, bnd_e, k20 hi, if_pos rfl, show kI (kU (kU κ (ad 40) 0 (.long (kI κ (ad 0) 9).toInt64)) (ad 20) 0 (.int 0)) (ad 20) 3 = kI κ (ad 0) 9 from by rw [kI_Un hi, if_neg (by omega)]; exact e3]
    · rw [kL_z (ZF_20 hi 0), kL_U hi]
theorem len_m1 : ∀ n, n < 71 → (oN n - 1 : Int32).toInt = (n : Int) - 1 := by decide +kernel
theorem l_outputAt (hi : ∀ a b, ad a = ad b → a = b) (hI : INV ad κ K) (x : Int32) : LSt ad K (P_L_outputAt κ (ad 0) x (ad 40)) (fun κ1 => P_X7_outputAt κ1 (ad 20) x) := by
  obtain ⟨⟨v, ch, ps, hs, sv, h1, h2, h3⟩, -, -, ⟨L, l1, l2, ⟨c1, c2⟩, m1, m2⟩, -⟩ := id hI
  obtain ⟨pr, tr, pa, su, hp, -⟩ := h1.see h2 h3
  have hL : P_J4_length_8abf5 κ (kR κ (ad 0) 10) = some (oN L.length) := by rw [hp.1.ou]; exact congrArg some c1
  have m1' : kI κ (ad 20) 19 = oN L.length := m1
  have hle : x ≤ oN L.length - 1 ↔ x < oN L.length := by
    rw [Int32.le_iff_toInt_le, Int32.lt_iff_toInt_lt, len_m1 _ (by omega), oN_toInt (by omega)]; omega
  by_cases hx : 0 ≤ x ∧ x < oN L.length
  · have ht : ix x < L.length := by
      have := Int32.lt_iff_toInt_lt.mp hx.2
      have := Int32.le_iff_toInt_le.mp hx.1
      rw [oN_toInt (by omega)] at *
      unfold ix Int32.toNatClampNeg
      simp only [Int32.toInt_zero] at *
      omega
    have cx : kI κ (ad 12) (ix x + 1) = oN L[ix x] := by rw [Nat.add_comm]; exact c2 (ix x) ht
    have mx : kI κ (ad 28) (ix x) = oN L[ix x] := by have := m2 (ix x) ht; rw [Nat.zero_add] at this; exact this
    obtain ⟨j1, j2, j3⟩ := chr_N L[ix x] (l2 _ (List.getElem_mem ht))
    have z1 : ZF2 ad κ (kU κ (ad 40) 0 (.long (oN L[ix x]).toInt64)) := ZF2.U hi (Or.inl rfl)
    have z2 := (z1.trans (ZF_20 (κ := kU κ (ad 40) 0 (.long (oN L[ix x]).toInt64)) hi 0).two)
    have hp2 := hp.zf2 z2
    have m1'' : kI (kU κ (ad 40) 0 (.long (oN L[ix x]).toInt64)) (ad 20) 19 = oN L.length := (z1.i (n := 20) (j := 19) (by unfold Zf; omega)).trans m1'
    have mx2 : kI (kU (kU κ (ad 40) 0 (.long (oN L[ix x]).toInt64)) (ad 20) 0 (.int 0)) (ad 28) (ix x) = oN L[ix x] := (z2.i (n := 28) (j := ix x) (by unfold Zf; omega)).trans mx
    refine ⟨0, kU κ (ad 40) 0 (.long (oN L[ix x]).toInt64), oN L[ix x], kU (kU κ (ad 40) 0 (.long (oN L[ix x]).toInt64)) (ad 20) 0 (.int 0), ?_, ?_, k20 hi 0, fun _ => ?_, hI.zf z2⟩
    · unfold P_L_outputAt P_X6_outputAt P_J4_charAt_5068e
      rw [if_neg (Int32.not_lt.mpr hx.1), hL, bd_s, if_pos hx.2, hp.1.ou, ck_t hx.1, show kI κ (ad 12) 0 = oN L.length from c1, ck_t hx.2, bd_s, cx, ck_t j1, bdx_o]
      rfl
    · show P_X7_outputAt (kU κ (ad 40) 0 (.long (oN L[ix x]).toInt64)) (ad 20) x = _
      unfold P_X7_outputAt P_X7_outputAt_20
      have jx : jin x 70 := by
        rintro (g | g)
        · exact absurd hx.1 (Int32.not_le.mpr g)
        · have : ix x = x.toNatClampNeg := rfl
          omega
      have q1 : P_X7_isIn (kU κ (ad 40) 0 (.long (oN L[ix x]).toInt64)) x 0 (oN L.length - 1) = some 1 := by rw [X7_isIn, if_pos ⟨hx.1, hle.mpr hx.2⟩]
      rw [m1'', q1, bd_s, if_neg (by decide), bnd_e, k20 hi, if_pos rfl, hp2.1.ln, mx2, j3, ck_t jx, ck_t j1]
    · rw [kL_z (ZF_20 hi 0), kL_U hi]
  · have hcl : P_X6_outputAt κ (ad 0) x = some (.error "java/lang/IndexOutOfBoundsException") := by
      unfold P_X6_outputAt
      by_cases g : x < 0
      · rw [if_pos g]
      · rw [if_neg g, hL, bd_s, if_neg (fun q => hx ⟨Int32.not_lt.mp g, q⟩)]
    refine ⟨1, κ, 97, kU κ (ad 20) 0 (.int 1), ?_, ?_, k20 hi 1, fun q => absurd q (by decide), hI.zf (ZF_20 hi 1).two⟩
    · unfold P_L_outputAt
      rw [hcl, bdx_e, if_pos rfl]
    · show P_X7_outputAt κ (ad 20) x = _
      unfold P_X7_outputAt P_X7_outputAt_20
      have q1 : P_X7_isIn κ x 0 (oN L.length - 1) = some 0 := by rw [X7_isIn, if_neg (fun q => hx ⟨q.1, hle.mp q.2⟩)]
      rw [m1', q1, bd_s, if_pos rfl, bnd_e, k20 hi, if_neg (by decide), ck_t (by decide)]
theorem l_renderSuit (hi : ∀ a b, ad a = ad b → a = b) (hI : INV ad κ K) (x : Int32) : LSt ad K (P_L_renderSuit κ (ad 0) x (ad 40)) (fun κ1 => P_X7_renderSuit κ1 (ad 20) x) := by
  obtain ⟨⟨v, ch, ps, hs, sv, h1, h2, h3⟩, -, hT, -⟩ := id hI
  obtain ⟨pr, tr, pa, su, hp, -⟩ := h1.see h2 h3
  have hc := c_render hi hp x
  cases hf : fd v x with
  | none =>
    rw [hf] at hc
    have hm := m_render hi hp x
    rw [hf] at hm
    obtain ⟨κ2, a1, a2, a3⟩ := hm
    refine ⟨1, κ, 0, κ2, ?_, a1, a2, fun q => absurd q (by decide), hI.zf a3.two⟩
    unfold P_L_renderSuit
    rw [hc, bdx2_e, if_pos rfl]
  | some s =>
    rw [hf] at hc
    obtain ⟨κa, b1, b2, b3⟩ := hc
    obtain ⟨hs', -⟩ := fd_some hf
    have hG := hp.2.2.2.1.1
    have h16 := (hG.sl16 hs').1
    have z1 : ZF2 ad κa (kU κa (ad 40) 0 (.long (oN (txS v s 0 (sl v s)).length).toInt64)) := ZF2.U hi (Or.inl rfl)
    have hm := m_render hi ((hp.f12 b3).zf2 z1) x
    rw [hf] at hm
    obtain ⟨κ2, a1, a2, a3, a4⟩ := hm
    have ee : ∀ n j, ¬ (n = 12 ∨ n = 40 ∨ n = 28 ∨ (n = 20 ∧ (j = 0 ∨ j = 19))) → κ2 (ad n) j = κ (ad n) j := fun n j hn => by
      rw [a4 n j (by omega) (by omega)]
      unfold kU
      rw [if_neg (fun g => by have := hi _ _ g.1; omega)]
      exact b3 n j (fun g => by omega)
    have hb := txS_b (v := v) (s := s) (fun i z hi16 => by have := ((GR_iff.mp hG).2.2.2 s hs').2.2.2.2.1 i hi16; have := (this.2 z).2.2; omega) (sl v s) 0 (by omega)
    refine ⟨0, _, oN (txS v s 0 (sl v s)).length, κ2, ?_, a1, a3, fun _ => ?_, hI.out (fun n j hn => ee n j (by unfold Of Zf at hn; omega)) (hT.k2 (fun n j hn => ee n j (by omega))) ⟨_, ?_, ?_, ?_, a2⟩⟩
    · unfold P_L_renderSuit
      rw [b1, bdx2_o]; rfl
    · unfold kL; rw [a4 40 0 (by omega) (by omega)]; exact kL_U hi _ _
    · have := hb.1; omega
    · exact hb.2
    · refine b2.k (fun j => ?_)
      unfold iS kI
      rw [a4 12 j (by omega) (by omega)]
      unfold kU
      rw [if_neg (fun g => by have := hi _ _ g.1; omega)]
theorem chr_x : ∀ c, c < 127 → jch (oN c) := by decide +kernel
theorem jin_N {n m : Nat} (h : n < m) (hn : n < 2 ^ 31) : jin (oN n) m := by
  rintro (g | g)
  · exact oN_nneg hn g
  · have : (oN n).toNatClampNeg = n := oN_ix hn
    omega
theorem l_type (hi : ∀ a b, ad a = ad b → a = b) (hI : INV ad κ K) (x : Int32) : LSt ad K (P_L_type κ (ad 0) x (ad 40)) (fun κ1 => P_X7_type κ1 (ad 20) x) := by
  obtain ⟨⟨v, ch, ps, hs, sv, h1, h2, h3⟩, -, ⟨n, t1, t2, t3, t4⟩, hO, -⟩ := id hI
  obtain ⟨pr, tr, pa, su, hp, -⟩ := h1.see h2 h3
  have p8 : kR κ (ad 0) 7 = ad 8 := hp.1.1.2.2.2.2.2.1
  have t2' : kI κ (ad 8) 1 = oN n := t2
  have t3' : kI κ (ad 20) 16 = oN n := t3
  by_cases hx : 32 ≤ x ∧ x ≤ 126
  · by_cases hn : n = 60
    · have q1 : P_X7_isIn κ x 32 126 = some 1 := by rw [X7_isIn, if_pos hx]
      refine ⟨2, κ, 0, kU κ (ad 20) 0 (.int 2), ?_, ?_, k20 hi 2, fun q => absurd q (by decide), hI.zf (ZF_20 hi 2).two⟩
      · unfold P_L_type P_X6_type
        rw [if_neg (Int32.not_lt.mpr hx.1), if_pos hx.2, p8, t2', if_pos (by rw [hn]; rfl), bdx2_e, if_neg (by decide), if_pos rfl]
      · show P_X7_type κ (ad 20) x = _
        unfold P_X7_type P_X7_type_30
        rw [q1, bd_s, if_neg (by decide), t3', if_pos (by rw [hn]; rfl), bnd_e, k20 hi, if_neg (by decide)]
    · -- one more character
      have hn6 : n < 60 := by omega
      have n60 : ¬ oN n = (60 : Int32) := fun q => hn ((oN_eq (b := 60) (by omega) (by omega)).mp q)
      have hxc : ∃ c, c < 127 ∧ x = oN c := by
        refine ⟨ix x, ?_, ?_⟩
        · have := Int32.le_iff_toInt_le.mp hx.1
          have := Int32.le_iff_toInt_le.mp hx.2
          have e1 : (32 : Int32).toInt = 32 := rfl
          have e2 : (126 : Int32).toInt = 126 := rfl
          unfold ix Int32.toNatClampNeg
          omega
        · have := Int32.le_iff_toInt_le.mp hx.1
          have e1 : (32 : Int32).toInt = 32 := rfl
          apply Int32.toInt_inj.mp
          have hh : ix x < 2 ^ 31 := by
            have := Int32.le_iff_toInt_le.mp hx.2
            have e2 : (126 : Int32).toInt = 126 := rfl
            unfold ix Int32.toNatClampNeg
            omega
          rw [oN_toInt hh]
          unfold ix Int32.toNatClampNeg
          omega
      obtain ⟨c, hc, hxe⟩ := hxc
      have jx : jch x := by rw [hxe]; exact chr_x c hc
      have k1 : kI (kU κ (ad 9) n (.int x)) (ad 8) 1 = oN n := by rw [kI_Un hi, if_neg (by omega)]; exact t2'
      have e1 : (oN n + 1 : Int32) = oN (n + 1) := oN_add n 1
      have r9 : kR κ (ad 8) 0 = ad 9 := hp.1.2.2.2.1.1
      let κa := kU (kU κ (ad 9) n (.int x)) (ad 8) 1 (.int (oN (n + 1)))
      have ca : P_X2_append κ (ad 8) x = some (oN (n + 1), κa) := by
        unfold P_X2_append
        rw [t2', if_neg (fun q => by have := (oN_le (a := 60) (b := n) (by omega) (by omega)).mp q; omega), ck_t (jin_N hn6 (by omega)), ck_t jx, r9, oN_ix (by omega), bnd_e, k1, e1, bnd_e, kI_Un hi, if_pos ⟨rfl, rfl⟩]
      let κb := kU κa (ad 40) 0 (.long (oN (n + 1)).toInt64)
      let κc := kU κb (ad 20) 0 (.int 0)
      let κd := kU (kU κc (ad 27) n (.int x)) (ad 20) 16 (.int (oN (n + 1)))
      have eb : ∀ m j, ¬ ((m = 9 ∧ j = n) ∨ (m = 8 ∧ j = 1) ∨ m = 40) → κb (ad m) j = κ (ad m) j := fun m j hm => by
        show kU (kU (kU κ (ad 9) n (.int x)) (ad 8) 1 (.int (oN (n + 1)))) (ad 40) 0 _ (ad m) j = _
        unfold kU
        rw [if_neg (fun g => hm (by have := hi _ _ g.1; omega)), if_neg (fun g => hm (by have := hi _ _ g.1; omega)), if_neg (fun g => hm (by have := hi _ _ g.1; omega))]
      have ed : ∀ m j, ¬ ((m = 20 ∧ (j = 0 ∨ j = 16)) ∨ (m = 27 ∧ j = n)) → κd (ad m) j = κb (ad m) j := fun m j hm => by
        show kU (kU (kU κb (ad 20) 0 (.int 0)) (ad 27) n (.int x)) (ad 20) 16 (.int (oN (n + 1))) (ad m) j = _
        unfold kU
        rw [if_neg (fun g => hm (by have := hi _ _ g.1; omega)), if_neg (fun g => hm (by have := hi _ _ g.1; omega)), if_neg (fun g => hm (by have := hi _ _ g.1; omega))]
      have q1 : P_X7_isIn κb x 32 126 = some 1 := by rw [X7_isIn, if_pos hx]
      have b16 : kI κb (ad 20) 16 = oN n := by unfold kI; rw [eb 20 16 (by omega)]; exact t3'
      have c16 : kI κc (ad 20) 16 = oN n := by
        show kI (kU κb (ad 20) 0 (.int 0)) (ad 20) 16 = _
        rw [kI_Un hi, if_neg (by omega)]; exact b16
      have r27 : kR κc (ad 20) 11 = ad 27 := by
        show kR (kU κb (ad 20) 0 (.int 0)) (ad 20) 11 = _
        rw [kR_Un hi (by omega)]
        unfold kR
        rw [eb 20 11 (by omega)]
        exact hp.1.2.2.2.2.1 6 (by omega)
      have f16 : kI (kU κc (ad 27) n (.int x)) (ad 20) 16 = oN n := by rw [kI_Un hi, if_neg (by omega)]; exact c16
      have d0 : kI κd (ad 20) 0 = 0 := by
        show kI (kU (kU κc (ad 27) n (.int x)) (ad 20) 16 (.int (oN (n + 1)))) (ad 20) 0 = 0
        rw [kI_Un hi, if_neg (by omega), kI_Un hi, if_neg (by omega)]
        exact k20 hi 0
      have d16 : kI κd (ad 20) 16 = oN (n + 1) := by
        show kI (kU (kU κc (ad 27) n (.int x)) (ad 20) 16 (.int (oN (n + 1)))) (ad 20) 16 = _
        rw [kI_Un hi, if_pos ⟨rfl, rfl⟩]
      refine ⟨0, κb, oN (n + 1), κd, ?_, ?_, d0, fun _ => ?_, hI.out (fun m j hm => ?_) ?_ (hO.k2 (fun m j hm => ?_))⟩
      · unfold P_L_type P_X6_type
        rw [if_neg (Int32.not_lt.mpr hx.1), if_pos hx.2, p8, t2', if_neg n60, ca, bd2_s, bdx2_o]
        rfl
      · show P_X7_type κb (ad 20) x = _
        unfold P_X7_type P_X7_type_30
        rw [q1, bd_s, if_neg (by decide), b16, if_neg n60, bnd_e]
        show (if kI κc (ad 20) 0 = 0 then ck (jin (kI κc (ad 20) 16) 60) (bnd (kU κc (kR κc (ad 20) 11) (ix (kI κc (ad 20) 16)) (.int x)) fun κ32 => bnd (kU κ32 (ad 20) 16 (.int ((kI κ32 (ad 20) 16) + 1))) fun κ34 => some (kI κ34 (ad 20) 16, κ34)) else some (0, κc)) = _
        rw [if_pos (k20 hi 0), c16, ck_t (jin_N hn6 (by omega)), r27, oN_ix (by omega), bnd_e, f16, e1, bnd_e]
        exact congrArg (fun z => some (z, κd)) d16
      · unfold kL; rw [ed 40 0 (by omega)]; exact kL_U hi _ _
      · rw [ed m j (by unfold Of Zf at hm; omega), eb m j (by unfold Of Zf at hm; omega)]
      · refine ⟨n + 1, by omega, ?_, d16, fun j hj => ?_⟩
        · unfold iS kI
          rw [ed 8 1 (by omega)]
          show kI κb (ad 8) 1 = _
          show kI (kU (kU (kU κ (ad 9) n (.int x)) (ad 8) 1 (.int (oN (n + 1)))) (ad 40) 0 (.long (oN (n + 1)).toInt64)) (ad 8) 1 = _
          unfold kI kU
          rw [if_neg (fun g => by have := hi _ _ g.1; omega), if_pos ⟨rfl, rfl⟩]
        · by_cases hj' : j = n
          · subst hj'
            have u1 : iS ad κd 9 j = x := by
              unfold iS kI
              rw [ed 9 j (by omega)]
              show (match kU (kU (kU κ (ad 9) j (.int x)) (ad 8) 1 (.int (oN (j + 1)))) (ad 40) 0 (.long (oN (j + 1)).toInt64) (ad 9) j with | .int z => z | _ => 0) = x
              unfold kU
              rw [if_neg (fun g => by have := hi _ _ g.1; omega), if_neg (fun g => by have := hi _ _ g.1; omega), if_pos ⟨rfl, rfl⟩]
            have u2 : iS ad κd 27 j = x := by
              show kI (kU (kU κc (ad 27) j (.int x)) (ad 20) 16 (.int (oN (j + 1)))) (ad 27) j = x
              rw [kI_Un hi, if_neg (by omega), kI_Un hi, if_pos ⟨rfl, rfl⟩]
            rw [u1, u2]
          · have u1 : iS ad κd 9 j = iS ad κ 9 j := by unfold iS kI; rw [ed 9 j (by omega), eb 9 j (by omega)]
            have u2 : iS ad κd 27 j = iS ad κ 27 j := by unfold iS kI; rw [ed 27 j (by omega), eb 27 j (by omega)]
            rw [u1, u2]
            exact t4 j (by omega)
      · rw [ed m j (by omega), eb m j (by omega)]
  · have hcl : P_X6_type κ (ad 0) x = some (.error "java/lang/IllegalArgumentException", κ) := by
      unfold P_X6_type
      by_cases g : x < 32
      · rw [if_pos g]
      · rw [if_neg g, if_neg (fun q => hx ⟨Int32.not_lt.mp g, q⟩)]
    have q1 : P_X7_isIn κ x 32 126 = some 0 := by rw [X7_isIn, if_neg hx]
    refine ⟨1, κ, 0, kU κ (ad 20) 0 (.int 1), ?_, ?_, k20 hi 1, fun q => absurd q (by decide), hI.zf (ZF_20 hi 1).two⟩
    · unfold P_L_type
      rw [hcl, bdx2_e, if_pos rfl]
    · show P_X7_type κ (ad 20) x = _
      unfold P_X7_type P_X7_type_30
      rw [q1, bd_s, if_pos rfl, bnd_e, k20 hi, if_neg (by decide)]
end OUTS
