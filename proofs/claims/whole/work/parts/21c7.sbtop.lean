/-! ===== text builders: append(int), charAt; texts opened and closed ===== -/
theorem ys_ci : jYS yJ0_checkIndex_df160 cJ0_checkIndex_df160 2 none 2 := ⟨(TB_in (by decide +kernel) (by decide +kernel)), (TB_in (by decide +kernel) (by decide +kernel)), (TB_in (by decide +kernel) (by decide +kernel)), ⟨by decide +kernel, by decide +kernel⟩, by decide +kernel⟩
theorem c5_appendI {l : Launch} {G : jG} {sh : jSh} {κ : jKt} {a0 q L n x d : Nat} (hS : SBs sh κ a0 q L n) (hx : x < 100) (hd : d = if x < 10 then 1 else 2) (hn2 : n + 2 ≤ 142) : jM l G yJ5_append_c97b9 cJ5_append_c97b9 4 (some (.object "java/lang/AbstractStringBuilder")) 4 1 142 140 [.ref a0, .int (oN x)] (sh, κ) (fun r σ' => r = some (.ref a0) ∧ ∃ q' L', SBs σ'.1 σ'.2 a0 q' L' (n + d) ∧ (∀ j, j < n → σ'.2 q' j = κ q j) ∧ (if x < 10 then σ'.2 q' n = .int (oN (48 + x % 10)) else σ'.2 q' n = .int (oN (48 + x / 10)) ∧ σ'.2 q' (n + 1) = .int (oN (48 + x % 10))) ∧ SBk G sh κ σ'.1 σ'.2 a0 q q') jNo := by
  obtain ⟨ha0, hq, hqs, hc, hn, hnL, hfit, hL⟩ := id hS
  have hd2 : d ≤ 2 ∧ 1 ≤ d := by split at hd <;> omega
  have e1 : (oN n + oN d : Int32) = oN (n + d) := oN_add n d
  refine r_body2 (by decide +kernel) (Nat.le_of_ble_eq_true rfl) fun F C hl hG hs ho => ?_
  subst hs
  show jW F _ 0 0 κ 0 [(0, .ref a0), (1, .int (oN x))] []
  refine r_aload_n C.1 0 1 rfl dJ5_append_c97b9_0 rfl ?_
  refine r_getI C.1 3 sb_n rfl ha0 4 rfl dJ5_append_c97b9_1 ?_
  rw [hn]
  refine r_istore_n C.1 (lv' := [(0, .ref a0), (1, .int (oN x)), (2, .int (oN n))]) [1, 2, 0] 5 rfl dJ5_append_c97b9_4 (Nat.le_of_ble_eq_true rfl) rfl ?_
  refine r_iload_n C.1 2 6 rfl dJ5_append_c97b9_5 rfl ?_
  refine r_iload_n C.1 1 7 rfl dJ5_append_c97b9_6 rfl ?_
  refine r_cSi C.1 (st := [.int (oN n)]) (c6_stringSize hx) ys_ss ml5_ss rfl ⟨(Nat.le_of_ble_eq_true rfl), (Nat.le_of_ble_eq_true rfl)⟩ ⟨(Nat.le_of_ble_eq_true rfl), (Nat.le_of_ble_eq_true rfl)⟩ (Nat.le_of_ble_eq_true rfl) rfl 0 0 rfl rfl 10 rfl dJ5_append_c97b9_7 ?_
  rw [← hd]
  refine r_iadd C.1 11 rfl dJ5_append_c97b9_10 ?_
  rw [e1]
  refine r_istore_n C.1 (lv' := [(0, .ref a0), (1, .int (oN x)), (2, .int (oN n)), (3, .int (oN (n + d)))]) [1, 2, 3, 0] 12 rfl dJ5_append_c97b9_11 (Nat.le_of_ble_eq_true rfl) rfl ?_
  refine r_aload_n C.1 0 13 rfl dJ5_append_c97b9_12 rfl ?_
  refine r_iload_n C.1 3 14 rfl dJ5_append_c97b9_13 rfl ?_
  refine r_callU C.1 (st := []) (c5_ensure (a0 := a0) (m := n + d) ha0 hq hqs hc hfit (by omega) (by omega) (by omega)) yu_ens ml5_ens ha0 rfl ⟨(Nat.le_of_ble_eq_true rfl), (Nat.le_of_ble_eq_true rfl)⟩ ⟨(Nat.le_of_ble_eq_true rfl), (Nat.le_of_ble_eq_true rfl)⟩ (Nat.le_of_ble_eq_true rfl) rfl 17 rfl dJ5_append_c97b9_14 (fun r σ1 h => ?_)
  obtain ⟨sh1, κ1⟩ := σ1
  rw [hG] at h
  obtain ⟨rfl, q1, L1, s1, k1, k2, k3⟩ := ens_SB hS (by omega) h
  obtain ⟨ta, tq, tqs, tc, tn, tnL, tfit, tL⟩ := id s1
  have tm := k1 (by omega)
  show jW (jSet F sh1) 4 1 142 κ1 17 [(0, .ref a0), (1, .int (oN x)), (2, .int (oN n)), (3, .int (oN (n + d)))] []
  have C2 := jB_set C sh1
  have eS : jSof (jSet F sh1) = sh1 := (jSet_S F sh1).1
  have ta' : jSof (jSet F sh1) a0 = (1, 1, 4) := by rw [eS]; exact ta
  have tqs' : jSof (jSet F sh1) q1 = (2, 2, L1) := by rw [eS]; exact tqs
  refine r_aload_n C2.1 0 18 rfl dJ5_append_c97b9_17 rfl ?_
  refine r_callU C2.1 (st := []) (c5_isLatin1 (a0 := a0) ta' tc) yu_lat ml5_lat ta' rfl ⟨(Nat.le_of_ble_eq_true rfl), (Nat.le_of_ble_eq_true rfl)⟩ ⟨(Nat.le_of_ble_eq_true rfl), (Nat.le_of_ble_eq_true rfl)⟩ (Nat.le_of_ble_eq_true rfl) rfl 21 rfl dJ5_append_c97b9_18 (fun r σ1 h => ?_)
  obtain ⟨rfl, rfl⟩ := h
  show jW (jSet (jSet F sh1) (jSof (jSet F sh1))) 4 1 142 κ1 21 [(0, .ref a0), (1, .int (oN x)), (2, .int (oN n)), (3, .int (oN (n + d)))] [.int 1]
  rw [jSet_id]
  refine r_if_eq C2.1 37 24 rfl dJ5_append_c97b9_21 rfl ⟨fun c => absurd c (by decide : ¬ (1 : Int32) = 0), fun _ => ?_⟩
  refine r_iload_n C2.1 1 25 rfl dJ5_append_c97b9_24 rfl ?_
  refine r_iload_n C2.1 3 26 rfl dJ5_append_c97b9_25 rfl ?_
  refine r_aload_n C2.1 0 27 rfl dJ5_append_c97b9_26 rfl ?_
  refine r_getQ C2.1 sb_v ta' tq 30 rfl dJ5_append_c97b9_27 ?_
  refine r_callSg C2.1 (st := []) (c6_getChars (x := x) (e := n + d) tqs' hx (by omega) (by omega) (by rw [← hd]; omega)) ys_gc ml5_gc rfl ⟨(Nat.le_of_ble_eq_true rfl), (Nat.le_of_ble_eq_true rfl)⟩ ⟨(Nat.le_of_ble_eq_true rfl), (Nat.le_of_ble_eq_true rfl)⟩ (Nat.le_of_ble_eq_true rfl) rfl 33 rfl dJ5_append_c97b9_30 (fun r σ1 h => ?_)
  obtain ⟨⟨y, rfl⟩, rfl⟩ := h
  generalize hκ : (if x < 10 then kU κ1 q1 (n + d - 1) (.int (oN (48 + x % 10))) else kU (kU κ1 q1 (n + d - 1) (.int (oN (48 + x % 10)))) q1 (n + d - 2) (.int (oN (48 + x / 10)))) = κ2
  show jW (jSet (jSet F sh1) (jSof (jSet F sh1))) 4 1 142 κ2 33 [(0, .ref a0), (1, .int (oN x)), (2, .int (oN n)), (3, .int (oN (n + d)))] [.int y]
  rw [jSet_id]
  refine r_pop C2.1 rfl 34 rfl dJ5_append_c97b9_33 ?_
  refine r_goto C2.1 48 dJ5_append_c97b9_34 rfl ?_
  refine r_aload_n C2.1 0 49 rfl dJ5_append_c97b9_48 rfl ?_
  refine r_iload_n C2.1 3 50 rfl dJ5_append_c97b9_49 rfl ?_
  refine r_putI C2.1 (κ' := kU κ2 a0 3 (.int (oN (n + d)))) 3 sb_wn rfl rfl rfl ta' rfl 53 rfl dJ5_append_c97b9_50 ?_
  refine r_aload_n C2.1 0 54 rfl dJ5_append_c97b9_53 rfl ?_
  refine r_aret C2 rfl (Or.inl ⟨_, rfl⟩) (Or.inr ⟨_, rfl⟩) (Nat.le_of_ble_eq_true rfl) (Nat.le_of_ble_eq_true rfl) dJ5_append_c97b9_54 ?_
  rw [jOut_q, jEndQ_set, ho, eS]
  have hne : a0 ≠ q1 := fun z => by rw [z, tqs] at ta; cases ta
  have g1 := by_dg (x % 10) (by omega)
  have g2 := by_dg (x / 10) (by omega)
  -- what κ2 is
  have qa : ∀ b, b ≠ q1 → ∀ k, κ2 b k = κ1 b k := fun b hb k => by
    rw [← hκ]
    split
    · unfold kU; rw [if_neg (fun g => hb g.1)]
    · unfold kU; rw [if_neg (fun g => hb g.1), if_neg (fun g => hb g.1)]
  have qq : ∀ k, κ2 q1 k = if x < 10 then (if k = n then .int (oN (48 + x % 10)) else κ1 q1 k) else (if k = n then .int (oN (48 + x / 10)) else if k = n + 1 then .int (oN (48 + x % 10)) else κ1 q1 k) := fun k => by
    rw [← hκ]
    by_cases z : x < 10
    · rw [if_pos z] at hd
      rw [if_pos z, if_pos z]
      unfold kU
      by_cases y1 : k = n
      · rw [if_pos ⟨rfl, by omega⟩, if_pos y1]
      · rw [if_neg (fun g => y1 (by omega)), if_neg y1]
    · rw [if_neg z] at hd
      rw [if_neg z, if_neg z]
      unfold kU
      by_cases y1 : k = n
      · rw [if_pos ⟨rfl, by omega⟩, if_pos y1]
      · rw [if_neg (fun g => y1 (by omega)), if_neg y1]
        by_cases y2 : k = n + 1
        · rw [if_pos ⟨rfl, by omega⟩, if_pos y2]
        · rw [if_neg (fun g => y2 (by omega)), if_neg y2]
  have ra : ∀ k, k ≠ 3 → kU κ2 a0 3 (.int (oN (n + d))) a0 k = κ1 a0 k := fun k hk => by
    rw [← qa a0 hne k]
    unfold kU
    rw [if_neg (fun g => hk g.2)]
  have rq : ∀ k, kU κ2 a0 3 (.int (oN (n + d))) q1 k = κ2 q1 k := fun k => by
    unfold kU
    rw [if_neg (fun g => hne g.1.symm)]
  have rb : ∀ b, b ≠ a0 → b ≠ q1 → ∀ k, kU κ2 a0 3 (.int (oN (n + d))) b k = κ1 b k := fun b b1 b2 k => by
    rw [← qa b b2 k]
    unfold kU
    rw [if_neg (fun g => b1 g.1)]
  have r3 : kI (kU κ2 a0 3 (.int (oN (n + d)))) a0 3 = oN (n + d) := by rw [kI_U, if_pos ⟨rfl, rfl⟩]
  generalize kU κ2 a0 3 (.int (oN (n + d))) = κ3 at ra rq rb r3 ⊢
  refine ⟨rfl, q1, L1, ⟨ta, (ra 0 (by decide)).trans tq, tqs, ?_, r3, by omega, fun i hi => ?_, tL⟩, fun j hj => ?_, ?_, fun b b1 b2 => ⟨(k3.1 b b1 b2).1, fun k => ?_⟩, k3.2⟩
  · unfold kI at *; dsimp only; rw [ra 1 (by decide)]; exact tc
  · dsimp only
    rw [rq, qq]
    split
    · split
      · exact ⟨_, rfl, g1.2⟩
      · exact tfit i hi
    · split
      · exact ⟨_, rfl, g2.2⟩
      · split
        · exact ⟨_, rfl, g1.2⟩
        · exact tfit i hi
  · dsimp only
    rw [rq, qq]
    split
    · rw [if_neg (by omega)]; exact k2 j hj
    · rw [if_neg (by omega), if_neg (by omega)]; exact k2 j hj
  · dsimp only
    by_cases z : x < 10
    · rw [if_pos z, rq, qq, if_pos z, if_pos rfl]
    · rw [if_neg z, rq, rq, qq, qq, if_neg z, if_neg z, if_pos rfl, if_neg (by omega), if_pos rfl]
      exact ⟨rfl, rfl⟩
  · exact (rb b b1 b2 k).trans ((k3.1 b b1 b2).2 k)
theorem by_ch : ∀ c, c < 256 → i2c ((oN c).toInt8.toInt32 &&& 255) = oN c ∧ narrow .char (.int (oN c)) = .int (oN c) := by decide +kernel
theorem c5_charAt {l : Launch} {G : jG} {sh : jSh} {κ : jKt} {a0 q L n i c : Nat} (hS : SBs sh κ a0 q L n) (hi : i < n) (hcc : c < 256) (hb : κ q i = narrow .byte (.int (oN c))) : jM l G yJ5_charAt_5068e cJ5_charAt_5068e 5 (some .char) 4 0 0 140 [.ref a0, .int (oN i)] (sh, κ) (jIs (some (.int (oN c))) (sh, κ)) jNo := by
  obtain ⟨ha0, hq, hqs, hc, hn, hnL, hfit, hL⟩ := id hS
  have e1 : jmin (oN n) (oN L) = oN n := by
    unfold jmin
    by_cases z : L < n
    · omega
    · rw [if_neg (fun g => z ((oN_lt (by omega) (by omega)).mp g))]
  have e2 : P_J0_checkIndex_df160 κ (oN i) (oN n) = some () := by
    unfold P_J0_checkIndex_df160
    rw [ck_t (oN_nneg (by omega)), ck_t ((oN_lt (by omega) (by omega)).mpr hi)]
  obtain ⟨c1, c2⟩ := by_ch c hcc
  have e3 : kI κ q i = (oN c).toInt8.toInt32 := by
    unfold kI
    rw [hb, (by_i2b (oN c)).2.1]
  refine r_body2 (by decide +kernel) (Nat.le_of_ble_eq_true rfl) fun F C hl hG hs ho => ?_
  subst hs
  show jW F _ 0 0 κ 0 [(0, .ref a0), (1, .int (oN i))] []
  refine r_aload_n C.1 0 1 rfl dJ5_charAt_5068e_0 rfl ?_
  refine r_getI C.1 1 sb_c rfl ha0 4 rfl dJ5_charAt_5068e_1 ?_
  rw [hc]
  refine r_istore_n C.1 (lv' := [(0, .ref a0), (1, .int (oN i)), (2, .int 0)]) [1, 2, 0] 5 rfl dJ5_charAt_5068e_4 (Nat.le_of_ble_eq_true rfl) rfl ?_
  refine r_aload_n C.1 0 6 rfl dJ5_charAt_5068e_5 rfl ?_
  refine r_getQ C.1 sb_v ha0 hq 9 rfl dJ5_charAt_5068e_6 ?_
  refine r_astore_n C.1 (lv' := [(0, .ref a0), (1, .int (oN i)), (2, .int 0), (3, .ref q)]) [1, 2, 3, 0] 10 rfl dJ5_charAt_5068e_9 (Nat.le_of_ble_eq_true rfl) rfl ?_
  refine r_aload_n C.1 0 11 rfl dJ5_charAt_5068e_10 rfl ?_
  refine r_getI C.1 3 sb_n rfl ha0 14 rfl dJ5_charAt_5068e_11 ?_
  rw [hn]
  refine r_aload_n C.1 3 15 rfl dJ5_charAt_5068e_14 rfl ?_
  refine r_alen C.1 hqs 16 rfl dJ5_charAt_5068e_15 ?_
  refine r_iload_n C.1 2 17 rfl dJ5_charAt_5068e_16 rfl ?_
  refine r_ishr C.1 18 rfl dJ5_charAt_5068e_17 ?_
  rw [sh0r]
  refine r_mmin C.1 mx5 ⟨(Nat.le_of_ble_eq_true rfl), (Nat.le_of_ble_eq_true rfl)⟩ ⟨(Nat.le_of_ble_eq_true rfl), (Nat.le_of_ble_eq_true rfl)⟩ 21 rfl dJ5_charAt_5068e_18 ?_
  rw [e1]
  refine r_istore C.1 (lv' := [(0, .ref a0), (1, .int (oN i)), (2, .int 0), (3, .ref q), (4, .int (oN n))]) [1, 2, 3, 4, 0] 23 rfl dJ5_charAt_5068e_21 (Nat.le_of_ble_eq_true rfl) rfl ?_
  refine r_iload_n C.1 1 24 rfl dJ5_charAt_5068e_23 rfl ?_
  refine r_iload C.1 4 26 rfl dJ5_charAt_5068e_24 rfl ?_
  refine r_cSv C.1 (st := []) (c_J0_checkIndex_df160 e2) ys_ci ml5_ci rfl ⟨(Nat.le_of_ble_eq_true rfl), (Nat.le_of_ble_eq_true rfl)⟩ ⟨(Nat.le_of_ble_eq_true rfl), (Nat.le_of_ble_eq_true rfl)⟩ (Nat.le_of_ble_eq_true rfl) rfl 0 0 rfl rfl 29 rfl dJ5_charAt_5068e_26 ?_
  refine r_iload_n C.1 2 30 rfl dJ5_charAt_5068e_29 rfl ?_
  refine r_if_ne C.1 42 33 rfl dJ5_charAt_5068e_30 rfl ⟨fun c => absurd (rfl : (0 : Int32) = 0) c, fun _ => ?_⟩
  refine r_aload_n C.1 3 34 rfl dJ5_charAt_5068e_33 rfl ?_
  refine r_iload_n C.1 1 35 rfl dJ5_charAt_5068e_34 rfl ?_
  refine r_bald C.1 hqs ((oN_jin (by omega)).mpr (by omega)) 36 rfl dJ5_charAt_5068e_35 ?_
  rw [oN_ix (by omega), e3]
  refine r_sipush C.1 255 rfl 39 rfl dJ5_charAt_5068e_36 ?_
  refine r_iand C.1 40 rfl dJ5_charAt_5068e_39 ?_
  refine r_i2c C.1 41 rfl dJ5_charAt_5068e_40 ?_
  rw [c1]
  refine r_zret C rfl c2 (Nat.le_of_ble_eq_true rfl) (Nat.le_of_ble_eq_true rfl) dJ5_charAt_5068e_41 ?_
  rw [jOut_q, ho]; exact ⟨rfl, rfl⟩
