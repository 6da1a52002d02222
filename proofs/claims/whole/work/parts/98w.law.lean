/-! ===== layer 3: the law: every call, and the loop over them ===== -/
section LAW
variable {ad : Nat → Nat} {κ : jKt} {K K' L : Nat} {xs : Nat → Int32} {v5 : Int32} {K28 : jKt → Int32 → Option (Int32 × jKt)} {Kt : jKt → Option (Int32 × jKt)}
theorem lgc (x : Int64) : lg_cmp x x = 0 := by simp [lg_cmp]
theorem LS_tail {cl : Option (Int32 × jKt)} {md : jKt → Option (Int32 × jKt)} (h : LSt ad K' cl md) (hk : K' ≤ K + 64) (G : ∀ κ', INV ad κ' (K + 64) → ∃ r, Kt κ' = some (1, r)) :
    ∃ r, (bd2 cl fun y κ1 => bd2 (md κ1) fun y2 κ2 => bd (P_X7_thrown κ2 (ad 20)) fun t => if t = y then if y = 0 then if (lg_cmp (kL κ2 (ad 40) (ix 0)) y2.toInt64) = 0 then Kt κ2 else some (0, κ2) else Kt κ2 else some (0, κ2)) = some (1, r) := by
  obtain ⟨t, κ1, y, κ2, h1, h2, h3, h4, h5⟩ := h
  obtain ⟨r, hr⟩ := G κ2 (h5.up hk)
  refine ⟨r, ?_⟩
  unfold P_X7_thrown
  rw [h1, bd2_s, h2, bd2_s, bd_s, if_pos h3]
  by_cases z : t = 0
  · rw [if_pos z, show ix 0 = 0 from rfl, h4 z, if_pos (lgc _)]; exact hr
  · rw [if_neg z]; exact hr
theorem LB_tail {cl : Option (Int32 × jKt)} {md : jKt → Option (Int32 × jKt)} (h : LBt ad K' cl md) (hk : K' ≤ K + 64) (G : ∀ κ', INV ad κ' (K + 64) → ∃ r, Kt κ' = some (1, r)) :
    ∃ r, (bd2 cl fun y κ1 => bd2 (md κ1) fun y2 κ2 => bd (P_X7_thrown κ2 (ad 20)) fun t => if t = y then if y = 0 then if y2 = 0 then (if (lg_cmp (kL κ2 (ad 40) (ix 0)) 0) = 0 then Kt κ2 else some (0, κ2)) else (if (lg_cmp (kL κ2 (ad 40) (ix 0)) 1) = 0 then Kt κ2 else some (0, κ2)) else Kt κ2 else some (0, κ2)) = some (1, r) := by
  obtain ⟨t, κ1, y, κ2, h1, h2, h3, h4, h5⟩ := h
  obtain ⟨r, hr⟩ := G κ2 (h5.up hk)
  refine ⟨r, ?_⟩
  unfold P_X7_thrown
  rw [h1, bd2_s, h2, bd2_s, bd_s, if_pos h3]
  by_cases z : t = 0
  · rw [if_pos z, show ix 0 = 0 from rfl, h4 z]
    by_cases q : y = 0
    · rw [if_pos q, if_pos q, if_pos (lgc _)]; exact hr
    · rw [if_neg q, if_neg q, if_pos (lgc _)]; exact hr
  · rw [if_neg z]; exact hr
theorem LD_tail {cl : Option (Int32 × jKt)} {md : jKt → Option (UInt64 × jKt)} (h : LDt ad K' cl md) (hk : K' ≤ K + 64) (G : ∀ κ', INV ad κ' (K + 64) → ∃ r, Kt κ' = some (1, r)) :
    ∃ r, (bd2 cl fun y κ1 => bd2 (md κ1) fun y2 κ2 => bd (P_X7_thrown κ2 (ad 20)) fun t => if t = y then if y = 0 then if (Op.cmpValue (FP.dcmp (kD κ2 (ad 41) (ix 0)) y2) .l) = 0 then Kt κ2 else if (Op.cmpValue (FP.dcmp (kD κ2 (ad 41) (ix 0)) (kD κ2 (ad 41) (ix 0))) .l) = 0 then some (0, κ2) else if (Op.cmpValue (FP.dcmp y2 y2) .l) = 0 then some (0, κ2) else Kt κ2 else Kt κ2 else some (0, κ2)) = some (1, r) := by
  obtain ⟨t, κ1, y, κ2, h1, h2, h3, h4, h5⟩ := h
  obtain ⟨r, hr⟩ := G κ2 (h5.up hk)
  refine ⟨r, ?_⟩
  unfold P_X7_thrown
  rw [h1, bd2_s, h2, bd2_s, bd_s, if_pos h3]
  by_cases z : t = 0
  · rw [if_pos z, show ix 0 = 0 from rfl, (h4 z).1, if_pos (fl_c (h4 z).2)]; exact hr
  · rw [if_neg z]; exact hr
theorem LF_tail {cl : Option (Int32 × jKt)} {md : jKt → Option (UInt32 × jKt)} (h : LFt ad K' cl md) (hk : K' ≤ K + 64) (G : ∀ κ', INV ad κ' (K + 64) → ∃ r, Kt κ' = some (1, r)) :
    ∃ r, (bd2 cl fun y κ1 => bd2 (md κ1) fun y2 κ2 => bd (P_X7_thrown κ2 (ad 20)) fun t => if t = y then if y = 0 then ck ((FP.f2d y2) &&& 0x7fffffffffffffff ≤ 0x7ff0000000000000) <| if (Op.cmpValue (FP.dcmp (kD κ2 (ad 41) (ix 0)) (FP.f2d y2)) .l) = 0 then Kt κ2 else if (Op.cmpValue (FP.dcmp (kD κ2 (ad 41) (ix 0)) (kD κ2 (ad 41) (ix 0))) .l) = 0 then some (0, κ2) else if (Op.cmpValue (FP.fcmp y2 y2) .l) = 0 then some (0, κ2) else Kt κ2 else Kt κ2 else some (0, κ2)) = some (1, r) := by
  obtain ⟨t, κ1, y, κ2, h1, h2, h3, h4, h5⟩ := h
  obtain ⟨r, hr⟩ := G κ2 (h5.up hk)
  refine ⟨r, ?_⟩
  unfold P_X7_thrown
  rw [h1, bd2_s, h2, bd2_s, bd_s, if_pos h3]
  by_cases z : t = 0
  · rw [if_pos z, ck_t (fl_d (h4 z).2), show ix 0 = 0 from rfl, (h4 z).1, if_pos (fl_c (fl_d (h4 z).2))]; exact hr
  · rw [if_neg z]; exact hr
theorem LN_tail {cl : Option Int32} {m : Option (Int32 × jKt)} (h : LNt ad K' cl m) (hk : K' ≤ K + 64) (G : ∀ κ', INV ad κ' (K + 64) → ∃ r, Kt κ' = some (1, r)) :
    ∃ r, (bd cl fun y => bd2 m fun y2 κ2 => if y = y2 then Kt κ2 else some (0, κ2)) = some (1, r) := by
  obtain ⟨x, κ2, h1, h2, h5⟩ := h
  obtain ⟨r, hr⟩ := G κ2 (h5.up hk)
  exact ⟨r, by rw [h1, bd_s, h2, bd2_s, if_pos rfl]; exact hr⟩
theorem LE_tail {cl : Option (Int32 × jKt)} {md : jKt → Option (Int32 × jKt)} (h : ∃ x κ1 κ2, cl = some (x, κ1) ∧ md κ1 = some (x, κ2) ∧ INV ad κ2 K') (hk : K' ≤ K + 64) (G : ∀ κ', INV ad κ' (K + 64) → ∃ r, Kt κ' = some (1, r)) :
    ∃ r, (bd2 cl fun y κ1 => bd2 (md κ1) fun y2 κ2 => if y = y2 then Kt κ2 else some (0, κ2)) = some (1, r) := by
  obtain ⟨x, κ1, κ2, h1, h2, h5⟩ := h
  obtain ⟨r, hr⟩ := G κ2 (h5.up hk)
  exact ⟨r, by rw [h1, bd2_s, h2, bd2_s, if_pos rfl]; exact hr⟩
theorem q_272 (hi : ∀ a b, ad a = ad b → a = b) (j1 : jin (v5 + 1) L) (j2 : jin (v5 + 2) L) (j3 : jin (v5 + 3) L) (hI : INV ad κ K) (hK : K < 2 ^ 29) (G : ∀ κ', INV ad κ' (K + 64) → ∃ r, K28 κ' (v5 + 4) = some (1, r)) : ∃ r, P_L_law_272 xs L κ (ad 0) (ad 20) (ad 40) (ad 41) v5 K28 = some (1, r) := by
  unfold P_L_law_272
  simp only [ck_t j1, ck_t j2]
  exact LS_tail (Kt := fun κ' => P_L_law_3082 xs L κ' (ad 0) (ad 20) (ad 40) (ad 41) v5 K28) (l_buyCloth hi hI (by omega) (xs (ix (v5 + 1))) (xs (ix (v5 + 2)))) (by omega) G
theorem q_340 (hi : ∀ a b, ad a = ad b → a = b) (j1 : jin (v5 + 1) L) (j2 : jin (v5 + 2) L) (j3 : jin (v5 + 3) L) (hI : INV ad κ K) (hK : K < 2 ^ 29) (G : ∀ κ', INV ad κ' (K + 64) → ∃ r, K28 κ' (v5 + 4) = some (1, r)) : ∃ r, P_L_law_340 xs L κ (ad 0) (ad 20) (ad 40) (ad 41) v5 K28 = some (1, r) := by
  unfold P_L_law_340
  simp only [ck_t j1, ck_t j2]
  exact LS_tail (Kt := fun κ' => P_L_law_3082 xs L κ' (ad 0) (ad 20) (ad 40) (ad 41) v5 K28) (l_addCustomer hi hI (by omega) (xs (ix (v5 + 1))) (xs (ix (v5 + 2)))) (by omega) G
theorem q_408 (hi : ∀ a b, ad a = ad b → a = b) (j1 : jin (v5 + 1) L) (j2 : jin (v5 + 2) L) (j3 : jin (v5 + 3) L) (hI : INV ad κ K) (hK : K < 2 ^ 29) (G : ∀ κ', INV ad κ' (K + 64) → ∃ r, K28 κ' (v5 + 4) = some (1, r)) : ∃ r, P_L_law_408 xs L κ (ad 0) (ad 20) (ad 40) (ad 41) v5 K28 = some (1, r) := by
  unfold P_L_law_408
  simp only [ck_t j1, ck_t j2, ck_t j3]
  exact LS_tail (Kt := fun κ' => P_L_law_3082 xs L κ' (ad 0) (ad 20) (ad 40) (ad 41) v5 K28) (l_fit hi hI (by omega) (xs (ix (v5 + 1))) (xs (ix (v5 + 2))) (xs (ix (v5 + 3)))) (by omega) G
theorem q_488 (hi : ∀ a b, ad a = ad b → a = b) (j1 : jin (v5 + 1) L) (j2 : jin (v5 + 2) L) (j3 : jin (v5 + 3) L) (hI : INV ad κ K) (hK : K < 2 ^ 29) (G : ∀ κ', INV ad κ' (K + 64) → ∃ r, K28 κ' (v5 + 4) = some (1, r)) : ∃ r, P_L_law_488 xs L κ (ad 0) (ad 20) (ad 40) (ad 41) v5 K28 = some (1, r) := by
  unfold P_L_law_488
  simp only [ck_t j1, ck_t j2]
  exact LS_tail (Kt := fun κ' => P_L_law_3082 xs L κ' (ad 0) (ad 20) (ad 40) (ad 41) v5 K28) (l_orderSuit hi hI (by omega) (xs (ix (v5 + 1))) (xs (ix (v5 + 2)))) (by omega) G
theorem q_556 (hi : ∀ a b, ad a = ad b → a = b) (j1 : jin (v5 + 1) L) (j2 : jin (v5 + 2) L) (j3 : jin (v5 + 3) L) (hI : INV ad κ K) (hK : K < 2 ^ 29) (G : ∀ κ', INV ad κ' (K + 64) → ∃ r, K28 κ' (v5 + 4) = some (1, r)) : ∃ r, P_L_law_556 xs L κ (ad 0) (ad 20) (ad 40) (ad 41) v5 K28 = some (1, r) := by
  unfold P_L_law_556
  simp only [ck_t j1, ck_t j2]
  exact LS_tail (Kt := fun κ' => P_L_law_3082 xs L κ' (ad 0) (ad 20) (ad 40) (ad 41) v5 K28) (l_cut hi hI (by omega) (xs (ix (v5 + 1))) (xs (ix (v5 + 2)))) (by omega) G
theorem q_624 (hi : ∀ a b, ad a = ad b → a = b) (j1 : jin (v5 + 1) L) (j2 : jin (v5 + 2) L) (j3 : jin (v5 + 3) L) (hI : INV ad κ K) (hK : K < 2 ^ 29) (G : ∀ κ', INV ad κ' (K + 64) → ∃ r, K28 κ' (v5 + 4) = some (1, r)) : ∃ r, P_L_law_624 xs L κ (ad 0) (ad 20) (ad 40) (ad 41) v5 K28 = some (1, r) := by
  unfold P_L_law_624
  simp only [ck_t j1, ck_t j2]
  exact LS_tail (Kt := fun κ' => P_L_law_3082 xs L κ' (ad 0) (ad 20) (ad 40) (ad 41) v5 K28) (l_sew hi hI (by omega) (xs (ix (v5 + 1))) (xs (ix (v5 + 2)))) (by omega) G
theorem q_692 (hi : ∀ a b, ad a = ad b → a = b) (j1 : jin (v5 + 1) L) (j2 : jin (v5 + 2) L) (j3 : jin (v5 + 3) L) (hI : INV ad κ K) (hK : K < 2 ^ 29) (G : ∀ κ', INV ad κ' (K + 64) → ∃ r, K28 κ' (v5 + 4) = some (1, r)) : ∃ r, P_L_law_692 xs L κ (ad 0) (ad 20) (ad 40) (ad 41) v5 K28 = some (1, r) := by
  unfold P_L_law_692
  simp only [ck_t j1, ck_t j2]
  exact LS_tail (Kt := fun κ' => P_L_law_3082 xs L κ' (ad 0) (ad 20) (ad 40) (ad 41) v5 K28) (l_unpick hi hI (by omega) (xs (ix (v5 + 1))) (xs (ix (v5 + 2)))) (by omega) G
theorem q_760 (hi : ∀ a b, ad a = ad b → a = b) (j1 : jin (v5 + 1) L) (j2 : jin (v5 + 2) L) (j3 : jin (v5 + 3) L) (hI : INV ad κ K) (hK : K < 2 ^ 29) (G : ∀ κ', INV ad κ' (K + 64) → ∃ r, K28 κ' (v5 + 4) = some (1, r)) : ∃ r, P_L_law_760 xs L κ (ad 0) (ad 20) (ad 40) (ad 41) v5 K28 = some (1, r) := by
  unfold P_L_law_760
  simp only [ck_t j1, ck_t j2, ck_t j3]
  exact LS_tail (Kt := fun κ' => P_L_law_3082 xs L κ' (ad 0) (ad 20) (ad 40) (ad 41) v5 K28) (l_demand hi hI (by omega) (xs (ix (v5 + 1))) (xs (ix (v5 + 2))) (xs (ix (v5 + 3)))) (by omega) G
theorem q_840 (hi : ∀ a b, ad a = ad b → a = b) (j1 : jin (v5 + 1) L) (j2 : jin (v5 + 2) L) (j3 : jin (v5 + 3) L) (hI : INV ad κ K) (hK : K < 2 ^ 29) (G : ∀ κ', INV ad κ' (K + 64) → ∃ r, K28 κ' (v5 + 4) = some (1, r)) : ∃ r, P_L_law_840 xs L κ (ad 0) (ad 20) (ad 40) (ad 41) v5 K28 = some (1, r) := by
  unfold P_L_law_840
  simp only [ck_t j1]
  exact LS_tail (Kt := fun κ' => P_L_law_3082 xs L κ' (ad 0) (ad 20) (ad 40) (ad 41) v5 K28) (l_deliver hi hI (by omega) (xs (ix (v5 + 1)))) (by omega) G
theorem q_896 (hi : ∀ a b, ad a = ad b → a = b) (j1 : jin (v5 + 1) L) (j2 : jin (v5 + 2) L) (j3 : jin (v5 + 3) L) (hI : INV ad κ K) (hK : K < 2 ^ 29) (G : ∀ κ', INV ad κ' (K + 64) → ∃ r, K28 κ' (v5 + 4) = some (1, r)) : ∃ r, P_L_law_896 xs L κ (ad 0) (ad 20) (ad 40) (ad 41) v5 K28 = some (1, r) := by
  unfold P_L_law_896
  simp only [ck_t j1]
  exact LS_tail (Kt := fun κ' => P_L_law_3082 xs L κ' (ad 0) (ad 20) (ad 40) (ad 41) v5 K28) (l_scrap hi hI (by omega) (xs (ix (v5 + 1)))) (by omega) G
theorem q_952 (hi : ∀ a b, ad a = ad b → a = b) (j1 : jin (v5 + 1) L) (j2 : jin (v5 + 2) L) (j3 : jin (v5 + 3) L) (hI : INV ad κ K) (hK : K < 2 ^ 29) (G : ∀ κ', INV ad κ' (K + 64) → ∃ r, K28 κ' (v5 + 4) = some (1, r)) : ∃ r, P_L_law_952 xs L κ (ad 0) (ad 20) (ad 40) (ad 41) v5 K28 = some (1, r) := by
  unfold P_L_law_952
  simp only [ck_t j1]
  exact LS_tail (Kt := fun κ' => P_L_law_3082 xs L κ' (ad 0) (ad 20) (ad 40) (ad 41) v5 K28) (l_stock hi hI (xs (ix (v5 + 1)))) (by omega) G
theorem q_1008 (hi : ∀ a b, ad a = ad b → a = b) (j1 : jin (v5 + 1) L) (j2 : jin (v5 + 2) L) (j3 : jin (v5 + 3) L) (hI : INV ad κ K) (hK : K < 2 ^ 29) (G : ∀ κ', INV ad κ' (K + 64) → ∃ r, K28 κ' (v5 + 4) = some (1, r)) : ∃ r, P_L_law_1008 xs L κ (ad 0) (ad 20) (ad 40) (ad 41) v5 K28 = some (1, r) := by
  unfold P_L_law_1008
  exact LN_tail (Kt := fun κ' => P_L_law_3082 xs L κ' (ad 0) (ad 20) (ad 40) (ad 41) v5 K28) (l_customerCount hi hI) (by omega) G
theorem q_1021 (hi : ∀ a b, ad a = ad b → a = b) (j1 : jin (v5 + 1) L) (j2 : jin (v5 + 2) L) (j3 : jin (v5 + 3) L) (hI : INV ad κ K) (hK : K < 2 ^ 29) (G : ∀ κ', INV ad κ' (K + 64) → ∃ r, K28 κ' (v5 + 4) = some (1, r)) : ∃ r, P_L_law_1021 xs L κ (ad 0) (ad 20) (ad 40) (ad 41) v5 K28 = some (1, r) := by
  unfold P_L_law_1021
  simp only [ck_t j1]
  exact LS_tail (Kt := fun κ' => P_L_law_3082 xs L κ' (ad 0) (ad 20) (ad 40) (ad 41) v5 K28) (l_pairs hi hI (xs (ix (v5 + 1)))) (by omega) G
theorem q_1077 (hi : ∀ a b, ad a = ad b → a = b) (j1 : jin (v5 + 1) L) (j2 : jin (v5 + 2) L) (j3 : jin (v5 + 3) L) (hI : INV ad κ K) (hK : K < 2 ^ 29) (G : ∀ κ', INV ad κ' (K + 64) → ∃ r, K28 κ' (v5 + 4) = some (1, r)) : ∃ r, P_L_law_1077 xs L κ (ad 0) (ad 20) (ad 40) (ad 41) v5 K28 = some (1, r) := by
  unfold P_L_law_1077
  simp only [ck_t j1, ck_t j2]
  exact LS_tail (Kt := fun κ' => P_L_law_3082 xs L κ' (ad 0) (ad 20) (ad 40) (ad 41) v5 K28) (l_legLength hi hI (xs (ix (v5 + 1))) (xs (ix (v5 + 2)))) (by omega) G
theorem q_1145 (hi : ∀ a b, ad a = ad b → a = b) (j1 : jin (v5 + 1) L) (j2 : jin (v5 + 2) L) (j3 : jin (v5 + 3) L) (hI : INV ad κ K) (hK : K < 2 ^ 29) (G : ∀ κ', INV ad κ' (K + 64) → ∃ r, K28 κ' (v5 + 4) = some (1, r)) : ∃ r, P_L_law_1145 xs L κ (ad 0) (ad 20) (ad 40) (ad 41) v5 K28 = some (1, r) := by
  unfold P_L_law_1145
  simp only [ck_t j1, ck_t j2]
  exact LS_tail (Kt := fun κ' => P_L_law_3082 xs L κ' (ad 0) (ad 20) (ad 40) (ad 41) v5 K28) (l_mirrorLeg hi hI (xs (ix (v5 + 1))) (xs (ix (v5 + 2)))) (by omega) G
theorem q_1213 (hi : ∀ a b, ad a = ad b → a = b) (j1 : jin (v5 + 1) L) (j2 : jin (v5 + 2) L) (j3 : jin (v5 + 3) L) (hI : INV ad κ K) (hK : K < 2 ^ 29) (G : ∀ κ', INV ad κ' (K + 64) → ∃ r, K28 κ' (v5 + 4) = some (1, r)) : ∃ r, P_L_law_1213 xs L κ (ad 0) (ad 20) (ad 40) (ad 41) v5 K28 = some (1, r) := by
  unfold P_L_law_1213 P_L_law_1267
  simp only [ck_t j1]
  exact LB_tail (Kt := fun κ' => P_L_law_3082 xs L κ' (ad 0) (ad 20) (ad 40) (ad 41) v5 K28) (l_isMirrored hi hI (xs (ix (v5 + 1)))) (by omega) G
theorem q_1276 (hi : ∀ a b, ad a = ad b → a = b) (j1 : jin (v5 + 1) L) (j2 : jin (v5 + 2) L) (j3 : jin (v5 + 3) L) (hI : INV ad κ K) (hK : K < 2 ^ 29) (G : ∀ κ', INV ad κ' (K + 64) → ∃ r, K28 κ' (v5 + 4) = some (1, r)) : ∃ r, P_L_law_1276 xs L κ (ad 0) (ad 20) (ad 40) (ad 41) v5 K28 = some (1, r) := by
  unfold P_L_law_1276
  simp only [ck_t j1]
  exact LS_tail (Kt := fun κ' => P_L_law_3082 xs L κ' (ad 0) (ad 20) (ad 40) (ad 41) v5 K28) (l_customerByLegs hi hI (xs (ix (v5 + 1)))) (by omega) G
theorem q_1332 (hi : ∀ a b, ad a = ad b → a = b) (j1 : jin (v5 + 1) L) (j2 : jin (v5 + 2) L) (j3 : jin (v5 + 3) L) (hI : INV ad κ K) (hK : K < 2 ^ 29) (G : ∀ κ', INV ad κ' (K + 64) → ∃ r, K28 κ' (v5 + 4) = some (1, r)) : ∃ r, P_L_law_1332 xs L κ (ad 0) (ad 20) (ad 40) (ad 41) v5 K28 = some (1, r) := by
  unfold P_L_law_1332
  exact LN_tail (Kt := fun κ' => P_L_law_3082 xs L κ' (ad 0) (ad 20) (ad 40) (ad 41) v5 K28) (l_suitCount hi hI) (by omega) G
theorem q_1345 (hi : ∀ a b, ad a = ad b → a = b) (j1 : jin (v5 + 1) L) (j2 : jin (v5 + 2) L) (j3 : jin (v5 + 3) L) (hI : INV ad κ K) (hK : K < 2 ^ 29) (G : ∀ κ', INV ad κ' (K + 64) → ∃ r, K28 κ' (v5 + 4) = some (1, r)) : ∃ r, P_L_law_1345 xs L κ (ad 0) (ad 20) (ad 40) (ad 41) v5 K28 = some (1, r) := by
  unfold P_L_law_1345
  simp only [ck_t j1]
  exact LS_tail (Kt := fun κ' => P_L_law_3082 xs L κ' (ad 0) (ad 20) (ad 40) (ad 41) v5 K28) (l_suitAt hi hI (xs (ix (v5 + 1)))) (by omega) G
theorem q_1401 (hi : ∀ a b, ad a = ad b → a = b) (j1 : jin (v5 + 1) L) (j2 : jin (v5 + 2) L) (j3 : jin (v5 + 3) L) (hI : INV ad κ K) (hK : K < 2 ^ 29) (G : ∀ κ', INV ad κ' (K + 64) → ∃ r, K28 κ' (v5 + 4) = some (1, r)) : ∃ r, P_L_law_1401 xs L κ (ad 0) (ad 20) (ad 40) (ad 41) v5 K28 = some (1, r) := by
  unfold P_L_law_1401
  simp only [ck_t j1]
  exact LS_tail (Kt := fun κ' => P_L_law_3082 xs L κ' (ad 0) (ad 20) (ad 40) (ad 41) v5 K28) (l_customerOf hi hI (xs (ix (v5 + 1)))) (by omega) G
theorem q_1457 (hi : ∀ a b, ad a = ad b → a = b) (j1 : jin (v5 + 1) L) (j2 : jin (v5 + 2) L) (j3 : jin (v5 + 3) L) (hI : INV ad κ K) (hK : K < 2 ^ 29) (G : ∀ κ', INV ad κ' (K + 64) → ∃ r, K28 κ' (v5 + 4) = some (1, r)) : ∃ r, P_L_law_1457 xs L κ (ad 0) (ad 20) (ad 40) (ad 41) v5 K28 = some (1, r) := by
  unfold P_L_law_1457
  simp only [ck_t j1]
  exact LS_tail (Kt := fun κ' => P_L_law_3082 xs L κ' (ad 0) (ad 20) (ad 40) (ad 41) v5 K28) (l_clothOf hi hI (xs (ix (v5 + 1)))) (by omega) G
theorem q_1513 (hi : ∀ a b, ad a = ad b → a = b) (j1 : jin (v5 + 1) L) (j2 : jin (v5 + 2) L) (j3 : jin (v5 + 3) L) (hI : INV ad κ K) (hK : K < 2 ^ 29) (G : ∀ κ', INV ad κ' (K + 64) → ∃ r, K28 κ' (v5 + 4) = some (1, r)) : ∃ r, P_L_law_1513 xs L κ (ad 0) (ad 20) (ad 40) (ad 41) v5 K28 = some (1, r) := by
  unfold P_L_law_1513
  simp only [ck_t j1, ck_t j2]
  exact LS_tail (Kt := fun κ' => P_L_law_3082 xs L κ' (ad 0) (ad 20) (ad 40) (ad 41) v5 K28) (l_sleeveState hi hI (xs (ix (v5 + 1))) (xs (ix (v5 + 2)))) (by omega) G
theorem q_1581 (hi : ∀ a b, ad a = ad b → a = b) (j1 : jin (v5 + 1) L) (j2 : jin (v5 + 2) L) (j3 : jin (v5 + 3) L) (hI : INV ad κ K) (hK : K < 2 ^ 29) (G : ∀ κ', INV ad κ' (K + 64) → ∃ r, K28 κ' (v5 + 4) = some (1, r)) : ∃ r, P_L_law_1581 xs L κ (ad 0) (ad 20) (ad 40) (ad 41) v5 K28 = some (1, r) := by
  unfold P_L_law_1581
  simp only [ck_t j1, ck_t j2]
  exact LS_tail (Kt := fun κ' => P_L_law_3082 xs L κ' (ad 0) (ad 20) (ad 40) (ad 41) v5 K28) (l_sleeveLength hi hI (xs (ix (v5 + 1))) (xs (ix (v5 + 2)))) (by omega) G
theorem q_1649 (hi : ∀ a b, ad a = ad b → a = b) (j1 : jin (v5 + 1) L) (j2 : jin (v5 + 2) L) (j3 : jin (v5 + 3) L) (hI : INV ad κ K) (hK : K < 2 ^ 29) (G : ∀ κ', INV ad κ' (K + 64) → ∃ r, K28 κ' (v5 + 4) = some (1, r)) : ∃ r, P_L_law_1649 xs L κ (ad 0) (ad 20) (ad 40) (ad 41) v5 K28 = some (1, r) := by
  unfold P_L_law_1649 P_L_law_1715
  simp only [ck_t j1, ck_t j2]
  exact LB_tail (Kt := fun κ' => P_L_law_3082 xs L κ' (ad 0) (ad 20) (ad 40) (ad 41) v5 K28) (l_doesFit hi hI (xs (ix (v5 + 1))) (xs (ix (v5 + 2)))) (by omega) G
theorem q_1724 (hi : ∀ a b, ad a = ad b → a = b) (j1 : jin (v5 + 1) L) (j2 : jin (v5 + 2) L) (j3 : jin (v5 + 3) L) (hI : INV ad κ K) (hK : K < 2 ^ 29) (G : ∀ κ', INV ad κ' (K + 64) → ∃ r, K28 κ' (v5 + 4) = some (1, r)) : ∃ r, P_L_law_1724 xs L κ (ad 0) (ad 20) (ad 40) (ad 41) v5 K28 = some (1, r) := by
  unfold P_L_law_1724
  simp only [ck_t j1]
  exact LS_tail (Kt := fun κ' => P_L_law_3082 xs L κ' (ad 0) (ad 20) (ad 40) (ad 41) v5 K28) (l_sewnSleeves hi hI (xs (ix (v5 + 1)))) (by omega) G
theorem q_1780 (hi : ∀ a b, ad a = ad b → a = b) (j1 : jin (v5 + 1) L) (j2 : jin (v5 + 2) L) (j3 : jin (v5 + 3) L) (hI : INV ad κ K) (hK : K < 2 ^ 29) (G : ∀ κ', INV ad κ' (K + 64) → ∃ r, K28 κ' (v5 + 4) = some (1, r)) : ∃ r, P_L_law_1780 xs L κ (ad 0) (ad 20) (ad 40) (ad 41) v5 K28 = some (1, r) := by
  unfold P_L_law_1780
  simp only [ck_t j1]
  exact LS_tail (Kt := fun κ' => P_L_law_3082 xs L κ' (ad 0) (ad 20) (ad 40) (ad 41) v5 K28) (l_demandCount hi hI (xs (ix (v5 + 1)))) (by omega) G
theorem q_1836 (hi : ∀ a b, ad a = ad b → a = b) (j1 : jin (v5 + 1) L) (j2 : jin (v5 + 2) L) (j3 : jin (v5 + 3) L) (hI : INV ad κ K) (hK : K < 2 ^ 29) (G : ∀ κ', INV ad κ' (K + 64) → ∃ r, K28 κ' (v5 + 4) = some (1, r)) : ∃ r, P_L_law_1836 xs L κ (ad 0) (ad 20) (ad 40) (ad 41) v5 K28 = some (1, r) := by
  unfold P_L_law_1836 P_L_law_1914
  simp only [ck_t j1, ck_t j2, ck_t j3]
  exact LB_tail (Kt := fun κ' => P_L_law_3082 xs L κ' (ad 0) (ad 20) (ad 40) (ad 41) v5 K28) (l_isBefore hi hI (xs (ix (v5 + 1))) (xs (ix (v5 + 2))) (xs (ix (v5 + 3)))) (by omega) G
theorem q_1923 (hi : ∀ a b, ad a = ad b → a = b) (j1 : jin (v5 + 1) L) (j2 : jin (v5 + 2) L) (j3 : jin (v5 + 3) L) (hI : INV ad κ K) (hK : K < 2 ^ 29) (G : ∀ κ', INV ad κ' (K + 64) → ∃ r, K28 κ' (v5 + 4) = some (1, r)) : ∃ r, P_L_law_1923 xs L κ (ad 0) (ad 20) (ad 40) (ad 41) v5 K28 = some (1, r) := by
  unfold P_L_law_1923 P_L_law_1977
  simp only [ck_t j1]
  exact LB_tail (Kt := fun κ' => P_L_law_3082 xs L κ' (ad 0) (ad 20) (ad 40) (ad 41) v5 K28) (l_canDeliver hi hI (xs (ix (v5 + 1)))) (by omega) G
theorem q_1986 (hi : ∀ a b, ad a = ad b → a = b) (j1 : jin (v5 + 1) L) (j2 : jin (v5 + 2) L) (j3 : jin (v5 + 3) L) (hI : INV ad κ K) (hK : K < 2 ^ 29) (G : ∀ κ', INV ad κ' (K + 64) → ∃ r, K28 κ' (v5 + 4) = some (1, r)) : ∃ r, P_L_law_1986 xs L κ (ad 0) (ad 20) (ad 40) (ad 41) v5 K28 = some (1, r) := by
  unfold P_L_law_1986
  simp only [ck_t j1]
  exact LS_tail (Kt := fun κ' => P_L_law_3082 xs L κ' (ad 0) (ad 20) (ad 40) (ad 41) v5 K28) (l_price hi hI (xs (ix (v5 + 1)))) (by omega) G
theorem q_2042 (hi : ∀ a b, ad a = ad b → a = b) (j1 : jin (v5 + 1) L) (j2 : jin (v5 + 2) L) (j3 : jin (v5 + 3) L) (hI : INV ad κ K) (hK : K < 2 ^ 29) (G : ∀ κ', INV ad κ' (K + 64) → ∃ r, K28 κ' (v5 + 4) = some (1, r)) : ∃ r, P_L_law_2042 xs L κ (ad 0) (ad 20) (ad 40) (ad 41) v5 K28 = some (1, r) := by
  unfold P_L_law_2042
  simp only [ck_t j1]
  exact LS_tail (Kt := fun κ' => P_L_law_3082 xs L κ' (ad 0) (ad 20) (ad 40) (ad 41) v5 K28) (l_sleevesLeft hi hI (xs (ix (v5 + 1)))) (by omega) G
theorem q_2098 (hi : ∀ a b, ad a = ad b → a = b) (j1 : jin (v5 + 1) L) (j2 : jin (v5 + 2) L) (j3 : jin (v5 + 3) L) (hI : INV ad κ K) (hK : K < 2 ^ 29) (G : ∀ κ', INV ad κ' (K + 64) → ∃ r, K28 κ' (v5 + 4) = some (1, r)) : ∃ r, P_L_law_2098 xs L κ (ad 0) (ad 20) (ad 40) (ad 41) v5 K28 = some (1, r) := by
  unfold P_L_law_2098
  simp only [ck_t j1, ck_t j2]
  exact LS_tail (Kt := fun κ' => P_L_law_3082 xs L κ' (ad 0) (ad 20) (ad 40) (ad 41) v5 K28) (l_sewingOrder hi hI (xs (ix (v5 + 1))) (xs (ix (v5 + 2)))) (by omega) G
theorem q_2166 (hi : ∀ a b, ad a = ad b → a = b) (j1 : jin (v5 + 1) L) (j2 : jin (v5 + 2) L) (j3 : jin (v5 + 3) L) (hI : INV ad κ K) (hK : K < 2 ^ 29) (G : ∀ κ', INV ad κ' (K + 64) → ∃ r, K28 κ' (v5 + 4) = some (1, r)) : ∃ r, P_L_law_2166 xs L κ (ad 0) (ad 20) (ad 40) (ad 41) v5 K28 = some (1, r) := by
  unfold P_L_law_2166
  simp only [ck_t j1, ck_t j2]
  exact LS_tail (Kt := fun κ' => P_L_law_3082 xs L κ' (ad 0) (ad 20) (ad 40) (ad 41) v5 K28) (l_sewingOrderByQueue hi hI (xs (ix (v5 + 1))) (xs (ix (v5 + 2)))) (by omega) G
theorem q_2234 (hi : ∀ a b, ad a = ad b → a = b) (j1 : jin (v5 + 1) L) (j2 : jin (v5 + 2) L) (j3 : jin (v5 + 3) L) (hI : INV ad κ K) (hK : K < 2 ^ 29) (G : ∀ κ', INV ad κ' (K + 64) → ∃ r, K28 κ' (v5 + 4) = some (1, r)) : ∃ r, P_L_law_2234 xs L κ (ad 0) (ad 20) (ad 40) (ad 41) v5 K28 = some (1, r) := by
  unfold P_L_law_2234
  simp only [ck_t j1]
  exact LS_tail (Kt := fun κ' => P_L_law_3082 xs L κ' (ad 0) (ad 20) (ad 40) (ad 41) v5 K28) (l_rounds hi hI (xs (ix (v5 + 1)))) (by omega) G
theorem q_2290 (hi : ∀ a b, ad a = ad b → a = b) (j1 : jin (v5 + 1) L) (j2 : jin (v5 + 2) L) (j3 : jin (v5 + 3) L) (hI : INV ad κ K) (hK : K < 2 ^ 29) (G : ∀ κ', INV ad κ' (K + 64) → ∃ r, K28 κ' (v5 + 4) = some (1, r)) : ∃ r, P_L_law_2290 xs L κ (ad 0) (ad 20) (ad 40) (ad 41) v5 K28 = some (1, r) := by
  unfold P_L_law_2290
  simp only [ck_t j1]
  exact LS_tail (Kt := fun κ' => P_L_law_3082 xs L κ' (ad 0) (ad 20) (ad 40) (ad 41) v5 K28) (l_clothNeeded hi hI (xs (ix (v5 + 1)))) (by omega) G
theorem q_2346 (hi : ∀ a b, ad a = ad b → a = b) (j1 : jin (v5 + 1) L) (j2 : jin (v5 + 2) L) (j3 : jin (v5 + 3) L) (hI : INV ad κ K) (hK : K < 2 ^ 29) (G : ∀ κ', INV ad κ' (K + 64) → ∃ r, K28 κ' (v5 + 4) = some (1, r)) : ∃ r, P_L_law_2346 xs L κ (ad 0) (ad 20) (ad 40) (ad 41) v5 K28 = some (1, r) := by
  unfold P_L_law_2346
  simp only [ck_t j1]
  exact LS_tail (Kt := fun κ' => P_L_law_3082 xs L κ' (ad 0) (ad 20) (ad 40) (ad 41) v5 K28) (l_clothNeededByDifference hi hI (xs (ix (v5 + 1)))) (by omega) G
theorem q_2402 (hi : ∀ a b, ad a = ad b → a = b) (j1 : jin (v5 + 1) L) (j2 : jin (v5 + 2) L) (j3 : jin (v5 + 3) L) (hI : INV ad κ K) (hK : K < 2 ^ 29) (G : ∀ κ', INV ad κ' (K + 64) → ∃ r, K28 κ' (v5 + 4) = some (1, r)) : ∃ r, P_L_law_2402 xs L κ (ad 0) (ad 20) (ad 40) (ad 41) v5 K28 = some (1, r) := by
  unfold P_L_law_2402
  exact LN_tail (Kt := fun κ' => P_L_law_3082 xs L κ' (ad 0) (ad 20) (ad 40) (ad 41) v5 K28) (l_boughtTotal hi hI) (by omega) G
theorem q_2415 (hi : ∀ a b, ad a = ad b → a = b) (j1 : jin (v5 + 1) L) (j2 : jin (v5 + 2) L) (j3 : jin (v5 + 3) L) (hI : INV ad κ K) (hK : K < 2 ^ 29) (G : ∀ κ', INV ad κ' (K + 64) → ∃ r, K28 κ' (v5 + 4) = some (1, r)) : ∃ r, P_L_law_2415 xs L κ (ad 0) (ad 20) (ad 40) (ad 41) v5 K28 = some (1, r) := by
  unfold P_L_law_2415
  exact LN_tail (Kt := fun κ' => P_L_law_3082 xs L κ' (ad 0) (ad 20) (ad 40) (ad 41) v5 K28) (l_wasteTotal hi hI) (by omega) G
theorem q_2428 (hi : ∀ a b, ad a = ad b → a = b) (j1 : jin (v5 + 1) L) (j2 : jin (v5 + 2) L) (j3 : jin (v5 + 3) L) (hI : INV ad κ K) (hK : K < 2 ^ 29) (G : ∀ κ', INV ad κ' (K + 64) → ∃ r, K28 κ' (v5 + 4) = some (1, r)) : ∃ r, P_L_law_2428 xs L κ (ad 0) (ad 20) (ad 40) (ad 41) v5 K28 = some (1, r) := by
  unfold P_L_law_2428
  exact LN_tail (Kt := fun κ' => P_L_law_3082 xs L κ' (ad 0) (ad 20) (ad 40) (ad 41) v5 K28) (l_deliveredTotal hi hI) (by omega) G
theorem q_2441 (hi : ∀ a b, ad a = ad b → a = b) (j1 : jin (v5 + 1) L) (j2 : jin (v5 + 2) L) (j3 : jin (v5 + 3) L) (hI : INV ad κ K) (hK : K < 2 ^ 29) (G : ∀ κ', INV ad κ' (K + 64) → ∃ r, K28 κ' (v5 + 4) = some (1, r)) : ∃ r, P_L_law_2441 xs L κ (ad 0) (ad 20) (ad 40) (ad 41) v5 K28 = some (1, r) := by
  unfold P_L_law_2441
  exact LN_tail (Kt := fun κ' => P_L_law_3082 xs L κ' (ad 0) (ad 20) (ad 40) (ad 41) v5 K28) (l_income hi hI) (by omega) G
theorem q_2454 (hi : ∀ a b, ad a = ad b → a = b) (j1 : jin (v5 + 1) L) (j2 : jin (v5 + 2) L) (j3 : jin (v5 + 3) L) (hI : INV ad κ K) (hK : K < 2 ^ 29) (G : ∀ κ', INV ad κ' (K + 64) → ∃ r, K28 κ' (v5 + 4) = some (1, r)) : ∃ r, P_L_law_2454 xs L κ (ad 0) (ad 20) (ad 40) (ad 41) v5 K28 = some (1, r) := by
  unfold P_L_law_2454
  exact LN_tail (Kt := fun κ' => P_L_law_3082 xs L κ' (ad 0) (ad 20) (ad 40) (ad 41) v5 K28) (l_deliveredSuits hi hI) (by omega) G
theorem q_2467 (hi : ∀ a b, ad a = ad b → a = b) (j1 : jin (v5 + 1) L) (j2 : jin (v5 + 2) L) (j3 : jin (v5 + 3) L) (hI : INV ad κ K) (hK : K < 2 ^ 29) (G : ∀ κ', INV ad κ' (K + 64) → ∃ r, K28 κ' (v5 + 4) = some (1, r)) : ∃ r, P_L_law_2467 xs L κ (ad 0) (ad 20) (ad 40) (ad 41) v5 K28 = some (1, r) := by
  unfold P_L_law_2467
  simp only [ck_t j1]
  exact LD_tail (Kt := fun κ' => P_L_law_3082 xs L κ' (ad 0) (ad 20) (ad 40) (ad 41) v5 K28) (l_meanLeg hi hI (xs (ix (v5 + 1)))) (by omega) G
theorem q_2544 (hi : ∀ a b, ad a = ad b → a = b) (j1 : jin (v5 + 1) L) (j2 : jin (v5 + 2) L) (j3 : jin (v5 + 3) L) (hI : INV ad κ K) (hK : K < 2 ^ 29) (G : ∀ κ', INV ad κ' (K + 64) → ∃ r, K28 κ' (v5 + 4) = some (1, r)) : ∃ r, P_L_law_2544 xs L κ (ad 0) (ad 20) (ad 40) (ad 41) v5 K28 = some (1, r) := by
  unfold P_L_law_2544
  exact LF_tail (Kt := fun κ' => P_L_law_3082 xs L κ' (ad 0) (ad 20) (ad 40) (ad 41) v5 K28) (l_wasteShare hi hI) (by omega) G
theorem q_2610 (hi : ∀ a b, ad a = ad b → a = b) (j1 : jin (v5 + 1) L) (j2 : jin (v5 + 2) L) (j3 : jin (v5 + 3) L) (hI : INV ad κ K) (hK : K < 2 ^ 29) (G : ∀ κ', INV ad κ' (K + 64) → ∃ r, K28 κ' (v5 + 4) = some (1, r)) : ∃ r, P_L_law_2610 xs L κ (ad 0) (ad 20) (ad 40) (ad 41) v5 K28 = some (1, r) := by
  unfold P_L_law_2610
  exact LE_tail (Kt := fun κ' => P_L_law_3082 xs L κ' (ad 0) (ad 20) (ad 40) (ad 41) v5 K28) (l_isConsistent hi hI) (by omega) G
theorem q_2623 (hi : ∀ a b, ad a = ad b → a = b) (j1 : jin (v5 + 1) L) (j2 : jin (v5 + 2) L) (j3 : jin (v5 + 3) L) (hI : INV ad κ K) (hK : K < 2 ^ 29) (G : ∀ κ', INV ad κ' (K + 64) → ∃ r, K28 κ' (v5 + 4) = some (1, r)) : ∃ r, P_L_law_2623 xs L κ (ad 0) (ad 20) (ad 40) (ad 41) v5 K28 = some (1, r) := by
  unfold P_L_law_2623
  simp only [ck_t j1]
  exact LS_tail (Kt := fun κ' => P_L_law_3082 xs L κ' (ad 0) (ad 20) (ad 40) (ad 41) v5 K28) (l_renderSuit hi hI (xs (ix (v5 + 1)))) (by omega) G
theorem q_2679 (hi : ∀ a b, ad a = ad b → a = b) (j1 : jin (v5 + 1) L) (j2 : jin (v5 + 2) L) (j3 : jin (v5 + 3) L) (hI : INV ad κ K) (hK : K < 2 ^ 29) (G : ∀ κ', INV ad κ' (K + 64) → ∃ r, K28 κ' (v5 + 4) = some (1, r)) : ∃ r, P_L_law_2679 xs L κ (ad 0) (ad 20) (ad 40) (ad 41) v5 K28 = some (1, r) := by
  unfold P_L_law_2679
  simp only [ck_t j1]
  exact LS_tail (Kt := fun κ' => P_L_law_3082 xs L κ' (ad 0) (ad 20) (ad 40) (ad 41) v5 K28) (l_renderOrder hi hI (xs (ix (v5 + 1)))) (by omega) G
theorem q_2735 (hi : ∀ a b, ad a = ad b → a = b) (j1 : jin (v5 + 1) L) (j2 : jin (v5 + 2) L) (j3 : jin (v5 + 3) L) (hI : INV ad κ K) (hK : K < 2 ^ 29) (G : ∀ κ', INV ad κ' (K + 64) → ∃ r, K28 κ' (v5 + 4) = some (1, r)) : ∃ r, P_L_law_2735 xs L κ (ad 0) (ad 20) (ad 40) (ad 41) v5 K28 = some (1, r) := by
  unfold P_L_law_2735
  simp only [ck_t j1]
  exact LS_tail (Kt := fun κ' => P_L_law_3082 xs L κ' (ad 0) (ad 20) (ad 40) (ad 41) v5 K28) (l_outputAt hi hI (xs (ix (v5 + 1)))) (by omega) G
theorem q_2791 (hi : ∀ a b, ad a = ad b → a = b) (j1 : jin (v5 + 1) L) (j2 : jin (v5 + 2) L) (j3 : jin (v5 + 3) L) (hI : INV ad κ K) (hK : K < 2 ^ 29) (G : ∀ κ', INV ad κ' (K + 64) → ∃ r, K28 κ' (v5 + 4) = some (1, r)) : ∃ r, P_L_law_2791 xs L κ (ad 0) (ad 20) (ad 40) (ad 41) v5 K28 = some (1, r) := by
  unfold P_L_law_2791
  simp only [ck_t j1]
  exact LS_tail (Kt := fun κ' => P_L_law_3082 xs L κ' (ad 0) (ad 20) (ad 40) (ad 41) v5 K28) (l_type hi hI (i2c (xs (ix (v5 + 1))))) (by omega) G
theorem q_2849 (hi : ∀ a b, ad a = ad b → a = b) (j1 : jin (v5 + 1) L) (j2 : jin (v5 + 2) L) (j3 : jin (v5 + 3) L) (hI : INV ad κ K) (hK : K < 2 ^ 29) (G : ∀ κ', INV ad κ' (K + 64) → ∃ r, K28 κ' (v5 + 4) = some (1, r)) : ∃ r, P_L_law_2849 xs L κ (ad 0) (ad 20) (ad 40) (ad 41) v5 K28 = some (1, r) := by
  unfold P_L_law_2849
  exact LS_tail (Kt := fun κ' => P_L_law_3082 xs L κ' (ad 0) (ad 20) (ad 40) (ad 41) v5 K28) (l_runScript hi hI (by omega)) (by omega) G
theorem q_2893 (hi : ∀ a b, ad a = ad b → a = b) (j1 : jin (v5 + 1) L) (j2 : jin (v5 + 2) L) (j3 : jin (v5 + 3) L) (hI : INV ad κ K) (hK : K < 2 ^ 29) (G : ∀ κ', INV ad κ' (K + 64) → ∃ r, K28 κ' (v5 + 4) = some (1, r)) : ∃ r, P_L_law_2893 xs L κ (ad 0) (ad 20) (ad 40) (ad 41) v5 K28 = some (1, r) := by
  unfold P_L_law_2893
  exact LS_tail (Kt := fun κ' => P_L_law_3082 xs L κ' (ad 0) (ad 20) (ad 40) (ad 41) v5 K28) (l_errorPosition hi hI) (by omega) G
theorem q_2937 (hi : ∀ a b, ad a = ad b → a = b) (j1 : jin (v5 + 1) L) (j2 : jin (v5 + 2) L) (j3 : jin (v5 + 3) L) (hI : INV ad κ K) (hK : K < 2 ^ 29) (G : ∀ κ', INV ad κ' (K + 64) → ∃ r, K28 κ' (v5 + 4) = some (1, r)) : ∃ r, P_L_law_2937 xs L κ (ad 0) (ad 20) (ad 40) (ad 41) v5 K28 = some (1, r) := by
  unfold P_L_law_2937
  exact LS_tail (Kt := fun κ' => P_L_law_3082 xs L κ' (ad 0) (ad 20) (ad 40) (ad 41) v5 K28) (l_failedCommand hi hI) (by omega) G
theorem q_2981 (hi : ∀ a b, ad a = ad b → a = b) (j1 : jin (v5 + 1) L) (j2 : jin (v5 + 2) L) (j3 : jin (v5 + 3) L) (hI : INV ad κ K) (hK : K < 2 ^ 29) (G : ∀ κ', INV ad κ' (K + 64) → ∃ r, K28 κ' (v5 + 4) = some (1, r)) : ∃ r, P_L_law_2981 xs L κ (ad 0) (ad 20) (ad 40) (ad 41) v5 K28 = some (1, r) := by
  unfold P_L_law_2981
  exact LS_tail (Kt := fun κ' => P_L_law_3082 xs L κ' (ad 0) (ad 20) (ad 40) (ad 41) v5 K28) (l_undo hi hI) (by omega) G
theorem q_3025 (hi : ∀ a b, ad a = ad b → a = b) (j1 : jin (v5 + 1) L) (j2 : jin (v5 + 2) L) (j3 : jin (v5 + 3) L) (hI : INV ad κ K) (hK : K < 2 ^ 29) (G : ∀ κ', INV ad κ' (K + 64) → ∃ r, K28 κ' (v5 + 4) = some (1, r)) : ∃ r, P_L_law_3025 xs L κ (ad 0) (ad 20) (ad 40) (ad 41) v5 K28 = some (1, r) := by
  unfold P_L_law_3025
  exact LE_tail (Kt := fun κ' => P_L_law_3082 xs L κ' (ad 0) (ad 20) (ad 40) (ad 41) v5 K28) (l_save hi hI) (by omega) G
theorem q_3038 (hi : ∀ a b, ad a = ad b → a = b) (j1 : jin (v5 + 1) L) (j2 : jin (v5 + 2) L) (j3 : jin (v5 + 3) L) (hI : INV ad κ K) (hK : K < 2 ^ 29) (G : ∀ κ', INV ad κ' (K + 64) → ∃ r, K28 κ' (v5 + 4) = some (1, r)) : ∃ r, P_L_law_3038 xs L κ (ad 0) (ad 20) (ad 40) (ad 41) v5 K28 = some (1, r) := by
  unfold P_L_law_3038
  exact LS_tail (Kt := fun κ' => P_L_law_3082 xs L κ' (ad 0) (ad 20) (ad 40) (ad 41) v5 K28) (l_restore hi hI) (by omega) G
end LAW
