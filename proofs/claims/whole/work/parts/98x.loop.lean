/-! ===== layer 3: the law: the loop over the calls ===== -/
section LOOP
variable {ad : Nat → Nat} {L : Nat} {xs : Nat → Int32}
theorem len_4 {n : Nat} (h : n < 2 ^ 31) : (oN n - 4 : Int32).toInt = (n : Int) - 4 := by
  rw [Int32.toInt_sub, oN_toInt h, show (4 : Int32).toInt = 4 from rfl]
  exact Int.bmod_eq_of_le (by omega) (by omega)
theorem law_go (hi : ∀ a b, ad a = ad b → a = b) (hL : L < 2 ^ 20) : ∀ (q i n K : Nat) (κ : jKt), L < 4 * i + 4 * q + 4 → q < n → INV ad κ K → K + 64 * q < 2 ^ 28 → 4 * i < 2 ^ 21 → ∃ r, P_L_law_28 xs L (ad 0) (ad 20) (ad 40) (ad 41) n κ (oN (4 * i)) = some (1, r) := by
  intro q
  induction q with
  | zero =>
    intro i n K κ h1 h2 hI hK hi4
    obtain ⟨n, rfl⟩ : ∃ g, n = g + 1 := ⟨n - 1, by omega⟩
    have c : (Int32.ofNat L) - 4 < oN (4 * i) := by rw [Int32.lt_iff_toInt_lt, len_4 (by omega), oN_toInt (by omega)]; omega
    exact ⟨κ, by rw [P_L_law_28, if_pos c]⟩
  | succ q ih =>
    intro i n K κ h1 h2 hI hK hi4
    obtain ⟨n, rfl⟩ : ∃ g, n = g + 1 := ⟨n - 1, by omega⟩
    by_cases g : L < 4 * i + 4
    · have c : (Int32.ofNat L) - 4 < oN (4 * i) := by rw [Int32.lt_iff_toInt_lt, len_4 (by omega), oN_toInt (by omega)]; omega
      exact ⟨κ, by rw [P_L_law_28, if_pos c]⟩
    · have c : ¬ (Int32.ofNat L) - 4 < oN (4 * i) := by rw [Int32.lt_iff_toInt_lt, len_4 (by omega), oN_toInt (by omega)]; omega
      have j1 : jin (oN (4 * i) + 1) L := by rw [show oN (4 * i) + 1 = oN (4 * i + 1) from oN_add _ 1]; exact jin_N (by omega) (by omega)
      have j2 : jin (oN (4 * i) + 2) L := by rw [show oN (4 * i) + 2 = oN (4 * i + 2) from oN_add _ 2]; exact jin_N (by omega) (by omega)
      have j3 : jin (oN (4 * i) + 3) L := by rw [show oN (4 * i) + 3 = oN (4 * i + 3) from oN_add _ 3]; exact jin_N (by omega) (by omega)
      have hK' : K < 2 ^ 29 := by omega
      have e4 : oN (4 * i) + 4 = oN (4 * (i + 1)) := oN_add _ 4
      have G : ∀ κ', INV ad κ' (K + 64) → ∃ r, P_L_law_28 xs L (ad 0) (ad 20) (ad 40) (ad 41) n κ' (oN (4 * i) + 4) = some (1, r) := fun κ' hI' => by
        rw [e4]
        exact ih (i + 1) n (K + 64) κ' (by omega) (by omega) hI' (by omega) (by omega)
      rw [P_L_law_28, if_neg c, ck_t (jin_N (by omega) (by omega)), bnd_e]
      generalize (xs (ix (oN (4 * i)))) &&& 63 = y
      generalize P_L_law_28 xs L (ad 0) (ad 20) (ad 40) (ad 41) n = K28 at G ⊢
      by_cases c0 : y = 0
      · rw [if_pos c0]; exact q_272 hi j1 j2 j3 hI hK' G
      rw [if_neg c0]
      by_cases c1 : y = 1
      · rw [if_pos c1]; exact q_340 hi j1 j2 j3 hI hK' G
      rw [if_neg c1]
      by_cases c2 : y = 2
      · rw [if_pos c2]; exact q_408 hi j1 j2 j3 hI hK' G
      rw [if_neg c2]
      by_cases c3 : y = 3
      · rw [if_pos c3]; exact q_488 hi j1 j2 j3 hI hK' G
      rw [if_neg c3]
      by_cases c4 : y = 4
      · rw [if_pos c4]; exact q_556 hi j1 j2 j3 hI hK' G
      rw [if_neg c4]
      by_cases c5 : y = 5
      · rw [if_pos c5]; exact q_624 hi j1 j2 j3 hI hK' G
      rw [if_neg c5]
      by_cases c6 : y = 6
      · rw [if_pos c6]; exact q_692 hi j1 j2 j3 hI hK' G
      rw [if_neg c6]
      by_cases c7 : y = 7
      · rw [if_pos c7]; exact q_760 hi j1 j2 j3 hI hK' G
      rw [if_neg c7]
      by_cases c8 : y = 8
      · rw [if_pos c8]; exact q_840 hi j1 j2 j3 hI hK' G
      rw [if_neg c8]
      by_cases c9 : y = 9
      · rw [if_pos c9]; exact q_896 hi j1 j2 j3 hI hK' G
      rw [if_neg c9]
      by_cases c10 : y = 10
      · rw [if_pos c10]; exact q_952 hi j1 j2 j3 hI hK' G
      rw [if_neg c10]
      by_cases c11 : y = 11
      · rw [if_pos c11]; exact q_1008 hi j1 j2 j3 hI hK' G
      rw [if_neg c11]
      by_cases c12 : y = 12
      · rw [if_pos c12]; exact q_1021 hi j1 j2 j3 hI hK' G
      rw [if_neg c12]
      by_cases c13 : y = 13
      · rw [if_pos c13]; exact q_1077 hi j1 j2 j3 hI hK' G
      rw [if_neg c13]
      by_cases c14 : y = 14
      · rw [if_pos c14]; exact q_1145 hi j1 j2 j3 hI hK' G
      rw [if_neg c14]
      by_cases c15 : y = 15
      · rw [if_pos c15]; exact q_1213 hi j1 j2 j3 hI hK' G
      rw [if_neg c15]
      by_cases c16 : y = 16
      · rw [if_pos c16]; exact q_1276 hi j1 j2 j3 hI hK' G
      rw [if_neg c16]
      by_cases c17 : y = 17
      · rw [if_pos c17]; exact q_1332 hi j1 j2 j3 hI hK' G
      rw [if_neg c17]
      by_cases c18 : y = 18
      · rw [if_pos c18]; exact q_1345 hi j1 j2 j3 hI hK' G
      rw [if_neg c18]
      by_cases c19 : y = 19
      · rw [if_pos c19]; exact q_1401 hi j1 j2 j3 hI hK' G
      rw [if_neg c19]
      by_cases c20 : y = 20
      · rw [if_pos c20]; exact q_1457 hi j1 j2 j3 hI hK' G
      rw [if_neg c20]
      by_cases c21 : y = 21
      · rw [if_pos c21]; exact q_1513 hi j1 j2 j3 hI hK' G
      rw [if_neg c21]
      by_cases c22 : y = 22
      · rw [if_pos c22]; exact q_1581 hi j1 j2 j3 hI hK' G
      rw [if_neg c22]
      by_cases c23 : y = 23
      · rw [if_pos c23]; exact q_1649 hi j1 j2 j3 hI hK' G
      rw [if_neg c23]
      by_cases c24 : y = 24
      · rw [if_pos c24]; exact q_1724 hi j1 j2 j3 hI hK' G
      rw [if_neg c24]
      by_cases c25 : y = 25
      · rw [if_pos c25]; exact q_1780 hi j1 j2 j3 hI hK' G
      rw [if_neg c25]
      by_cases c26 : y = 26
      · rw [if_pos c26]; exact q_1836 hi j1 j2 j3 hI hK' G
      rw [if_neg c26]
      by_cases c27 : y = 27
      · rw [if_pos c27]; exact q_1923 hi j1 j2 j3 hI hK' G
      rw [if_neg c27]
      by_cases c28 : y = 28
      · rw [if_pos c28]; exact q_1986 hi j1 j2 j3 hI hK' G
      rw [if_neg c28]
      by_cases c29 : y = 29
      · rw [if_pos c29]; exact q_2042 hi j1 j2 j3 hI hK' G
      rw [if_neg c29]
      by_cases c30 : y = 30
      · rw [if_pos c30]; exact q_2098 hi j1 j2 j3 hI hK' G
      rw [if_neg c30]
      by_cases c31 : y = 31
      · rw [if_pos c31]; exact q_2166 hi j1 j2 j3 hI hK' G
      rw [if_neg c31]
      by_cases c32 : y = 32
      · rw [if_pos c32]; exact q_2234 hi j1 j2 j3 hI hK' G
      rw [if_neg c32]
      by_cases c33 : y = 33
      · rw [if_pos c33]; exact q_2290 hi j1 j2 j3 hI hK' G
      rw [if_neg c33]
      by_cases c34 : y = 34
      · rw [if_pos c34]; exact q_2346 hi j1 j2 j3 hI hK' G
      rw [if_neg c34]
      by_cases c35 : y = 35
      · rw [if_pos c35]; exact q_2402 hi j1 j2 j3 hI hK' G
      rw [if_neg c35]
      by_cases c36 : y = 36
      · rw [if_pos c36]; exact q_2415 hi j1 j2 j3 hI hK' G
      rw [if_neg c36]
      by_cases c37 : y = 37
      · rw [if_pos c37]; exact q_2428 hi j1 j2 j3 hI hK' G
      rw [if_neg c37]
      by_cases c38 : y = 38
      · rw [if_pos c38]; exact q_2441 hi j1 j2 j3 hI hK' G
      rw [if_neg c38]
      by_cases c39 : y = 39
      · rw [if_pos c39]; exact q_2454 hi j1 j2 j3 hI hK' G
      rw [if_neg c39]
      by_cases c40 : y = 40
      · rw [if_pos c40]; exact q_2467 hi j1 j2 j3 hI hK' G
      rw [if_neg c40]
      by_cases c41 : y = 41
      · rw [if_pos c41]; exact q_2544 hi j1 j2 j3 hI hK' G
      rw [if_neg c41]
      by_cases c42 : y = 42
      · rw [if_pos c42]; exact q_2610 hi j1 j2 j3 hI hK' G
      rw [if_neg c42]
      by_cases c43 : y = 43
      · rw [if_pos c43]; exact q_2623 hi j1 j2 j3 hI hK' G
      rw [if_neg c43]
      by_cases c44 : y = 44
      · rw [if_pos c44]; exact q_2679 hi j1 j2 j3 hI hK' G
      rw [if_neg c44]
      by_cases c45 : y = 45
      · rw [if_pos c45]; exact q_2735 hi j1 j2 j3 hI hK' G
      rw [if_neg c45]
      by_cases c46 : y = 46
      · rw [if_pos c46]; exact q_2791 hi j1 j2 j3 hI hK' G
      rw [if_neg c46]
      by_cases c47 : y = 47
      · rw [if_pos c47]; exact q_2849 hi j1 j2 j3 hI hK' G
      rw [if_neg c47]
      by_cases c48 : y = 48
      · rw [if_pos c48]; exact q_2893 hi j1 j2 j3 hI hK' G
      rw [if_neg c48]
      by_cases c49 : y = 49
      · rw [if_pos c49]; exact q_2937 hi j1 j2 j3 hI hK' G
      rw [if_neg c49]
      by_cases c50 : y = 50
      · rw [if_pos c50]; exact q_2981 hi j1 j2 j3 hI hK' G
      rw [if_neg c50]
      by_cases c51 : y = 51
      · rw [if_pos c51]; exact q_3025 hi j1 j2 j3 hI hK' G
      rw [if_neg c51]
      by_cases c52 : y = 52
      · rw [if_pos c52]; exact q_3038 hi j1 j2 j3 hI hK' G
      rw [if_neg c52]
      exact G κ (hI.up (by omega))
end LOOP
