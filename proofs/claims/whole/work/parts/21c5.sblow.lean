/-! ===== text builders, low: the code of StringBuilder over an object and a row of bytes ===== -/
theorem TB_all {ws : List Cond} (h : ws.all (fun w => TB_ok w && decide (w ∈ lw_tbl)) = true) : ∀ w ∈ ws, w ∈ TB := fun w hw => by
  have h1 := List.all_eq_true.mp h w hw
  rw [Bool.and_eq_true, decide_eq_true_eq] at h1
  exact TB_in h1.2 h1.1
theorem sb_in : ∀ w ∈ u_ws RJ4 TJ4 4, w ∈ TB := TB_all (by decide +kernel)
theorem sb_v : jFld RJ5 15 1 4 0 := ⟨RJ4, TJ4, rfl, sb_in, by decide, Or.inl (TB_in (by decide +kernel) (by decide +kernel))⟩
theorem sb_c : jFld RJ5 22 1 4 1 := ⟨RJ4, TJ4, rfl, sb_in, by decide, Or.inl (TB_in (by decide +kernel) (by decide +kernel))⟩
theorem sb_n : jFld RJ5 79 1 4 3 := ⟨RJ4, TJ4, rfl, sb_in, by decide, Or.inl (TB_in (by decide +kernel) (by decide +kernel))⟩
theorem sb_wv : jFlw RJ5 15 1 4 0 (.array .byte) := ⟨RJ4, TJ4, tyJ4, rfl, sb_in, tyJ4_ok, nmJ4, by decide, rfl, rfl, Or.inl (TB_in (by decide +kernel) (by decide +kernel))⟩
theorem sb_wm : jFlw RJ5 73 1 4 2 .boolean := ⟨RJ4, TJ4, tyJ4, rfl, sb_in, tyJ4_ok, nmJ4, by decide, rfl, rfl, Or.inl (TB_in (by decide +kernel) (by decide +kernel))⟩
theorem sb_wn : jFlw RJ5 79 1 4 3 .int := ⟨RJ4, TJ4, tyJ4, rfl, sb_in, tyJ4_ok, nmJ4, by decide, rfl, rfl, Or.inl (TB_in (by decide +kernel) (by decide +kernel))⟩
theorem sb_cs : Cond.fieldLink RJ5 18 "java/lang/String" "COMPACT_STRINGS" "Z" ∈ TB := (TB_in (by decide +kernel) (by decide +kernel))
theorem ml5_ens : Cond.methodLink RJ5 100 yJ5_ensureCapacityInternal_d00df ∈ TB := (TB_in (by decide +kernel) (by decide +kernel))
theorem ml5_lat : Cond.methodLink RJ5 83 yJ5_isLatin1_aae02 ∈ TB := (TB_in (by decide +kernel) (by decide +kernel))
theorem ml5_nc : Cond.methodLink RJ5 104 yJ5_newCapacity_0f7a4 ∈ TB := (TB_in (by decide +kernel) (by decide +kernel))
theorem ml5_cp : Cond.methodLink RJ5 108 yJ7_copyOf_9075b ∈ TB := (TB_in (by decide +kernel) (by decide +kernel))
theorem ml5_nl : Cond.methodLink RJ5 114 yJ8_newLength_cabcc ∈ TB := (TB_in (by decide +kernel) (by decide +kernel))
theorem ml5_ce : Cond.methodLink RJ5 191 yJ1_canEncode_fc78d ∈ TB := (TB_in (by decide +kernel) (by decide +kernel))
theorem ml5_ss : Cond.methodLink RJ5 245 yJ6_stringSize_0f7a4 ∈ TB := (TB_in (by decide +kernel) (by decide +kernel))
theorem ml5_gc : Cond.methodLink RJ5 248 yJ6_getChars_ba4f3 ∈ TB := (TB_in (by decide +kernel) (by decide +kernel))
theorem ml5_ci : Cond.methodLink RJ5 144 yJ0_checkIndex_df160 ∈ TB := (TB_in (by decide +kernel) (by decide +kernel))
theorem ml4_ac : Cond.methodLink RJ4 50 yJ5_append_3fe6f ∈ TB := (TB_in (by decide +kernel) (by decide +kernel))
theorem ml4_ai : Cond.methodLink RJ4 53 yJ5_append_c97b9 ∈ TB := (TB_in (by decide +kernel) (by decide +kernel))
theorem ml4_ca : Cond.methodLink RJ4 329 yJ5_charAt_5068e ∈ TB := (TB_in (by decide +kernel) (by decide +kernel))
theorem ml4_sl : Cond.methodLink RJ4 333 yJ5_setLength_d00df ∈ TB := (TB_in (by decide +kernel) (by decide +kernel))
theorem ml4_ln : Cond.methodLink RJ4 343 yJ5_length_8abf5 ∈ TB := (TB_in (by decide +kernel) (by decide +kernel))
theorem yu_ens : jYU RJ4 yJ5_ensureCapacityInternal_d00df cJ5_ensureCapacityInternal_d00df 3 none 1 := ⟨(TB_in (by decide +kernel) (by decide +kernel)), Or.inr (TB_in (by decide +kernel) (by decide +kernel)), (TB_in (by decide +kernel) (by decide +kernel)), (TB_in (by decide +kernel) (by decide +kernel)), ⟨by decide +kernel, by decide +kernel⟩, by decide +kernel, (TB_in (by decide +kernel) (by decide +kernel))⟩
theorem yu_lat : jYU RJ4 yJ5_isLatin1_aae02 cJ5_isLatin1_aae02 1 (some .boolean) 0 := ⟨(TB_in (by decide +kernel) (by decide +kernel)), Or.inl (TB_in (by decide +kernel) (by decide +kernel)), (TB_in (by decide +kernel) (by decide +kernel)), (TB_in (by decide +kernel) (by decide +kernel)), ⟨by decide +kernel, by decide +kernel⟩, by decide +kernel, (TB_in (by decide +kernel) (by decide +kernel))⟩
theorem yu_nc : jYU RJ4 yJ5_newCapacity_0f7a4 cJ5_newCapacity_0f7a4 6 (some .int) 1 := ⟨(TB_in (by decide +kernel) (by decide +kernel)), Or.inr (TB_in (by decide +kernel) (by decide +kernel)), (TB_in (by decide +kernel) (by decide +kernel)), (TB_in (by decide +kernel) (by decide +kernel)), ⟨by decide +kernel, by decide +kernel⟩, by decide +kernel, (TB_in (by decide +kernel) (by decide +kernel))⟩
theorem yw_ac : jYW RJ4 yJ5_append_3fe6f cJ5_append_3fe6f 2 (some (.object "java/lang/AbstractStringBuilder")) 1 := ⟨(TB_in (by decide +kernel) (by decide +kernel)), (TB_in (by decide +kernel) (by decide +kernel)), (TB_in (by decide +kernel) (by decide +kernel)), (TB_in (by decide +kernel) (by decide +kernel)), ⟨by decide +kernel, by decide +kernel⟩, by decide +kernel, (TB_in (by decide +kernel) (by decide +kernel)), by decide +kernel⟩
theorem yw_ai : jYW RJ4 yJ5_append_c97b9 cJ5_append_c97b9 4 (some (.object "java/lang/AbstractStringBuilder")) 1 := ⟨(TB_in (by decide +kernel) (by decide +kernel)), (TB_in (by decide +kernel) (by decide +kernel)), (TB_in (by decide +kernel) (by decide +kernel)), (TB_in (by decide +kernel) (by decide +kernel)), ⟨by decide +kernel, by decide +kernel⟩, by decide +kernel, (TB_in (by decide +kernel) (by decide +kernel)), by decide +kernel⟩
theorem yw_ca : jYW RJ4 yJ5_charAt_5068e cJ5_charAt_5068e 5 (some .char) 1 := ⟨(TB_in (by decide +kernel) (by decide +kernel)), (TB_in (by decide +kernel) (by decide +kernel)), (TB_in (by decide +kernel) (by decide +kernel)), (TB_in (by decide +kernel) (by decide +kernel)), ⟨by decide +kernel, by decide +kernel⟩, by decide +kernel, (TB_in (by decide +kernel) (by decide +kernel)), by decide +kernel⟩
theorem yw_sl : jYW RJ4 yJ5_setLength_d00df cJ5_setLength_d00df 2 none 1 := ⟨(TB_in (by decide +kernel) (by decide +kernel)), (TB_in (by decide +kernel) (by decide +kernel)), (TB_in (by decide +kernel) (by decide +kernel)), (TB_in (by decide +kernel) (by decide +kernel)), ⟨by decide +kernel, by decide +kernel⟩, by decide +kernel, (TB_in (by decide +kernel) (by decide +kernel)), by decide +kernel⟩
theorem yw_ln : jYW RJ4 yJ5_length_8abf5 cJ5_length_8abf5 1 (some .int) 0 := ⟨(TB_in (by decide +kernel) (by decide +kernel)), (TB_in (by decide +kernel) (by decide +kernel)), (TB_in (by decide +kernel) (by decide +kernel)), (TB_in (by decide +kernel) (by decide +kernel)), ⟨by decide +kernel, by decide +kernel⟩, by decide +kernel, (TB_in (by decide +kernel) (by decide +kernel)), by decide +kernel⟩
theorem ys_cp : jYS yJ7_copyOf_9075b cJ7_copyOf_9075b 3 (some (.array .byte)) 2 := ⟨(TB_in (by decide +kernel) (by decide +kernel)), (TB_in (by decide +kernel) (by decide +kernel)), (TB_in (by decide +kernel) (by decide +kernel)), ⟨by decide +kernel, by decide +kernel⟩, by decide +kernel⟩
theorem ys_nl : jYS yJ8_newLength_cabcc cJ8_newLength_cabcc 4 (some .int) 3 := ⟨(TB_in (by decide +kernel) (by decide +kernel)), (TB_in (by decide +kernel) (by decide +kernel)), (TB_in (by decide +kernel) (by decide +kernel)), ⟨by decide +kernel, by decide +kernel⟩, by decide +kernel⟩
theorem ys_ce : jYS yJ1_canEncode_fc78d cJ1_canEncode_fc78d 1 (some .boolean) 1 := ⟨(TB_in (by decide +kernel) (by decide +kernel)), (TB_in (by decide +kernel) (by decide +kernel)), (TB_in (by decide +kernel) (by decide +kernel)), ⟨by decide +kernel, by decide +kernel⟩, by decide +kernel⟩
theorem ys_ss : jYS yJ6_stringSize_0f7a4 cJ6_stringSize_0f7a4 4 (some .int) 1 := ⟨(TB_in (by decide +kernel) (by decide +kernel)), (TB_in (by decide +kernel) (by decide +kernel)), (TB_in (by decide +kernel) (by decide +kernel)), ⟨by decide +kernel, by decide +kernel⟩, by decide +kernel⟩
theorem ys_gc : jYS yJ6_getChars_ba4f3 cJ6_getChars_ba4f3 7 (some .int) 3 := ⟨(TB_in (by decide +kernel) (by decide +kernel)), (TB_in (by decide +kernel) (by decide +kernel)), (TB_in (by decide +kernel) (by decide +kernel)), ⟨by decide +kernel, by decide +kernel⟩, by decide +kernel⟩
theorem mx8 : jMx RJ8 194 Lib.Math.max.name Lib.Math.max.code 2 := ⟨(TB_in (by decide +kernel) (by decide +kernel)), (TB_in (by decide +kernel) (by decide +kernel)), (TB_in (by decide +kernel) (by decide +kernel)), (TB_in (by decide +kernel) (by decide +kernel))⟩
theorem mx7 : jMx RJ7 304 Lib.Math.min.name Lib.Math.min.code 2 := ⟨(TB_in (by decide +kernel) (by decide +kernel)), (TB_in (by decide +kernel) (by decide +kernel)), (TB_in (by decide +kernel) (by decide +kernel)), (TB_in (by decide +kernel) (by decide +kernel))⟩
theorem mx5 : jMx RJ5 138 Lib.Math.min.name Lib.Math.min.code 2 := ⟨(TB_in (by decide +kernel) (by decide +kernel)), (TB_in (by decide +kernel) (by decide +kernel)), (TB_in (by decide +kernel) (by decide +kernel)), (TB_in (by decide +kernel) (by decide +kernel))⟩
theorem ac7 : Cond.methodLink RJ7 150 arraycopyName ∈ TB ∧ Cond.native arraycopyName ∈ TB ∧ Cond.static arraycopyName ∈ TB ∧ Cond.initialized "java/lang/System" ∈ TB := ⟨(TB_in (by decide +kernel) (by decide +kernel)), (TB_in (by decide +kernel) (by decide +kernel)), (TB_in (by decide +kernel) (by decide +kernel)), (TB_in (by decide +kernel) (by decide +kernel))⟩
theorem sh0l (x : Int32) : x <<< ((0 : Int32) &&& 31) = x := by simp
theorem sh0r (x : Int32) : x >>> ((0 : Int32) &&& 31) = x := by simp
theorem r_body2 {l : Launch} {G : jG} {y : MethodName} {by0 : ByteArray} {nY fr mc ms lo : Nat} {rt : Option FieldType} {av : List Value} {sh : jSh} {κ : jKt} {Qr : Option Value → jH → Prop} {Qx : String → jH → Prop} (hy : plainName y.cls = true) (hn : (lg_sl av).length ≤ nY)
    (body : ∀ F : jFm, jB F y.cls by0 nY rt fr mc ms lo → jLof F = l → jGof F = G → jSof F = sh → (∀ r σ', jEndQ F r σ' = Qr r σ') → jW F nY 0 0 κ 0 (lv_args 0 av) []) : jM l G y by0 nY rt fr mc ms lo av (sh, κ) Qr Qx := by
  refine jM_of hy (fun p e s m args below meth c hC hr hex _ => ?_) hn
  exact body (p, l, e, jrm fr mc ms lo, s, m, args, below, meth, c, G, sh, Qr, Qx, mc, ms, jEnd below G Qr Qx args s mc ms) ⟨⟨hC, rfl⟩, hr, hex, rfl, rfl, rfl⟩ rfl rfl rfl (fun _ _ => rfl)
theorem jOut_q (F : jFm) (r : Option Value) (κ : jKt) : jOut F r κ = jEndQ F r (jSof F, κ) := by
  obtain ⟨p, l, e, R, s, m, args, below, meth, c, G, sh, Qr, Qx, mc, ms, Q⟩ := F; rfl
theorem c1_canEncode {l : Launch} {G : jG} {sh : jSh} {κ : jKt} {x : Int32} (hx : ¬ 255 < x) : jM l G yJ1_canEncode_fc78d cJ1_canEncode_fc78d 1 (some .boolean) 0 0 0 0 [.int x] (sh, κ) (jIs (some (.int 1)) (sh, κ)) jNo := by
  refine r_body2 (by decide +kernel) (Nat.le_of_ble_eq_true rfl) fun F C hl hG hs ho => ?_
  subst hs
  show jW F _ 0 0 κ 0 [(0, .int x)] []
  refine r_iload_n C.1 0 1 rfl dJ1_canEncode_fc78d_0 rfl ?_
  refine r_sipush C.1 255 rfl 4 rfl dJ1_canEncode_fc78d_1 ?_
  refine r_icmp_gt C.1 11 7 rfl dJ1_canEncode_fc78d_4 rfl ⟨fun c => absurd c hx, fun _ => ?_⟩
  refine r_iconst C.1 1 rfl 8 rfl dJ1_canEncode_fc78d_7 ?_
  refine r_goto C.1 12 dJ1_canEncode_fc78d_8 rfl ?_
  refine r_zret C rfl rfl (Nat.le_of_ble_eq_true rfl) (Nat.le_of_ble_eq_true rfl) dJ1_canEncode_fc78d_12 ?_
  rw [jOut_q, ho]; exact ⟨rfl, rfl⟩
theorem c5_isLatin1 {l : Launch} {G : jG} {sh : jSh} {κ : jKt} {a0 : Nat} (ha0 : sh a0 = (1, 1, 4)) (hc : kI κ a0 1 = 0) : jM l G yJ5_isLatin1_aae02 cJ5_isLatin1_aae02 1 (some .boolean) 0 0 0 0 [.ref a0] (sh, κ) (jIs (some (.int 1)) (sh, κ)) jNo := by
  refine r_body2 (by decide +kernel) (Nat.le_of_ble_eq_true rfl) fun F C hl hG hs ho => ?_
  subst hs
  show jW F _ 0 0 κ 0 [(0, .ref a0)] []
  refine r_gcs C.1 sb_cs 3 rfl dJ5_isLatin1_aae02_0 ?_
  refine r_if_eq C.1 17 6 rfl dJ5_isLatin1_aae02_3 rfl ⟨fun c => absurd c (by decide : ¬ (1 : Int32) = 0), fun _ => ?_⟩
  refine r_aload_n C.1 0 7 rfl dJ5_isLatin1_aae02_6 rfl ?_
  refine r_getI C.1 1 sb_c rfl ha0 10 rfl dJ5_isLatin1_aae02_7 ?_
  rw [hc]
  refine r_if_ne C.1 17 13 rfl dJ5_isLatin1_aae02_10 rfl ⟨fun c => absurd (rfl : (0 : Int32) = 0) c, fun _ => ?_⟩
  refine r_iconst C.1 1 rfl 14 rfl dJ5_isLatin1_aae02_13 ?_
  refine r_goto C.1 18 dJ5_isLatin1_aae02_14 rfl ?_
  refine r_zret C rfl rfl (Nat.le_of_ble_eq_true rfl) (Nat.le_of_ble_eq_true rfl) dJ5_isLatin1_aae02_18 ?_
  rw [jOut_q, ho]; exact ⟨rfl, rfl⟩
theorem c8_newLength {l : Launch} {G : jG} {sh : jSh} {κ : jKt} {a b c : Nat} (h1 : 0 < a + max b c) (h2 : a + max b c < 65536) : jM l G yJ8_newLength_cabcc cJ8_newLength_cabcc 4 (some .int) 1 0 0 20 [.int (oN a), .int (oN b), .int (oN c)] (sh, κ) (jIs (some (.int (oN (a + max b c)))) (sh, κ)) jNo := by
  have hm : jmax (oN b) (oN c) = oN (max b c) := by
    unfold jmax
    by_cases z : b < c
    · rw [if_pos ((oN_lt (by omega) (by omega)).mpr z), Nat.max_eq_right (by omega)]
    · rw [if_neg (fun g => z ((oN_lt (by omega) (by omega)).mp g)), Nat.max_eq_left (by omega)]
  have n1 : ¬ oN (a + max b c) ≤ 0 := fun g => by have := (oN_le (b := 0) (by omega) (by omega)).mp g; omega
  have n2 : ¬ 2147483639 < oN (a + max b c) := fun g => by have := (oN_lt (a := 2147483639) (by omega) (by omega)).mp g; omega
  refine r_body2 (by decide +kernel) (Nat.le_of_ble_eq_true rfl) fun F C hl hG hs ho => ?_
  subst hs
  show jW F _ 0 0 κ 0 [(0, .int (oN a)), (1, .int (oN b)), (2, .int (oN c))] []
  refine r_iload_n C.1 0 1 rfl dJ8_newLength_cabcc_0 rfl ?_
  refine r_iload_n C.1 1 2 rfl dJ8_newLength_cabcc_1 rfl ?_
  refine r_iload_n C.1 2 3 rfl dJ8_newLength_cabcc_2 rfl ?_
  refine r_mmax C.1 mx8 ⟨(Nat.le_of_ble_eq_true rfl), (Nat.le_of_ble_eq_true rfl)⟩ ⟨(Nat.le_of_ble_eq_true rfl), (Nat.le_of_ble_eq_true rfl)⟩ 6 rfl dJ8_newLength_cabcc_3 ?_
  rw [hm]
  refine r_iadd C.1 7 rfl dJ8_newLength_cabcc_6 ?_
  rw [oN_add]
  refine r_istore_n C.1 (lv' := [(0, .int (oN a)), (1, .int (oN b)), (2, .int (oN c)), (3, .int (oN (a + max b c)))]) [1, 2, 3, 0] 8 rfl dJ8_newLength_cabcc_7 (Nat.le_of_ble_eq_true rfl) rfl ?_
  refine r_iconst C.1 0 rfl 9 rfl dJ8_newLength_cabcc_8 ?_
  refine r_iload_n C.1 3 10 rfl dJ8_newLength_cabcc_9 rfl ?_
  refine r_icmp_ge C.1 21 13 rfl dJ8_newLength_cabcc_10 rfl ⟨fun c => absurd c n1, fun _ => ?_⟩
  refine r_iload_n C.1 3 14 rfl dJ8_newLength_cabcc_13 rfl ?_
  refine r_ldc C.1 (v := 2147483639) (TB_in (by decide +kernel) (by decide +kernel)) 16 rfl dJ8_newLength_cabcc_14 ?_
  refine r_icmp_gt C.1 21 19 rfl dJ8_newLength_cabcc_16 rfl ⟨fun c => absurd c n2, fun _ => ?_⟩
  refine r_iload_n C.1 3 20 rfl dJ8_newLength_cabcc_19 rfl ?_
  refine r_zret C rfl rfl (Nat.le_of_ble_eq_true rfl) (Nat.le_of_ble_eq_true rfl) dJ8_newLength_cabcc_20 ?_
  rw [jOut_q, ho]; exact ⟨rfl, rfl⟩
theorem c5_newCapacity {l : Launch} {G : jG} {sh : jSh} {κ : jKt} {a0 q L m : Nat} (ha0 : sh a0 = (1, 1, 4)) (hq : κ a0 0 = .ref q) (hqs : sh q = (2, 2, L)) (hc : kI κ a0 1 = 0) (h1 : L < m) (h2 : m ≤ L + 2) (h3 : L ≤ 16384) : jM l G yJ5_newCapacity_0f7a4 cJ5_newCapacity_0f7a4 6 (some .int) 2 0 0 60 [.ref a0, .int (oN m)] (sh, κ) (jIs (some (.int (oN (2 * L + 2)))) (sh, κ)) jNo := by
  have e1 : oN m - oN L = oN (m - L) := oN_sub (by omega)
  have e2 : (oN L + 2 : Int32) = oN (L + 2) := oN_add L 2
  have e3 : L + max (m - L) (L + 2) = 2 * L + 2 := by omega
  have n1 : ¬ oN (2 * L + 2) = 2147483647 := fun g => by have := (oN_eq (b := 2147483647) (by omega) (by omega)).mp g; omega
  refine r_body2 (by decide +kernel) (Nat.le_of_ble_eq_true rfl) fun F C hl hG hs ho => ?_
  subst hs
  show jW F _ 0 0 κ 0 [(0, .ref a0), (1, .int (oN m))] []
  refine r_aload_n C.1 0 1 rfl dJ5_newCapacity_0f7a4_0 rfl ?_
  refine r_getQ C.1 sb_v ha0 hq 4 rfl dJ5_newCapacity_0f7a4_1 ?_
  refine r_alen C.1 hqs 5 rfl dJ5_newCapacity_0f7a4_4 ?_
  refine r_istore_n C.1 (lv' := [(0, .ref a0), (1, .int (oN m)), (2, .int (oN L))]) [1, 2, 0] 6 rfl dJ5_newCapacity_0f7a4_5 (Nat.le_of_ble_eq_true rfl) rfl ?_
  refine r_iload_n C.1 1 7 rfl dJ5_newCapacity_0f7a4_6 rfl ?_
  refine r_aload_n C.1 0 8 rfl dJ5_newCapacity_0f7a4_7 rfl ?_
  refine r_getI C.1 1 sb_c rfl ha0 11 rfl dJ5_newCapacity_0f7a4_8 ?_
  rw [hc]
  refine r_ishl C.1 12 rfl dJ5_newCapacity_0f7a4_11 ?_
  rw [sh0l]
  refine r_istore_n C.1 (lv' := [(0, .ref a0), (1, .int (oN m)), (2, .int (oN L)), (3, .int (oN m))]) [1, 2, 3, 0] 13 rfl dJ5_newCapacity_0f7a4_12 (Nat.le_of_ble_eq_true rfl) rfl ?_
  refine r_iload_n C.1 3 14 rfl dJ5_newCapacity_0f7a4_13 rfl ?_
  refine r_iload_n C.1 2 15 rfl dJ5_newCapacity_0f7a4_14 rfl ?_
  refine r_isub C.1 16 rfl dJ5_newCapacity_0f7a4_15 ?_
  rw [e1]
  refine r_istore C.1 (lv' := [(0, .ref a0), (1, .int (oN m)), (2, .int (oN L)), (3, .int (oN m)), (4, .int (oN (m - L)))]) [1, 2, 3, 4, 0] 18 rfl dJ5_newCapacity_0f7a4_16 (Nat.le_of_ble_eq_true rfl) rfl ?_
  refine r_iload_n C.1 2 19 rfl dJ5_newCapacity_0f7a4_18 rfl ?_
  refine r_iload C.1 4 21 rfl dJ5_newCapacity_0f7a4_19 rfl ?_
  refine r_iload_n C.1 2 22 rfl dJ5_newCapacity_0f7a4_21 rfl ?_
  refine r_iconst C.1 2 rfl 23 rfl dJ5_newCapacity_0f7a4_22 ?_
  refine r_aload_n C.1 0 24 rfl dJ5_newCapacity_0f7a4_23 rfl ?_
  refine r_getI C.1 1 sb_c rfl ha0 27 rfl dJ5_newCapacity_0f7a4_24 ?_
  rw [hc]
  refine r_ishl C.1 28 rfl dJ5_newCapacity_0f7a4_27 ?_
  rw [sh0l]
  refine r_iadd C.1 29 rfl dJ5_newCapacity_0f7a4_28 ?_
  rw [e2]
  refine r_cSi C.1 (st := []) (c8_newLength (a := L) (b := m - L) (c := L + 2) (by omega) (by omega)) ys_nl ml5_nl rfl ⟨(Nat.le_of_ble_eq_true rfl), (Nat.le_of_ble_eq_true rfl)⟩ ⟨(Nat.le_of_ble_eq_true rfl), (Nat.le_of_ble_eq_true rfl)⟩ (Nat.le_of_ble_eq_true rfl) rfl 0 0 rfl rfl 32 rfl dJ5_newCapacity_0f7a4_29 ?_
  rw [e3]
  refine r_istore C.1 (lv' := [(0, .ref a0), (1, .int (oN m)), (2, .int (oN L)), (3, .int (oN m)), (4, .int (oN (m - L))), (5, .int (oN (2 * L + 2)))]) [1, 2, 3, 4, 5, 0] 34 rfl dJ5_newCapacity_0f7a4_32 (Nat.le_of_ble_eq_true rfl) rfl ?_
  refine r_iload C.1 5 36 rfl dJ5_newCapacity_0f7a4_34 rfl ?_
  refine r_ldc C.1 (v := 2147483647) (TB_in (by decide +kernel) (by decide +kernel)) 38 rfl dJ5_newCapacity_0f7a4_36 ?_
  refine r_icmp_ne C.1 51 41 rfl dJ5_newCapacity_0f7a4_38 rfl ⟨fun _ => ?_, fun c => absurd c n1⟩
  refine r_iload C.1 5 53 rfl dJ5_newCapacity_0f7a4_51 rfl ?_
  refine r_aload_n C.1 0 54 rfl dJ5_newCapacity_0f7a4_53 rfl ?_
  refine r_getI C.1 1 sb_c rfl ha0 57 rfl dJ5_newCapacity_0f7a4_54 ?_
  rw [hc]
  refine r_ishr C.1 58 rfl dJ5_newCapacity_0f7a4_57 ?_
  rw [sh0r]
  refine r_zret C rfl rfl (Nat.le_of_ble_eq_true rfl) (Nat.le_of_ble_eq_true rfl) dJ5_newCapacity_0f7a4_58 ?_
  rw [jOut_q, ho]; exact ⟨rfl, rfl⟩
/-- a longer row of bytes, the old letters in it -/
def jCop (sh : jSh) (κ : jKt) (q L N b : Nat) : jH := ((jMade (sh, κ) b (2, 2, N) (fun _ => defaultValue (j_aty 2))).1, kCp (jMade (sh, κ) b (2, 2, N) (fun _ => defaultValue (j_aty 2))).2 q b L)
theorem jCop_b (sh : jSh) (κ : jKt) (q L N b : Nat) : (jCop sh κ q L N b).1 b = (2, 2, N) := (jMade_a (sh, κ) b (2, 2, N) (fun _ => defaultValue (j_aty 2))).1
theorem jCop_n (sh : jSh) (κ : jKt) (q L N : Nat) {b x : Nat} (h : x ≠ b) : (jCop sh κ q L N b).1 x = sh x ∧ ∀ k, (jCop sh κ q L N b).2 x k = κ x k :=
  ⟨(jMade_n (sh, κ) (2, 2, N) (fun _ => defaultValue (j_aty 2)) h).1, fun k => (if_neg (fun g => h g.1)).trans ((jMade_n (sh, κ) (2, 2, N) (fun _ => defaultValue (j_aty 2)) h).2 k)⟩
theorem jCop_k (sh : jSh) (κ : jKt) (q L N : Nat) {b : Nat} (h : q ≠ b) (k : Nat) : (jCop sh κ q L N b).2 b k = if k < L then κ q k else .int 0 := by
  show (if b = b ∧ k < L then (jMade (sh, κ) b (2, 2, N) (fun _ => defaultValue (j_aty 2))).2 q k else (jMade (sh, κ) b (2, 2, N) (fun _ => defaultValue (j_aty 2))).2 b k) = _
  by_cases z : k < L
  · rw [if_pos ⟨rfl, z⟩, if_pos z]; exact (jMade_n (sh, κ) (2, 2, N) (fun _ => defaultValue (j_aty 2)) h).2 k
  · rw [if_neg (fun g => z g.2), if_neg z]; exact (jMade_a (sh, κ) b (2, 2, N) (fun _ => defaultValue (j_aty 2))).2 k
theorem c7_copyOf {l : Launch} {G : jG} {sh : jSh} {κ : jKt} {q L N : Nat} (hqs : sh q = (2, 2, L)) (hfit : ∀ i, i < L → ∃ x, κ q i = .int x ∧ fits .byte (.int x) = true) (h1 : L < N) (h2 : N ≤ 142) : jM l G yJ7_copyOf_9075b cJ7_copyOf_9075b 3 (some (.array .byte)) 1 1 142 60 [.ref q, .int (oN N)] (sh, κ) (fun r σ' => ∃ b, jFree G (sh, κ) b ∧ r = some (.ref b) ∧ σ' = jCop sh κ q L N b) jNo := by
  have n1 : ¬ oN N = oN L := fun g => by have := (oN_eq (by omega) (by omega)).mp g; omega
  have e1 : jmin (oN L) (oN N) = oN L := by
    unfold jmin
    rw [if_neg (fun g => by have := (oN_lt (by omega) (by omega)).mp g; omega)]
  refine r_body2 (by decide +kernel) (Nat.le_of_ble_eq_true rfl) fun F C hl hG hs ho => ?_
  subst hs
  show jW F _ 0 0 κ 0 [(0, .ref q), (1, .int (oN N))] []
  refine r_iload_n C.1 1 1 rfl dJ7_copyOf_9075b_0 rfl ?_
  refine r_aload_n C.1 0 2 rfl dJ7_copyOf_9075b_1 rfl ?_
  refine r_alen C.1 hqs 3 rfl dJ7_copyOf_9075b_2 ?_
  refine r_icmp_ne C.1 14 6 rfl dJ7_copyOf_9075b_3 rfl ⟨fun _ => ?_, fun c => absurd c n1⟩
  refine r_iload_n C.1 1 15 rfl dJ7_copyOf_9075b_14 rfl ?_
  refine r_newa C.1 (t := 2) (by decide) rfl (TB_in (by decide +kernel) (by decide +kernel)) (oN_nneg (by omega)) (oN_ix (by omega)) (by omega) ⟨(Nat.le_of_ble_eq_true rfl), by omega⟩ 17 rfl dJ7_copyOf_9075b_15 fun b hb => ?_
  have hbF := hb
  rw [hG] at hb
  have hne : q ≠ b := fun z => by
    have h9 := hb.1.2.1
    rw [← z] at h9
    exact h9 (by show (jSof F q).1 = 2; rw [hqs])
  have hb2 : jSof (jSet F (jMade (jSof F, κ) b (2, 2, N) (fun _ => defaultValue (j_aty 2))).1) b = (2, 2, N) := by rw [(jSet_S _ _).1]; exact (jMade_a _ _ _ _).1
  have hq2 : jSof (jSet F (jMade (jSof F, κ) b (2, 2, N) (fun _ => defaultValue (j_aty 2))).1) q = (2, 2, L) := by rw [(jSet_S _ _).1, (jMade_n _ _ _ hne).1]; exact hqs
  have hk2 : ∀ i, (jMade (jSof F, κ) b (2, 2, N) (fun _ => defaultValue (j_aty 2))).2 q i = κ q i := fun i => (jMade_n _ _ _ hne).2 i
  have C2 := jB_set C (jMade (jSof F, κ) b (2, 2, N) (fun _ => defaultValue (j_aty 2))).1
  refine r_astore_n C2.1 (lv' := [(0, .ref q), (1, .int (oN N)), (2, .ref b)]) [1, 2, 0] 18 rfl dJ7_copyOf_9075b_17 (Nat.le_of_ble_eq_true rfl) rfl ?_
  refine r_aload_n C2.1 0 19 rfl dJ7_copyOf_9075b_18 rfl ?_
  refine r_iconst C2.1 0 rfl 20 rfl dJ7_copyOf_9075b_19 ?_
  refine r_aload_n C2.1 2 21 rfl dJ7_copyOf_9075b_20 rfl ?_
  refine r_iconst C2.1 0 rfl 22 rfl dJ7_copyOf_9075b_21 ?_
  refine r_aload_n C2.1 0 23 rfl dJ7_copyOf_9075b_22 rfl ?_
  refine r_alen C2.1 hq2 24 rfl dJ7_copyOf_9075b_23 ?_
  refine r_iload_n C2.1 1 25 rfl dJ7_copyOf_9075b_24 rfl ?_
  refine r_mmin C2.1 mx7 ⟨(Nat.le_of_ble_eq_true rfl), (Nat.le_of_ble_eq_true rfl)⟩ ⟨(Nat.le_of_ble_eq_true rfl), by omega⟩ 28 rfl dJ7_copyOf_9075b_25 ?_
  rw [e1]
  refine r_acpB C2.1 ac7 hq2 hb2 (oN_nneg (by omega)) (oN_ix (by omega)) (Nat.le_refl _) (by omega) (fun i hi => by rw [hk2]; exact hfit i hi) ⟨(Nat.le_of_ble_eq_true rfl), by decide +kernel⟩ rfl 31 rfl dJ7_copyOf_9075b_28 ?_
  refine r_aload_n C2.1 2 32 rfl dJ7_copyOf_9075b_31 rfl ?_
  refine r_aret C2 rfl (Or.inr ⟨_, rfl⟩) (Or.inr ⟨_, rfl⟩) (Nat.le_of_ble_eq_true rfl) (by omega) dJ7_copyOf_9075b_32 ?_
  rw [jOut_q, jEndQ_set, ho, (jSet_S _ _).1]
  exact ⟨b, hb, rfl, rfl⟩
/-- a text builder's row of bytes after room was made for m letters -/
def jEns (G : jG) (sh : jSh) (κ : jKt) (a0 q L m : Nat) (r : Option Value) (σ' : jH) : Prop := r = none ∧ ((m ≤ L ∧ σ' = (sh, κ)) ∨ (L < m ∧ ∃ b, jFree G (sh, κ) b ∧ σ' = ((jCop sh κ q L (2 * L + 2) b).1, kU (jCop sh κ q L (2 * L + 2) b).2 a0 0 (.ref b))))
theorem c5_ensure0 {l : Launch} {G : jG} {sh : jSh} {κ : jKt} {a0 q L m : Nat} (ha0 : sh a0 = (1, 1, 4)) (hq : κ a0 0 = .ref q) (hqs : sh q = (2, 2, L)) (hc : kI κ a0 1 = 0) (hfit : ∀ i, i < L → ∃ x, κ q i = .int x ∧ fits .byte (.int x) = true) (h2 : m ≤ L) (h4 : L ≤ 142) : jM l G yJ5_ensureCapacityInternal_d00df cJ5_ensureCapacityInternal_d00df 3 none 0 0 0 0 [.ref a0, .int (oN m)] (sh, κ) (jIs none (sh, κ)) jNo := by
  have n0 : (oN m - oN L ≤ 0) ↔ m ≤ L := by
    by_cases z : L ≤ m
    · rw [oN_sub z]
      have := oN_le (a := m - L) (b := 0) (by omega) (by omega)
      rw [show (0 : Int32) = oN 0 from rfl, this]
      omega
    · refine ⟨fun _ => by omega, fun _ => ?_⟩
      rw [Int32.le_iff_toInt_le, Int32.toInt_sub, oN_toInt (by omega), oN_toInt (by omega)]
      rw [Int.bmod_def]
      show _ ≤ (0 : Int)
      split <;> omega
  refine r_body2 (by decide +kernel) (Nat.le_of_ble_eq_true rfl) fun F C hl hG hs ho => ?_
  subst hs
  show jW F _ 0 0 κ 0 [(0, .ref a0), (1, .int (oN m))] []
  refine r_aload_n C.1 0 1 rfl dJ5_ensureCapacityInternal_d00df_0 rfl ?_
  refine r_getQ C.1 sb_v ha0 hq 4 rfl dJ5_ensureCapacityInternal_d00df_1 ?_
  refine r_alen C.1 hqs 5 rfl dJ5_ensureCapacityInternal_d00df_4 ?_
  refine r_aload_n C.1 0 6 rfl dJ5_ensureCapacityInternal_d00df_5 rfl ?_
  refine r_getI C.1 1 sb_c rfl ha0 9 rfl dJ5_ensureCapacityInternal_d00df_6 ?_
  rw [hc]
  refine r_ishr C.1 10 rfl dJ5_ensureCapacityInternal_d00df_9 ?_
  rw [sh0r]
  refine r_istore_n C.1 (lv' := [(0, .ref a0), (1, .int (oN m)), (2, .int (oN L))]) [1, 2, 0] 11 rfl dJ5_ensureCapacityInternal_d00df_10 (Nat.le_of_ble_eq_true rfl) rfl ?_
  refine r_iload_n C.1 1 12 rfl dJ5_ensureCapacityInternal_d00df_11 rfl ?_
  refine r_iload_n C.1 2 13 rfl dJ5_ensureCapacityInternal_d00df_12 rfl ?_
  refine r_isub C.1 14 rfl dJ5_ensureCapacityInternal_d00df_13 ?_
  refine r_if_le C.1 38 17 rfl dJ5_ensureCapacityInternal_d00df_14 rfl ⟨fun z => ?_, fun z => ?_⟩
  · refine r_vret C rfl (Nat.le_of_ble_eq_true rfl) (Nat.le_of_ble_eq_true rfl) dJ5_ensureCapacityInternal_d00df_38 ?_
    rw [jOut_q, ho]; exact ⟨rfl, rfl⟩
  · exact absurd (n0.mpr h2) z
theorem c5_ensure {l : Launch} {G : jG} {sh : jSh} {κ : jKt} {a0 q L m : Nat} (ha0 : sh a0 = (1, 1, 4)) (hq : κ a0 0 = .ref q) (hqs : sh q = (2, 2, L)) (hc : kI κ a0 1 = 0) (hfit : ∀ i, i < L → ∃ x, κ q i = .int x ∧ fits .byte (.int x) = true) (h2 : m ≤ L + 2) (h3 : m ≤ L ∨ 2 * L + 2 ≤ 142) (h4 : L ≤ 142) : jM l G yJ5_ensureCapacityInternal_d00df cJ5_ensureCapacityInternal_d00df 3 none 3 1 142 110 [.ref a0, .int (oN m)] (sh, κ) (jEns G sh κ a0 q L m) jNo := by
  have n0 : (oN m - oN L ≤ 0) ↔ m ≤ L := by
    by_cases z : L ≤ m
    · rw [oN_sub z]
      have := oN_le (a := m - L) (b := 0) (by omega) (by omega)
      rw [show (0 : Int32) = oN 0 from rfl, this]
      omega
    · refine ⟨fun _ => by omega, fun _ => ?_⟩
      rw [Int32.le_iff_toInt_le, Int32.toInt_sub, oN_toInt (by omega), oN_toInt (by omega)]
      rw [Int.bmod_def]
      show _ ≤ (0 : Int)
      split <;> omega
  refine r_body2 (by decide +kernel) (Nat.le_of_ble_eq_true rfl) fun F C hl hG hs ho => ?_
  subst hs
  show jW F _ 0 0 κ 0 [(0, .ref a0), (1, .int (oN m))] []
  refine r_aload_n C.1 0 1 rfl dJ5_ensureCapacityInternal_d00df_0 rfl ?_
  refine r_getQ C.1 sb_v ha0 hq 4 rfl dJ5_ensureCapacityInternal_d00df_1 ?_
  refine r_alen C.1 hqs 5 rfl dJ5_ensureCapacityInternal_d00df_4 ?_
  refine r_aload_n C.1 0 6 rfl dJ5_ensureCapacityInternal_d00df_5 rfl ?_
  refine r_getI C.1 1 sb_c rfl ha0 9 rfl dJ5_ensureCapacityInternal_d00df_6 ?_
  rw [hc]
  refine r_ishr C.1 10 rfl dJ5_ensureCapacityInternal_d00df_9 ?_
  rw [sh0r]
  refine r_istore_n C.1 (lv' := [(0, .ref a0), (1, .int (oN m)), (2, .int (oN L))]) [1, 2, 0] 11 rfl dJ5_ensureCapacityInternal_d00df_10 (Nat.le_of_ble_eq_true rfl) rfl ?_
  refine r_iload_n C.1 1 12 rfl dJ5_ensureCapacityInternal_d00df_11 rfl ?_
  refine r_iload_n C.1 2 13 rfl dJ5_ensureCapacityInternal_d00df_12 rfl ?_
  refine r_isub C.1 14 rfl dJ5_ensureCapacityInternal_d00df_13 ?_
  refine r_if_le C.1 38 17 rfl dJ5_ensureCapacityInternal_d00df_14 rfl ⟨fun z => ?_, fun z => ?_⟩
  · refine r_vret C rfl (Nat.le_of_ble_eq_true rfl) (Nat.le_of_ble_eq_true rfl) dJ5_ensureCapacityInternal_d00df_38 ?_
    rw [jOut_q, ho]; exact ⟨rfl, Or.inl ⟨n0.mp z, rfl⟩⟩
  · have z1 : ¬ m ≤ L := fun g => z (n0.mpr g)
    refine r_aload_n C.1 0 18 rfl dJ5_ensureCapacityInternal_d00df_17 rfl ?_
    refine r_aload_n C.1 0 19 rfl dJ5_ensureCapacityInternal_d00df_18 rfl ?_
    refine r_getQ C.1 sb_v ha0 hq 22 rfl dJ5_ensureCapacityInternal_d00df_19 ?_
    refine r_aload_n C.1 0 23 rfl dJ5_ensureCapacityInternal_d00df_22 rfl ?_
    refine r_iload_n C.1 1 24 rfl dJ5_ensureCapacityInternal_d00df_23 rfl ?_
    refine r_callU C.1 (st := [.ref q, .ref a0]) (c5_newCapacity (a0 := a0) (m := m) ha0 hq hqs hc (by omega) h2 (by omega)) yu_nc ml5_nc ha0 rfl ⟨(Nat.le_of_ble_eq_true rfl), (Nat.le_of_ble_eq_true rfl)⟩ ⟨(Nat.le_of_ble_eq_true rfl), (Nat.le_of_ble_eq_true rfl)⟩ (Nat.le_of_ble_eq_true rfl) rfl 27 rfl dJ5_ensureCapacityInternal_d00df_24 (fun r σ1 h => ?_)
    obtain ⟨rfl, rfl⟩ := h
    show jW (jSet F (jSof F)) 3 0 0 κ 27 [(0, .ref a0), (1, .int (oN m)), (2, .int (oN L))] [.int (oN (2 * L + 2)), .ref q, .ref a0]
    rw [jSet_id]
    refine r_aload_n C.1 0 28 rfl dJ5_ensureCapacityInternal_d00df_27 rfl ?_
    refine r_getI C.1 1 sb_c rfl ha0 31 rfl dJ5_ensureCapacityInternal_d00df_28 ?_
    rw [hc]
    refine r_ishl C.1 32 rfl dJ5_ensureCapacityInternal_d00df_31 ?_
    rw [sh0l]
    refine r_callSg C.1 (st := [.ref a0]) (c7_copyOf (N := 2 * L + 2) hqs hfit (by omega) (by omega)) ys_cp ml5_cp rfl ⟨(Nat.le_of_ble_eq_true rfl), (Nat.le_of_ble_eq_true rfl)⟩ ⟨(Nat.le_of_ble_eq_true rfl), (Nat.le_of_ble_eq_true rfl)⟩ (Nat.le_of_ble_eq_true rfl) rfl 35 rfl dJ5_ensureCapacityInternal_d00df_32 (fun r σ1 h => ?_)
    obtain ⟨b, hb, rfl, rfl⟩ := h
    show jW (jSet F (jCop (jSof F) κ q L (2 * L + 2) b).1) 3 1 142 (jCop (jSof F) κ q L (2 * L + 2) b).2 35 [(0, .ref a0), (1, .int (oN m)), (2, .int (oN L))] [.ref b, .ref a0]
    have C2 := jB_set C (jCop (jSof F) κ q L (2 * L + 2) b).1
    have hne : a0 ≠ b := fun z => by
      have h9 := hb.1.1
      rw [← z] at h9
      exact h9 (by show (jSof F a0).1 = 1; rw [ha0])
    have ha2 : jSof (jSet F (jCop (jSof F) κ q L (2 * L + 2) b).1) a0 = (1, 1, 4) := by rw [(jSet_S _ _).1, (jCop_n _ _ _ _ _ hne).1]; exact ha0
    have hb2 : jSof (jSet F (jCop (jSof F) κ q L (2 * L + 2) b).1) b = (2, 2, 2 * L + 2) := by rw [(jSet_S _ _).1]; exact jCop_b _ _ _ _ _ _
    refine r_put C2.1 0 sb_wv rfl rfl ha2 ⟨b, rfl, by rw [hb2], by rw [hb2]; rfl⟩ rfl 38 rfl dJ5_ensureCapacityInternal_d00df_35 ?_
    refine r_vret C2 rfl (Nat.le_of_ble_eq_true rfl) (Nat.le_of_ble_eq_true rfl) dJ5_ensureCapacityInternal_d00df_38 ?_
    rw [jOut_q, jEndQ_set, ho, (jSet_S _ _).1]
    exact ⟨rfl, Or.inr ⟨by omega, b, hG ▸ hb, rfl⟩⟩
/-- a text builder at a0, its bytes at q: L of them, n letters -/
def SBs (sh : jSh) (κ : jKt) (a0 q L n : Nat) : Prop := sh a0 = (1, 1, 4) ∧ κ a0 0 = .ref q ∧ sh q = (2, 2, L) ∧ kI κ a0 1 = 0 ∧ kI κ a0 3 = oN n ∧ n ≤ L ∧ (∀ i, i < L → ∃ x, κ q i = .int x ∧ fits .byte (.int x) = true) ∧ (L = 16 ∨ L = 34 ∨ L = 70 ∨ L = 142)
/-- nothing else has changed -/
def SBk (G : jG) (sh : jSh) (κ : jKt) (sh' : jSh) (κ' : jKt) (a0 q q' : Nat) : Prop := (∀ c, c ≠ a0 → c ≠ q' → sh' c = sh c ∧ ∀ k, κ' c k = κ c k) ∧ (q' = q ∨ jFree G (sh, κ) q')
theorem ens_SB {G : jG} {sh sh' : jSh} {κ κ' : jKt} {a0 q L n m : Nat} {r : Option Value} (h : SBs sh κ a0 q L n) (hm : m ≤ 142) (e : jEns G sh κ a0 q L m r (sh', κ')) : r = none ∧ ∃ q' L', SBs sh' κ' a0 q' L' n ∧ (m ≤ L + 2 → m ≤ L') ∧ (∀ j, j < n → κ' q' j = κ q j) ∧ SBk G sh κ sh' κ' a0 q q' := by
  obtain ⟨h1, h2, h3, h4, h5, h6, h7, h8⟩ := id h
  obtain ⟨er, ⟨e1, e2⟩ | ⟨e1, b, hb, e2⟩⟩ := e
  · obtain ⟨rfl, rfl⟩ := Prod.mk.inj e2
    exact ⟨er, q, L, h, fun _ => e1, fun _ _ => rfl, fun _ _ _ => ⟨rfl, fun _ => rfl⟩, Or.inl rfl⟩
  · obtain ⟨rfl, rfl⟩ := Prod.mk.inj e2
    have hqb : q ≠ b := fun z => by
      have h9 := hb.1.2.1
      rw [← z] at h9
      exact h9 (by show (sh q).1 = 2; rw [h3])
    have hab : a0 ≠ b := fun z => by
      have h9 := hb.1.1
      rw [← z] at h9
      exact h9 (by show (sh a0).1 = 1; rw [h1])
    have ka : ∀ k, k ≠ 0 → kU (jCop sh κ q L (2 * L + 2) b).2 a0 0 (.ref b) a0 k = κ a0 k := fun k hk => by
      unfold kU
      rw [if_neg (fun g => hk g.2)]
      exact (jCop_n _ _ _ _ _ hab).2 k
    have kb : ∀ k, kU (jCop sh κ q L (2 * L + 2) b).2 a0 0 (.ref b) b k = if k < L then κ q k else .int 0 := fun k => by
      unfold kU
      rw [if_neg (fun g => hab g.1.symm)]
      exact jCop_k _ _ _ _ _ hqb k
    refine ⟨er, b, 2 * L + 2, ⟨(jCop_n _ _ _ _ _ hab).1.trans h1, by unfold kU; rw [if_pos ⟨rfl, rfl⟩], jCop_b _ _ _ _ _ _, by unfold kI; rw [ka 1 (by decide)]; exact h4, by unfold kI; rw [ka 3 (by decide)]; exact h5, by omega, fun i hi => ?_, ?_⟩, fun _ => by omega, fun j hj => by rw [kb, if_pos (by omega)], fun c c1 c2 => ⟨(jCop_n _ _ _ _ _ c2).1, fun k => ?_⟩, Or.inr hb⟩
    · rw [kb]
      by_cases z : i < L
      · rw [if_pos z]; exact h7 i z
      · rw [if_neg z]; exact ⟨0, rfl, rfl⟩
    · rcases h8 with h | h | h | h <;> omega
    · unfold kU
      rw [if_neg (fun g => c1 g.1)]
      exact (jCop_n _ _ _ _ _ c2).2 k
theorem by_i2b (x : Int32) : narrow .byte (.int x.toInt8.toInt32) = .int x.toInt8.toInt32 ∧ narrow .byte (.int x) = .int x.toInt8.toInt32 ∧ fits .byte (.int x.toInt8.toInt32) = true := by
  refine ⟨?_, rfl, ?_⟩
  · show Value.int _ = _
    simp
  · have h1 := Int8.le_toInt x.toInt8
    have h2 := Int8.toInt_lt x.toInt8
    simp only [fits, Bool.and_eq_true, decide_eq_true_eq]
    rw [Int32.le_iff_toInt_le, Int32.le_iff_toInt_le, Int8.toInt_toInt32]
    refine ⟨?_, ?_⟩
    · show (-128 : Int) ≤ _
      omega
    · show _ ≤ (127 : Int)
      omega
theorem jEns_ex {G : jG} {sh : jSh} {κ : jKt} {a0 q L m : Nat} {r : Option Value} {σ' : jH} (h : jEns G sh κ a0 q L m r σ') : jEns G sh κ a0 q L m r (σ'.1, σ'.2) := h
theorem c5_appendC {l : Launch} {G : jG} {sh : jSh} {κ : jKt} {a0 q L n c : Nat} (hS : SBs sh κ a0 q L n) (hn2 : n < 142) (hcx : c < 256) : jM l G yJ5_append_3fe6f cJ5_append_3fe6f 2 (some (.object "java/lang/AbstractStringBuilder")) 4 1 142 140 [.ref a0, .int (oN c)] (sh, κ) (fun r σ' => r = some (.ref a0) ∧ ∃ q' L', SBs σ'.1 σ'.2 a0 q' L' (n + 1) ∧ (∀ j, j < n → σ'.2 q' j = κ q j) ∧ σ'.2 q' n = narrow .byte (.int (oN c)) ∧ SBk G sh κ σ'.1 σ'.2 a0 q q') jNo := by
  obtain ⟨ha0, hq, hqs, hc, hn, hnL, hfit, hL⟩ := id hS
  have hx : ¬ 255 < oN c := fun g => by have := (oN_lt (a := 255) (by omega) (by omega)).mp g; omega
  have e1 : (oN n + 1 : Int32) = oN (n + 1) := oN_add n 1
  refine r_body2 (by decide +kernel) (Nat.le_of_ble_eq_true rfl) fun F C hl hG hs ho => ?_
  subst hs
  show jW F _ 0 0 κ 0 [(0, .ref a0), (1, .int (oN c))] []
  refine r_aload_n C.1 0 1 rfl dJ5_append_3fe6f_0 rfl ?_
  refine r_aload_n C.1 0 2 rfl dJ5_append_3fe6f_1 rfl ?_
  refine r_getI C.1 3 sb_n rfl ha0 5 rfl dJ5_append_3fe6f_2 ?_
  rw [hn]
  refine r_iconst C.1 1 rfl 6 rfl dJ5_append_3fe6f_5 ?_
  refine r_iadd C.1 7 rfl dJ5_append_3fe6f_6 ?_
  rw [e1]
  refine r_callU C.1 (st := []) (c5_ensure (a0 := a0) (m := n + 1) ha0 hq hqs hc hfit (by omega) (by omega) (by omega)) yu_ens ml5_ens ha0 rfl ⟨(Nat.le_of_ble_eq_true rfl), (Nat.le_of_ble_eq_true rfl)⟩ ⟨(Nat.le_of_ble_eq_true rfl), (Nat.le_of_ble_eq_true rfl)⟩ (Nat.le_of_ble_eq_true rfl) rfl 10 rfl dJ5_append_3fe6f_7 (fun r σ1 h => ?_)
  obtain ⟨sh1, κ1⟩ := σ1
  rw [hG] at h
  obtain ⟨rfl, q1, L1, s1, k1, k2, k3⟩ := ens_SB hS (by omega) h
  obtain ⟨ta, tq, tqs, tc, tn, tnL, tfit, tL⟩ := id s1
  have tm := k1 (by omega)
  show jW (jSet F sh1) 2 1 142 κ1 10 [(0, .ref a0), (1, .int (oN c))] []
  have C2 := jB_set C sh1
  have eS : jSof (jSet F sh1) = sh1 := (jSet_S F sh1).1
  have ta' : jSof (jSet F sh1) a0 = (1, 1, 4) := by rw [eS]; exact ta
  have tqs' : jSof (jSet F sh1) q1 = (2, 2, L1) := by rw [eS]; exact tqs
  refine r_aload_n C2.1 0 11 rfl dJ5_append_3fe6f_10 rfl ?_
  refine r_callU C2.1 (st := []) (c5_isLatin1 (a0 := a0) ta' tc) yu_lat ml5_lat ta' rfl ⟨(Nat.le_of_ble_eq_true rfl), (Nat.le_of_ble_eq_true rfl)⟩ ⟨(Nat.le_of_ble_eq_true rfl), (Nat.le_of_ble_eq_true rfl)⟩ (Nat.le_of_ble_eq_true rfl) rfl 14 rfl dJ5_append_3fe6f_11 (fun r σ1 h => ?_)
  obtain ⟨rfl, rfl⟩ := h
  show jW (jSet (jSet F sh1) (jSof (jSet F sh1))) 2 1 142 κ1 14 [(0, .ref a0), (1, .int (oN c))] [.int 1]
  rw [jSet_id]
  refine r_if_eq C2.1 45 17 rfl dJ5_append_3fe6f_14 rfl ⟨fun c => absurd c (by decide : ¬ (1 : Int32) = 0), fun _ => ?_⟩
  refine r_iload_n C2.1 1 18 rfl dJ5_append_3fe6f_17 rfl ?_
  refine r_cSi C2.1 (st := []) (c1_canEncode hx) ys_ce ml5_ce rfl ⟨(Nat.le_of_ble_eq_true rfl), (Nat.le_of_ble_eq_true rfl)⟩ ⟨(Nat.le_of_ble_eq_true rfl), (Nat.le_of_ble_eq_true rfl)⟩ (Nat.le_of_ble_eq_true rfl) rfl 1 142 rfl rfl 21 rfl dJ5_append_3fe6f_18 ?_
  refine r_if_eq C2.1 45 24 rfl dJ5_append_3fe6f_21 rfl ⟨fun c => absurd c (by decide : ¬ (1 : Int32) = 0), fun _ => ?_⟩
  refine r_aload_n C2.1 0 25 rfl dJ5_append_3fe6f_24 rfl ?_
  refine r_getQ C2.1 sb_v ta' tq 28 rfl dJ5_append_3fe6f_25 ?_
  refine r_aload_n C2.1 0 29 rfl dJ5_append_3fe6f_28 rfl ?_
  refine r_dup C2.1 rfl 30 rfl dJ5_append_3fe6f_29 ?_
  refine r_getI C2.1 3 sb_n rfl ta' 33 rfl dJ5_append_3fe6f_30 ?_
  rw [tn]
  refine r_dup_x1 C2.1 rfl rfl 34 rfl dJ5_append_3fe6f_33 ?_
  refine r_iconst C2.1 1 rfl 35 rfl dJ5_append_3fe6f_34 ?_
  refine r_iadd C2.1 36 rfl dJ5_append_3fe6f_35 ?_
  rw [e1]
  refine r_putI C2.1 (κ' := kU κ1 a0 3 (.int (oN (n + 1)))) 3 sb_wn rfl rfl rfl ta' rfl 39 rfl dJ5_append_3fe6f_36 ?_
  refine r_iload_n C2.1 1 40 rfl dJ5_append_3fe6f_39 rfl ?_
  refine r_i2b C2.1 41 rfl dJ5_append_3fe6f_40 ?_
  refine r_bast C2.1 (κ' := kU (kU κ1 a0 3 (.int (oN (n + 1)))) q1 n (.int (oN c).toInt8.toInt32)) tqs' ((oN_jin (by omega)).mpr (by omega)) (by_i2b (oN c)).1 (by rw [oN_ix (by omega)]) 42 rfl dJ5_append_3fe6f_41 ?_
  refine r_goto C2.1 75 dJ5_append_3fe6f_42 rfl ?_
  refine r_aload_n C2.1 0 76 rfl dJ5_append_3fe6f_75 rfl ?_
  refine r_aret C2 rfl (Or.inl ⟨_, rfl⟩) (Or.inr ⟨_, rfl⟩) (Nat.le_of_ble_eq_true rfl) (Nat.le_of_ble_eq_true rfl) dJ5_append_3fe6f_76 ?_
  rw [jOut_q, jEndQ_set, ho, eS]
  have hne : a0 ≠ q1 := fun z => by rw [z, tqs] at ta; cases ta
  have ra : ∀ k, k ≠ 3 → kU (kU κ1 a0 3 (.int (oN (n + 1)))) q1 n (.int (oN c).toInt8.toInt32) a0 k = κ1 a0 k := fun k hk => by
    unfold kU
    rw [if_neg (fun g => hne g.1), if_neg (fun g => hk g.2)]
  have rq : ∀ k, kU (kU κ1 a0 3 (.int (oN (n + 1)))) q1 n (.int (oN c).toInt8.toInt32) q1 k = if k = n then .int (oN c).toInt8.toInt32 else κ1 q1 k := fun k => by
    unfold kU
    by_cases z : k = n
    · rw [if_pos ⟨rfl, z⟩, if_pos z]
    · rw [if_neg (fun g => z g.2), if_neg (fun g => hne g.1.symm), if_neg z]
  have rb : ∀ b, b ≠ a0 → b ≠ q1 → ∀ k, kU (kU κ1 a0 3 (.int (oN (n + 1)))) q1 n (.int (oN c).toInt8.toInt32) b k = κ1 b k := fun b b1 b2 k => by
    unfold kU
    rw [if_neg (fun g => b2 g.1), if_neg (fun g => b1 g.1)]
  have r3 : kI (kU (kU κ1 a0 3 (.int (oN (n + 1)))) q1 n (.int (oN c).toInt8.toInt32)) a0 3 = oN (n + 1) := by
    rw [kI_U, if_neg (fun g => hne g.1), kI_U, if_pos ⟨rfl, rfl⟩]
  generalize kU (kU κ1 a0 3 (.int (oN (n + 1)))) q1 n (.int (oN c).toInt8.toInt32) = κ2 at ra rq rb r3 ⊢
  refine ⟨rfl, q1, L1, ⟨ta, (ra 0 (by decide)).trans tq, tqs, ?_, r3, by omega, fun i hi => ?_, tL⟩, fun j hj => ?_, ?_, fun b b1 b2 => ⟨(k3.1 b b1 b2).1, fun k => ?_⟩, k3.2⟩
  · unfold kI at *; dsimp only; rw [ra 1 (by decide)]; exact tc
  · dsimp only
    rw [rq]
    by_cases z : i = n
    · rw [if_pos z]; exact ⟨_, rfl, (by_i2b (oN c)).2.2⟩
    · rw [if_neg z]; exact tfit i hi
  · dsimp only; rw [rq, if_neg (by omega)]; exact k2 j hj
  · dsimp only; rw [rq, if_pos rfl]; exact ((by_i2b (oN c)).2.1).symm
  · exact (rb b b1 b2 k).trans ((k3.1 b b1 b2).2 k)
