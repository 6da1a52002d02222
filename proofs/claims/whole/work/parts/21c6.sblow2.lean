/-! ===== text builders, low: append(int), setLength, charAt, length ===== -/
theorem c5_length {l : Launch} {G : jG} {sh : jSh} {κ : jKt} {a0 n : Nat} (ha0 : sh a0 = (1, 1, 4)) (hn : kI κ a0 3 = oN n) : jM l G yJ5_length_8abf5 cJ5_length_8abf5 1 (some .int) 0 0 0 0 [.ref a0] (sh, κ) (jIs (some (.int (oN n))) (sh, κ)) jNo := by
  refine r_body2 (by decide +kernel) (Nat.le_of_ble_eq_true rfl) fun F C hl hG hs ho => ?_
  subst hs
  show jW F _ 0 0 κ 0 [(0, .ref a0)] []
  refine r_aload_n C.1 0 1 rfl dJ5_length_8abf5_0 rfl ?_
  refine r_getI C.1 3 sb_n rfl ha0 4 rfl dJ5_length_8abf5_1 ?_
  rw [hn]
  refine r_zret C rfl rfl (Nat.le_of_ble_eq_true rfl) (Nat.le_of_ble_eq_true rfl) dJ5_length_8abf5_4 ?_
  rw [jOut_q, ho]; exact ⟨rfl, rfl⟩
theorem c5_setLength {l : Launch} {G : jG} {sh : jSh} {κ : jKt} {a0 q L n : Nat} (hS : SBs sh κ a0 q L n) : jM l G yJ5_setLength_d00df cJ5_setLength_d00df 2 none 4 0 0 140 [.ref a0, .int 0] (sh, κ) (jIs none (sh, kU (if 0 < n then kU κ a0 2 (.int 1) else κ) a0 3 (.int 0))) jNo := by
  obtain ⟨ha0, hq, hqs, hc, hn, hnL, hfit, hL⟩ := id hS
  have n1 : 0 ≤ oN n := Int32.not_lt.mp (oN_nneg (by omega))
  refine r_body2 (by decide +kernel) (Nat.le_of_ble_eq_true rfl) fun F C hl hG hs ho => ?_
  subst hs
  show jW F _ 0 0 κ 0 [(0, .ref a0), (1, .int 0)] []
  refine r_iload_n C.1 1 1 rfl dJ5_setLength_d00df_0 rfl ?_
  refine r_if_ge C.1 13 4 rfl dJ5_setLength_d00df_1 rfl ⟨fun _ => ?_, fun c => absurd (by decide : (0 : Int32) ≤ 0) c⟩
  refine r_aload_n C.1 0 14 rfl dJ5_setLength_d00df_13 rfl ?_
  refine r_iload_n C.1 1 15 rfl dJ5_setLength_d00df_14 rfl ?_
  refine r_callU C.1 (st := []) (c5_ensure0 (a0 := a0) (m := 0) ha0 hq hqs hc hfit (by omega) (by omega)) yu_ens ml5_ens ha0 rfl ⟨(Nat.le_of_ble_eq_true rfl), (Nat.le_of_ble_eq_true rfl)⟩ ⟨(Nat.le_of_ble_eq_true rfl), (Nat.le_of_ble_eq_true rfl)⟩ (Nat.le_of_ble_eq_true rfl) rfl 18 rfl dJ5_setLength_d00df_15 (fun r σ1 h => ?_)
  obtain ⟨rfl, rfl⟩ := h
  show jW (jSet F (jSof F)) 2 0 0 κ 18 [(0, .ref a0), (1, .int 0)] []
  rw [jSet_id]
  refine r_aload_n C.1 0 19 rfl dJ5_setLength_d00df_18 rfl ?_
  refine r_getI C.1 3 sb_n rfl ha0 22 rfl dJ5_setLength_d00df_19 ?_
  rw [hn]
  refine r_iload_n C.1 1 23 rfl dJ5_setLength_d00df_22 rfl ?_
  refine r_icmp_ge C.1 63 26 rfl dJ5_setLength_d00df_23 rfl ⟨fun _ => ?_, fun c => absurd n1 c⟩
  refine r_aload_n C.1 0 64 rfl dJ5_setLength_d00df_63 rfl ?_
  refine r_getI C.1 3 sb_n rfl ha0 67 rfl dJ5_setLength_d00df_64 ?_
  rw [hn]
  refine r_iload_n C.1 1 68 rfl dJ5_setLength_d00df_67 rfl ?_
  refine r_icmp_le C.1 76 71 rfl dJ5_setLength_d00df_68 rfl ⟨fun z => ?_, fun z => ?_⟩
  · have z1 : ¬ 0 < n := fun g => by have := (oN_le (b := 0) (by omega) (by omega)).mp z; omega
    rw [if_neg z1] at ho
    refine r_aload_n C.1 0 77 rfl dJ5_setLength_d00df_76 rfl ?_
    refine r_iload_n C.1 1 78 rfl dJ5_setLength_d00df_77 rfl ?_
    refine r_putI C.1 3 sb_wn rfl rfl rfl ha0 rfl 81 rfl dJ5_setLength_d00df_78 ?_
    refine r_vret C rfl (Nat.le_of_ble_eq_true rfl) (Nat.le_of_ble_eq_true rfl) dJ5_setLength_d00df_81 ?_
    rw [jOut_q, ho]; exact ⟨rfl, rfl⟩
  · have z1 : 0 < n := Nat.pos_of_ne_zero fun g => z (by rw [g]; decide)
    rw [if_pos z1] at ho
    refine r_aload_n C.1 0 72 rfl dJ5_setLength_d00df_71 rfl ?_
    refine r_iconst C.1 1 rfl 73 rfl dJ5_setLength_d00df_72 ?_
    refine r_putI C.1 2 sb_wm rfl rfl rfl ha0 rfl 76 rfl dJ5_setLength_d00df_73 ?_
    refine r_aload_n C.1 0 77 rfl dJ5_setLength_d00df_76 rfl ?_
    refine r_iload_n C.1 1 78 rfl dJ5_setLength_d00df_77 rfl ?_
    refine r_putI C.1 3 sb_wn rfl rfl rfl ha0 rfl 81 rfl dJ5_setLength_d00df_78 ?_
    refine r_vret C rfl (Nat.le_of_ble_eq_true rfl) (Nat.le_of_ble_eq_true rfl) dJ5_setLength_d00df_81 ?_
    rw [jOut_q, ho]; exact ⟨rfl, rfl⟩
theorem c6_stringSize {l : Launch} {G : jG} {sh : jSh} {κ : jKt} {x : Nat} (hx : x < 100) : jM l G yJ6_stringSize_0f7a4 cJ6_stringSize_0f7a4 4 (some .int) 0 0 0 0 [.int (oN x)] (sh, κ) (jIs (some (.int (oN (if x < 10 then 1 else 2)))) (sh, κ)) jNo := by
  have n0 : ¬ oN x < 0 := oN_nneg (by omega)
  have ni : (-oN x : Int32).toInt = -(x : Int) := by
    rw [Int32.toInt_neg, oN_toInt (by omega), Int.bmod_def]
    split <;> omega
  have n10 : (-oN x ≤ -10) ↔ 10 ≤ x := by
    rw [Int32.le_iff_toInt_le, ni]
    show _ ≤ (-10 : Int) ↔ _
    omega
  have n100 : ¬ (-oN x ≤ 10 * -10) := by
    rw [Int32.le_iff_toInt_le, ni]
    show ¬ (_ ≤ (-100 : Int))
    omega
  refine r_body2 (by decide +kernel) (Nat.le_of_ble_eq_true rfl) fun F C hl hG hs ho => ?_
  subst hs
  show jW F _ 0 0 κ 0 [(0, .int (oN x))] []
  refine r_iconst C.1 1 rfl 1 rfl dJ6_stringSize_0f7a4_0 ?_
  refine r_istore_n C.1 (lv' := [(0, .int (oN x)), (1, .int 1)]) [1, 0] 2 rfl dJ6_stringSize_0f7a4_1 (Nat.le_of_ble_eq_true rfl) rfl ?_
  refine r_iload_n C.1 0 3 rfl dJ6_stringSize_0f7a4_2 rfl ?_
  refine r_if_lt C.1 11 6 rfl dJ6_stringSize_0f7a4_3 rfl ⟨fun c => absurd c n0, fun _ => ?_⟩
  refine r_iconst C.1 0 rfl 7 rfl dJ6_stringSize_0f7a4_6 ?_
  refine r_istore_n C.1 (lv' := [(0, .int (oN x)), (1, .int 0)]) [1, 0] 8 rfl dJ6_stringSize_0f7a4_7 (Nat.le_of_ble_eq_true rfl) rfl ?_
  refine r_iload_n C.1 0 9 rfl dJ6_stringSize_0f7a4_8 rfl ?_
  refine r_ineg C.1 10 rfl dJ6_stringSize_0f7a4_9 ?_
  refine r_istore_n C.1 (lv' := [(0, .int (-(oN x))), (1, .int 0)]) [0, 1] 11 rfl dJ6_stringSize_0f7a4_10 (Nat.le_of_ble_eq_true rfl) rfl ?_
  refine r_bipush C.1 (-10) rfl 13 rfl dJ6_stringSize_0f7a4_11 ?_
  refine r_istore_n C.1 (lv' := [(0, .int (-(oN x))), (1, .int 0), (2, .int (-10))]) [1, 2, 0] 14 rfl dJ6_stringSize_0f7a4_13 (Nat.le_of_ble_eq_true rfl) rfl ?_
  refine r_iconst C.1 1 rfl 15 rfl dJ6_stringSize_0f7a4_14 ?_
  refine r_istore_n C.1 (lv' := [(0, .int (-(oN x))), (1, .int 0), (2, .int (-10)), (3, .int 1)]) [1, 2, 3, 0] 16 rfl dJ6_stringSize_0f7a4_15 (Nat.le_of_ble_eq_true rfl) rfl ?_
  refine r_iload_n C.1 3 17 rfl dJ6_stringSize_0f7a4_16 rfl ?_
  refine r_bipush C.1 10 rfl 19 rfl dJ6_stringSize_0f7a4_17 ?_
  refine r_icmp_ge C.1 42 22 rfl dJ6_stringSize_0f7a4_19 rfl ⟨fun c => absurd c (by decide : ¬ (10 : Int32) ≤ 1), fun _ => ?_⟩
  refine r_iload_n C.1 0 23 rfl dJ6_stringSize_0f7a4_22 rfl ?_
  refine r_iload_n C.1 2 24 rfl dJ6_stringSize_0f7a4_23 rfl ?_
  refine r_icmp_le C.1 31 27 rfl dJ6_stringSize_0f7a4_24 rfl ⟨fun z => ?_, fun z => ?_⟩
  · have z1 : ¬ x < 10 := by have := n10.mp z; omega
    rw [if_neg z1] at ho
    refine r_bipush C.1 10 rfl 33 rfl dJ6_stringSize_0f7a4_31 ?_
    refine r_iload_n C.1 2 34 rfl dJ6_stringSize_0f7a4_33 rfl ?_
    refine r_imul C.1 35 rfl dJ6_stringSize_0f7a4_34 ?_
    refine r_istore_n C.1 (lv' := [(0, .int (-(oN x))), (1, .int 0), (2, .int (10 * (-10))), (3, .int 1)]) [1, 2, 0, 3] 36 rfl dJ6_stringSize_0f7a4_35 (Nat.le_of_ble_eq_true rfl) rfl ?_
    refine r_iinc C.1 (lv' := [(0, .int (-(oN x))), (1, .int 0), (2, .int (10 * (-10))), (3, .int (1 + (1)))]) 3 [1, 2, 3, 0] 39 rfl dJ6_stringSize_0f7a4_36 rfl (Nat.le_of_ble_eq_true rfl) rfl rfl ?_
    refine r_goto C.1 16 dJ6_stringSize_0f7a4_39 rfl ?_
    refine r_iload_n C.1 3 17 rfl dJ6_stringSize_0f7a4_16 rfl ?_
    refine r_bipush C.1 10 rfl 19 rfl dJ6_stringSize_0f7a4_17 ?_
    refine r_icmp_ge C.1 42 22 rfl dJ6_stringSize_0f7a4_19 rfl ⟨fun c => absurd c (by decide : ¬ (10 : Int32) ≤ 1 + (1)), fun _ => ?_⟩
    refine r_iload_n C.1 0 23 rfl dJ6_stringSize_0f7a4_22 rfl ?_
    refine r_iload_n C.1 2 24 rfl dJ6_stringSize_0f7a4_23 rfl ?_
    refine r_icmp_le C.1 31 27 rfl dJ6_stringSize_0f7a4_24 rfl ⟨fun c => absurd c n100, fun _ => ?_⟩
    refine r_iload_n C.1 3 28 rfl dJ6_stringSize_0f7a4_27 rfl ?_
    refine r_iload_n C.1 1 29 rfl dJ6_stringSize_0f7a4_28 rfl ?_
    refine r_iadd C.1 30 rfl dJ6_stringSize_0f7a4_29 ?_
    refine r_zret C rfl rfl (Nat.le_of_ble_eq_true rfl) (Nat.le_of_ble_eq_true rfl) dJ6_stringSize_0f7a4_30 ?_
    rw [jOut_q, ho]; exact ⟨rfl, rfl⟩
  · have z1 : x < 10 := Nat.lt_of_not_le fun g => z (n10.mpr g)
    rw [if_pos z1] at ho
    refine r_iload_n C.1 3 28 rfl dJ6_stringSize_0f7a4_27 rfl ?_
    refine r_iload_n C.1 1 29 rfl dJ6_stringSize_0f7a4_28 rfl ?_
    refine r_iadd C.1 30 rfl dJ6_stringSize_0f7a4_29 ?_
    refine r_zret C rfl rfl (Nat.le_of_ble_eq_true rfl) (Nat.le_of_ble_eq_true rfl) dJ6_stringSize_0f7a4_30 ?_
    rw [jOut_q, ho]; exact ⟨rfl, rfl⟩
theorem gc_83 : Cond.fieldLink RJ6 83 "java/lang/Integer" "DigitOnes" "[B" ∈ TB := (TB_in (by decide +kernel) (by decide +kernel))
theorem gc_87 : Cond.fieldLink RJ6 87 "java/lang/Integer" "DigitTens" "[B" ∈ TB := (TB_in (by decide +kernel) (by decide +kernel))
section GC
variable {F : jFm} {own : String} {cc : ByteArray} {nL k1 k2 fr mc ms lo pc : Nat} {κ : jKt} {lv : List (Nat × Value)} {st : List Value}
theorem r_gD1 (C : jA F RJ6 cc nL fr mc ms lo) (p1 : Nat) (hp : pc + 3 = p1) (hd : decode cc pc = .ok (.getstatic 83, 3)) (kk : jW F nL k1 k2 κ p1 lv (.ref (jStr F 100) :: st)) : jW F nL k1 k2 κ pc lv st := by
  obtain ⟨p, l, e, R, s, m, args, below, meth, c, G, sh, Qr, Qx, mc, ms, Q⟩ := F
  subst hp
  intro H9 locs9 ls9 hR hL hv
  obtain ⟨cf, kf, fi, f, a, cell, h1, h2, h3, h4, h5, h6, h7, h8⟩ := (C.1.2.2.2.2.2.2.2.2.2.1.1).kept (fun a ha _ => hR.1.1.1 a ha)
  exact W.gets C.1.1.1 C.1.1.2.1 C.1.1.2.2.2.1 (C.1.1.2.2.2.2 _ gc_83) h1 h2 h3 h4 h5 (fun e => by rw [e] at h6; cases h6) h7 rfl hd (kk H9 locs9 ls9 hR hL hv)
theorem r_gD2 (C : jA F RJ6 cc nL fr mc ms lo) (p1 : Nat) (hp : pc + 3 = p1) (hd : decode cc pc = .ok (.getstatic 87, 3)) (kk : jW F nL k1 k2 κ p1 lv (.ref (jStr F 101) :: st)) : jW F nL k1 k2 κ pc lv st := by
  obtain ⟨p, l, e, R, s, m, args, below, meth, c, G, sh, Qr, Qx, mc, ms, Q⟩ := F
  subst hp
  intro H9 locs9 ls9 hR hL hv
  obtain ⟨cf, kf, fi, f, a, cell, h1, h2, h3, h4, h5, h6, h7, h8⟩ := (C.1.2.2.2.2.2.2.2.2.2.2.1.1).kept (fun a ha _ => hR.1.1.1 a ha)
  exact W.gets C.1.1.1 C.1.1.2.1 C.1.1.2.2.2.1 (C.1.1.2.2.2.2 _ gc_87) h1 h2 h3 h4 h5 (fun e => by rw [e] at h6; cases h6) h7 rfl hd (kk H9 locs9 ls9 hR hL hv)
theorem r_bD1 (C : jA F own cc nL fr mc ms lo) {x : Nat} (hx : x < 100) (p1 : Nat) (hp : pc + 1 = p1) (hd : decode cc pc = .ok (.baload, 1)) (kk : jW F nL k1 k2 κ p1 lv (.int (oN (48 + x % 10)) :: st)) : jW F nL k1 k2 κ pc lv (.int (oN x) :: .ref (jStr F 100) :: st) := by
  obtain ⟨p, l, e, R, s, m, args, below, meth, c, G, sh, Qr, Qx, mc, ms, Q⟩ := F
  subst hp
  intro H9 locs9 ls9 hR hL hv
  obtain ⟨cell, h1, h2, h3, h4, h5, h6, h7⟩ := (C.1.2.2.2.2.2.2.2.2.2.1.2).kept (fun a ha _ => hR.1.1.1 a ha)
  refine W.bald (v := .int (oN (48 + x % 10))) C.1.1.1 C.1.1.2.1 h1 h2 h3 (fun g => g.elim (fun g => oN_nneg (by omega) g) (fun g => by have e9 : (oN x).toNatClampNeg = x := oN_ix (by omega); omega)) ?_ rfl rfl hd (kk H9 locs9 ls9 hR hL hv)
  rw [show (oN x).toNatClampNeg = x from oN_ix (by omega)]
  exact h6 x hx
theorem r_bD2 (C : jA F own cc nL fr mc ms lo) {x : Nat} (hx : x < 100) (p1 : Nat) (hp : pc + 1 = p1) (hd : decode cc pc = .ok (.baload, 1)) (kk : jW F nL k1 k2 κ p1 lv (.int (oN (48 + x / 10)) :: st)) : jW F nL k1 k2 κ pc lv (.int (oN x) :: .ref (jStr F 101) :: st) := by
  obtain ⟨p, l, e, R, s, m, args, below, meth, c, G, sh, Qr, Qx, mc, ms, Q⟩ := F
  subst hp
  intro H9 locs9 ls9 hR hL hv
  obtain ⟨cell, h1, h2, h3, h4, h5, h6, h7⟩ := (C.1.2.2.2.2.2.2.2.2.2.2.1.2).kept (fun a ha _ => hR.1.1.1 a ha)
  refine W.bald (v := .int (oN (48 + x / 10))) C.1.1.1 C.1.1.2.1 h1 h2 h3 (fun g => g.elim (fun g => oN_nneg (by omega) g) (fun g => by have e9 : (oN x).toNatClampNeg = x := oN_ix (by omega); omega)) ?_ rfl rfl hd (kk H9 locs9 ls9 hR hL hv)
  rw [show (oN x).toNatClampNeg = x from oN_ix (by omega)]
  exact h6 x hx
end GC
theorem by_dg : ∀ y, y < 10 → narrow .byte (.int (oN (48 + y))) = .int (oN (48 + y)) ∧ fits .byte (.int (oN (48 + y))) = true := by decide +kernel
theorem c6_getChars {l : Launch} {G : jG} {sh : jSh} {κ : jKt} {q L x e : Nat} (hqs : sh q = (2, 2, L)) (hx : x < 100) (he : e ≤ L) (hL : L ≤ 142) (h2 : (if x < 10 then 1 else 2) ≤ e) : jM l G yJ6_getChars_ba4f3 cJ6_getChars_ba4f3 7 (some .int) 0 0 0 0 [.int (oN x), .int (oN e), .ref q] (sh, κ) (fun r σ' => (∃ y, r = some (.int y)) ∧ σ' = (sh, if x < 10 then kU κ q (e - 1) (.int (oN (48 + x % 10))) else kU (kU κ q (e - 1) (.int (oN (48 + x % 10)))) q (e - 2) (.int (oN (48 + x / 10))))) jNo := by
  have n0 : 0 ≤ oN x := Int32.not_lt.mp (oN_nneg (by omega))
  have ni : (-oN x : Int32).toInt = -(x : Int) := by
    rw [Int32.toInt_neg, oN_toInt (by omega), Int.bmod_def]
    split <;> omega
  have nn : (- -oN x : Int32) = oN x := by simp
  have n100 : -100 < (-oN x : Int32) := by
    rw [Int32.lt_iff_toInt_lt, ni]
    show (-100 : Int) < _
    omega
  have n9 : (-9 ≤ (-oN x : Int32)) ↔ x < 10 := by
    rw [Int32.le_iff_toInt_le, ni]
    show (-9 : Int) ≤ _ ↔ _
    omega
  have e1 : (oN e + (-1) : Int32) = oN (e - 1) := by
    have : e = (e - 1) + 1 := by split at h2 <;> omega
    rw [show (oN e : Int32) = oN (e - 1) + 1 from by rw [show (oN (e - 1) + 1 : Int32) = oN (e - 1 + 1) from oN_add _ 1, ← this]]
    rw [Int32.add_assoc]
    exact Int32.add_zero _
  have d1 := by_dg (x % 10) (by omega)
  have d2 := by_dg (x / 10) (by omega)
  refine r_body2 (by decide +kernel) (Nat.le_of_ble_eq_true rfl) fun F C hl hG hs ho => ?_
  subst hs
  show jW F _ 0 0 κ 0 [(0, .int (oN x)), (1, .int (oN e)), (2, .ref q)] []
  refine r_iload_n C.1 1 1 rfl dJ6_getChars_ba4f3_0 rfl ?_
  refine r_istore C.1 (lv' := [(0, .int (oN x)), (1, .int (oN e)), (2, .ref q), (5, .int (oN e))]) [1, 2, 3, 0] 3 rfl dJ6_getChars_ba4f3_1 (Nat.le_of_ble_eq_true rfl) rfl ?_
  refine r_iload_n C.1 0 4 rfl dJ6_getChars_ba4f3_3 rfl ?_
  refine r_if_ge C.1 11 7 rfl dJ6_getChars_ba4f3_4 rfl ⟨fun _ => ?_, fun c => absurd n0 c⟩
  refine r_iconst C.1 0 rfl 12 rfl dJ6_getChars_ba4f3_11 ?_
  refine r_istore C.1 (lv' := [(0, .int (oN x)), (1, .int (oN e)), (2, .ref q), (5, .int (oN e)), (6, .int 0)]) [1, 2, 3, 4, 0] 14 rfl dJ6_getChars_ba4f3_12 (Nat.le_of_ble_eq_true rfl) rfl ?_
  refine r_iload C.1 4 16 rfl dJ6_getChars_ba4f3_14 rfl ?_
  refine r_if_ne C.1 22 19 rfl dJ6_getChars_ba4f3_16 rfl ⟨fun c => absurd (rfl : (0 : Int32) = 0) c, fun _ => ?_⟩
  refine r_iload_n C.1 0 20 rfl dJ6_getChars_ba4f3_19 rfl ?_
  refine r_ineg C.1 21 rfl dJ6_getChars_ba4f3_20 ?_
  refine r_istore_n C.1 (lv' := [(0, .int (-(oN x))), (1, .int (oN e)), (2, .ref q), (5, .int (oN e)), (6, .int 0)]) [0, 1, 2, 3, 4] 22 rfl dJ6_getChars_ba4f3_21 (Nat.le_of_ble_eq_true rfl) rfl ?_
  refine r_iload_n C.1 0 23 rfl dJ6_getChars_ba4f3_22 rfl ?_
  refine r_bipush C.1 (-100) rfl 25 rfl dJ6_getChars_ba4f3_23 ?_
  refine r_icmp_gt C.1 72 28 rfl dJ6_getChars_ba4f3_25 rfl ⟨fun _ => ?_, fun c => absurd n100 c⟩
  refine r_aload_n C.1 2 73 rfl dJ6_getChars_ba4f3_72 rfl ?_
  refine r_iinc C.1 (lv' := [(0, .int (-(oN x))), (1, .int (oN e)), (2, .ref q), (5, .int (oN (e - 1))), (6, .int 0)]) 3 [1, 2, 3, 0, 4] 76 rfl dJ6_getChars_ba4f3_73 rfl (Nat.le_of_ble_eq_true rfl) e1 rfl ?_
  refine r_iload C.1 3 78 rfl dJ6_getChars_ba4f3_76 rfl ?_
  refine r_gD1 C.1 81 rfl dJ6_getChars_ba4f3_78 ?_
  refine r_iload_n C.1 0 82 rfl dJ6_getChars_ba4f3_81 rfl ?_
  refine r_ineg C.1 83 rfl dJ6_getChars_ba4f3_82 ?_
  rw [nn]
  refine r_bD1 C.1 hx 84 rfl dJ6_getChars_ba4f3_83 ?_
  refine r_bast C.1 (κ' := kU κ q (e - 1) (.int (oN (48 + x % 10)))) hqs ((oN_jin (by omega)).mpr (by split at h2 <;> omega)) d1.1 (by rw [oN_ix (by omega)]) 85 rfl dJ6_getChars_ba4f3_84 ?_
  refine r_iload_n C.1 0 86 rfl dJ6_getChars_ba4f3_85 rfl ?_
  refine r_bipush C.1 (-9) rfl 88 rfl dJ6_getChars_ba4f3_86 ?_
  refine r_icmp_ge C.1 104 91 rfl dJ6_getChars_ba4f3_88 rfl ⟨fun z => ?_, fun z => ?_⟩
  · have z1 : x < 10 := n9.mp z
    rw [if_pos z1] at ho
    refine r_iload C.1 4 106 rfl dJ6_getChars_ba4f3_104 rfl ?_
    refine r_if_eq C.1 118 109 rfl dJ6_getChars_ba4f3_106 rfl ⟨fun _ => ?_, fun c => absurd (rfl : (0 : Int32) = 0) c⟩
    refine r_iload C.1 3 120 rfl dJ6_getChars_ba4f3_118 rfl ?_
    refine r_zret C rfl rfl (Nat.le_of_ble_eq_true rfl) (Nat.le_of_ble_eq_true rfl) dJ6_getChars_ba4f3_120 ?_
    rw [jOut_q, ho]; exact ⟨⟨_, rfl⟩, rfl⟩
  · have z1 : ¬ x < 10 := fun g => z (n9.mpr g)
    rw [if_neg z1] at ho h2
    have e2 : (oN (e - 1) + (-1) : Int32) = oN (e - 2) := by
      rw [show (oN (e - 1) : Int32) = oN (e - 2) + 1 from by rw [show (oN (e - 2) + 1 : Int32) = oN (e - 2 + 1) from oN_add _ 1, show e - 2 + 1 = e - 1 from by omega]]
      rw [Int32.add_assoc]
      exact Int32.add_zero _
    refine r_aload_n C.1 2 92 rfl dJ6_getChars_ba4f3_91 rfl ?_
    refine r_iinc C.1 (lv' := [(0, .int (-(oN x))), (1, .int (oN e)), (2, .ref q), (5, .int (oN (e - 2))), (6, .int 0)]) 3 [1, 2, 3, 0, 4] 95 rfl dJ6_getChars_ba4f3_92 rfl (Nat.le_of_ble_eq_true rfl) e2 rfl ?_
    refine r_iload C.1 3 97 rfl dJ6_getChars_ba4f3_95 rfl ?_
    refine r_gD2 C.1 100 rfl dJ6_getChars_ba4f3_97 ?_
    refine r_iload_n C.1 0 101 rfl dJ6_getChars_ba4f3_100 rfl ?_
    refine r_ineg C.1 102 rfl dJ6_getChars_ba4f3_101 ?_
    rw [nn]
    refine r_bD2 C.1 hx 103 rfl dJ6_getChars_ba4f3_102 ?_
    refine r_bast C.1 (κ' := kU (kU κ q (e - 1) (.int (oN (48 + x % 10)))) q (e - 2) (.int (oN (48 + x / 10)))) hqs ((oN_jin (by omega)).mpr (by omega)) d2.1 (by rw [oN_ix (by omega)]) 104 rfl dJ6_getChars_ba4f3_103 ?_
    refine r_iload C.1 4 106 rfl dJ6_getChars_ba4f3_104 rfl ?_
    refine r_if_eq C.1 118 109 rfl dJ6_getChars_ba4f3_106 rfl ⟨fun _ => ?_, fun c => absurd (rfl : (0 : Int32) = 0) c⟩
    refine r_iload C.1 3 120 rfl dJ6_getChars_ba4f3_118 rfl ?_
    refine r_zret C rfl rfl (Nat.le_of_ble_eq_true rfl) (Nat.le_of_ble_eq_true rfl) dJ6_getChars_ba4f3_120 ?_
    rw [jOut_q, ho]; exact ⟨⟨_, rfl⟩, rfl⟩
