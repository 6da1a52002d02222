/-! pure methods and walks: ['java/lang/Integer', 'TailorWorkshop$Customer'] -/
def P_J6_bitCount_0f7a4 (κ : jKt) (x0 : Int32) : Option (Int32) :=
  bnd (x0 - ((iushr x0 1) &&& 1431655765)) fun y17 =>
  bnd ((y17 &&& 858993459) + ((iushr y17 2) &&& 858993459)) fun y19 =>
  bnd ((y19 + (iushr y19 4)) &&& 252645135) fun y21 =>
  bnd ((y21 + (iushr y21 8)) + (iushr (y21 + (iushr y21 8)) 16)) fun y23 =>
  some (y23 &&& 63)
def P_X0_takeOver (κ : jKt) (a0 : Nat) (a1 : Nat) : Option (jKt) :=
  bnd (kU κ a0 0 (.int (kI κ a1 0))) fun κ13 =>
  bnd (kCp κ13 (kR κ13 a1 1) (kR κ13 a0 1) 16) fun κ17 =>
  some κ17
def P_X0_begin_9 (a0 : Nat) (v2 : Int32) : Nat → jKt → Int32 → Option (jKt)
  | 0, _, _ => none
  | n + 1, κ, v3 =>
    if (kI κ a0 0) ≤ v3 then
  some κ
  else
  ck (jin v3 16) <|
  bnd (kU κ (kR κ a0 1) (ix v3) (.int v2)) fun κ18 =>
  P_X0_begin_9 a0 v2 n κ18 (v3 + 1)
def P_X0_begin (κ : jKt) (a0 : Nat) (x1 : Int32) (x2 : Int32) : Option (jKt) :=
  bnd (kU κ a0 0 (.int (2 * x1))) fun κ20 =>
  P_X0_begin_9 a0 x2 4000 κ20 0
def P_X0_hasLeg (κ : jKt) (a0 : Nat) (x1 : Int32) : Option (Int32) :=
  if x1 < 0 then
  some 0
  else
  if (kI κ a0 0) ≤ x1 then
  some 0
  else
  some 1
def P_X0_legSum_4 (κ : jKt) (a0 : Nat) : Nat → Int32 → Int32 → Option (Int32)
  | 0, _, _ => none
  | n + 1, v1, v2 =>
    if (kI κ a0 0) ≤ v2 then
  some v1
  else
  ck (jin v2 16) <|
  bnd (v1 + (kI κ (kR κ a0 1) (ix v2))) fun y14 =>
  P_X0_legSum_4 κ a0 n y14 (v2 + 1)
def P_X0_legSum (κ : jKt) (a0 : Nat) : Option (Int32) :=
  P_X0_legSum_4 κ a0 4000 0 0
def P_X0_hasEvenPairs_2 (κ : jKt) (a0 : Nat) : Nat → Int32 → Option (Int32)
  | 0, _ => none
  | n + 1, v1 =>
    if (kI κ a0 0) ≤ (v1 + 1) then
  some 1
  else
  ck (jin v1 16) <|
  ck (jin (v1 + 1) 16) <|
  if (jabs ((kI κ (kR κ a0 1) (ix v1)) - (kI κ (kR κ a0 1) (ix (v1 + 1))))) ≤ 1 then
  P_X0_hasEvenPairs_2 κ a0 n (v1 + 2)
  else
  some 0
def P_X0_hasEvenPairs (κ : jKt) (a0 : Nat) : Option (Int32) :=
  P_X0_hasEvenPairs_2 κ a0 4000 0
set_option maxRecDepth 20000 in
theorem w_J6_bitCount_0f7a4_0 {F : jFm} (C : jB F RJ6 cJ6_bitCount_0f7a4 1 (some .int) 0 0 0 0) {κ : jKt} {x0 : Int32} {r : Int32} (hq : jOut F (some (.int r)) κ) (h : P_J6_bitCount_0f7a4 κ x0 = some r) : jW F 1 0 0 κ 0 [(0, .int x0)] [] := by
  unfold P_J6_bitCount_0f7a4 at h
  refine r_iload_n C.1 0 1 rfl dJ6_bitCount_0f7a4_0 rfl ?_
  refine r_iload_n C.1 0 2 rfl dJ6_bitCount_0f7a4_1 rfl ?_
  refine r_iconst C.1 1 rfl 3 rfl dJ6_bitCount_0f7a4_2 ?_
  refine r_iushr C.1 4 rfl dJ6_bitCount_0f7a4_3 ?_
  refine r_ldc_w C.1 ld_J6_265 7 rfl dJ6_bitCount_0f7a4_4 ?_
  refine r_iand C.1 8 rfl dJ6_bitCount_0f7a4_7 ?_
  refine r_isub C.1 9 rfl dJ6_bitCount_0f7a4_8 ?_
  obtain ⟨y17, e18, h⟩ := bnd_some h
  refine r_top e18 ?_
  refine r_istore_n C.1 (lv' := [(0, .int y17)]) [0] 10 rfl dJ6_bitCount_0f7a4_9 (Nat.le_of_ble_eq_true rfl) rfl ?_
  refine r_iload_n C.1 0 11 rfl dJ6_bitCount_0f7a4_10 rfl ?_
  refine r_ldc_w C.1 ld_J6_266 14 rfl dJ6_bitCount_0f7a4_11 ?_
  refine r_iand C.1 15 rfl dJ6_bitCount_0f7a4_14 ?_
  refine r_iload_n C.1 0 16 rfl dJ6_bitCount_0f7a4_15 rfl ?_
  refine r_iconst C.1 2 rfl 17 rfl dJ6_bitCount_0f7a4_16 ?_
  refine r_iushr C.1 18 rfl dJ6_bitCount_0f7a4_17 ?_
  refine r_ldc_w C.1 ld_J6_266 21 rfl dJ6_bitCount_0f7a4_18 ?_
  refine r_iand C.1 22 rfl dJ6_bitCount_0f7a4_21 ?_
  refine r_iadd C.1 23 rfl dJ6_bitCount_0f7a4_22 ?_
  obtain ⟨y19, e20, h⟩ := bnd_some h
  refine r_top e20 ?_
  refine r_istore_n C.1 (lv' := [(0, .int y19)]) [0] 24 rfl dJ6_bitCount_0f7a4_23 (Nat.le_of_ble_eq_true rfl) rfl ?_
  refine r_iload_n C.1 0 25 rfl dJ6_bitCount_0f7a4_24 rfl ?_
  refine r_iload_n C.1 0 26 rfl dJ6_bitCount_0f7a4_25 rfl ?_
  refine r_iconst C.1 4 rfl 27 rfl dJ6_bitCount_0f7a4_26 ?_
  refine r_iushr C.1 28 rfl dJ6_bitCount_0f7a4_27 ?_
  refine r_iadd C.1 29 rfl dJ6_bitCount_0f7a4_28 ?_
  refine r_ldc_w C.1 ld_J6_267 32 rfl dJ6_bitCount_0f7a4_29 ?_
  refine r_iand C.1 33 rfl dJ6_bitCount_0f7a4_32 ?_
  obtain ⟨y21, e22, h⟩ := bnd_some h
  refine r_top e22 ?_
  refine r_istore_n C.1 (lv' := [(0, .int y21)]) [0] 34 rfl dJ6_bitCount_0f7a4_33 (Nat.le_of_ble_eq_true rfl) rfl ?_
  refine r_iload_n C.1 0 35 rfl dJ6_bitCount_0f7a4_34 rfl ?_
  refine r_iload_n C.1 0 36 rfl dJ6_bitCount_0f7a4_35 rfl ?_
  refine r_bipush C.1 8 rfl 38 rfl dJ6_bitCount_0f7a4_36 ?_
  refine r_iushr C.1 39 rfl dJ6_bitCount_0f7a4_38 ?_
  refine r_iadd C.1 40 rfl dJ6_bitCount_0f7a4_39 ?_
  refine r_istore_n C.1 (lv' := [(0, .int (y21 + (iushr y21 8)))]) [0] 41 rfl dJ6_bitCount_0f7a4_40 (Nat.le_of_ble_eq_true rfl) rfl ?_
  refine r_iload_n C.1 0 42 rfl dJ6_bitCount_0f7a4_41 rfl ?_
  refine r_iload_n C.1 0 43 rfl dJ6_bitCount_0f7a4_42 rfl ?_
  refine r_bipush C.1 16 rfl 45 rfl dJ6_bitCount_0f7a4_43 ?_
  refine r_iushr C.1 46 rfl dJ6_bitCount_0f7a4_45 ?_
  refine r_iadd C.1 47 rfl dJ6_bitCount_0f7a4_46 ?_
  obtain ⟨y23, e24, h⟩ := bnd_some h
  refine r_top e24 ?_
  refine r_istore_n C.1 (lv' := [(0, .int y23)]) [0] 48 rfl dJ6_bitCount_0f7a4_47 (Nat.le_of_ble_eq_true rfl) rfl ?_
  refine r_iload_n C.1 0 49 rfl dJ6_bitCount_0f7a4_48 rfl ?_
  refine r_bipush C.1 63 rfl 51 rfl dJ6_bitCount_0f7a4_49 ?_
  refine r_iand C.1 52 rfl dJ6_bitCount_0f7a4_51 ?_
  cases h
  exact r_zret C rfl rfl (Nat.le_of_ble_eq_true rfl) (Nat.le_of_ble_eq_true rfl) dJ6_bitCount_0f7a4_52 hq
theorem c_J6_bitCount_0f7a4 {l : Launch} {G : jG} {sh : jSh} {κ : jKt} {x0 : Int32} {r : Int32} (h : P_J6_bitCount_0f7a4 κ x0 = some r) : jM l G yJ6_bitCount_0f7a4 cJ6_bitCount_0f7a4 1 (some .int) 0 0 0 0 [.int x0] (sh, κ) (jIs (some (.int r)) (sh, κ)) jNo :=
  r_body (by decide) (Nat.le_of_ble_eq_true rfl) fun F C hl hG hs ho hx => by
    subst hs
    exact w_J6_bitCount_0f7a4_0 C (by rw [ho]; exact ⟨rfl, rfl⟩) h
set_option maxRecDepth 20000 in
theorem w_X0_takeOver_0 {F : jFm} (C : jB F RX0 cX0_takeOver 2 none 1 0 0 80) {κ : jKt} {a0 : Nat} (ha0 : jSof F a0 = (1, 4, 2)) {a1 : Nat} (ha1 : jSof F a1 = (1, 4, 2)) {r : jKt} (hq : jOut F none r) (h : P_X0_takeOver κ a0 a1 = some r) : jW F 2 0 0 κ 0 [(0, .ref a0), (1, .ref a1)] [] := by
  unfold P_X0_takeOver at h
  refine r_aload_n C.1 0 1 rfl dX0_takeOver_0 rfl ?_
  refine r_aload_n C.1 1 2 rfl dX0_takeOver_1 rfl ?_
  refine r_getI C.1 0 fl_X0_9 rfl ha1 5 rfl dX0_takeOver_2 ?_
  obtain ⟨κ13, e14, h⟩ := bnd_some h
  refine r_putI C.1 0 fw_X0_9 rfl rfl rfl ha0 e14 8 rfl dX0_takeOver_5 ?_
  refine r_aload_n C.1 1 9 rfl dX0_takeOver_8 rfl ?_
  refine r_getR C.1 1 fl_X0_15 rfl ha1 12 rfl dX0_takeOver_9 (fun (h15 : jSof F (kR κ13 a1 1) = (2, 0, 16)) => ?_)
  refine r_iconst C.1 0 rfl 13 rfl dX0_takeOver_12 ?_
  refine r_aload_n C.1 0 14 rfl dX0_takeOver_13 rfl ?_
  refine r_getR C.1 1 fl_X0_15 rfl ha0 17 rfl dX0_takeOver_14 (fun (h16 : jSof F (kR κ13 a0 1) = (2, 0, 16)) => ?_)
  refine r_iconst C.1 0 rfl 18 rfl dX0_takeOver_17 ?_
  refine r_bipush C.1 16 rfl 20 rfl dX0_takeOver_18 ?_
  obtain ⟨κ17, e18, h⟩ := bnd_some h
  refine r_acp C.1 ac_X0_19 (by decide) h15 h16 (by decide) rfl ⟨Nat.le_of_ble_eq_true rfl, Nat.le_of_ble_eq_true rfl⟩ e18 23 rfl dX0_takeOver_20 ?_
  cases h
  exact r_vret C rfl (Nat.le_of_ble_eq_true rfl) (Nat.le_of_ble_eq_true rfl) dX0_takeOver_23 hq
theorem c_X0_takeOver {l : Launch} {G : jG} {sh : jSh} {κ : jKt} {a0 : Nat} (ha0 : sh a0 = (1, 4, 2)) {a1 : Nat} (ha1 : sh a1 = (1, 4, 2))  {κr : jKt} (h : P_X0_takeOver κ a0 a1 = some κr) : jM l G yX0_takeOver cX0_takeOver 2 none 1 0 0 80 [.ref a0, .ref a1] (sh, κ) (jIs none (sh, κr)) jNo :=
  r_body (by decide) (Nat.le_of_ble_eq_true rfl) fun F C hl hG hs ho hx => by
    subst hs
    exact w_X0_takeOver_0 C ha0 ha1 (by rw [ho]; exact ⟨rfl, rfl⟩) h
set_option maxRecDepth 20000 in
theorem w_X0_begin_9 {F : jFm} (C : jB F RX0 cX0_begin 4 none 0 0 0 0) {a0 : Nat} (ha0 : jSof F a0 = (1, 4, 2)) {v2 : Int32} {r : jKt} (hq : jOut F none r) : ∀ (n : Nat) (κ : jKt) (v3 : Int32), P_X0_begin_9 a0 v2 n κ v3 = some r → jW F 4 0 0 κ 9 [(0, .ref a0), (2, .int v2), (3, .int v3)] [] := by
  intro n
  induction n with
  | zero => intro κ v3 h; cases h
  | succ n ih =>
    intro κ v3 h
    rw [P_X0_begin_9] at h
    refine r_iload_n C.1 2 10 rfl dX0_begin_9 rfl ?_
    refine r_aload_n C.1 0 11 rfl dX0_begin_10 rfl ?_
    refine r_getI C.1 0 fl_X0_9 rfl ha0 14 rfl dX0_begin_11 ?_
    refine r_icmp_ge C.1 30 17 rfl dX0_begin_14 rfl ⟨fun c15 => ?_, fun c15 => ?_⟩
    · have h := if_some_t c15 h
      cases h
      exact r_vret C rfl (Nat.le_of_ble_eq_true rfl) (Nat.le_of_ble_eq_true rfl) dX0_begin_30 hq
    · have h := if_some_f c15 h
      refine r_aload_n C.1 0 18 rfl dX0_begin_17 rfl ?_
      refine r_getR C.1 1 fl_X0_15 rfl ha0 21 rfl dX0_begin_18 (fun (h16 : jSof F (kR κ a0 1) = (2, 0, 16)) => ?_)
      refine r_iload_n C.1 2 22 rfl dX0_begin_21 rfl ?_
      refine r_iload_n C.1 1 23 rfl dX0_begin_22 rfl ?_
      obtain ⟨i17, h⟩ := ck_some h
      obtain ⟨κ18, e19, h⟩ := bnd_some h
      refine r_iast C.1 h16 i17 e19 24 rfl dX0_begin_23 ?_
      refine r_iinc C.1 (lv' := [(0, .ref a0), (2, .int v2), (3, .int (v3 + 1))]) 2 [1, 2, 0] 27 rfl dX0_begin_24 rfl (Nat.le_of_ble_eq_true rfl) rfl rfl ?_
      refine r_goto C.1 9 dX0_begin_27 rfl ?_
      exact ih κ18 (v3 + 1) h
set_option maxRecDepth 20000 in
theorem w_X0_begin_0 {F : jFm} (C : jB F RX0 cX0_begin 4 none 0 0 0 0) {κ : jKt} {a0 : Nat} (ha0 : jSof F a0 = (1, 4, 2)) {x1 : Int32} {x2 : Int32} {r : jKt} (hq : jOut F none r) (h : P_X0_begin κ a0 x1 x2 = some r) : jW F 4 0 0 κ 0 [(0, .ref a0), (1, .int x1), (2, .int x2)] [] := by
  unfold P_X0_begin at h
  refine r_aload_n C.1 0 1 rfl dX0_begin_0 rfl ?_
  refine r_iconst C.1 2 rfl 2 rfl dX0_begin_1 ?_
  refine r_iload_n C.1 1 3 rfl dX0_begin_2 rfl ?_
  refine r_imul C.1 4 rfl dX0_begin_3 ?_
  obtain ⟨κ20, e21, h⟩ := bnd_some h
  refine r_putI C.1 0 fw_X0_9 rfl rfl rfl ha0 e21 7 rfl dX0_begin_4 ?_
  refine r_iconst C.1 0 rfl 8 rfl dX0_begin_7 ?_
  refine r_istore_n C.1 (lv' := [(0, .ref a0), (1, .int x1), (2, .int x2), (3, .int 0)]) [1, 2, 3, 0] 9 rfl dX0_begin_8 (Nat.le_of_ble_eq_true rfl) rfl ?_
  refine r_lv [0, 2, 3] rfl ?_
  exact w_X0_begin_9 C ha0 hq 4000 κ20 0 h
theorem c_X0_begin {l : Launch} {G : jG} {sh : jSh} {κ : jKt} {a0 : Nat} (ha0 : sh a0 = (1, 4, 2)) {x1 : Int32} {x2 : Int32}  {κr : jKt} (h : P_X0_begin κ a0 x1 x2 = some κr) : jM l G yX0_begin cX0_begin 4 none 0 0 0 0 [.ref a0, .int x1, .int x2] (sh, κ) (jIs none (sh, κr)) jNo :=
  r_body (by decide) (Nat.le_of_ble_eq_true rfl) fun F C hl hG hs ho hx => by
    subst hs
    exact w_X0_begin_0 C ha0 (by rw [ho]; exact ⟨rfl, rfl⟩) h
set_option maxRecDepth 20000 in
theorem w_X0_hasLeg_0 {F : jFm} (C : jB F RX0 cX0_hasLeg 2 (some .boolean) 0 0 0 0) {κ : jKt} {a0 : Nat} (ha0 : jSof F a0 = (1, 4, 2)) {x1 : Int32} {r : Int32} (hq : jOut F (some (.int r)) κ) (h : P_X0_hasLeg κ a0 x1 = some r) : jW F 2 0 0 κ 0 [(0, .ref a0), (1, .int x1)] [] := by
  unfold P_X0_hasLeg at h
  refine r_iload_n C.1 1 1 rfl dX0_hasLeg_0 rfl ?_
  refine r_if_lt C.1 16 4 rfl dX0_hasLeg_1 rfl ⟨fun c5 => ?_, fun c5 => ?_⟩
  · have h := if_some_t c5 h
    refine r_iconst C.1 0 rfl 17 rfl dX0_hasLeg_16 ?_
    cases h
    exact r_zret C rfl rfl (Nat.le_of_ble_eq_true rfl) (Nat.le_of_ble_eq_true rfl) dX0_hasLeg_17 hq
  · have h := if_some_f c5 h
    refine r_iload_n C.1 1 5 rfl dX0_hasLeg_4 rfl ?_
    refine r_aload_n C.1 0 6 rfl dX0_hasLeg_5 rfl ?_
    refine r_getI C.1 0 fl_X0_9 rfl ha0 9 rfl dX0_hasLeg_6 ?_
    refine r_icmp_ge C.1 16 12 rfl dX0_hasLeg_9 rfl ⟨fun c6 => ?_, fun c6 => ?_⟩
    · have h := if_some_t c6 h
      refine r_iconst C.1 0 rfl 17 rfl dX0_hasLeg_16 ?_
      cases h
      exact r_zret C rfl rfl (Nat.le_of_ble_eq_true rfl) (Nat.le_of_ble_eq_true rfl) dX0_hasLeg_17 hq
    · have h := if_some_f c6 h
      refine r_iconst C.1 1 rfl 13 rfl dX0_hasLeg_12 ?_
      refine r_goto C.1 17 dX0_hasLeg_13 rfl ?_
      cases h
      exact r_zret C rfl rfl (Nat.le_of_ble_eq_true rfl) (Nat.le_of_ble_eq_true rfl) dX0_hasLeg_17 hq
theorem c_X0_hasLeg {l : Launch} {G : jG} {sh : jSh} {κ : jKt} {a0 : Nat} (ha0 : sh a0 = (1, 4, 2)) {x1 : Int32} {r : Int32} (h : P_X0_hasLeg κ a0 x1 = some r) : jM l G yX0_hasLeg cX0_hasLeg 2 (some .boolean) 0 0 0 0 [.ref a0, .int x1] (sh, κ) (jIs (some (.int r)) (sh, κ)) jNo :=
  r_body (by decide) (Nat.le_of_ble_eq_true rfl) fun F C hl hG hs ho hx => by
    subst hs
    exact w_X0_hasLeg_0 C ha0 (by rw [ho]; exact ⟨rfl, rfl⟩) h
set_option maxRecDepth 20000 in
theorem w_X0_legSum_4 {F : jFm} (C : jB F RX0 cX0_legSum 3 (some .int) 0 0 0 0) {κ : jKt} {a0 : Nat} (ha0 : jSof F a0 = (1, 4, 2)) {r : Int32} (hq : jOut F (some (.int r)) κ) : ∀ (n : Nat) (v1 : Int32) (v2 : Int32), P_X0_legSum_4 κ a0 n v1 v2 = some r → jW F 3 0 0 κ 4 [(0, .ref a0), (1, .int v1), (2, .int v2)] [] := by
  intro n
  induction n with
  | zero => intro v1 v2 h; cases h
  | succ n ih =>
    intro v1 v2 h
    rw [P_X0_legSum_4] at h
    refine r_iload_n C.1 2 5 rfl dX0_legSum_4 rfl ?_
    refine r_aload_n C.1 0 6 rfl dX0_legSum_5 rfl ?_
    refine r_getI C.1 0 fl_X0_9 rfl ha0 9 rfl dX0_legSum_6 ?_
    refine r_icmp_ge C.1 27 12 rfl dX0_legSum_9 rfl ⟨fun c11 => ?_, fun c11 => ?_⟩
    · have h := if_some_t c11 h
      refine r_iload_n C.1 1 28 rfl dX0_legSum_27 rfl ?_
      cases h
      exact r_zret C rfl rfl (Nat.le_of_ble_eq_true rfl) (Nat.le_of_ble_eq_true rfl) dX0_legSum_28 hq
    · have h := if_some_f c11 h
      refine r_iload_n C.1 1 13 rfl dX0_legSum_12 rfl ?_
      refine r_aload_n C.1 0 14 rfl dX0_legSum_13 rfl ?_
      refine r_getR C.1 1 fl_X0_15 rfl ha0 17 rfl dX0_legSum_14 (fun (h12 : jSof F (kR κ a0 1) = (2, 0, 16)) => ?_)
      refine r_iload_n C.1 2 18 rfl dX0_legSum_17 rfl ?_
      obtain ⟨i13, h⟩ := ck_some h
      refine r_iald C.1 h12 i13 19 rfl dX0_legSum_18 ?_
      refine r_iadd C.1 20 rfl dX0_legSum_19 ?_
      obtain ⟨y14, e15, h⟩ := bnd_some h
      refine r_top e15 ?_
      refine r_istore_n C.1 (lv' := [(0, .ref a0), (1, .int y14), (2, .int v2)]) [1, 0, 2] 21 rfl dX0_legSum_20 (Nat.le_of_ble_eq_true rfl) rfl ?_
      refine r_iinc C.1 (lv' := [(0, .ref a0), (1, .int y14), (2, .int (v2 + 1))]) 2 [1, 2, 0] 24 rfl dX0_legSum_21 rfl (Nat.le_of_ble_eq_true rfl) rfl rfl ?_
      refine r_goto C.1 4 dX0_legSum_24 rfl ?_
      exact ih y14 (v2 + 1) h
set_option maxRecDepth 20000 in
theorem w_X0_legSum_0 {F : jFm} (C : jB F RX0 cX0_legSum 3 (some .int) 0 0 0 0) {κ : jKt} {a0 : Nat} (ha0 : jSof F a0 = (1, 4, 2)) {r : Int32} (hq : jOut F (some (.int r)) κ) (h : P_X0_legSum κ a0 = some r) : jW F 3 0 0 κ 0 [(0, .ref a0)] [] := by
  unfold P_X0_legSum at h
  refine r_iconst C.1 0 rfl 1 rfl dX0_legSum_0 ?_
  refine r_istore_n C.1 (lv' := [(0, .ref a0), (1, .int 0)]) [1, 0] 2 rfl dX0_legSum_1 (Nat.le_of_ble_eq_true rfl) rfl ?_
  refine r_iconst C.1 0 rfl 3 rfl dX0_legSum_2 ?_
  refine r_istore_n C.1 (lv' := [(0, .ref a0), (1, .int 0), (2, .int 0)]) [1, 2, 0] 4 rfl dX0_legSum_3 (Nat.le_of_ble_eq_true rfl) rfl ?_
  exact w_X0_legSum_4 C ha0 hq 4000 0 0 h
theorem c_X0_legSum {l : Launch} {G : jG} {sh : jSh} {κ : jKt} {a0 : Nat} (ha0 : sh a0 = (1, 4, 2)) {r : Int32} (h : P_X0_legSum κ a0 = some r) : jM l G yX0_legSum cX0_legSum 3 (some .int) 0 0 0 0 [.ref a0] (sh, κ) (jIs (some (.int r)) (sh, κ)) jNo :=
  r_body (by decide) (Nat.le_of_ble_eq_true rfl) fun F C hl hG hs ho hx => by
    subst hs
    exact w_X0_legSum_0 C ha0 (by rw [ho]; exact ⟨rfl, rfl⟩) h
set_option maxRecDepth 20000 in
theorem w_X0_hasEvenPairs_2 {F : jFm} (C : jB F RX0 cX0_hasEvenPairs 2 (some .boolean) 1 0 0 24) {κ : jKt} {a0 : Nat} (ha0 : jSof F a0 = (1, 4, 2)) {r : Int32} (hq : jOut F (some (.int r)) κ) : ∀ (n : Nat) (v1 : Int32), P_X0_hasEvenPairs_2 κ a0 n v1 = some r → jW F 2 0 0 κ 2 [(0, .ref a0), (1, .int v1)] [] := by
  intro n
  induction n with
  | zero => intro v1 h; cases h
  | succ n ih =>
    intro v1 h
    rw [P_X0_hasEvenPairs_2] at h
    refine r_iload_n C.1 1 3 rfl dX0_hasEvenPairs_2 rfl ?_
    refine r_iconst C.1 1 rfl 4 rfl dX0_hasEvenPairs_3 ?_
    refine r_iadd C.1 5 rfl dX0_hasEvenPairs_4 ?_
    refine r_aload_n C.1 0 6 rfl dX0_hasEvenPairs_5 rfl ?_
    refine r_getI C.1 0 fl_X0_9 rfl ha0 9 rfl dX0_hasEvenPairs_6 ?_
    refine r_icmp_ge C.1 42 12 rfl dX0_hasEvenPairs_9 rfl ⟨fun c13 => ?_, fun c13 => ?_⟩
    · have h := if_some_t c13 h
      refine r_iconst C.1 1 rfl 43 rfl dX0_hasEvenPairs_42 ?_
      cases h
      exact r_zret C rfl rfl (Nat.le_of_ble_eq_true rfl) (Nat.le_of_ble_eq_true rfl) dX0_hasEvenPairs_43 hq
    · have h := if_some_f c13 h
      refine r_aload_n C.1 0 13 rfl dX0_hasEvenPairs_12 rfl ?_
      refine r_getR C.1 1 fl_X0_15 rfl ha0 16 rfl dX0_hasEvenPairs_13 (fun (h14 : jSof F (kR κ a0 1) = (2, 0, 16)) => ?_)
      refine r_iload_n C.1 1 17 rfl dX0_hasEvenPairs_16 rfl ?_
      obtain ⟨i15, h⟩ := ck_some h
      refine r_iald C.1 h14 i15 18 rfl dX0_hasEvenPairs_17 ?_
      refine r_aload_n C.1 0 19 rfl dX0_hasEvenPairs_18 rfl ?_
      refine r_getR C.1 1 fl_X0_15 rfl ha0 22 rfl dX0_hasEvenPairs_19 (fun (h16 : jSof F (kR κ a0 1) = (2, 0, 16)) => ?_)
      refine r_iload_n C.1 1 23 rfl dX0_hasEvenPairs_22 rfl ?_
      refine r_iconst C.1 1 rfl 24 rfl dX0_hasEvenPairs_23 ?_
      refine r_iadd C.1 25 rfl dX0_hasEvenPairs_24 ?_
      obtain ⟨i17, h⟩ := ck_some h
      refine r_iald C.1 h16 i17 26 rfl dX0_hasEvenPairs_25 ?_
      refine r_isub C.1 27 rfl dX0_hasEvenPairs_26 ?_
      refine r_mabs C.1 mx_X0_25 ⟨Nat.le_of_ble_eq_true rfl, Nat.le_of_ble_eq_true rfl⟩ ⟨Nat.le_of_ble_eq_true rfl, Nat.le_of_ble_eq_true rfl⟩ 30 rfl dX0_hasEvenPairs_27 ?_
      refine r_iconst C.1 1 rfl 31 rfl dX0_hasEvenPairs_30 ?_
      refine r_icmp_le C.1 36 34 rfl dX0_hasEvenPairs_31 rfl ⟨fun c18 => ?_, fun c18 => ?_⟩
      · have h := if_some_t c18 h
        refine r_iinc C.1 (lv' := [(0, .ref a0), (1, .int (v1 + 2))]) 1 [1, 0] 39 rfl dX0_hasEvenPairs_36 rfl (Nat.le_of_ble_eq_true rfl) rfl rfl ?_
        refine r_goto C.1 2 dX0_hasEvenPairs_39 rfl ?_
        exact ih (v1 + 2) h
      · have h := if_some_f c18 h
        refine r_iconst C.1 0 rfl 35 rfl dX0_hasEvenPairs_34 ?_
        cases h
        exact r_zret C rfl rfl (Nat.le_of_ble_eq_true rfl) (Nat.le_of_ble_eq_true rfl) dX0_hasEvenPairs_35 hq
set_option maxRecDepth 20000 in
theorem w_X0_hasEvenPairs_0 {F : jFm} (C : jB F RX0 cX0_hasEvenPairs 2 (some .boolean) 1 0 0 24) {κ : jKt} {a0 : Nat} (ha0 : jSof F a0 = (1, 4, 2)) {r : Int32} (hq : jOut F (some (.int r)) κ) (h : P_X0_hasEvenPairs κ a0 = some r) : jW F 2 0 0 κ 0 [(0, .ref a0)] [] := by
  unfold P_X0_hasEvenPairs at h
  refine r_iconst C.1 0 rfl 1 rfl dX0_hasEvenPairs_0 ?_
  refine r_istore_n C.1 (lv' := [(0, .ref a0), (1, .int 0)]) [1, 0] 2 rfl dX0_hasEvenPairs_1 (Nat.le_of_ble_eq_true rfl) rfl ?_
  exact w_X0_hasEvenPairs_2 C ha0 hq 4000 0 h
theorem c_X0_hasEvenPairs {l : Launch} {G : jG} {sh : jSh} {κ : jKt} {a0 : Nat} (ha0 : sh a0 = (1, 4, 2)) {r : Int32} (h : P_X0_hasEvenPairs κ a0 = some r) : jM l G yX0_hasEvenPairs cX0_hasEvenPairs 2 (some .boolean) 1 0 0 24 [.ref a0] (sh, κ) (jIs (some (.int r)) (sh, κ)) jNo :=
  r_body (by decide) (Nat.le_of_ble_eq_true rfl) fun F C hl hG hs ho hx => by
    subst hs
    exact w_X0_hasEvenPairs_0 C ha0 (by rw [ho]; exact ⟨rfl, rfl⟩) h
