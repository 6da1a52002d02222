/-! pure methods and walks: ['java/lang/String', 'java/lang/StringLatin1', 'TailorWorkshop$Script'] -/
def P_J0_coder_7d493 (κ : jKt) (a0 : Nat) : Option (Int32) :=
  some 0
def P_J0_isLatin1_aae02 (κ : jKt) (a0 : Nat) : Option (Int32) :=
  some 1
def P_J0_length_8abf5 (κ : jKt) (a0 : Nat) : Option (Int32) :=
  bd (P_J0_coder_7d493 κ a0) fun y6 =>
  some ((Int32.ofNat (kSn a0)) >>> (y6 &&& 31))
def P_J1_charAt_3b067 (κ : jKt) (a0 : Nat) (x1 : Int32) : Option (Int32) :=
  bd (P_J0_checkIndex_df160 κ x1 (Int32.ofNat (kSn a0))) fun _ =>
  ck (jin x1 (kSn a0)) <|
  ck (jch (i2c ((kSb a0 (ix x1)) &&& 255))) <|
  some (i2c ((kSb a0 (ix x1)) &&& 255))
def P_J0_charAt_5068e (κ : jKt) (a0 : Nat) (x1 : Int32) : Option (Int32) :=
  bd (P_J0_isLatin1_aae02 κ a0) fun y14 =>
  if y14 = 0 then
  none
  else
  bd (P_J1_charAt_3b067 κ a0 x1) fun y17 =>
  ck (jch y17) <|
  some y17
def P_X2_append (κ : jKt) (a0 : Nat) (x1 : Int32) : Option (Int32 × jKt) :=
  if 60 ≤ (kI κ a0 1) then
  some (kI κ a0 1, κ)
  else
  ck (jin (kI κ a0 1) 60) <|
  ck (jch x1) <|
  bnd (kU κ (kR κ a0 0) (ix (kI κ a0 1)) (.int x1)) fun κ20 =>
  bnd (kU κ20 a0 1 (.int ((kI κ20 a0 1) + 1))) fun κ23 =>
  some (kI κ23 a0 1, κ23)
def P_X2_endOfDigits_5 (κ : jKt) (a0 : Nat) (v2 : Int32) : Nat → Int32 → Int32 → Option (Int32)
  | 0, _, _ => none
  | n + 1, v3, v4 =>
    if v2 ≤ v4 then
  some v3
  else
  if (kI κ a0 1) ≤ v3 then
  some v3
  else
  ck (jin v3 60) <|
  if (kI κ (kR κ a0 0) (ix v3)) < 48 then
  some v3
  else
  ck (jin v3 60) <|
  if (kI κ (kR κ a0 0) (ix v3)) ≤ 57 then
  P_X2_endOfDigits_5 κ a0 v2 n (v3 + 1) (v4 + 1)
  else
  some v3
def P_X2_endOfDigits (κ : jKt) (a0 : Nat) (x1 : Int32) (x2 : Int32) : Option (Int32) :=
  P_X2_endOfDigits_5 κ a0 x2 4000 x1 0
def P_X2_valueOf_5 (κ : jKt) (a0 : Nat) (v2 : Int32) : Nat → Int32 → Int32 → Option (Int32)
  | 0, _, _ => none
  | n + 1, v3, v4 =>
    if v2 ≤ v4 then
  some v3
  else
  ck (jin v4 60) <|
  bnd ((10 * v3) + ((kI κ (kR κ a0 0) (ix v4)) - 48)) fun y14 =>
  P_X2_valueOf_5 κ a0 v2 n y14 (v4 + 1)
def P_X2_valueOf (κ : jKt) (a0 : Nat) (x1 : Int32) (x2 : Int32) : Option (Int32) :=
  P_X2_valueOf_5 κ a0 x2 4000 0 x1
def P_X2_formOf (κ : jKt) (x0 : Int32) : Option (Nat) :=
  if x0 = 0 then
  some 22
  else if x0 = 1 then
  some 23
  else if x0 = 2 then
  some 24
  else if x0 = 3 then
  some 25
  else if x0 = 4 then
  some 26
  else if x0 = 5 then
  some 27
  else if x0 = 6 then
  some 28
  else if x0 = 7 then
  some 29
  else if x0 = 8 then
  some 30
  else some 31
def P_X2_endOfSign (κ : jKt) (a0 : Nat) (x1 : Int32) (x2 : Int32) : Option (Int32) :=
  if x1 = 35 then
  bd (P_X2_endOfDigits κ a0 x2 1) fun y30 =>
  some y30
  else
  if x1 = 64 then
  bd (P_X2_endOfDigits κ a0 x2 3) fun y28 =>
  some y28
  else
  if (kI κ a0 1) ≤ x2 then
  some x2
  else
  ck (jin x2 60) <|
  if (kI κ (kR κ a0 0) (ix x2)) = x1 then
  some (x2 + 1)
  else
  some x2
def P_X2_readForm_72 (κ : jKt) (a0 : Nat) (a3 : Nat) (v4 : Int32) (v5 : Int32) (v6 : Int32) (v8 : Int32) (K19 : jKt → Int32 → Int32 → Int32 → Option (Int32 × jKt)) : Option (Int32 × jKt) :=
  bd (P_X2_valueOf κ a0 v4 v8) fun y45 =>
  ck (jin v5 180) <|
  bnd (kU κ (kR κ a0 3) (ix v5) (.int y45)) fun κ47 =>
  K19 κ47 v8 (v5 + 1) (v6 + 1)
def P_X2_readForm_19 (a0 : Nat) (a3 : Nat) : Nat → jKt → Int32 → Int32 → Int32 → Option (Int32 × jKt)
  | 0, _, _, _, _ => none
  | n + 1, κ, v4, v5, v6 =>
    bd (P_J0_length_8abf5 κ a3) fun y50 =>
  if y50 ≤ v6 then
  some (v4, κ)
  else
  bd (P_J0_charAt_5068e κ a3 v6) fun y53 =>
  bd (P_X2_endOfSign κ a0 y53 v4) fun y55 =>
  if y55 = v4 then
  some (v4 ^^^ (-1), κ)
  else
  if y53 = 35 then
  P_X2_readForm_72 κ a0 a3 v4 v5 v6 y55 (P_X2_readForm_19 a0 a3 n)
  else
  if y53 = 64 then
  P_X2_readForm_72 κ a0 a3 v4 v5 v6 y55 (P_X2_readForm_19 a0 a3 n)
  else
  P_X2_readForm_19 a0 a3 n κ y55 v5 (v6 + 1)
def P_X2_readForm (κ : jKt) (a0 : Nat) (x1 : Int32) (x2 : Int32) : Option (Int32 × jKt) :=
  bd (P_X2_formOf κ x1) fun b60 =>
  bnd (3 * (kI κ a0 4)) fun y62 =>
  P_X2_readForm_19 a0 b60 4000 κ x2 y62 0
def P_X2_readCommand_4 (a0 : Nat) (v1 : Int32) : Nat → jKt → Int32 → Int32 → Option (Int32 × jKt)
  | 0, _, _, _ => none
  | n + 1, κ, v2, v3 =>
    if 10 ≤ v3 then
  some (v2 ^^^ (-1), κ)
  else
  bd2 (P_X2_readForm κ a0 v3 v1) fun y21 κ22 =>
  if y21 < 0 then
  P_X2_readCommand_4 a0 v1 n κ22 (jmax v2 (y21 ^^^ (-1))) (v3 + 1)
  else
  ck (jin (kI κ22 a0 4) 60) <|
  bnd (kU κ22 (kR κ22 a0 2) (ix (kI κ22 a0 4)) (.int v3)) fun κ26 =>
  some (y21, κ26)
def P_X2_readCommand (κ : jKt) (a0 : Nat) (x1 : Int32) : Option (Int32 × jKt) :=
  P_X2_readCommand_4 a0 x1 4000 κ x1 0
def P_X2_performIn_2 (a0 : Nat) (a1 : Nat) : Nat → jKt → Int32 → Option (Int32 × jKt)
  | 0, _, _ => none
  | n + 1, κ, v2 =>
    if (kI κ a0 4) ≤ v2 then
  some ((-1), κ)
  else
  ck (jin v2 60) <|
  ck (jin (3 * v2) 180) <|
  ck (jin ((3 * v2) + 1) 180) <|
  ck (jin ((3 * v2) + 2) 180) <|
  bd2 (P_X5_perform κ a1 (kI κ (kR κ a0 2) (ix v2)) (kI κ (kR κ a0 3) (ix (3 * v2))) (kI κ (kR κ a0 3) (ix ((3 * v2) + 1))) (kI κ (kR κ a0 3) (ix ((3 * v2) + 2)))) fun y37 κ38 =>
  if 0 ≤ y37 then
  P_X2_performIn_2 a0 a1 n κ38 (v2 + 1)
  else
  some (v2, κ38)
def P_X2_performIn (κ : jKt) (a0 : Nat) (a1 : Nat) : Option (Int32 × jKt) :=
  P_X2_performIn_2 a0 a1 4000 κ 0
def P_X2_read_9 (a0 : Nat) : Nat → jKt → Int32 → Int32 → Option (Int32 × jKt)
  | 0, _, _, _ => none
  | n + 1, κ, v1, v2 =>
    if 60 ≤ v2 then
  some (v1, κ)
  else
  bd2 (P_X2_readCommand κ a0 v1) fun y29 κ30 =>
  if 0 ≤ y29 then
  bnd (kU κ30 a0 4 (.int ((kI κ30 a0 4) + 1))) fun κ32 =>
  if y29 < (kI κ32 a0 1) then
  ck (jin y29 60) <|
  if (kI κ32 (kR κ32 a0 0) (ix y29)) = 59 then
  P_X2_read_9 a0 n κ32 (y29 + 1) (v2 + 1)
  else
  some (y29, κ32)
  else
  some ((-1), κ32)
  else
  some (y29 ^^^ (-1), κ30)
def P_X2_read (κ : jKt) (a0 : Nat) : Option (Int32 × jKt) :=
  bnd (kU κ a0 4 (.int 0)) fun κ38 =>
  P_X2_read_9 a0 4000 κ38 0 0
set_option maxRecDepth 20000 in
theorem w_J0_coder_7d493_0 {F : jFm} (C : jB F RJ0 cJ0_coder_7d493 1 (some .byte) 0 0 0 0) {κ : jKt} {a0 : Nat} (ha0 : a0 < 38) {r : Int32} (hq : jOut F (some (.int r)) κ) (h : P_J0_coder_7d493 κ a0 = some r) : jW F 1 0 0 κ 0 [(0, .ref (jStr F a0))] [] := by
  unfold P_J0_coder_7d493 at h
  refine r_gcs C.1 fs_J0_38 3 rfl dJ0_coder_7d493_0 ?_
  refine r_if_eq C.1 13 6 rfl dJ0_coder_7d493_3 rfl ⟨fun c9 => absurd c9 (by decide), fun _ => ?_⟩
  refine r_aload_n C.1 0 7 rfl dJ0_coder_7d493_6 rfl ?_
  refine r_getSC C.1 ha0 fs_J0_15 10 rfl dJ0_coder_7d493_7 ?_
  refine r_goto C.1 14 dJ0_coder_7d493_10 rfl ?_
  cases h
  exact r_zret C rfl rfl (Nat.le_of_ble_eq_true rfl) (Nat.le_of_ble_eq_true rfl) dJ0_coder_7d493_14 hq
theorem c_J0_coder_7d493 {l : Launch} {G : jG} {sh : jSh} {κ : jKt} {a0 : Nat} (ha0 : a0 < 38) {r : Int32} (h : P_J0_coder_7d493 κ a0 = some r) : jM l G yJ0_coder_7d493 cJ0_coder_7d493 1 (some .byte) 0 0 0 0 [.ref (G.2.2.2.1 a0)] (sh, κ) (jIs (some (.int r)) (sh, κ)) jNo :=
  r_body (by decide) (Nat.le_of_ble_eq_true rfl) fun F C hl hG hs ho hx => by
    subst hs
    subst hG
    exact w_J0_coder_7d493_0 C ha0 (by rw [ho]; exact ⟨rfl, rfl⟩) h
set_option maxRecDepth 20000 in
theorem w_J0_isLatin1_aae02_0 {F : jFm} (C : jB F RJ0 cJ0_isLatin1_aae02 1 (some .boolean) 0 0 0 0) {κ : jKt} {a0 : Nat} (ha0 : a0 < 38) {r : Int32} (hq : jOut F (some (.int r)) κ) (h : P_J0_isLatin1_aae02 κ a0 = some r) : jW F 1 0 0 κ 0 [(0, .ref (jStr F a0))] [] := by
  unfold P_J0_isLatin1_aae02 at h
  refine r_gcs C.1 fs_J0_38 3 rfl dJ0_isLatin1_aae02_0 ?_
  refine r_if_eq C.1 17 6 rfl dJ0_isLatin1_aae02_3 rfl ⟨fun c9 => absurd c9 (by decide), fun _ => ?_⟩
  refine r_aload_n C.1 0 7 rfl dJ0_isLatin1_aae02_6 rfl ?_
  refine r_getSC C.1 ha0 fs_J0_15 10 rfl dJ0_isLatin1_aae02_7 ?_
  refine r_if_ne C.1 17 13 rfl dJ0_isLatin1_aae02_10 rfl ⟨fun c9 => absurd c9 (by decide), fun _ => ?_⟩
  refine r_iconst C.1 1 rfl 14 rfl dJ0_isLatin1_aae02_13 ?_
  refine r_goto C.1 18 dJ0_isLatin1_aae02_14 rfl ?_
  cases h
  exact r_zret C rfl rfl (Nat.le_of_ble_eq_true rfl) (Nat.le_of_ble_eq_true rfl) dJ0_isLatin1_aae02_18 hq
theorem c_J0_isLatin1_aae02 {l : Launch} {G : jG} {sh : jSh} {κ : jKt} {a0 : Nat} (ha0 : a0 < 38) {r : Int32} (h : P_J0_isLatin1_aae02 κ a0 = some r) : jM l G yJ0_isLatin1_aae02 cJ0_isLatin1_aae02 1 (some .boolean) 0 0 0 0 [.ref (G.2.2.2.1 a0)] (sh, κ) (jIs (some (.int r)) (sh, κ)) jNo :=
  r_body (by decide) (Nat.le_of_ble_eq_true rfl) fun F C hl hG hs ho hx => by
    subst hs
    subst hG
    exact w_J0_isLatin1_aae02_0 C ha0 (by rw [ho]; exact ⟨rfl, rfl⟩) h
set_option maxRecDepth 20000 in
theorem w_J0_length_8abf5_0 {F : jFm} (C : jB F RJ0 cJ0_length_8abf5 1 (some .int) 1 0 0 20) {κ : jKt} {a0 : Nat} (ha0 : a0 < 38) {r : Int32} (hq : jOut F (some (.int r)) κ) (h : P_J0_length_8abf5 κ a0 = some r) : jW F 1 0 0 κ 0 [(0, .ref (jStr F a0))] [] := by
  unfold P_J0_length_8abf5 at h
  refine r_aload_n C.1 0 1 rfl dJ0_length_8abf5_0 rfl ?_
  refine r_getSV C.1 ha0 fs_J0_9 4 rfl dJ0_length_8abf5_1 ?_
  refine r_tlen C.1 ha0 5 rfl dJ0_length_8abf5_4 ?_
  refine r_aload_n C.1 0 6 rfl dJ0_length_8abf5_5 rfl ?_
  obtain ⟨y6, e5, h⟩ := bd_some h
  refine r_cGi C.1 (st := [.int (Int32.ofNat (kSn a0))]) (c_J0_coder_7d493 ha0 e5) yv_J0_coder_7d493 ml_J0_335 (jCell_S C.1 ha0) rfl ⟨Nat.le_of_ble_eq_true rfl, Nat.le_of_ble_eq_true rfl⟩ ⟨Nat.le_of_ble_eq_true rfl, Nat.le_of_ble_eq_true rfl⟩ (Nat.le_of_ble_eq_true rfl) rfl 0 0 rfl rfl 9 rfl dJ0_length_8abf5_6 ?_
  refine r_ishr C.1 10 rfl dJ0_length_8abf5_9 ?_
  cases h
  exact r_zret C rfl rfl (Nat.le_of_ble_eq_true rfl) (Nat.le_of_ble_eq_true rfl) dJ0_length_8abf5_10 hq
theorem c_J0_length_8abf5 {l : Launch} {G : jG} {sh : jSh} {κ : jKt} {a0 : Nat} (ha0 : a0 < 38) {r : Int32} (h : P_J0_length_8abf5 κ a0 = some r) : jM l G yJ0_length_8abf5 cJ0_length_8abf5 1 (some .int) 1 0 0 20 [.ref (G.2.2.2.1 a0)] (sh, κ) (jIs (some (.int r)) (sh, κ)) jNo :=
  r_body (by decide) (Nat.le_of_ble_eq_true rfl) fun F C hl hG hs ho hx => by
    subst hs
    subst hG
    exact w_J0_length_8abf5_0 C ha0 (by rw [ho]; exact ⟨rfl, rfl⟩) h
set_option maxRecDepth 20000 in
theorem w_J1_charAt_3b067_0 {F : jFm} (C : jB F RJ1 cJ1_charAt_3b067 2 (some .char) 2 0 0 43) {κ : jKt} {a0 : Nat} (ha0 : a0 < 38) {x1 : Int32} {r : Int32} (hq : jOut F (some (.int r)) κ) (h : P_J1_charAt_3b067 κ a0 x1 = some r) : jW F 2 0 0 κ 0 [(0, .ref (jStv F a0)), (1, .int x1)] [] := by
  unfold P_J1_charAt_3b067 at h
  refine r_iload_n C.1 1 1 rfl dJ1_charAt_3b067_0 rfl ?_
  refine r_aload_n C.1 0 2 rfl dJ1_charAt_3b067_1 rfl ?_
  refine r_tlen C.1 ha0 3 rfl dJ1_charAt_3b067_2 ?_
  obtain ⟨_, e7, h⟩ := bd_some h
  refine r_cSv C.1 (st := []) (c_J0_checkIndex_df160 e7) yv_J0_checkIndex_df160 ml_J1_9 rfl ⟨Nat.le_of_ble_eq_true rfl, Nat.le_of_ble_eq_true rfl⟩ ⟨Nat.le_of_ble_eq_true rfl, Nat.le_of_ble_eq_true rfl⟩ (Nat.le_of_ble_eq_true rfl) rfl 0 0 rfl rfl 6 rfl dJ1_charAt_3b067_3 ?_
  refine r_aload_n C.1 0 7 rfl dJ1_charAt_3b067_6 rfl ?_
  refine r_iload_n C.1 1 8 rfl dJ1_charAt_3b067_7 rfl ?_
  obtain ⟨i8, h⟩ := ck_some h
  refine r_tbald C.1 ha0 i8 9 rfl dJ1_charAt_3b067_8 ?_
  refine r_sipush C.1 255 rfl 12 rfl dJ1_charAt_3b067_9 ?_
  refine r_iand C.1 13 rfl dJ1_charAt_3b067_12 ?_
  refine r_i2c C.1 14 rfl dJ1_charAt_3b067_13 ?_
  obtain ⟨z9, h⟩ := ck_some h
  cases h
  exact r_zret C rfl (jch_narrow z9) (Nat.le_of_ble_eq_true rfl) (Nat.le_of_ble_eq_true rfl) dJ1_charAt_3b067_14 hq
theorem c_J1_charAt_3b067 {l : Launch} {G : jG} {sh : jSh} {κ : jKt} {a0 : Nat} (ha0 : a0 < 38) {x1 : Int32} {r : Int32} (h : P_J1_charAt_3b067 κ a0 x1 = some r) : jM l G yJ1_charAt_3b067 cJ1_charAt_3b067 2 (some .char) 2 0 0 43 [.ref (G.2.2.2.2 a0), .int x1] (sh, κ) (jIs (some (.int r)) (sh, κ)) jNo :=
  r_body (by decide) (Nat.le_of_ble_eq_true rfl) fun F C hl hG hs ho hx => by
    subst hs
    subst hG
    exact w_J1_charAt_3b067_0 C ha0 (by rw [ho]; exact ⟨rfl, rfl⟩) h
set_option maxRecDepth 20000 in
theorem w_J0_charAt_5068e_0 {F : jFm} (C : jB F RJ0 cJ0_charAt_5068e 2 (some .char) 3 0 0 64) {κ : jKt} {a0 : Nat} (ha0 : a0 < 38) {x1 : Int32} {r : Int32} (hq : jOut F (some (.int r)) κ) (h : P_J0_charAt_5068e κ a0 x1 = some r) : jW F 2 0 0 κ 0 [(0, .ref (jStr F a0)), (1, .int x1)] [] := by
  unfold P_J0_charAt_5068e at h
  refine r_aload_n C.1 0 1 rfl dJ0_charAt_5068e_0 rfl ?_
  obtain ⟨y14, e13, h⟩ := bd_some h
  refine r_cGi C.1 (st := []) (c_J0_isLatin1_aae02 ha0 e13) yv_J0_isLatin1_aae02 ml_J0_492 (jCell_S C.1 ha0) rfl ⟨Nat.le_of_ble_eq_true rfl, Nat.le_of_ble_eq_true rfl⟩ ⟨Nat.le_of_ble_eq_true rfl, Nat.le_of_ble_eq_true rfl⟩ (Nat.le_of_ble_eq_true rfl) rfl 0 0 rfl rfl 4 rfl dJ0_charAt_5068e_1 ?_
  refine r_if_eq C.1 16 7 rfl dJ0_charAt_5068e_4 rfl ⟨fun c15 => ?_, fun c15 => ?_⟩
  · have h := if_some_t c15 h
    refine r_aload_n C.1 0 17 rfl dJ0_charAt_5068e_16 rfl ?_
    refine r_getSV C.1 ha0 fs_J0_9 20 rfl dJ0_charAt_5068e_17 ?_
    refine r_iload_n C.1 1 21 rfl dJ0_charAt_5068e_20 rfl ?_
    cases h
  · have h := if_some_f c15 h
    refine r_aload_n C.1 0 8 rfl dJ0_charAt_5068e_7 rfl ?_
    refine r_getSV C.1 ha0 fs_J0_9 11 rfl dJ0_charAt_5068e_8 ?_
    refine r_iload_n C.1 1 12 rfl dJ0_charAt_5068e_11 rfl ?_
    obtain ⟨y17, e16, h⟩ := bd_some h
    refine r_cSi C.1 (st := []) (c_J1_charAt_3b067 ha0 e16) yv_J1_charAt_3b067 ml_J0_495 rfl ⟨Nat.le_of_ble_eq_true rfl, Nat.le_of_ble_eq_true rfl⟩ ⟨Nat.le_of_ble_eq_true rfl, Nat.le_of_ble_eq_true rfl⟩ (Nat.le_of_ble_eq_true rfl) rfl 0 0 rfl rfl 15 rfl dJ0_charAt_5068e_12 ?_
    obtain ⟨z18, h⟩ := ck_some h
    cases h
    exact r_zret C rfl (jch_narrow z18) (Nat.le_of_ble_eq_true rfl) (Nat.le_of_ble_eq_true rfl) dJ0_charAt_5068e_15 hq
theorem c_J0_charAt_5068e {l : Launch} {G : jG} {sh : jSh} {κ : jKt} {a0 : Nat} (ha0 : a0 < 38) {x1 : Int32} {r : Int32} (h : P_J0_charAt_5068e κ a0 x1 = some r) : jM l G yJ0_charAt_5068e cJ0_charAt_5068e 2 (some .char) 3 0 0 64 [.ref (G.2.2.2.1 a0), .int x1] (sh, κ) (jIs (some (.int r)) (sh, κ)) jNo :=
  r_body (by decide) (Nat.le_of_ble_eq_true rfl) fun F C hl hG hs ho hx => by
    subst hs
    subst hG
    exact w_J0_charAt_5068e_0 C ha0 (by rw [ho]; exact ⟨rfl, rfl⟩) h
set_option maxRecDepth 20000 in
theorem w_X2_append_0 {F : jFm} (C : jB F RX2 cX2_append 2 (some .int) 0 0 0 0) {κ : jKt} {a0 : Nat} (ha0 : jSof F a0 = (1, 6, 5)) {x1 : Int32} {r : Int32 × jKt} (hq : jOut F (some (.int r.1)) r.2) (h : P_X2_append κ a0 x1 = some r) : jW F 2 0 0 κ 0 [(0, .ref a0), (1, .int x1)] [] := by
  unfold P_X2_append at h
  refine r_aload_n C.1 0 1 rfl dX2_append_0 rfl ?_
  refine r_getI C.1 1 fl_X2_15 rfl ha0 4 rfl dX2_append_1 ?_
  refine r_bipush C.1 60 rfl 6 rfl dX2_append_4 ?_
  refine r_icmp_ge C.1 29 9 rfl dX2_append_6 rfl ⟨fun c17 => ?_, fun c17 => ?_⟩
  · have h := if_some_t c17 h
    refine r_aload_n C.1 0 30 rfl dX2_append_29 rfl ?_
    refine r_getI C.1 1 fl_X2_15 rfl ha0 33 rfl dX2_append_30 ?_
    cases h
    exact r_zret C rfl rfl (Nat.le_of_ble_eq_true rfl) (Nat.le_of_ble_eq_true rfl) dX2_append_33 hq
  · have h := if_some_f c17 h
    refine r_aload_n C.1 0 10 rfl dX2_append_9 rfl ?_
    refine r_getR C.1 0 fl_X2_9 rfl ha0 13 rfl dX2_append_10 (fun (h18 : jSof F (kR κ a0 0) = (2, 1, 60)) => ?_)
    refine r_aload_n C.1 0 14 rfl dX2_append_13 rfl ?_
    refine r_getI C.1 1 fl_X2_15 rfl ha0 17 rfl dX2_append_14 ?_
    refine r_iload_n C.1 1 18 rfl dX2_append_17 rfl ?_
    obtain ⟨i19, h⟩ := ck_some h
    obtain ⟨z22, h⟩ := ck_some h
    obtain ⟨κ20, e21, h⟩ := bnd_some h
    refine r_cast C.1 h18 i19 z22 e21 19 rfl dX2_append_18 ?_
    refine r_aload_n C.1 0 20 rfl dX2_append_19 rfl ?_
    refine r_dup C.1 rfl 21 rfl dX2_append_20 ?_
    refine r_getI C.1 1 fl_X2_15 rfl ha0 24 rfl dX2_append_21 ?_
    refine r_iconst C.1 1 rfl 25 rfl dX2_append_24 ?_
    refine r_iadd C.1 26 rfl dX2_append_25 ?_
    obtain ⟨κ23, e24, h⟩ := bnd_some h
    refine r_putI C.1 1 fw_X2_15 rfl rfl rfl ha0 e24 29 rfl dX2_append_26 ?_
    refine r_aload_n C.1 0 30 rfl dX2_append_29 rfl ?_
    refine r_getI C.1 1 fl_X2_15 rfl ha0 33 rfl dX2_append_30 ?_
    cases h
    exact r_zret C rfl rfl (Nat.le_of_ble_eq_true rfl) (Nat.le_of_ble_eq_true rfl) dX2_append_33 hq
theorem c_X2_append {l : Launch} {G : jG} {sh : jSh} {κ : jKt} {a0 : Nat} (ha0 : sh a0 = (1, 6, 5)) {x1 : Int32} {r : Int32} {κr : jKt} (h : P_X2_append κ a0 x1 = some (r, κr)) : jM l G yX2_append cX2_append 2 (some .int) 0 0 0 0 [.ref a0, .int x1] (sh, κ) (jIs (some (.int r)) (sh, κr)) jNo :=
  r_body (by decide) (Nat.le_of_ble_eq_true rfl) fun F C hl hG hs ho hx => by
    subst hs
    exact w_X2_append_0 C ha0 (by rw [ho]; exact ⟨rfl, rfl⟩) h
set_option maxRecDepth 20000 in
theorem w_X2_endOfDigits_5 {F : jFm} (C : jB F RX2 cX2_endOfDigits 5 (some .int) 0 0 0 0) {κ : jKt} {a0 : Nat} (ha0 : jSof F a0 = (1, 6, 5)) {v2 : Int32} {r : Int32} (hq : jOut F (some (.int r)) κ) : ∀ (n : Nat) (v3 : Int32) (v4 : Int32), P_X2_endOfDigits_5 κ a0 v2 n v3 v4 = some r → jW F 5 0 0 κ 5 [(0, .ref a0), (2, .int v2), (3, .int v3), (4, .int v4)] [] := by
  intro n
  induction n with
  | zero => intro v3 v4 h; cases h
  | succ n ih =>
    intro v3 v4 h
    rw [P_X2_endOfDigits_5] at h
    refine r_iload C.1 3 7 rfl dX2_endOfDigits_5 rfl ?_
    refine r_iload_n C.1 1 8 rfl dX2_endOfDigits_7 rfl ?_
    refine r_icmp_ge C.1 52 11 rfl dX2_endOfDigits_8 rfl ⟨fun c17 => ?_, fun c17 => ?_⟩
    · have h := if_some_t c17 h
      refine r_iload_n C.1 2 53 rfl dX2_endOfDigits_52 rfl ?_
      cases h
      exact r_zret C rfl rfl (Nat.le_of_ble_eq_true rfl) (Nat.le_of_ble_eq_true rfl) dX2_endOfDigits_53 hq
    · have h := if_some_f c17 h
      refine r_iload_n C.1 2 12 rfl dX2_endOfDigits_11 rfl ?_
      refine r_aload_n C.1 0 13 rfl dX2_endOfDigits_12 rfl ?_
      refine r_getI C.1 1 fl_X2_15 rfl ha0 16 rfl dX2_endOfDigits_13 ?_
      refine r_icmp_ge C.1 52 19 rfl dX2_endOfDigits_16 rfl ⟨fun c18 => ?_, fun c18 => ?_⟩
      · have h := if_some_t c18 h
        refine r_iload_n C.1 2 53 rfl dX2_endOfDigits_52 rfl ?_
        cases h
        exact r_zret C rfl rfl (Nat.le_of_ble_eq_true rfl) (Nat.le_of_ble_eq_true rfl) dX2_endOfDigits_53 hq
      · have h := if_some_f c18 h
        refine r_aload_n C.1 0 20 rfl dX2_endOfDigits_19 rfl ?_
        refine r_getR C.1 0 fl_X2_9 rfl ha0 23 rfl dX2_endOfDigits_20 (fun (h19 : jSof F (kR κ a0 0) = (2, 1, 60)) => ?_)
        refine r_iload_n C.1 2 24 rfl dX2_endOfDigits_23 rfl ?_
        obtain ⟨i20, h⟩ := ck_some h
        refine r_cald C.1 h19 i20 25 rfl dX2_endOfDigits_24 ?_
        refine r_bipush C.1 48 rfl 27 rfl dX2_endOfDigits_25 ?_
        refine r_icmp_lt C.1 41 30 rfl dX2_endOfDigits_27 rfl ⟨fun c21 => ?_, fun c21 => ?_⟩
        · have h := if_some_t c21 h
          refine r_iload_n C.1 2 42 rfl dX2_endOfDigits_41 rfl ?_
          cases h
          exact r_zret C rfl rfl (Nat.le_of_ble_eq_true rfl) (Nat.le_of_ble_eq_true rfl) dX2_endOfDigits_42 hq
        · have h := if_some_f c21 h
          refine r_aload_n C.1 0 31 rfl dX2_endOfDigits_30 rfl ?_
          refine r_getR C.1 0 fl_X2_9 rfl ha0 34 rfl dX2_endOfDigits_31 (fun (h22 : jSof F (kR κ a0 0) = (2, 1, 60)) => ?_)
          refine r_iload_n C.1 2 35 rfl dX2_endOfDigits_34 rfl ?_
          obtain ⟨i23, h⟩ := ck_some h
          refine r_cald C.1 h22 i23 36 rfl dX2_endOfDigits_35 ?_
          refine r_bipush C.1 57 rfl 38 rfl dX2_endOfDigits_36 ?_
          refine r_icmp_le C.1 43 41 rfl dX2_endOfDigits_38 rfl ⟨fun c24 => ?_, fun c24 => ?_⟩
          · have h := if_some_t c24 h
            refine r_iinc C.1 (lv' := [(0, .ref a0), (2, .int v2), (3, .int (v3 + 1)), (4, .int v4)]) 2 [1, 2, 0, 3] 46 rfl dX2_endOfDigits_43 rfl (Nat.le_of_ble_eq_true rfl) rfl rfl ?_
            refine r_iinc C.1 (lv' := [(0, .ref a0), (2, .int v2), (3, .int (v3 + 1)), (4, .int (v4 + 1))]) 3 [1, 2, 3, 0] 49 rfl dX2_endOfDigits_46 rfl (Nat.le_of_ble_eq_true rfl) rfl rfl ?_
            refine r_goto C.1 5 dX2_endOfDigits_49 rfl ?_
            exact ih (v3 + 1) (v4 + 1) h
          · have h := if_some_f c24 h
            refine r_iload_n C.1 2 42 rfl dX2_endOfDigits_41 rfl ?_
            cases h
            exact r_zret C rfl rfl (Nat.le_of_ble_eq_true rfl) (Nat.le_of_ble_eq_true rfl) dX2_endOfDigits_42 hq
set_option maxRecDepth 20000 in
theorem w_X2_endOfDigits_0 {F : jFm} (C : jB F RX2 cX2_endOfDigits 5 (some .int) 0 0 0 0) {κ : jKt} {a0 : Nat} (ha0 : jSof F a0 = (1, 6, 5)) {x1 : Int32} {x2 : Int32} {r : Int32} (hq : jOut F (some (.int r)) κ) (h : P_X2_endOfDigits κ a0 x1 x2 = some r) : jW F 5 0 0 κ 0 [(0, .ref a0), (1, .int x1), (2, .int x2)] [] := by
  unfold P_X2_endOfDigits at h
  refine r_iload_n C.1 1 1 rfl dX2_endOfDigits_0 rfl ?_
  refine r_istore_n C.1 (lv' := [(0, .ref a0), (1, .int x1), (2, .int x2), (3, .int x1)]) [1, 2, 3, 0] 2 rfl dX2_endOfDigits_1 (Nat.le_of_ble_eq_true rfl) rfl ?_
  refine r_iconst C.1 0 rfl 3 rfl dX2_endOfDigits_2 ?_
  refine r_istore C.1 (lv' := [(0, .ref a0), (1, .int x1), (2, .int x2), (3, .int x1), (4, .int 0)]) [1, 2, 3, 4, 0] 5 rfl dX2_endOfDigits_3 (Nat.le_of_ble_eq_true rfl) rfl ?_
  refine r_lv [0, 2, 3, 4] rfl ?_
  exact w_X2_endOfDigits_5 C ha0 hq 4000 x1 0 h
theorem c_X2_endOfDigits {l : Launch} {G : jG} {sh : jSh} {κ : jKt} {a0 : Nat} (ha0 : sh a0 = (1, 6, 5)) {x1 : Int32} {x2 : Int32} {r : Int32} (h : P_X2_endOfDigits κ a0 x1 x2 = some r) : jM l G yX2_endOfDigits cX2_endOfDigits 5 (some .int) 0 0 0 0 [.ref a0, .int x1, .int x2] (sh, κ) (jIs (some (.int r)) (sh, κ)) jNo :=
  r_body (by decide) (Nat.le_of_ble_eq_true rfl) fun F C hl hG hs ho hx => by
    subst hs
    exact w_X2_endOfDigits_0 C ha0 (by rw [ho]; exact ⟨rfl, rfl⟩) h
set_option maxRecDepth 20000 in
theorem w_X2_valueOf_5 {F : jFm} (C : jB F RX2 cX2_valueOf 5 (some .int) 0 0 0 0) {κ : jKt} {a0 : Nat} (ha0 : jSof F a0 = (1, 6, 5)) {v2 : Int32} {r : Int32} (hq : jOut F (some (.int r)) κ) : ∀ (n : Nat) (v3 : Int32) (v4 : Int32), P_X2_valueOf_5 κ a0 v2 n v3 v4 = some r → jW F 5 0 0 κ 5 [(0, .ref a0), (2, .int v2), (3, .int v3), (4, .int v4)] [] := by
  intro n
  induction n with
  | zero => intro v3 v4 h; cases h
  | succ n ih =>
    intro v3 v4 h
    rw [P_X2_valueOf_5] at h
    refine r_iload C.1 3 7 rfl dX2_valueOf_5 rfl ?_
    refine r_iload_n C.1 1 8 rfl dX2_valueOf_7 rfl ?_
    refine r_icmp_ge C.1 33 11 rfl dX2_valueOf_8 rfl ⟨fun c11 => ?_, fun c11 => ?_⟩
    · have h := if_some_t c11 h
      refine r_iload_n C.1 2 34 rfl dX2_valueOf_33 rfl ?_
      cases h
      exact r_zret C rfl rfl (Nat.le_of_ble_eq_true rfl) (Nat.le_of_ble_eq_true rfl) dX2_valueOf_34 hq
    · have h := if_some_f c11 h
      refine r_bipush C.1 10 rfl 13 rfl dX2_valueOf_11 ?_
      refine r_iload_n C.1 2 14 rfl dX2_valueOf_13 rfl ?_
      refine r_imul C.1 15 rfl dX2_valueOf_14 ?_
      refine r_aload_n C.1 0 16 rfl dX2_valueOf_15 rfl ?_
      refine r_getR C.1 0 fl_X2_9 rfl ha0 19 rfl dX2_valueOf_16 (fun (h12 : jSof F (kR κ a0 0) = (2, 1, 60)) => ?_)
      refine r_iload C.1 3 21 rfl dX2_valueOf_19 rfl ?_
      obtain ⟨i13, h⟩ := ck_some h
      refine r_cald C.1 h12 i13 22 rfl dX2_valueOf_21 ?_
      refine r_bipush C.1 48 rfl 24 rfl dX2_valueOf_22 ?_
      refine r_isub C.1 25 rfl dX2_valueOf_24 ?_
      refine r_iadd C.1 26 rfl dX2_valueOf_25 ?_
      obtain ⟨y14, e15, h⟩ := bnd_some h
      refine r_top e15 ?_
      refine r_istore_n C.1 (lv' := [(0, .ref a0), (2, .int v2), (3, .int y14), (4, .int v4)]) [1, 2, 0, 3] 27 rfl dX2_valueOf_26 (Nat.le_of_ble_eq_true rfl) rfl ?_
      refine r_iinc C.1 (lv' := [(0, .ref a0), (2, .int v2), (3, .int y14), (4, .int (v4 + 1))]) 3 [1, 2, 3, 0] 30 rfl dX2_valueOf_27 rfl (Nat.le_of_ble_eq_true rfl) rfl rfl ?_
      refine r_goto C.1 5 dX2_valueOf_30 rfl ?_
      exact ih y14 (v4 + 1) h
set_option maxRecDepth 20000 in
theorem w_X2_valueOf_0 {F : jFm} (C : jB F RX2 cX2_valueOf 5 (some .int) 0 0 0 0) {κ : jKt} {a0 : Nat} (ha0 : jSof F a0 = (1, 6, 5)) {x1 : Int32} {x2 : Int32} {r : Int32} (hq : jOut F (some (.int r)) κ) (h : P_X2_valueOf κ a0 x1 x2 = some r) : jW F 5 0 0 κ 0 [(0, .ref a0), (1, .int x1), (2, .int x2)] [] := by
  unfold P_X2_valueOf at h
  refine r_iconst C.1 0 rfl 1 rfl dX2_valueOf_0 ?_
  refine r_istore_n C.1 (lv' := [(0, .ref a0), (1, .int x1), (2, .int x2), (3, .int 0)]) [1, 2, 3, 0] 2 rfl dX2_valueOf_1 (Nat.le_of_ble_eq_true rfl) rfl ?_
  refine r_iload_n C.1 1 3 rfl dX2_valueOf_2 rfl ?_
  refine r_istore C.1 (lv' := [(0, .ref a0), (1, .int x1), (2, .int x2), (3, .int 0), (4, .int x1)]) [1, 2, 3, 4, 0] 5 rfl dX2_valueOf_3 (Nat.le_of_ble_eq_true rfl) rfl ?_
  refine r_lv [0, 2, 3, 4] rfl ?_
  exact w_X2_valueOf_5 C ha0 hq 4000 0 x1 h
theorem c_X2_valueOf {l : Launch} {G : jG} {sh : jSh} {κ : jKt} {a0 : Nat} (ha0 : sh a0 = (1, 6, 5)) {x1 : Int32} {x2 : Int32} {r : Int32} (h : P_X2_valueOf κ a0 x1 x2 = some r) : jM l G yX2_valueOf cX2_valueOf 5 (some .int) 0 0 0 0 [.ref a0, .int x1, .int x2] (sh, κ) (jIs (some (.int r)) (sh, κ)) jNo :=
  r_body (by decide) (Nat.le_of_ble_eq_true rfl) fun F C hl hG hs ho hx => by
    subst hs
    exact w_X2_valueOf_0 C ha0 (by rw [ho]; exact ⟨rfl, rfl⟩) h
set_option maxRecDepth 20000 in
theorem w_X2_formOf_0 {F : jFm} (C : jB F RX2 cX2_formOf 1 (some (.object "java/lang/String")) 0 0 0 0) {κ : jKt} {x0 : Int32} {r : Nat} (hq : jOut F (some (.ref (jStr F r))) κ) (h : P_X2_formOf κ x0 = some r) : jW F 1 0 0 κ 0 [(0, .int x0)] [] := by
  unfold P_X2_formOf at h
  refine r_iload_n C.1 0 1 rfl dX2_formOf_0 rfl ?_
  by_cases c19 : x0 = 0
  · have h := if_some_t c19 h
    refine r_tableAt C.1 52 (x0 := 0) c19 dX2_formOf_1 (by decide) (by decide) rfl rfl ?_
    refine r_ldcS C.1 22 rfl 54 rfl dX2_formOf_52 ?_
    cases h
    exact r_aret C rfl (Or.inl ⟨_, rfl⟩) (Or.inr ⟨_, rfl⟩) (Nat.le_of_ble_eq_true rfl) (Nat.le_of_ble_eq_true rfl) dX2_formOf_54 hq
  replace h := if_some_f c19 h
  by_cases c20 : x0 = 1
  · have h := if_some_t c20 h
    refine r_tableAt C.1 55 (x0 := 1) c20 dX2_formOf_1 (by decide) (by decide) rfl rfl ?_
    refine r_ldcS C.1 23 rfl 57 rfl dX2_formOf_55 ?_
    cases h
    exact r_aret C rfl (Or.inl ⟨_, rfl⟩) (Or.inr ⟨_, rfl⟩) (Nat.le_of_ble_eq_true rfl) (Nat.le_of_ble_eq_true rfl) dX2_formOf_57 hq
  replace h := if_some_f c20 h
  by_cases c21 : x0 = 2
  · have h := if_some_t c21 h
    refine r_tableAt C.1 58 (x0 := 2) c21 dX2_formOf_1 (by decide) (by decide) rfl rfl ?_
    refine r_ldcS C.1 24 rfl 60 rfl dX2_formOf_58 ?_
    cases h
    exact r_aret C rfl (Or.inl ⟨_, rfl⟩) (Or.inr ⟨_, rfl⟩) (Nat.le_of_ble_eq_true rfl) (Nat.le_of_ble_eq_true rfl) dX2_formOf_60 hq
  replace h := if_some_f c21 h
  by_cases c22 : x0 = 3
  · have h := if_some_t c22 h
    refine r_tableAt C.1 61 (x0 := 3) c22 dX2_formOf_1 (by decide) (by decide) rfl rfl ?_
    refine r_ldcS C.1 25 rfl 63 rfl dX2_formOf_61 ?_
    cases h
    exact r_aret C rfl (Or.inl ⟨_, rfl⟩) (Or.inr ⟨_, rfl⟩) (Nat.le_of_ble_eq_true rfl) (Nat.le_of_ble_eq_true rfl) dX2_formOf_63 hq
  replace h := if_some_f c22 h
  by_cases c23 : x0 = 4
  · have h := if_some_t c23 h
    refine r_tableAt C.1 64 (x0 := 4) c23 dX2_formOf_1 (by decide) (by decide) rfl rfl ?_
    refine r_ldcS C.1 26 rfl 66 rfl dX2_formOf_64 ?_
    cases h
    exact r_aret C rfl (Or.inl ⟨_, rfl⟩) (Or.inr ⟨_, rfl⟩) (Nat.le_of_ble_eq_true rfl) (Nat.le_of_ble_eq_true rfl) dX2_formOf_66 hq
  replace h := if_some_f c23 h
  by_cases c24 : x0 = 5
  · have h := if_some_t c24 h
    refine r_tableAt C.1 67 (x0 := 5) c24 dX2_formOf_1 (by decide) (by decide) rfl rfl ?_
    refine r_ldcS C.1 27 rfl 69 rfl dX2_formOf_67 ?_
    cases h
    exact r_aret C rfl (Or.inl ⟨_, rfl⟩) (Or.inr ⟨_, rfl⟩) (Nat.le_of_ble_eq_true rfl) (Nat.le_of_ble_eq_true rfl) dX2_formOf_69 hq
  replace h := if_some_f c24 h
  by_cases c25 : x0 = 6
  · have h := if_some_t c25 h
    refine r_tableAt C.1 70 (x0 := 6) c25 dX2_formOf_1 (by decide) (by decide) rfl rfl ?_
    refine r_ldcS C.1 28 rfl 72 rfl dX2_formOf_70 ?_
    cases h
    exact r_aret C rfl (Or.inl ⟨_, rfl⟩) (Or.inr ⟨_, rfl⟩) (Nat.le_of_ble_eq_true rfl) (Nat.le_of_ble_eq_true rfl) dX2_formOf_72 hq
  replace h := if_some_f c25 h
  by_cases c26 : x0 = 7
  · have h := if_some_t c26 h
    refine r_tableAt C.1 73 (x0 := 7) c26 dX2_formOf_1 (by decide) (by decide) rfl rfl ?_
    refine r_ldcS C.1 29 rfl 75 rfl dX2_formOf_73 ?_
    cases h
    exact r_aret C rfl (Or.inl ⟨_, rfl⟩) (Or.inr ⟨_, rfl⟩) (Nat.le_of_ble_eq_true rfl) (Nat.le_of_ble_eq_true rfl) dX2_formOf_75 hq
  replace h := if_some_f c26 h
  by_cases c27 : x0 = 8
  · have h := if_some_t c27 h
    refine r_tableAt C.1 76 (x0 := 8) c27 dX2_formOf_1 (by decide) (by decide) rfl rfl ?_
    refine r_ldcS C.1 30 rfl 78 rfl dX2_formOf_76 ?_
    cases h
    exact r_aret C rfl (Or.inl ⟨_, rfl⟩) (Or.inr ⟨_, rfl⟩) (Nat.le_of_ble_eq_true rfl) (Nat.le_of_ble_eq_true rfl) dX2_formOf_78 hq
  replace h := if_some_f c27 h
  refine r_tableOut C.1 79 dX2_formOf_1 (by have g0 : x0.toInt ≠ 0 := sw_ne c19; have g1 : x0.toInt ≠ 1 := sw_ne c20; have g2 : x0.toInt ≠ 2 := sw_ne c21; have g3 : x0.toInt ≠ 3 := sw_ne c22; have g4 : x0.toInt ≠ 4 := sw_ne c23; have g5 : x0.toInt ≠ 5 := sw_ne c24; have g6 : x0.toInt ≠ 6 := sw_ne c25; have g7 : x0.toInt ≠ 7 := sw_ne c26; have g8 : x0.toInt ≠ 8 := sw_ne c27; omega) rfl ?_
  refine r_ldcS C.1 31 rfl 81 rfl dX2_formOf_79 ?_
  cases h
  exact r_aret C rfl (Or.inl ⟨_, rfl⟩) (Or.inr ⟨_, rfl⟩) (Nat.le_of_ble_eq_true rfl) (Nat.le_of_ble_eq_true rfl) dX2_formOf_81 hq
theorem c_X2_formOf {l : Launch} {G : jG} {sh : jSh} {κ : jKt} {x0 : Int32} {r : Nat} (h : P_X2_formOf κ x0 = some r) : jM l G yX2_formOf cX2_formOf 1 (some (.object "java/lang/String")) 0 0 0 0 [.int x0] (sh, κ) (jIs (some (.ref (G.2.2.2.1 r))) (sh, κ)) jNo :=
  r_body (by decide) (Nat.le_of_ble_eq_true rfl) fun F C hl hG hs ho hx => by
    subst hs
    subst hG
    exact w_X2_formOf_0 C (by rw [ho]; exact ⟨rfl, rfl⟩) h
theorem lt_X2_formOf {κ : jKt} {x0 : Int32} {r : Nat} (h : P_X2_formOf κ x0 = some r) : r < 38 := by
  unfold P_X2_formOf at h
  repeat' split at h
  all_goals (cases h; decide)
set_option maxRecDepth 20000 in
theorem w_X2_endOfSign_0 {F : jFm} (C : jB F RX2 cX2_endOfSign 3 (some .int) 1 0 0 24) {κ : jKt} {a0 : Nat} (ha0 : jSof F a0 = (1, 6, 5)) {x1 : Int32} {x2 : Int32} {r : Int32} (hq : jOut F (some (.int r)) κ) (h : P_X2_endOfSign κ a0 x1 x2 = some r) : jW F 3 0 0 κ 0 [(0, .ref a0), (1, .int x1), (2, .int x2)] [] := by
  unfold P_X2_endOfSign at h
  refine r_iload_n C.1 1 1 rfl dX2_endOfSign_0 rfl ?_
  refine r_bipush C.1 35 rfl 3 rfl dX2_endOfSign_1 ?_
  refine r_icmp_ne C.1 13 6 rfl dX2_endOfSign_3 rfl ⟨fun c21 => ?_, fun c21 => ?_⟩
  · have h := if_some_f c21 h
    refine r_iload_n C.1 1 14 rfl dX2_endOfSign_13 rfl ?_
    refine r_bipush C.1 64 rfl 16 rfl dX2_endOfSign_14 ?_
    refine r_icmp_ne C.1 26 19 rfl dX2_endOfSign_16 rfl ⟨fun c22 => ?_, fun c22 => ?_⟩
    · have h := if_some_f c22 h
      refine r_iload_n C.1 2 27 rfl dX2_endOfSign_26 rfl ?_
      refine r_aload_n C.1 0 28 rfl dX2_endOfSign_27 rfl ?_
      refine r_getI C.1 1 fl_X2_15 rfl ha0 31 rfl dX2_endOfSign_28 ?_
      refine r_icmp_ge C.1 50 34 rfl dX2_endOfSign_31 rfl ⟨fun c23 => ?_, fun c23 => ?_⟩
      · have h := if_some_t c23 h
        refine r_iload_n C.1 2 51 rfl dX2_endOfSign_50 rfl ?_
        cases h
        exact r_zret C rfl rfl (Nat.le_of_ble_eq_true rfl) (Nat.le_of_ble_eq_true rfl) dX2_endOfSign_51 hq
      · have h := if_some_f c23 h
        refine r_aload_n C.1 0 35 rfl dX2_endOfSign_34 rfl ?_
        refine r_getR C.1 0 fl_X2_9 rfl ha0 38 rfl dX2_endOfSign_35 (fun (h24 : jSof F (kR κ a0 0) = (2, 1, 60)) => ?_)
        refine r_iload_n C.1 2 39 rfl dX2_endOfSign_38 rfl ?_
        obtain ⟨i25, h⟩ := ck_some h
        refine r_cald C.1 h24 i25 40 rfl dX2_endOfSign_39 ?_
        refine r_iload_n C.1 1 41 rfl dX2_endOfSign_40 rfl ?_
        refine r_icmp_ne C.1 50 44 rfl dX2_endOfSign_41 rfl ⟨fun c26 => ?_, fun c26 => ?_⟩
        · have h := if_some_f c26 h
          refine r_iload_n C.1 2 51 rfl dX2_endOfSign_50 rfl ?_
          cases h
          exact r_zret C rfl rfl (Nat.le_of_ble_eq_true rfl) (Nat.le_of_ble_eq_true rfl) dX2_endOfSign_51 hq
        · have h := if_some_t c26 h
          refine r_iload_n C.1 2 45 rfl dX2_endOfSign_44 rfl ?_
          refine r_iconst C.1 1 rfl 46 rfl dX2_endOfSign_45 ?_
          refine r_iadd C.1 47 rfl dX2_endOfSign_46 ?_
          refine r_goto C.1 51 dX2_endOfSign_47 rfl ?_
          cases h
          exact r_zret C rfl rfl (Nat.le_of_ble_eq_true rfl) (Nat.le_of_ble_eq_true rfl) dX2_endOfSign_51 hq
    · have h := if_some_t c22 h
      refine r_aload_n C.1 0 20 rfl dX2_endOfSign_19 rfl ?_
      refine r_iload_n C.1 2 21 rfl dX2_endOfSign_20 rfl ?_
      refine r_iconst C.1 3 rfl 22 rfl dX2_endOfSign_21 ?_
      obtain ⟨y28, e27, h⟩ := bd_some h
      refine r_cVi C.1 (st := []) (c_X2_endOfDigits ha0 e27) yv_X2_endOfDigits ml_X2_62 rfl ha0 rfl ⟨Nat.le_of_ble_eq_true rfl, Nat.le_of_ble_eq_true rfl⟩ ⟨Nat.le_of_ble_eq_true rfl, Nat.le_of_ble_eq_true rfl⟩ (Nat.le_of_ble_eq_true rfl) rfl 0 0 rfl rfl 25 rfl dX2_endOfSign_22 ?_
      cases h
      exact r_zret C rfl rfl (Nat.le_of_ble_eq_true rfl) (Nat.le_of_ble_eq_true rfl) dX2_endOfSign_25 hq
  · have h := if_some_t c21 h
    refine r_aload_n C.1 0 7 rfl dX2_endOfSign_6 rfl ?_
    refine r_iload_n C.1 2 8 rfl dX2_endOfSign_7 rfl ?_
    refine r_iconst C.1 1 rfl 9 rfl dX2_endOfSign_8 ?_
    obtain ⟨y30, e29, h⟩ := bd_some h
    refine r_cVi C.1 (st := []) (c_X2_endOfDigits ha0 e29) yv_X2_endOfDigits ml_X2_62 rfl ha0 rfl ⟨Nat.le_of_ble_eq_true rfl, Nat.le_of_ble_eq_true rfl⟩ ⟨Nat.le_of_ble_eq_true rfl, Nat.le_of_ble_eq_true rfl⟩ (Nat.le_of_ble_eq_true rfl) rfl 0 0 rfl rfl 12 rfl dX2_endOfSign_9 ?_
    cases h
    exact r_zret C rfl rfl (Nat.le_of_ble_eq_true rfl) (Nat.le_of_ble_eq_true rfl) dX2_endOfSign_12 hq
theorem c_X2_endOfSign {l : Launch} {G : jG} {sh : jSh} {κ : jKt} {a0 : Nat} (ha0 : sh a0 = (1, 6, 5)) {x1 : Int32} {x2 : Int32} {r : Int32} (h : P_X2_endOfSign κ a0 x1 x2 = some r) : jM l G yX2_endOfSign cX2_endOfSign 3 (some .int) 1 0 0 24 [.ref a0, .int x1, .int x2] (sh, κ) (jIs (some (.int r)) (sh, κ)) jNo :=
  r_body (by decide) (Nat.le_of_ble_eq_true rfl) fun F C hl hG hs ho hx => by
    subst hs
    exact w_X2_endOfSign_0 C ha0 (by rw [ho]; exact ⟨rfl, rfl⟩) h
set_option maxRecDepth 20000 in
theorem w_X2_readForm_72 {F : jFm} (C : jB F RX2 cX2_readForm 9 (some .int) 4 0 0 85) {κ : jKt} {a0 : Nat} (ha0 : jSof F a0 = (1, 6, 5)) {a3 : Nat} (ha3 : a3 < 38) {v4 : Int32} {v5 : Int32} {v6 : Int32} {v8 : Int32} {r : Int32 × jKt} (hq : jOut F (some (.int r.1)) r.2) {K19 : jKt → Int32 → Int32 → Int32 → Option (Int32 × jKt)} (hK19 : ∀ (κ : jKt) (u4 : Int32) (u5 : Int32) (u6 : Int32), K19 κ u4 u5 u6 = some r → jW F 9 0 0 κ 19 [(0, .ref a0), (3, .ref (jStr F a3)), (4, .int u4), (5, .int u5), (6, .int u6)] []) (h : P_X2_readForm_72 κ a0 a3 v4 v5 v6 v8 K19 = some r) : jW F 9 0 0 κ 72 [(0, .ref a0), (3, .ref (jStr F a3)), (4, .int v4), (5, .int v5), (6, .int v6), (8, .int v8)] [] := by
  unfold P_X2_readForm_72 at h
  refine r_aload_n C.1 0 73 rfl dX2_readForm_72 rfl ?_
  refine r_getR C.1 3 fl_X2_23 rfl ha0 76 rfl dX2_readForm_73 (fun (h43 : jSof F (kR κ a0 3) = (2, 0, 180)) => ?_)
  refine r_iload C.1 3 78 rfl dX2_readForm_76 rfl ?_
  refine r_aload_n C.1 0 79 rfl dX2_readForm_78 rfl ?_
  refine r_iload C.1 2 81 rfl dX2_readForm_79 rfl ?_
  refine r_iload C.1 5 83 rfl dX2_readForm_81 rfl ?_
  obtain ⟨y45, e44, h⟩ := bd_some h
  refine r_cVi C.1 (st := [.int v5, .ref (kR κ a0 3)]) (c_X2_valueOf ha0 e44) yv_X2_valueOf ml_X2_59 rfl ha0 rfl ⟨Nat.le_of_ble_eq_true rfl, Nat.le_of_ble_eq_true rfl⟩ ⟨Nat.le_of_ble_eq_true rfl, Nat.le_of_ble_eq_true rfl⟩ (Nat.le_of_ble_eq_true rfl) rfl 0 0 rfl rfl 86 rfl dX2_readForm_83 ?_
  obtain ⟨i46, h⟩ := ck_some h
  obtain ⟨κ47, e48, h⟩ := bnd_some h
  refine r_iast C.1 h43 i46 e48 87 rfl dX2_readForm_86 ?_
  refine r_iinc C.1 (lv' := [(0, .ref a0), (3, .ref (jStr F a3)), (4, .int v4), (5, .int (v5 + 1)), (6, .int v6), (8, .int v8)]) 3 [1, 2, 3, 0, 4, 5] 90 rfl dX2_readForm_87 rfl (Nat.le_of_ble_eq_true rfl) rfl rfl ?_
  refine r_iload C.1 5 92 rfl dX2_readForm_90 rfl ?_
  refine r_istore C.1 (lv' := [(0, .ref a0), (3, .ref (jStr F a3)), (4, .int v8), (5, .int (v5 + 1)), (6, .int v6), (8, .int v8)]) [1, 2, 0, 3, 4, 5] 94 rfl dX2_readForm_92 (Nat.le_of_ble_eq_true rfl) rfl ?_
  refine r_iinc C.1 (lv' := [(0, .ref a0), (3, .ref (jStr F a3)), (4, .int v8), (5, .int (v5 + 1)), (6, .int (v6 + 1)), (8, .int v8)]) 4 [1, 2, 3, 4, 0, 5] 97 rfl dX2_readForm_94 rfl (Nat.le_of_ble_eq_true rfl) rfl rfl ?_
  refine r_goto C.1 19 dX2_readForm_97 rfl ?_
  refine r_lv [0, 1, 2, 3, 4] rfl ?_
  exact hK19 κ47 v8 (v5 + 1) (v6 + 1) h
set_option maxRecDepth 20000 in
theorem w_X2_readForm_19 {F : jFm} (C : jB F RX2 cX2_readForm 9 (some .int) 4 0 0 85) {a0 : Nat} (ha0 : jSof F a0 = (1, 6, 5)) {a3 : Nat} (ha3 : a3 < 38) {r : Int32 × jKt} (hq : jOut F (some (.int r.1)) r.2) : ∀ (n : Nat) (κ : jKt) (v4 : Int32) (v5 : Int32) (v6 : Int32), P_X2_readForm_19 a0 a3 n κ v4 v5 v6 = some r → jW F 9 0 0 κ 19 [(0, .ref a0), (3, .ref (jStr F a3)), (4, .int v4), (5, .int v5), (6, .int v6)] [] := by
  intro n
  induction n with
  | zero => intro κ v4 v5 v6 h; cases h
  | succ n ih =>
    intro κ v4 v5 v6 h
    rw [P_X2_readForm_19] at h
    refine r_iload C.1 4 21 rfl dX2_readForm_19 rfl ?_
    refine r_aload_n C.1 1 22 rfl dX2_readForm_21 rfl ?_
    obtain ⟨y50, e49, h⟩ := bd_some h
    refine r_cGi C.1 (st := [.int v6]) (c_J0_length_8abf5 ha3 e49) yv_J0_length_8abf5 ml_X2_46 (jCell_S C.1 ha3) rfl ⟨Nat.le_of_ble_eq_true rfl, Nat.le_of_ble_eq_true rfl⟩ ⟨Nat.le_of_ble_eq_true rfl, Nat.le_of_ble_eq_true rfl⟩ (Nat.le_of_ble_eq_true rfl) rfl 0 0 rfl rfl 25 rfl dX2_readForm_22 ?_
    refine r_icmp_ge C.1 100 28 rfl dX2_readForm_25 rfl ⟨fun c51 => ?_, fun c51 => ?_⟩
    · have h := if_some_t c51 h
      refine r_iload C.1 2 102 rfl dX2_readForm_100 rfl ?_
      cases h
      exact r_zret C rfl rfl (Nat.le_of_ble_eq_true rfl) (Nat.le_of_ble_eq_true rfl) dX2_readForm_102 hq
    · have h := if_some_f c51 h
      refine r_aload_n C.1 1 29 rfl dX2_readForm_28 rfl ?_
      refine r_iload C.1 4 31 rfl dX2_readForm_29 rfl ?_
      obtain ⟨y53, e52, h⟩ := bd_some h
      refine r_cGi C.1 (st := []) (c_J0_charAt_5068e ha3 e52) yv_J0_charAt_5068e ml_X2_51 (jCell_S C.1 ha3) rfl ⟨Nat.le_of_ble_eq_true rfl, Nat.le_of_ble_eq_true rfl⟩ ⟨Nat.le_of_ble_eq_true rfl, Nat.le_of_ble_eq_true rfl⟩ (Nat.le_of_ble_eq_true rfl) rfl 0 0 rfl rfl 34 rfl dX2_readForm_31 ?_
      refine r_istore C.1 (lv' := [(0, .ref a0), (3, .ref (jStr F a3)), (4, .int v4), (5, .int v5), (6, .int v6), (7, .int y53)]) [1, 2, 3, 4, 5, 0] 36 rfl dX2_readForm_34 (Nat.le_of_ble_eq_true rfl) rfl ?_
      refine r_aload_n C.1 0 37 rfl dX2_readForm_36 rfl ?_
      refine r_iload C.1 5 39 rfl dX2_readForm_37 rfl ?_
      refine r_iload C.1 2 41 rfl dX2_readForm_39 rfl ?_
      obtain ⟨y55, e54, h⟩ := bd_some h
      refine r_cVi C.1 (st := []) (c_X2_endOfSign ha0 e54) yv_X2_endOfSign ml_X2_55 rfl ha0 rfl ⟨Nat.le_of_ble_eq_true rfl, Nat.le_of_ble_eq_true rfl⟩ ⟨Nat.le_of_ble_eq_true rfl, Nat.le_of_ble_eq_true rfl⟩ (Nat.le_of_ble_eq_true rfl) rfl 0 0 rfl rfl 44 rfl dX2_readForm_41 ?_
      refine r_istore C.1 (lv' := [(0, .ref a0), (3, .ref (jStr F a3)), (4, .int v4), (5, .int v5), (6, .int v6), (7, .int y53), (8, .int y55)]) [1, 2, 3, 4, 5, 6, 0] 46 rfl dX2_readForm_44 (Nat.le_of_ble_eq_true rfl) rfl ?_
      refine r_iload C.1 6 48 rfl dX2_readForm_46 rfl ?_
      refine r_iload C.1 2 50 rfl dX2_readForm_48 rfl ?_
      refine r_icmp_ne C.1 58 53 rfl dX2_readForm_50 rfl ⟨fun c56 => ?_, fun c56 => ?_⟩
      · have h := if_some_f c56 h
        refine r_iload C.1 5 60 rfl dX2_readForm_58 rfl ?_
        refine r_bipush C.1 35 rfl 62 rfl dX2_readForm_60 ?_
        refine r_icmp_eq C.1 72 65 rfl dX2_readForm_62 rfl ⟨fun c57 => ?_, fun c57 => ?_⟩
        · have h := if_some_t c57 h
          refine r_lv [0, 1, 2, 3, 4, 6] rfl ?_
          exact w_X2_readForm_72 C ha0 ha3 hq ih h
        · have h := if_some_f c57 h
          refine r_iload C.1 5 67 rfl dX2_readForm_65 rfl ?_
          refine r_bipush C.1 64 rfl 69 rfl dX2_readForm_67 ?_
          refine r_icmp_ne C.1 90 72 rfl dX2_readForm_69 rfl ⟨fun c58 => ?_, fun c58 => ?_⟩
          · have h := if_some_f c58 h
            refine r_iload C.1 6 92 rfl dX2_readForm_90 rfl ?_
            refine r_istore C.1 (lv' := [(0, .ref a0), (3, .ref (jStr F a3)), (4, .int y55), (5, .int v5), (6, .int v6), (7, .int y53), (8, .int y55)]) [1, 2, 0, 3, 4, 5, 6] 94 rfl dX2_readForm_92 (Nat.le_of_ble_eq_true rfl) rfl ?_
            refine r_iinc C.1 (lv' := [(0, .ref a0), (3, .ref (jStr F a3)), (4, .int y55), (5, .int v5), (6, .int (v6 + 1)), (7, .int y53), (8, .int y55)]) 4 [1, 2, 3, 4, 0, 5, 6] 97 rfl dX2_readForm_94 rfl (Nat.le_of_ble_eq_true rfl) rfl rfl ?_
            refine r_goto C.1 19 dX2_readForm_97 rfl ?_
            refine r_lv [0, 1, 2, 3, 4] rfl ?_
            exact ih κ y55 v5 (v6 + 1) h
          · have h := if_some_t c58 h
            refine r_lv [0, 1, 2, 3, 4, 6] rfl ?_
            exact w_X2_readForm_72 C ha0 ha3 hq ih h
      · have h := if_some_t c56 h
        refine r_iload C.1 2 55 rfl dX2_readForm_53 rfl ?_
        refine r_iconst C.1 (-1) rfl 56 rfl dX2_readForm_55 ?_
        refine r_ixor C.1 57 rfl dX2_readForm_56 ?_
        cases h
        exact r_zret C rfl rfl (Nat.le_of_ble_eq_true rfl) (Nat.le_of_ble_eq_true rfl) dX2_readForm_57 hq
set_option maxRecDepth 20000 in
theorem w_X2_readForm_0 {F : jFm} (C : jB F RX2 cX2_readForm 9 (some .int) 4 0 0 85) {κ : jKt} {a0 : Nat} (ha0 : jSof F a0 = (1, 6, 5)) {x1 : Int32} {x2 : Int32} {r : Int32 × jKt} (hq : jOut F (some (.int r.1)) r.2) (h : P_X2_readForm κ a0 x1 x2 = some r) : jW F 9 0 0 κ 0 [(0, .ref a0), (1, .int x1), (2, .int x2)] [] := by
  unfold P_X2_readForm at h
  refine r_iload_n C.1 1 1 rfl dX2_readForm_0 rfl ?_
  obtain ⟨b60, e59, h⟩ := bd_some h
  refine r_cSs C.1 (st := []) (c_X2_formOf e59) yv_X2_formOf ml_X2_42 rfl ⟨Nat.le_of_ble_eq_true rfl, Nat.le_of_ble_eq_true rfl⟩ ⟨Nat.le_of_ble_eq_true rfl, Nat.le_of_ble_eq_true rfl⟩ (Nat.le_of_ble_eq_true rfl) rfl 0 0 rfl rfl 4 rfl dX2_readForm_1 ?_
  have h61 := lt_X2_formOf e59
  refine r_astore_n C.1 (lv' := [(0, .ref a0), (1, .int x1), (2, .int x2), (3, .ref (jStr F b60))]) [1, 2, 3, 0] 5 rfl dX2_readForm_4 (Nat.le_of_ble_eq_true rfl) rfl ?_
  refine r_iload_n C.1 2 6 rfl dX2_readForm_5 rfl ?_
  refine r_istore C.1 (lv' := [(0, .ref a0), (1, .int x1), (2, .int x2), (3, .ref (jStr F b60)), (4, .int x2)]) [1, 2, 3, 4, 0] 8 rfl dX2_readForm_6 (Nat.le_of_ble_eq_true rfl) rfl ?_
  refine r_iconst C.1 3 rfl 9 rfl dX2_readForm_8 ?_
  refine r_aload_n C.1 0 10 rfl dX2_readForm_9 rfl ?_
  refine r_getI C.1 4 fl_X2_26 rfl ha0 13 rfl dX2_readForm_10 ?_
  refine r_imul C.1 14 rfl dX2_readForm_13 ?_
  obtain ⟨y62, e63, h⟩ := bnd_some h
  refine r_top e63 ?_
  refine r_istore C.1 (lv' := [(0, .ref a0), (1, .int x1), (2, .int x2), (3, .ref (jStr F b60)), (4, .int x2), (5, .int y62)]) [1, 2, 3, 4, 5, 0] 16 rfl dX2_readForm_14 (Nat.le_of_ble_eq_true rfl) rfl ?_
  refine r_iconst C.1 0 rfl 17 rfl dX2_readForm_16 ?_
  refine r_istore C.1 (lv' := [(0, .ref a0), (1, .int x1), (2, .int x2), (3, .ref (jStr F b60)), (4, .int x2), (5, .int y62), (6, .int 0)]) [1, 2, 3, 4, 5, 6, 0] 19 rfl dX2_readForm_17 (Nat.le_of_ble_eq_true rfl) rfl ?_
  refine r_lv [0, 3, 4, 5, 6] rfl ?_
  exact w_X2_readForm_19 C ha0 h61 hq 4000 κ x2 y62 0 h
theorem c_X2_readForm {l : Launch} {G : jG} {sh : jSh} {κ : jKt} {a0 : Nat} (ha0 : sh a0 = (1, 6, 5)) {x1 : Int32} {x2 : Int32} {r : Int32} {κr : jKt} (h : P_X2_readForm κ a0 x1 x2 = some (r, κr)) : jM l G yX2_readForm cX2_readForm 9 (some .int) 4 0 0 85 [.ref a0, .int x1, .int x2] (sh, κ) (jIs (some (.int r)) (sh, κr)) jNo :=
  r_body (by decide) (Nat.le_of_ble_eq_true rfl) fun F C hl hG hs ho hx => by
    subst hs
    exact w_X2_readForm_0 C ha0 (by rw [ho]; exact ⟨rfl, rfl⟩) h
set_option maxRecDepth 20000 in
theorem w_X2_readCommand_4 {F : jFm} (C : jB F RX2 cX2_readCommand 5 (some .int) 5 0 0 113) {a0 : Nat} (ha0 : jSof F a0 = (1, 6, 5)) {v1 : Int32} {r : Int32 × jKt} (hq : jOut F (some (.int r.1)) r.2) : ∀ (n : Nat) (κ : jKt) (v2 : Int32) (v3 : Int32), P_X2_readCommand_4 a0 v1 n κ v2 v3 = some r → jW F 5 0 0 κ 4 [(0, .ref a0), (1, .int v1), (2, .int v2), (3, .int v3)] [] := by
  intro n
  induction n with
  | zero => intro κ v2 v3 h; cases h
  | succ n ih =>
    intro κ v2 v3 h
    rw [P_X2_readCommand_4] at h
    refine r_iload_n C.1 3 5 rfl dX2_readCommand_4 rfl ?_
    refine r_bipush C.1 10 rfl 7 rfl dX2_readCommand_5 ?_
    refine r_icmp_ge C.1 51 10 rfl dX2_readCommand_7 rfl ⟨fun c19 => ?_, fun c19 => ?_⟩
    · have h := if_some_t c19 h
      refine r_iload_n C.1 2 52 rfl dX2_readCommand_51 rfl ?_
      refine r_iconst C.1 (-1) rfl 53 rfl dX2_readCommand_52 ?_
      refine r_ixor C.1 54 rfl dX2_readCommand_53 ?_
      cases h
      exact r_zret C rfl rfl (Nat.le_of_ble_eq_true rfl) (Nat.le_of_ble_eq_true rfl) dX2_readCommand_54 hq
    · have h := if_some_f c19 h
      refine r_aload_n C.1 0 11 rfl dX2_readCommand_10 rfl ?_
      refine r_iload_n C.1 3 12 rfl dX2_readCommand_11 rfl ?_
      refine r_iload_n C.1 1 13 rfl dX2_readCommand_12 rfl ?_
      obtain ⟨y21, κ22, e20, h⟩ := bd2_some h
      refine r_cVi C.1 (st := []) (c_X2_readForm ha0 e20) yv_X2_readForm ml_X2_33 rfl ha0 rfl ⟨Nat.le_of_ble_eq_true rfl, Nat.le_of_ble_eq_true rfl⟩ ⟨Nat.le_of_ble_eq_true rfl, Nat.le_of_ble_eq_true rfl⟩ (Nat.le_of_ble_eq_true rfl) rfl 0 0 rfl rfl 16 rfl dX2_readCommand_13 ?_
      refine r_istore C.1 (lv' := [(0, .ref a0), (1, .int v1), (2, .int v2), (3, .int v3), (4, .int y21)]) [1, 2, 3, 4, 0] 18 rfl dX2_readCommand_16 (Nat.le_of_ble_eq_true rfl) rfl ?_
      refine r_iload C.1 4 20 rfl dX2_readCommand_18 rfl ?_
      refine r_if_lt C.1 36 23 rfl dX2_readCommand_20 rfl ⟨fun c23 => ?_, fun c23 => ?_⟩
      · have h := if_some_t c23 h
        refine r_iload_n C.1 2 37 rfl dX2_readCommand_36 rfl ?_
        refine r_iload C.1 4 39 rfl dX2_readCommand_37 rfl ?_
        refine r_iconst C.1 (-1) rfl 40 rfl dX2_readCommand_39 ?_
        refine r_ixor C.1 41 rfl dX2_readCommand_40 ?_
        refine r_mmax C.1 mx_X2_37 ⟨Nat.le_of_ble_eq_true rfl, Nat.le_of_ble_eq_true rfl⟩ ⟨Nat.le_of_ble_eq_true rfl, Nat.le_of_ble_eq_true rfl⟩ 44 rfl dX2_readCommand_41 ?_
        refine r_istore_n C.1 (lv' := [(0, .ref a0), (1, .int v1), (2, .int (jmax v2 (y21 ^^^ (-1)))), (3, .int v3), (4, .int y21)]) [1, 2, 0, 3, 4] 45 rfl dX2_readCommand_44 (Nat.le_of_ble_eq_true rfl) rfl ?_
        refine r_iinc C.1 (lv' := [(0, .ref a0), (1, .int v1), (2, .int (jmax v2 (y21 ^^^ (-1)))), (3, .int (v3 + 1)), (4, .int y21)]) 3 [1, 2, 3, 0, 4] 48 rfl dX2_readCommand_45 rfl (Nat.le_of_ble_eq_true rfl) rfl rfl ?_
        refine r_goto C.1 4 dX2_readCommand_48 rfl ?_
        refine r_lv [0, 1, 2, 3] rfl ?_
        exact ih κ22 (jmax v2 (y21 ^^^ (-1))) (v3 + 1) h
      · have h := if_some_f c23 h
        refine r_aload_n C.1 0 24 rfl dX2_readCommand_23 rfl ?_
        refine r_getR C.1 2 fl_X2_19 rfl ha0 27 rfl dX2_readCommand_24 (fun (h24 : jSof F (kR κ22 a0 2) = (2, 0, 60)) => ?_)
        refine r_aload_n C.1 0 28 rfl dX2_readCommand_27 rfl ?_
        refine r_getI C.1 4 fl_X2_26 rfl ha0 31 rfl dX2_readCommand_28 ?_
        refine r_iload_n C.1 3 32 rfl dX2_readCommand_31 rfl ?_
        obtain ⟨i25, h⟩ := ck_some h
        obtain ⟨κ26, e27, h⟩ := bnd_some h
        refine r_iast C.1 h24 i25 e27 33 rfl dX2_readCommand_32 ?_
        refine r_iload C.1 4 35 rfl dX2_readCommand_33 rfl ?_
        cases h
        exact r_zret C rfl rfl (Nat.le_of_ble_eq_true rfl) (Nat.le_of_ble_eq_true rfl) dX2_readCommand_35 hq
set_option maxRecDepth 20000 in
theorem w_X2_readCommand_0 {F : jFm} (C : jB F RX2 cX2_readCommand 5 (some .int) 5 0 0 113) {κ : jKt} {a0 : Nat} (ha0 : jSof F a0 = (1, 6, 5)) {x1 : Int32} {r : Int32 × jKt} (hq : jOut F (some (.int r.1)) r.2) (h : P_X2_readCommand κ a0 x1 = some r) : jW F 5 0 0 κ 0 [(0, .ref a0), (1, .int x1)] [] := by
  unfold P_X2_readCommand at h
  refine r_iload_n C.1 1 1 rfl dX2_readCommand_0 rfl ?_
  refine r_istore_n C.1 (lv' := [(0, .ref a0), (1, .int x1), (2, .int x1)]) [1, 2, 0] 2 rfl dX2_readCommand_1 (Nat.le_of_ble_eq_true rfl) rfl ?_
  refine r_iconst C.1 0 rfl 3 rfl dX2_readCommand_2 ?_
  refine r_istore_n C.1 (lv' := [(0, .ref a0), (1, .int x1), (2, .int x1), (3, .int 0)]) [1, 2, 3, 0] 4 rfl dX2_readCommand_3 (Nat.le_of_ble_eq_true rfl) rfl ?_
  exact w_X2_readCommand_4 C ha0 hq 4000 κ x1 0 h
theorem c_X2_readCommand {l : Launch} {G : jG} {sh : jSh} {κ : jKt} {a0 : Nat} (ha0 : sh a0 = (1, 6, 5)) {x1 : Int32} {r : Int32} {κr : jKt} (h : P_X2_readCommand κ a0 x1 = some (r, κr)) : jM l G yX2_readCommand cX2_readCommand 5 (some .int) 5 0 0 113 [.ref a0, .int x1] (sh, κ) (jIs (some (.int r)) (sh, κr)) jNo :=
  r_body (by decide) (Nat.le_of_ble_eq_true rfl) fun F C hl hG hs ho hx => by
    subst hs
    exact w_X2_readCommand_0 C ha0 (by rw [ho]; exact ⟨rfl, rfl⟩) h
set_option maxRecDepth 20000 in
theorem w_X2_performIn_2 {F : jFm} (C : jB F RX2 cX2_performIn 5 (some .int) 5 0 0 116) {a0 : Nat} (ha0 : jSof F a0 = (1, 6, 5)) {a1 : Nat} (ha1 : jSof F a1 = (1, 9, 11)) {r : Int32 × jKt} (hq : jOut F (some (.int r.1)) r.2) : ∀ (n : Nat) (κ : jKt) (v2 : Int32), P_X2_performIn_2 a0 a1 n κ v2 = some r → jW F 5 0 0 κ 2 [(0, .ref a0), (1, .ref a1), (2, .int v2)] [] := by
  intro n
  induction n with
  | zero => intro κ v2 h; cases h
  | succ n ih =>
    intro κ v2 h
    rw [P_X2_performIn_2] at h
    refine r_iload_n C.1 2 3 rfl dX2_performIn_2 rfl ?_
    refine r_aload_n C.1 0 4 rfl dX2_performIn_3 rfl ?_
    refine r_getI C.1 4 fl_X2_26 rfl ha0 7 rfl dX2_performIn_4 ?_
    refine r_icmp_ge C.1 61 10 rfl dX2_performIn_7 rfl ⟨fun c27 => ?_, fun c27 => ?_⟩
    · have h := if_some_t c27 h
      refine r_iconst C.1 (-1) rfl 62 rfl dX2_performIn_61 ?_
      cases h
      exact r_zret C rfl rfl (Nat.le_of_ble_eq_true rfl) (Nat.le_of_ble_eq_true rfl) dX2_performIn_62 hq
    · have h := if_some_f c27 h
      refine r_iconst C.1 3 rfl 11 rfl dX2_performIn_10 ?_
      refine r_iload_n C.1 2 12 rfl dX2_performIn_11 rfl ?_
      refine r_imul C.1 13 rfl dX2_performIn_12 ?_
      refine r_istore_n C.1 (lv' := [(0, .ref a0), (1, .ref a1), (2, .int v2), (3, .int (3 * v2))]) [1, 2, 3, 0] 14 rfl dX2_performIn_13 (Nat.le_of_ble_eq_true rfl) rfl ?_
      refine r_aload_n C.1 1 15 rfl dX2_performIn_14 rfl ?_
      refine r_aload_n C.1 0 16 rfl dX2_performIn_15 rfl ?_
      refine r_getR C.1 2 fl_X2_19 rfl ha0 19 rfl dX2_performIn_16 (fun (h28 : jSof F (kR κ a0 2) = (2, 0, 60)) => ?_)
      refine r_iload_n C.1 2 20 rfl dX2_performIn_19 rfl ?_
      obtain ⟨i29, h⟩ := ck_some h
      refine r_iald C.1 h28 i29 21 rfl dX2_performIn_20 ?_
      refine r_aload_n C.1 0 22 rfl dX2_performIn_21 rfl ?_
      refine r_getR C.1 3 fl_X2_23 rfl ha0 25 rfl dX2_performIn_22 (fun (h30 : jSof F (kR κ a0 3) = (2, 0, 180)) => ?_)
      refine r_iload_n C.1 3 26 rfl dX2_performIn_25 rfl ?_
      obtain ⟨i31, h⟩ := ck_some h
      refine r_iald C.1 h30 i31 27 rfl dX2_performIn_26 ?_
      refine r_aload_n C.1 0 28 rfl dX2_performIn_27 rfl ?_
      refine r_getR C.1 3 fl_X2_23 rfl ha0 31 rfl dX2_performIn_28 (fun (h32 : jSof F (kR κ a0 3) = (2, 0, 180)) => ?_)
      refine r_iload_n C.1 3 32 rfl dX2_performIn_31 rfl ?_
      refine r_iconst C.1 1 rfl 33 rfl dX2_performIn_32 ?_
      refine r_iadd C.1 34 rfl dX2_performIn_33 ?_
      obtain ⟨i33, h⟩ := ck_some h
      refine r_iald C.1 h32 i33 35 rfl dX2_performIn_34 ?_
      refine r_aload_n C.1 0 36 rfl dX2_performIn_35 rfl ?_
      refine r_getR C.1 3 fl_X2_23 rfl ha0 39 rfl dX2_performIn_36 (fun (h34 : jSof F (kR κ a0 3) = (2, 0, 180)) => ?_)
      refine r_iload_n C.1 3 40 rfl dX2_performIn_39 rfl ?_
      refine r_iconst C.1 2 rfl 41 rfl dX2_performIn_40 ?_
      refine r_iadd C.1 42 rfl dX2_performIn_41 ?_
      obtain ⟨i35, h⟩ := ck_some h
      refine r_iald C.1 h34 i35 43 rfl dX2_performIn_42 ?_
      obtain ⟨y37, κ38, e36, h⟩ := bd2_some h
      refine r_cVi C.1 (st := []) (c_X5_perform ha1 e36) yv_X5_perform ml_X2_85 rfl ha1 rfl ⟨Nat.le_of_ble_eq_true rfl, Nat.le_of_ble_eq_true rfl⟩ ⟨Nat.le_of_ble_eq_true rfl, Nat.le_of_ble_eq_true rfl⟩ (Nat.le_of_ble_eq_true rfl) rfl 0 0 rfl rfl 46 rfl dX2_performIn_43 ?_
      refine r_istore C.1 (lv' := [(0, .ref a0), (1, .ref a1), (2, .int v2), (3, .int (3 * v2)), (4, .int y37)]) [1, 2, 3, 4, 0] 48 rfl dX2_performIn_46 (Nat.le_of_ble_eq_true rfl) rfl ?_
      refine r_iload C.1 4 50 rfl dX2_performIn_48 rfl ?_
      refine r_if_ge C.1 55 53 rfl dX2_performIn_50 rfl ⟨fun c39 => ?_, fun c39 => ?_⟩
      · have h := if_some_t c39 h
        refine r_iinc C.1 (lv' := [(0, .ref a0), (1, .ref a1), (2, .int (v2 + 1)), (3, .int (3 * v2)), (4, .int y37)]) 2 [1, 2, 0, 3, 4] 58 rfl dX2_performIn_55 rfl (Nat.le_of_ble_eq_true rfl) rfl rfl ?_
        refine r_goto C.1 2 dX2_performIn_58 rfl ?_
        refine r_lv [0, 1, 2] rfl ?_
        exact ih κ38 (v2 + 1) h
      · have h := if_some_f c39 h
        refine r_iload_n C.1 2 54 rfl dX2_performIn_53 rfl ?_
        cases h
        exact r_zret C rfl rfl (Nat.le_of_ble_eq_true rfl) (Nat.le_of_ble_eq_true rfl) dX2_performIn_54 hq
set_option maxRecDepth 20000 in
theorem w_X2_performIn_0 {F : jFm} (C : jB F RX2 cX2_performIn 5 (some .int) 5 0 0 116) {κ : jKt} {a0 : Nat} (ha0 : jSof F a0 = (1, 6, 5)) {a1 : Nat} (ha1 : jSof F a1 = (1, 9, 11)) {r : Int32 × jKt} (hq : jOut F (some (.int r.1)) r.2) (h : P_X2_performIn κ a0 a1 = some r) : jW F 5 0 0 κ 0 [(0, .ref a0), (1, .ref a1)] [] := by
  unfold P_X2_performIn at h
  refine r_iconst C.1 0 rfl 1 rfl dX2_performIn_0 ?_
  refine r_istore_n C.1 (lv' := [(0, .ref a0), (1, .ref a1), (2, .int 0)]) [1, 2, 0] 2 rfl dX2_performIn_1 (Nat.le_of_ble_eq_true rfl) rfl ?_
  exact w_X2_performIn_2 C ha0 ha1 hq 4000 κ 0 h
theorem c_X2_performIn {l : Launch} {G : jG} {sh : jSh} {κ : jKt} {a0 : Nat} (ha0 : sh a0 = (1, 6, 5)) {a1 : Nat} (ha1 : sh a1 = (1, 9, 11)) {r : Int32} {κr : jKt} (h : P_X2_performIn κ a0 a1 = some (r, κr)) : jM l G yX2_performIn cX2_performIn 5 (some .int) 5 0 0 116 [.ref a0, .ref a1] (sh, κ) (jIs (some (.int r)) (sh, κr)) jNo :=
  r_body (by decide) (Nat.le_of_ble_eq_true rfl) fun F C hl hG hs ho hx => by
    subst hs
    exact w_X2_performIn_0 C ha0 ha1 (by rw [ho]; exact ⟨rfl, rfl⟩) h
set_option maxRecDepth 20000 in
theorem w_X2_read_9 {F : jFm} (C : jB F RX2 cX2_read 4 (some .int) 6 0 0 137) {a0 : Nat} (ha0 : jSof F a0 = (1, 6, 5)) {r : Int32 × jKt} (hq : jOut F (some (.int r.1)) r.2) : ∀ (n : Nat) (κ : jKt) (v1 : Int32) (v2 : Int32), P_X2_read_9 a0 n κ v1 v2 = some r → jW F 4 0 0 κ 9 [(0, .ref a0), (1, .int v1), (2, .int v2)] [] := by
  intro n
  induction n with
  | zero => intro κ v1 v2 h; cases h
  | succ n ih =>
    intro κ v1 v2 h
    rw [P_X2_read_9] at h
    refine r_iload_n C.1 2 10 rfl dX2_read_9 rfl ?_
    refine r_bipush C.1 60 rfl 12 rfl dX2_read_10 ?_
    refine r_icmp_ge C.1 72 15 rfl dX2_read_12 rfl ⟨fun c27 => ?_, fun c27 => ?_⟩
    · have h := if_some_t c27 h
      refine r_iload_n C.1 1 73 rfl dX2_read_72 rfl ?_
      cases h
      exact r_zret C rfl rfl (Nat.le_of_ble_eq_true rfl) (Nat.le_of_ble_eq_true rfl) dX2_read_73 hq
    · have h := if_some_f c27 h
      refine r_aload_n C.1 0 16 rfl dX2_read_15 rfl ?_
      refine r_iload_n C.1 1 17 rfl dX2_read_16 rfl ?_
      obtain ⟨y29, κ30, e28, h⟩ := bd2_some h
      refine r_cVi C.1 (st := []) (c_X2_readCommand ha0 e28) yv_X2_readCommand ml_X2_29 rfl ha0 rfl ⟨Nat.le_of_ble_eq_true rfl, Nat.le_of_ble_eq_true rfl⟩ ⟨Nat.le_of_ble_eq_true rfl, Nat.le_of_ble_eq_true rfl⟩ (Nat.le_of_ble_eq_true rfl) rfl 0 0 rfl rfl 20 rfl dX2_read_17 ?_
      refine r_istore_n C.1 (lv' := [(0, .ref a0), (1, .int v1), (2, .int v2), (3, .int y29)]) [1, 2, 3, 0] 21 rfl dX2_read_20 (Nat.le_of_ble_eq_true rfl) rfl ?_
      refine r_iload_n C.1 3 22 rfl dX2_read_21 rfl ?_
      refine r_if_ge C.1 29 25 rfl dX2_read_22 rfl ⟨fun c31 => ?_, fun c31 => ?_⟩
      · have h := if_some_t c31 h
        refine r_aload_n C.1 0 30 rfl dX2_read_29 rfl ?_
        refine r_dup C.1 rfl 31 rfl dX2_read_30 ?_
        refine r_getI C.1 4 fl_X2_26 rfl ha0 34 rfl dX2_read_31 ?_
        refine r_iconst C.1 1 rfl 35 rfl dX2_read_34 ?_
        refine r_iadd C.1 36 rfl dX2_read_35 ?_
        obtain ⟨κ32, e33, h⟩ := bnd_some h
        refine r_putI C.1 4 fw_X2_26 rfl rfl rfl ha0 e33 39 rfl dX2_read_36 ?_
        refine r_iload_n C.1 3 40 rfl dX2_read_39 rfl ?_
        refine r_aload_n C.1 0 41 rfl dX2_read_40 rfl ?_
        refine r_getI C.1 1 fl_X2_15 rfl ha0 44 rfl dX2_read_41 ?_
        refine r_icmp_lt C.1 49 47 rfl dX2_read_44 rfl ⟨fun c34 => ?_, fun c34 => ?_⟩
        · have h := if_some_t c34 h
          refine r_aload_n C.1 0 50 rfl dX2_read_49 rfl ?_
          refine r_getR C.1 0 fl_X2_9 rfl ha0 53 rfl dX2_read_50 (fun (h35 : jSof F (kR κ32 a0 0) = (2, 1, 60)) => ?_)
          refine r_iload_n C.1 3 54 rfl dX2_read_53 rfl ?_
          obtain ⟨i36, h⟩ := ck_some h
          refine r_cald C.1 h35 i36 55 rfl dX2_read_54 ?_
          refine r_bipush C.1 59 rfl 57 rfl dX2_read_55 ?_
          refine r_icmp_eq C.1 62 60 rfl dX2_read_57 rfl ⟨fun c37 => ?_, fun c37 => ?_⟩
          · have h := if_some_t c37 h
            refine r_iload_n C.1 3 63 rfl dX2_read_62 rfl ?_
            refine r_iconst C.1 1 rfl 64 rfl dX2_read_63 ?_
            refine r_iadd C.1 65 rfl dX2_read_64 ?_
            refine r_istore_n C.1 (lv' := [(0, .ref a0), (1, .int (y29 + 1)), (2, .int v2), (3, .int y29)]) [1, 0, 2, 3] 66 rfl dX2_read_65 (Nat.le_of_ble_eq_true rfl) rfl ?_
            refine r_iinc C.1 (lv' := [(0, .ref a0), (1, .int (y29 + 1)), (2, .int (v2 + 1)), (3, .int y29)]) 2 [1, 2, 0, 3] 69 rfl dX2_read_66 rfl (Nat.le_of_ble_eq_true rfl) rfl rfl ?_
            refine r_goto C.1 9 dX2_read_69 rfl ?_
            refine r_lv [0, 1, 2] rfl ?_
            exact ih κ32 (y29 + 1) (v2 + 1) h
          · have h := if_some_f c37 h
            refine r_iload_n C.1 3 61 rfl dX2_read_60 rfl ?_
            cases h
            exact r_zret C rfl rfl (Nat.le_of_ble_eq_true rfl) (Nat.le_of_ble_eq_true rfl) dX2_read_61 hq
        · have h := if_some_f c34 h
          refine r_iconst C.1 (-1) rfl 48 rfl dX2_read_47 ?_
          cases h
          exact r_zret C rfl rfl (Nat.le_of_ble_eq_true rfl) (Nat.le_of_ble_eq_true rfl) dX2_read_48 hq
      · have h := if_some_f c31 h
        refine r_iload_n C.1 3 26 rfl dX2_read_25 rfl ?_
        refine r_iconst C.1 (-1) rfl 27 rfl dX2_read_26 ?_
        refine r_ixor C.1 28 rfl dX2_read_27 ?_
        cases h
        exact r_zret C rfl rfl (Nat.le_of_ble_eq_true rfl) (Nat.le_of_ble_eq_true rfl) dX2_read_28 hq
set_option maxRecDepth 20000 in
theorem w_X2_read_0 {F : jFm} (C : jB F RX2 cX2_read 4 (some .int) 6 0 0 137) {κ : jKt} {a0 : Nat} (ha0 : jSof F a0 = (1, 6, 5)) {r : Int32 × jKt} (hq : jOut F (some (.int r.1)) r.2) (h : P_X2_read κ a0 = some r) : jW F 4 0 0 κ 0 [(0, .ref a0)] [] := by
  unfold P_X2_read at h
  refine r_aload_n C.1 0 1 rfl dX2_read_0 rfl ?_
  refine r_iconst C.1 0 rfl 2 rfl dX2_read_1 ?_
  obtain ⟨κ38, e39, h⟩ := bnd_some h
  refine r_putI C.1 4 fw_X2_26 rfl rfl rfl ha0 e39 5 rfl dX2_read_2 ?_
  refine r_iconst C.1 0 rfl 6 rfl dX2_read_5 ?_
  refine r_istore_n C.1 (lv' := [(0, .ref a0), (1, .int 0)]) [1, 0] 7 rfl dX2_read_6 (Nat.le_of_ble_eq_true rfl) rfl ?_
  refine r_iconst C.1 0 rfl 8 rfl dX2_read_7 ?_
  refine r_istore_n C.1 (lv' := [(0, .ref a0), (1, .int 0), (2, .int 0)]) [1, 2, 0] 9 rfl dX2_read_8 (Nat.le_of_ble_eq_true rfl) rfl ?_
  exact w_X2_read_9 C ha0 hq 4000 κ38 0 0 h
theorem c_X2_read {l : Launch} {G : jG} {sh : jSh} {κ : jKt} {a0 : Nat} (ha0 : sh a0 = (1, 6, 5)) {r : Int32} {κr : jKt} (h : P_X2_read κ a0 = some (r, κr)) : jM l G yX2_read cX2_read 4 (some .int) 6 0 0 137 [.ref a0] (sh, κ) (jIs (some (.int r)) (sh, κr)) jNo :=
  r_body (by decide) (Nat.le_of_ble_eq_true rfl) fun F C hl hG hs ho hx => by
    subst hs
    exact w_X2_read_0 C ha0 (by rw [ho]; exact ⟨rfl, rfl⟩) h
