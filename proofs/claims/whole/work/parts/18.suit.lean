/-! pure methods and walks: ['TailorWorkshop$Suit'] -/
def P_X4_takeOver (κ : jKt) (a0 : Nat) (a1 : Nat) : Option (jKt) :=
  bnd (kU κ a0 0 (.int (kI κ a1 0))) fun κ45 =>
  bnd (kU κ45 a0 1 (.int (kI κ45 a1 1))) fun κ47 =>
  bnd (kU κ47 a0 2 (.int (kI κ47 a1 2))) fun κ49 =>
  bnd (kU κ49 a0 3 (.int (kI κ49 a1 3))) fun κ51 =>
  bnd (kU κ51 a0 4 (.int (kI κ51 a1 4))) fun κ53 =>
  bnd (kCp κ53 (kR κ53 a1 5) (kR κ53 a0 5) 16) fun κ57 =>
  bnd (kCp κ57 (kR κ57 a1 6) (kR κ57 a0 6) 16) fun κ61 =>
  bnd (kCp κ61 (kR κ61 a1 7) (kR κ61 a0 7) 16) fun κ65 =>
  some κ65
def P_X4_begin_29 (a0 : Nat) : Nat → jKt → Int32 → Option (jKt)
  | 0, _, _ => none
  | n + 1, κ, v5 =>
    if (kI κ a0 3) ≤ v5 then
  some κ
  else
  ck (jin v5 16) <|
  bnd (kU κ (kR κ a0 5) (ix v5) (.int 112)) fun κ50 =>
  ck (jin v5 16) <|
  bnd (kU κ50 (kR κ50 a0 6) (ix v5) (.int 0)) fun κ54 =>
  ck (jin v5 16) <|
  bnd (kU κ54 (kR κ54 a0 7) (ix v5) (.int 0)) fun κ58 =>
  P_X4_begin_29 a0 n κ58 (v5 + 1)
def P_X4_begin (κ : jKt) (a0 : Nat) (x1 : Int32) (x2 : Int32) (x3 : Int32) (x4 : Int32) : Option (jKt) :=
  bnd (kU κ a0 0 (.int x1)) fun κ60 =>
  bnd (kU κ60 a0 1 (.int x2)) fun κ62 =>
  bnd (kU κ62 a0 2 (.int x3)) fun κ64 =>
  bnd (kU κ64 a0 3 (.int x4)) fun κ66 =>
  bnd (kU κ66 a0 4 (.int 0)) fun κ68 =>
  P_X4_begin_29 a0 4000 κ68 0
def P_X4_hasSleeve (κ : jKt) (a0 : Nat) (x1 : Int32) : Option (Int32) :=
  if x1 < 0 then
  some 0
  else
  if (kI κ a0 3) ≤ x1 then
  some 0
  else
  some 1
def P_X4_isPlanned (κ : jKt) (a0 : Nat) (x1 : Int32) : Option (Int32) :=
  ck (jin x1 16) <|
  if (kI κ (kR κ a0 5) (ix x1)) = 112 then
  some 1
  else
  some 0
def P_X4_isSewn (κ : jKt) (a0 : Nat) (x1 : Int32) : Option (Int32) :=
  ck (jin x1 16) <|
  if (kI κ (kR κ a0 5) (ix x1)) = 115 then
  some 1
  else
  some 0
def P_X4_allSleeves (κ : jKt) (a0 : Nat) : Option (Int32) :=
  some ((1 <<< ((kI κ a0 3) &&& 31)) - 1)
def P_X4_sewnSet_4 (κ : jKt) (a0 : Nat) : Nat → Int32 → Int32 → Option (Int32)
  | 0, _, _ => none
  | n + 1, v1, v2 =>
    if (kI κ a0 3) ≤ v2 then
  some v1
  else
  ck (jin v2 16) <|
  if (kI κ (kR κ a0 5) (ix v2)) = 115 then
  P_X4_sewnSet_4 κ a0 n (v1 ||| (1 <<< (v2 &&& 31))) (v2 + 1)
  else
  P_X4_sewnSet_4 κ a0 n v1 (v2 + 1)
def P_X4_sewnSet (κ : jKt) (a0 : Nat) : Option (Int32) :=
  P_X4_sewnSet_4 κ a0 4000 0 0
def P_X4_sewnCount (κ : jKt) (a0 : Nat) : Option (Int32) :=
  bd (P_X4_sewnSet κ a0) fun y10 =>
  bd (P_J6_bitCount_0f7a4 κ y10) fun y12 =>
  some y12
def P_X4_unsewnCount (κ : jKt) (a0 : Nat) : Option (Int32) :=
  bd (P_X4_sewnSet κ a0) fun y10 =>
  bd (P_J6_bitCount_0f7a4 κ y10) fun y12 =>
  some ((kI κ a0 3) - y12)
def P_X4_fitsAt (κ : jKt) (a0 : Nat) (x1 : Int32) (a2 : Nat) : Option (Int32) :=
  ck (jin x1 16) <|
  ck (jin x1 16) <|
  if (kI κ (kR κ a0 6) (ix x1)) = (kI κ (kR κ a2 1) (ix x1)) then
  some 1
  else
  some 0
def P_X4_isFitting_2 (κ : jKt) (a0 : Nat) (a1 : Nat) : Nat → Int32 → Option (Int32)
  | 0, _ => none
  | n + 1, v2 =>
    if (kI κ a0 3) ≤ v2 then
  some 1
  else
  bd (P_X4_isPlanned κ a0 v2) fun y17 =>
  if y17 = 0 then
  bd (P_X4_fitsAt κ a0 v2 a1) fun y20 =>
  if y20 = 0 then
  some 0
  else
  P_X4_isFitting_2 κ a0 a1 n (v2 + 1)
  else
  P_X4_isFitting_2 κ a0 a1 n (v2 + 1)
def P_X4_isFitting (κ : jKt) (a0 : Nat) (a1 : Nat) : Option (Int32) :=
  P_X4_isFitting_2 κ a0 a1 4000 0
def P_X4_hasEvenSleeves_2 (κ : jKt) (a0 : Nat) : Nat → Int32 → Option (Int32)
  | 0, _ => none
  | n + 1, v1 =>
    if (kI κ a0 3) ≤ (v1 + 1) then
  some 1
  else
  bd (P_X4_isPlanned κ a0 v1) fun y31 =>
  bd (P_X4_isPlanned κ a0 (v1 + 1)) fun y33 =>
  if y31 = y33 then
  bd (P_X4_isPlanned κ a0 v1) fun y36 =>
  if y36 = 0 then
  ck (jin v1 16) <|
  ck (jin (v1 + 1) 16) <|
  if (jabs ((kI κ (kR κ a0 6) (ix v1)) - (kI κ (kR κ a0 6) (ix (v1 + 1))))) ≤ 1 then
  P_X4_hasEvenSleeves_2 κ a0 n (v1 + 2)
  else
  some 0
  else
  P_X4_hasEvenSleeves_2 κ a0 n (v1 + 2)
  else
  some 0
def P_X4_hasEvenSleeves (κ : jKt) (a0 : Nat) : Option (Int32) :=
  P_X4_hasEvenSleeves_2 κ a0 4000 0
def P_X4_isReadyFor (κ : jKt) (a0 : Nat) (a1 : Nat) : Option (Int32) :=
  bd (P_X4_sewnSet κ a0) fun y24 =>
  bd (P_X4_allSleeves κ a0) fun y26 =>
  if y24 = y26 then
  bd (P_X4_isFitting κ a0 a1) fun y29 =>
  if y29 = 0 then
  some 0
  else
  bd (P_X4_hasEvenSleeves κ a0) fun y32 =>
  if y32 = 0 then
  some 0
  else
  some 1
  else
  some 0
def P_X4_priceFor_9 (κ : jKt) (a0 : Nat) (a1 : Nat) : Nat → Int32 → Int32 → Option (Int32)
  | 0, _, _ => none
  | n + 1, v2, v3 =>
    if (kI κ a0 3) ≤ v3 then
  some v2
  else
  bd (P_X4_isPlanned κ a0 v3) fun y31 =>
  if y31 = 0 then
  ck (jin v3 16) <|
  bnd (v2 + (kI κ (kR κ a0 6) (ix v3))) fun y35 =>
  P_X4_priceFor_9 κ a0 a1 n y35 (v3 + 1)
  else
  ck (jin v3 16) <|
  bnd (v2 + (kI κ (kR κ a1 1) (ix v3))) fun y39 =>
  P_X4_priceFor_9 κ a0 a1 n y39 (v3 + 1)
def P_X4_priceFor (κ : jKt) (a0 : Nat) (a1 : Nat) : Option (Int32) :=
  bnd (3 * (kI κ a0 4)) fun y41 =>
  P_X4_priceFor_9 κ a0 a1 4000 y41 0
def P_X4_clothInside_4 (κ : jKt) (a0 : Nat) : Nat → Int32 → Int32 → Option (Int32)
  | 0, _, _ => none
  | n + 1, v1, v2 =>
    if (kI κ a0 3) ≤ v2 then
  some v1
  else
  bd (P_X4_isPlanned κ a0 v2) fun y19 =>
  if y19 = 0 then
  ck (jin v2 16) <|
  bnd (v1 + ((kI κ (kR κ a0 6) (ix v2)) + 2)) fun y23 =>
  P_X4_clothInside_4 κ a0 n y23 (v2 + 1)
  else
  P_X4_clothInside_4 κ a0 n v1 (v2 + 1)
def P_X4_clothInside (κ : jKt) (a0 : Nat) : Option (Int32) :=
  P_X4_clothInside_4 κ a0 4000 0 0
def P_X4_neededBySleeve_4 (κ : jKt) (a0 : Nat) (a1 : Nat) : Nat → Int32 → Int32 → Option (Int32)
  | 0, _, _ => none
  | n + 1, v2, v3 =>
    if (kI κ a0 3) ≤ v3 then
  some v2
  else
  bd (P_X4_isPlanned κ a0 v3) fun y19 =>
  if y19 = 0 then
  P_X4_neededBySleeve_4 κ a0 a1 n v2 (v3 + 1)
  else
  ck (jin v3 16) <|
  bnd (v2 + ((kI κ (kR κ a1 1) (ix v3)) + 2)) fun y23 =>
  P_X4_neededBySleeve_4 κ a0 a1 n y23 (v3 + 1)
def P_X4_neededBySleeve (κ : jKt) (a0 : Nat) (a1 : Nat) : Option (Int32) :=
  P_X4_neededBySleeve_4 κ a0 a1 4000 0 0
def P_X4_neededByDifference_14 (κ : jKt) (a0 : Nat) (a1 : Nat) : Nat → Int32 → Int32 → Option (Int32)
  | 0, _, _ => none
  | n + 1, v2, v3 =>
    if (kI κ a0 3) ≤ v3 then
  some v2
  else
  bd (P_X4_isPlanned κ a0 v3) fun y27 =>
  if y27 = 0 then
  ck (jin v3 16) <|
  bnd (v2 - ((kI κ (kR κ a1 1) (ix v3)) + 2)) fun y31 =>
  P_X4_neededByDifference_14 κ a0 a1 n y31 (v3 + 1)
  else
  P_X4_neededByDifference_14 κ a0 a1 n v2 (v3 + 1)
def P_X4_neededByDifference (κ : jKt) (a0 : Nat) (a1 : Nat) : Option (Int32) :=
  bd (P_X0_legSum κ a1) fun y34 =>
  bnd (y34 + (2 * (kI κ a0 3))) fun y35 =>
  P_X4_neededByDifference_14 κ a0 a1 4000 y35 0
def P_X4_addPair (κ : jKt) (a0 : Nat) (x1 : Int32) (x2 : Int32) : Option (Int32 × jKt) :=
  ck (jin x2 16) <|
  ck (jin x2 16) <|
  bnd (kU κ (kR κ a0 7) (ix x2) (.int ((kI κ (kR κ a0 7) (ix x2)) ||| (1 <<< (x1 &&& 31))))) fun κ18 =>
  bnd (kU κ18 a0 4 (.int ((kI κ18 a0 4) + 1))) fun κ20 =>
  some (kI κ20 a0 4, κ20)
def P_X4_isHeldBack (κ : jKt) (a0 : Nat) (x1 : Int32) (x2 : Int32) : Option (Int32) :=
  ck (jin x1 16) <|
  if ((kI κ (kR κ a0 7) (ix x1)) &&& (x2 ^^^ (-1))) = 0 then
  some 0
  else
  some 1
def P_X4_isSewnInOrder_7 (κ : jKt) (a0 : Nat) (v1 : Int32) : Nat → Int32 → Option (Int32)
  | 0, _ => none
  | n + 1, v2 =>
    if (kI κ a0 3) ≤ v2 then
  some 1
  else
  bd (P_X4_isSewn κ a0 v2) fun y21 =>
  if y21 = 0 then
  P_X4_isSewnInOrder_7 κ a0 v1 n (v2 + 1)
  else
  bd (P_X4_isHeldBack κ a0 v2 v1) fun y24 =>
  if y24 = 0 then
  P_X4_isSewnInOrder_7 κ a0 v1 n (v2 + 1)
  else
  some 0
def P_X4_isSewnInOrder (κ : jKt) (a0 : Nat) : Option (Int32) :=
  bd (P_X4_sewnSet κ a0) fun y27 =>
  P_X4_isSewnInOrder_7 κ a0 y27 4000 0
def P_X4_contains (κ : jKt) (x0 : Int32) (x1 : Int32) : Option (Int32) :=
  if ((x0 >>> (x1 &&& 31)) &&& 1) = 1 then
  some 1
  else
  some 0
def P_X4_hasDemand (κ : jKt) (a0 : Nat) (x1 : Int32) (x2 : Int32) : Option (Int32) :=
  ck (jin x2 16) <|
  bd (P_X4_contains κ (kI κ (kR κ a0 7) (ix x2)) x1) fun y14 =>
  ck (jz y14) <|
  some y14
def P_X4_allBefore_23 (κ : jKt) (a0 : Nat) (v2 : Int32) (v3 : Int32) (K9 : Int32 → Int32 → Option (Int32)) : Nat → Int32 → Int32 → Option (Int32)
  | 0, _, _ => none
  | n + 1, v4, v5 =>
    if (kI κ a0 3) ≤ v5 then
  K9 v4 (v3 + 1)
  else
  bd (P_X4_contains κ v2 v5) fun y29 =>
  if y29 = 0 then
  P_X4_allBefore_23 κ a0 v2 v3 K9 n v4 (v5 + 1)
  else
  ck (jin v5 16) <|
  bnd (v4 ||| (kI κ (kR κ a0 7) (ix v5))) fun y33 =>
  P_X4_allBefore_23 κ a0 v2 v3 K9 n y33 (v5 + 1)
def P_X4_allBefore_9 (κ : jKt) (a0 : Nat) : Nat → Int32 → Int32 → Option (Int32)
  | 0, _, _ => none
  | n + 1, v2, v3 =>
    if (kI κ a0 3) ≤ v3 then
  some v2
  else
  P_X4_allBefore_23 κ a0 v2 v3 (P_X4_allBefore_9 κ a0 n) 4000 v2 0
def P_X4_allBefore (κ : jKt) (a0 : Nat) (x1 : Int32) : Option (Int32) :=
  ck (jin x1 16) <|
  bnd (kI κ (kR κ a0 7) (ix x1)) fun y38 =>
  P_X4_allBefore_9 κ a0 4000 y38 0
def P_X4_comesBefore (κ : jKt) (a0 : Nat) (x1 : Int32) (x2 : Int32) : Option (Int32) :=
  bd (P_X4_allBefore κ a0 x2) fun y12 =>
  bd (P_X4_contains κ y12 x1) fun y14 =>
  ck (jz y14) <|
  some y14
def P_X4_hasCycle_2 (κ : jKt) (a0 : Nat) : Nat → Int32 → Option (Int32)
  | 0, _ => none
  | n + 1, v1 =>
    if (kI κ a0 3) ≤ v1 then
  some 0
  else
  bd (P_X4_comesBefore κ a0 v1 v1) fun y11 =>
  if y11 = 0 then
  P_X4_hasCycle_2 κ a0 n (v1 + 1)
  else
  some 1
def P_X4_hasCycle (κ : jKt) (a0 : Nat) : Option (Int32) :=
  P_X4_hasCycle_2 κ a0 4000 0
def P_X4_isNeededBySewn_2 (κ : jKt) (a0 : Nat) (v1 : Int32) : Nat → Int32 → Option (Int32)
  | 0, _ => none
  | n + 1, v2 =>
    if (kI κ a0 3) ≤ v2 then
  some 0
  else
  bd (P_X4_isSewn κ a0 v2) fun y17 =>
  if y17 = 0 then
  P_X4_isNeededBySewn_2 κ a0 v1 n (v2 + 1)
  else
  bd (P_X4_hasDemand κ a0 v1 v2) fun y20 =>
  if y20 = 0 then
  P_X4_isNeededBySewn_2 κ a0 v1 n (v2 + 1)
  else
  some 1
def P_X4_isNeededBySewn (κ : jKt) (a0 : Nat) (x1 : Int32) : Option (Int32) :=
  P_X4_isNeededBySewn_2 κ a0 x1 4000 0
def P_X4_freeSleeves_4 (κ : jKt) (a0 : Nat) (v1 : Int32) : Nat → Int32 → Int32 → Option (Int32)
  | 0, _, _ => none
  | n + 1, v2, v3 =>
    if (kI κ a0 3) ≤ v3 then
  some v2
  else
  bd (P_X4_contains κ v1 v3) fun y17 =>
  if y17 = 0 then
  bd (P_X4_isHeldBack κ a0 v3 v1) fun y20 =>
  if y20 = 0 then
  P_X4_freeSleeves_4 κ a0 v1 n (v2 ||| (1 <<< (v3 &&& 31))) (v3 + 1)
  else
  P_X4_freeSleeves_4 κ a0 v1 n v2 (v3 + 1)
  else
  P_X4_freeSleeves_4 κ a0 v1 n v2 (v3 + 1)
def P_X4_freeSleeves (κ : jKt) (a0 : Nat) (x1 : Int32) : Option (Int32) :=
  P_X4_freeSleeves_4 κ a0 x1 4000 0 0
def P_X4_roundsLeft_9 (κ : jKt) (a0 : Nat) : Nat → Int32 → Int32 → Int32 → Option (Int32)
  | 0, _, _, _ => none
  | n + 1, v1, v2, v3 =>
    if (kI κ a0 3) ≤ v3 then
  some v2
  else
  bd (P_X4_allSleeves κ a0) fun y19 =>
  if v1 = y19 then
  some v2
  else
  bd (P_X4_freeSleeves κ a0 v1) fun y22 =>
  P_X4_roundsLeft_9 κ a0 n (v1 ||| y22) (v2 + 1) (v3 + 1)
def P_X4_roundsLeft (κ : jKt) (a0 : Nat) : Option (Int32) :=
  bd (P_X4_sewnSet κ a0) fun y24 =>
  P_X4_roundsLeft_9 κ a0 4000 y24 0 0
set_option maxRecDepth 20000 in
theorem w_X4_takeOver_0 {F : jFm} (C : jB F RX4 cX4_takeOver 2 none 1 0 0 80) {κ : jKt} {a0 : Nat} (ha0 : jSof F a0 = (1, 8, 8)) {a1 : Nat} (ha1 : jSof F a1 = (1, 8, 8)) {r : jKt} (hq : jOut F none r) (h : P_X4_takeOver κ a0 a1 = some r) : jW F 2 0 0 κ 0 [(0, .ref a0), (1, .ref a1)] [] := by
  unfold P_X4_takeOver at h
  refine r_aload_n C.1 0 1 rfl dX4_takeOver_0 rfl ?_
  refine r_aload_n C.1 1 2 rfl dX4_takeOver_1 rfl ?_
  refine r_getI C.1 0 fl_X4_9 rfl ha1 5 rfl dX4_takeOver_2 ?_
  obtain ⟨κ45, e46, h⟩ := bnd_some h
  refine r_putI C.1 0 fw_X4_9 rfl rfl rfl ha0 e46 8 rfl dX4_takeOver_5 ?_
  refine r_aload_n C.1 0 9 rfl dX4_takeOver_8 rfl ?_
  refine r_aload_n C.1 1 10 rfl dX4_takeOver_9 rfl ?_
  refine r_getI C.1 1 fl_X4_15 rfl ha1 13 rfl dX4_takeOver_10 ?_
  obtain ⟨κ47, e48, h⟩ := bnd_some h
  refine r_putI C.1 1 fw_X4_15 rfl rfl rfl ha0 e48 16 rfl dX4_takeOver_13 ?_
  refine r_aload_n C.1 0 17 rfl dX4_takeOver_16 rfl ?_
  refine r_aload_n C.1 1 18 rfl dX4_takeOver_17 rfl ?_
  refine r_getI C.1 2 fl_X4_18 rfl ha1 21 rfl dX4_takeOver_18 ?_
  obtain ⟨κ49, e50, h⟩ := bnd_some h
  refine r_putI C.1 2 fw_X4_18 rfl rfl rfl ha0 e50 24 rfl dX4_takeOver_21 ?_
  refine r_aload_n C.1 0 25 rfl dX4_takeOver_24 rfl ?_
  refine r_aload_n C.1 1 26 rfl dX4_takeOver_25 rfl ?_
  refine r_getI C.1 3 fl_X4_21 rfl ha1 29 rfl dX4_takeOver_26 ?_
  obtain ⟨κ51, e52, h⟩ := bnd_some h
  refine r_putI C.1 3 fw_X4_21 rfl rfl rfl ha0 e52 32 rfl dX4_takeOver_29 ?_
  refine r_aload_n C.1 0 33 rfl dX4_takeOver_32 rfl ?_
  refine r_aload_n C.1 1 34 rfl dX4_takeOver_33 rfl ?_
  refine r_getI C.1 4 fl_X4_24 rfl ha1 37 rfl dX4_takeOver_34 ?_
  obtain ⟨κ53, e54, h⟩ := bnd_some h
  refine r_putI C.1 4 fw_X4_24 rfl rfl rfl ha0 e54 40 rfl dX4_takeOver_37 ?_
  refine r_aload_n C.1 1 41 rfl dX4_takeOver_40 rfl ?_
  refine r_getR C.1 5 fl_X4_27 rfl ha1 44 rfl dX4_takeOver_41 (fun (h55 : jSof F (kR κ53 a1 5) = (2, 1, 16)) => ?_)
  refine r_iconst C.1 0 rfl 45 rfl dX4_takeOver_44 ?_
  refine r_aload_n C.1 0 46 rfl dX4_takeOver_45 rfl ?_
  refine r_getR C.1 5 fl_X4_27 rfl ha0 49 rfl dX4_takeOver_46 (fun (h56 : jSof F (kR κ53 a0 5) = (2, 1, 16)) => ?_)
  refine r_iconst C.1 0 rfl 50 rfl dX4_takeOver_49 ?_
  refine r_bipush C.1 16 rfl 52 rfl dX4_takeOver_50 ?_
  obtain ⟨κ57, e58, h⟩ := bnd_some h
  refine r_acp C.1 ac_X4_38 (by decide) h55 h56 (by decide) rfl ⟨Nat.le_of_ble_eq_true rfl, Nat.le_of_ble_eq_true rfl⟩ e58 55 rfl dX4_takeOver_52 ?_
  refine r_aload_n C.1 1 56 rfl dX4_takeOver_55 rfl ?_
  refine r_getR C.1 6 fl_X4_31 rfl ha1 59 rfl dX4_takeOver_56 (fun (h59 : jSof F (kR κ57 a1 6) = (2, 0, 16)) => ?_)
  refine r_iconst C.1 0 rfl 60 rfl dX4_takeOver_59 ?_
  refine r_aload_n C.1 0 61 rfl dX4_takeOver_60 rfl ?_
  refine r_getR C.1 6 fl_X4_31 rfl ha0 64 rfl dX4_takeOver_61 (fun (h60 : jSof F (kR κ57 a0 6) = (2, 0, 16)) => ?_)
  refine r_iconst C.1 0 rfl 65 rfl dX4_takeOver_64 ?_
  refine r_bipush C.1 16 rfl 67 rfl dX4_takeOver_65 ?_
  obtain ⟨κ61, e62, h⟩ := bnd_some h
  refine r_acp C.1 ac_X4_38 (by decide) h59 h60 (by decide) rfl ⟨Nat.le_of_ble_eq_true rfl, Nat.le_of_ble_eq_true rfl⟩ e62 70 rfl dX4_takeOver_67 ?_
  refine r_aload_n C.1 1 71 rfl dX4_takeOver_70 rfl ?_
  refine r_getR C.1 7 fl_X4_35 rfl ha1 74 rfl dX4_takeOver_71 (fun (h63 : jSof F (kR κ61 a1 7) = (2, 0, 16)) => ?_)
  refine r_iconst C.1 0 rfl 75 rfl dX4_takeOver_74 ?_
  refine r_aload_n C.1 0 76 rfl dX4_takeOver_75 rfl ?_
  refine r_getR C.1 7 fl_X4_35 rfl ha0 79 rfl dX4_takeOver_76 (fun (h64 : jSof F (kR κ61 a0 7) = (2, 0, 16)) => ?_)
  refine r_iconst C.1 0 rfl 80 rfl dX4_takeOver_79 ?_
  refine r_bipush C.1 16 rfl 82 rfl dX4_takeOver_80 ?_
  obtain ⟨κ65, e66, h⟩ := bnd_some h
  refine r_acp C.1 ac_X4_38 (by decide) h63 h64 (by decide) rfl ⟨Nat.le_of_ble_eq_true rfl, Nat.le_of_ble_eq_true rfl⟩ e66 85 rfl dX4_takeOver_82 ?_
  cases h
  exact r_vret C rfl (Nat.le_of_ble_eq_true rfl) (Nat.le_of_ble_eq_true rfl) dX4_takeOver_85 hq
theorem c_X4_takeOver {l : Launch} {G : jG} {sh : jSh} {κ : jKt} {a0 : Nat} (ha0 : sh a0 = (1, 8, 8)) {a1 : Nat} (ha1 : sh a1 = (1, 8, 8))  {κr : jKt} (h : P_X4_takeOver κ a0 a1 = some κr) : jM l G yX4_takeOver cX4_takeOver 2 none 1 0 0 80 [.ref a0, .ref a1] (sh, κ) (jIs none (sh, κr)) jNo :=
  r_body (by decide) (Nat.le_of_ble_eq_true rfl) fun F C hl hG hs ho hx => by
    subst hs
    exact w_X4_takeOver_0 C ha0 ha1 (by rw [ho]; exact ⟨rfl, rfl⟩) h
set_option maxRecDepth 20000 in
theorem w_X4_begin_29 {F : jFm} (C : jB F RX4 cX4_begin 6 none 0 0 0 0) {a0 : Nat} (ha0 : jSof F a0 = (1, 8, 8)) {r : jKt} (hq : jOut F none r) : ∀ (n : Nat) (κ : jKt) (v5 : Int32), P_X4_begin_29 a0 n κ v5 = some r → jW F 6 0 0 κ 29 [(0, .ref a0), (5, .int v5)] [] := by
  intro n
  induction n with
  | zero => intro κ v5 h; cases h
  | succ n ih =>
    intro κ v5 h
    rw [P_X4_begin_29] at h
    refine r_iload C.1 1 31 rfl dX4_begin_29 rfl ?_
    refine r_aload_n C.1 0 32 rfl dX4_begin_31 rfl ?_
    refine r_getI C.1 3 fl_X4_21 rfl ha0 35 rfl dX4_begin_32 ?_
    refine r_icmp_ge C.1 69 38 rfl dX4_begin_35 rfl ⟨fun c47 => ?_, fun c47 => ?_⟩
    · have h := if_some_t c47 h
      cases h
      exact r_vret C rfl (Nat.le_of_ble_eq_true rfl) (Nat.le_of_ble_eq_true rfl) dX4_begin_69 hq
    · have h := if_some_f c47 h
      refine r_aload_n C.1 0 39 rfl dX4_begin_38 rfl ?_
      refine r_getR C.1 5 fl_X4_27 rfl ha0 42 rfl dX4_begin_39 (fun (h48 : jSof F (kR κ a0 5) = (2, 1, 16)) => ?_)
      refine r_iload C.1 1 44 rfl dX4_begin_42 rfl ?_
      refine r_bipush C.1 112 rfl 46 rfl dX4_begin_44 ?_
      obtain ⟨i49, h⟩ := ck_some h
      obtain ⟨κ50, e51, h⟩ := bnd_some h
      refine r_cast C.1 h48 i49 (by decide) e51 47 rfl dX4_begin_46 ?_
      refine r_aload_n C.1 0 48 rfl dX4_begin_47 rfl ?_
      refine r_getR C.1 6 fl_X4_31 rfl ha0 51 rfl dX4_begin_48 (fun (h52 : jSof F (kR κ50 a0 6) = (2, 0, 16)) => ?_)
      refine r_iload C.1 1 53 rfl dX4_begin_51 rfl ?_
      refine r_iconst C.1 0 rfl 54 rfl dX4_begin_53 ?_
      obtain ⟨i53, h⟩ := ck_some h
      obtain ⟨κ54, e55, h⟩ := bnd_some h
      refine r_iast C.1 h52 i53 e55 55 rfl dX4_begin_54 ?_
      refine r_aload_n C.1 0 56 rfl dX4_begin_55 rfl ?_
      refine r_getR C.1 7 fl_X4_35 rfl ha0 59 rfl dX4_begin_56 (fun (h56 : jSof F (kR κ54 a0 7) = (2, 0, 16)) => ?_)
      refine r_iload C.1 1 61 rfl dX4_begin_59 rfl ?_
      refine r_iconst C.1 0 rfl 62 rfl dX4_begin_61 ?_
      obtain ⟨i57, h⟩ := ck_some h
      obtain ⟨κ58, e59, h⟩ := bnd_some h
      refine r_iast C.1 h56 i57 e59 63 rfl dX4_begin_62 ?_
      refine r_iinc C.1 (lv' := [(0, .ref a0), (5, .int (v5 + 1))]) 1 [1, 0] 66 rfl dX4_begin_63 rfl (Nat.le_of_ble_eq_true rfl) rfl rfl ?_
      refine r_goto C.1 29 dX4_begin_66 rfl ?_
      exact ih κ58 (v5 + 1) h
set_option maxRecDepth 20000 in
theorem w_X4_begin_0 {F : jFm} (C : jB F RX4 cX4_begin 6 none 0 0 0 0) {κ : jKt} {a0 : Nat} (ha0 : jSof F a0 = (1, 8, 8)) {x1 : Int32} {x2 : Int32} {x3 : Int32} {x4 : Int32} {r : jKt} (hq : jOut F none r) (h : P_X4_begin κ a0 x1 x2 x3 x4 = some r) : jW F 6 0 0 κ 0 [(0, .ref a0), (1, .int x1), (2, .int x2), (3, .int x3), (4, .int x4)] [] := by
  unfold P_X4_begin at h
  refine r_aload_n C.1 0 1 rfl dX4_begin_0 rfl ?_
  refine r_iload_n C.1 1 2 rfl dX4_begin_1 rfl ?_
  obtain ⟨κ60, e61, h⟩ := bnd_some h
  refine r_putI C.1 0 fw_X4_9 rfl rfl rfl ha0 e61 5 rfl dX4_begin_2 ?_
  refine r_aload_n C.1 0 6 rfl dX4_begin_5 rfl ?_
  refine r_iload_n C.1 2 7 rfl dX4_begin_6 rfl ?_
  obtain ⟨κ62, e63, h⟩ := bnd_some h
  refine r_putI C.1 1 fw_X4_15 rfl rfl rfl ha0 e63 10 rfl dX4_begin_7 ?_
  refine r_aload_n C.1 0 11 rfl dX4_begin_10 rfl ?_
  refine r_iload_n C.1 3 12 rfl dX4_begin_11 rfl ?_
  obtain ⟨κ64, e65, h⟩ := bnd_some h
  refine r_putI C.1 2 fw_X4_18 rfl rfl rfl ha0 e65 15 rfl dX4_begin_12 ?_
  refine r_aload_n C.1 0 16 rfl dX4_begin_15 rfl ?_
  refine r_iload C.1 4 18 rfl dX4_begin_16 rfl ?_
  obtain ⟨κ66, e67, h⟩ := bnd_some h
  refine r_putI C.1 3 fw_X4_21 rfl rfl rfl ha0 e67 21 rfl dX4_begin_18 ?_
  refine r_aload_n C.1 0 22 rfl dX4_begin_21 rfl ?_
  refine r_iconst C.1 0 rfl 23 rfl dX4_begin_22 ?_
  obtain ⟨κ68, e69, h⟩ := bnd_some h
  refine r_putI C.1 4 fw_X4_24 rfl rfl rfl ha0 e69 26 rfl dX4_begin_23 ?_
  refine r_iconst C.1 0 rfl 27 rfl dX4_begin_26 ?_
  refine r_istore C.1 (lv' := [(0, .ref a0), (1, .int x1), (2, .int x2), (3, .int x3), (4, .int x4), (5, .int 0)]) [1, 2, 3, 4, 5, 0] 29 rfl dX4_begin_27 (Nat.le_of_ble_eq_true rfl) rfl ?_
  refine r_lv [0, 5] rfl ?_
  exact w_X4_begin_29 C ha0 hq 4000 κ68 0 h
theorem c_X4_begin {l : Launch} {G : jG} {sh : jSh} {κ : jKt} {a0 : Nat} (ha0 : sh a0 = (1, 8, 8)) {x1 : Int32} {x2 : Int32} {x3 : Int32} {x4 : Int32}  {κr : jKt} (h : P_X4_begin κ a0 x1 x2 x3 x4 = some κr) : jM l G yX4_begin cX4_begin 6 none 0 0 0 0 [.ref a0, .int x1, .int x2, .int x3, .int x4] (sh, κ) (jIs none (sh, κr)) jNo :=
  r_body (by decide) (Nat.le_of_ble_eq_true rfl) fun F C hl hG hs ho hx => by
    subst hs
    exact w_X4_begin_0 C ha0 (by rw [ho]; exact ⟨rfl, rfl⟩) h
set_option maxRecDepth 20000 in
theorem w_X4_hasSleeve_0 {F : jFm} (C : jB F RX4 cX4_hasSleeve 2 (some .boolean) 0 0 0 0) {κ : jKt} {a0 : Nat} (ha0 : jSof F a0 = (1, 8, 8)) {x1 : Int32} {r : Int32} (hq : jOut F (some (.int r)) κ) (h : P_X4_hasSleeve κ a0 x1 = some r) : jW F 2 0 0 κ 0 [(0, .ref a0), (1, .int x1)] [] := by
  unfold P_X4_hasSleeve at h
  refine r_iload_n C.1 1 1 rfl dX4_hasSleeve_0 rfl ?_
  refine r_if_lt C.1 16 4 rfl dX4_hasSleeve_1 rfl ⟨fun c5 => ?_, fun c5 => ?_⟩
  · have h := if_some_t c5 h
    refine r_iconst C.1 0 rfl 17 rfl dX4_hasSleeve_16 ?_
    cases h
    exact r_zret C rfl rfl (Nat.le_of_ble_eq_true rfl) (Nat.le_of_ble_eq_true rfl) dX4_hasSleeve_17 hq
  · have h := if_some_f c5 h
    refine r_iload_n C.1 1 5 rfl dX4_hasSleeve_4 rfl ?_
    refine r_aload_n C.1 0 6 rfl dX4_hasSleeve_5 rfl ?_
    refine r_getI C.1 3 fl_X4_21 rfl ha0 9 rfl dX4_hasSleeve_6 ?_
    refine r_icmp_ge C.1 16 12 rfl dX4_hasSleeve_9 rfl ⟨fun c6 => ?_, fun c6 => ?_⟩
    · have h := if_some_t c6 h
      refine r_iconst C.1 0 rfl 17 rfl dX4_hasSleeve_16 ?_
      cases h
      exact r_zret C rfl rfl (Nat.le_of_ble_eq_true rfl) (Nat.le_of_ble_eq_true rfl) dX4_hasSleeve_17 hq
    · have h := if_some_f c6 h
      refine r_iconst C.1 1 rfl 13 rfl dX4_hasSleeve_12 ?_
      refine r_goto C.1 17 dX4_hasSleeve_13 rfl ?_
      cases h
      exact r_zret C rfl rfl (Nat.le_of_ble_eq_true rfl) (Nat.le_of_ble_eq_true rfl) dX4_hasSleeve_17 hq
theorem c_X4_hasSleeve {l : Launch} {G : jG} {sh : jSh} {κ : jKt} {a0 : Nat} (ha0 : sh a0 = (1, 8, 8)) {x1 : Int32} {r : Int32} (h : P_X4_hasSleeve κ a0 x1 = some r) : jM l G yX4_hasSleeve cX4_hasSleeve 2 (some .boolean) 0 0 0 0 [.ref a0, .int x1] (sh, κ) (jIs (some (.int r)) (sh, κ)) jNo :=
  r_body (by decide) (Nat.le_of_ble_eq_true rfl) fun F C hl hG hs ho hx => by
    subst hs
    exact w_X4_hasSleeve_0 C ha0 (by rw [ho]; exact ⟨rfl, rfl⟩) h
set_option maxRecDepth 20000 in
theorem w_X4_isPlanned_0 {F : jFm} (C : jB F RX4 cX4_isPlanned 2 (some .boolean) 0 0 0 0) {κ : jKt} {a0 : Nat} (ha0 : jSof F a0 = (1, 8, 8)) {x1 : Int32} {r : Int32} (hq : jOut F (some (.int r)) κ) (h : P_X4_isPlanned κ a0 x1 = some r) : jW F 2 0 0 κ 0 [(0, .ref a0), (1, .int x1)] [] := by
  unfold P_X4_isPlanned at h
  refine r_aload_n C.1 0 1 rfl dX4_isPlanned_0 rfl ?_
  refine r_getR C.1 5 fl_X4_27 rfl ha0 4 rfl dX4_isPlanned_1 (fun (h7 : jSof F (kR κ a0 5) = (2, 1, 16)) => ?_)
  refine r_iload_n C.1 1 5 rfl dX4_isPlanned_4 rfl ?_
  obtain ⟨i8, h⟩ := ck_some h
  refine r_cald C.1 h7 i8 6 rfl dX4_isPlanned_5 ?_
  refine r_bipush C.1 112 rfl 8 rfl dX4_isPlanned_6 ?_
  refine r_icmp_ne C.1 15 11 rfl dX4_isPlanned_8 rfl ⟨fun c9 => ?_, fun c9 => ?_⟩
  · have h := if_some_f c9 h
    refine r_iconst C.1 0 rfl 16 rfl dX4_isPlanned_15 ?_
    cases h
    exact r_zret C rfl rfl (Nat.le_of_ble_eq_true rfl) (Nat.le_of_ble_eq_true rfl) dX4_isPlanned_16 hq
  · have h := if_some_t c9 h
    refine r_iconst C.1 1 rfl 12 rfl dX4_isPlanned_11 ?_
    refine r_goto C.1 16 dX4_isPlanned_12 rfl ?_
    cases h
    exact r_zret C rfl rfl (Nat.le_of_ble_eq_true rfl) (Nat.le_of_ble_eq_true rfl) dX4_isPlanned_16 hq
theorem c_X4_isPlanned {l : Launch} {G : jG} {sh : jSh} {κ : jKt} {a0 : Nat} (ha0 : sh a0 = (1, 8, 8)) {x1 : Int32} {r : Int32} (h : P_X4_isPlanned κ a0 x1 = some r) : jM l G yX4_isPlanned cX4_isPlanned 2 (some .boolean) 0 0 0 0 [.ref a0, .int x1] (sh, κ) (jIs (some (.int r)) (sh, κ)) jNo :=
  r_body (by decide) (Nat.le_of_ble_eq_true rfl) fun F C hl hG hs ho hx => by
    subst hs
    exact w_X4_isPlanned_0 C ha0 (by rw [ho]; exact ⟨rfl, rfl⟩) h
set_option maxRecDepth 20000 in
theorem w_X4_isSewn_0 {F : jFm} (C : jB F RX4 cX4_isSewn 2 (some .boolean) 0 0 0 0) {κ : jKt} {a0 : Nat} (ha0 : jSof F a0 = (1, 8, 8)) {x1 : Int32} {r : Int32} (hq : jOut F (some (.int r)) κ) (h : P_X4_isSewn κ a0 x1 = some r) : jW F 2 0 0 κ 0 [(0, .ref a0), (1, .int x1)] [] := by
  unfold P_X4_isSewn at h
  refine r_aload_n C.1 0 1 rfl dX4_isSewn_0 rfl ?_
  refine r_getR C.1 5 fl_X4_27 rfl ha0 4 rfl dX4_isSewn_1 (fun (h7 : jSof F (kR κ a0 5) = (2, 1, 16)) => ?_)
  refine r_iload_n C.1 1 5 rfl dX4_isSewn_4 rfl ?_
  obtain ⟨i8, h⟩ := ck_some h
  refine r_cald C.1 h7 i8 6 rfl dX4_isSewn_5 ?_
  refine r_bipush C.1 115 rfl 8 rfl dX4_isSewn_6 ?_
  refine r_icmp_ne C.1 15 11 rfl dX4_isSewn_8 rfl ⟨fun c9 => ?_, fun c9 => ?_⟩
  · have h := if_some_f c9 h
    refine r_iconst C.1 0 rfl 16 rfl dX4_isSewn_15 ?_
    cases h
    exact r_zret C rfl rfl (Nat.le_of_ble_eq_true rfl) (Nat.le_of_ble_eq_true rfl) dX4_isSewn_16 hq
  · have h := if_some_t c9 h
    refine r_iconst C.1 1 rfl 12 rfl dX4_isSewn_11 ?_
    refine r_goto C.1 16 dX4_isSewn_12 rfl ?_
    cases h
    exact r_zret C rfl rfl (Nat.le_of_ble_eq_true rfl) (Nat.le_of_ble_eq_true rfl) dX4_isSewn_16 hq
theorem c_X4_isSewn {l : Launch} {G : jG} {sh : jSh} {κ : jKt} {a0 : Nat} (ha0 : sh a0 = (1, 8, 8)) {x1 : Int32} {r : Int32} (h : P_X4_isSewn κ a0 x1 = some r) : jM l G yX4_isSewn cX4_isSewn 2 (some .boolean) 0 0 0 0 [.ref a0, .int x1] (sh, κ) (jIs (some (.int r)) (sh, κ)) jNo :=
  r_body (by decide) (Nat.le_of_ble_eq_true rfl) fun F C hl hG hs ho hx => by
    subst hs
    exact w_X4_isSewn_0 C ha0 (by rw [ho]; exact ⟨rfl, rfl⟩) h
set_option maxRecDepth 20000 in
theorem w_X4_allSleeves_0 {F : jFm} (C : jB F RX4 cX4_allSleeves 1 (some .int) 0 0 0 0) {κ : jKt} {a0 : Nat} (ha0 : jSof F a0 = (1, 8, 8)) {r : Int32} (hq : jOut F (some (.int r)) κ) (h : P_X4_allSleeves κ a0 = some r) : jW F 1 0 0 κ 0 [(0, .ref a0)] [] := by
  unfold P_X4_allSleeves at h
  refine r_iconst C.1 1 rfl 1 rfl dX4_allSleeves_0 ?_
  refine r_aload_n C.1 0 2 rfl dX4_allSleeves_1 rfl ?_
  refine r_getI C.1 3 fl_X4_21 rfl ha0 5 rfl dX4_allSleeves_2 ?_
  refine r_ishl C.1 6 rfl dX4_allSleeves_5 ?_
  refine r_iconst C.1 1 rfl 7 rfl dX4_allSleeves_6 ?_
  refine r_isub C.1 8 rfl dX4_allSleeves_7 ?_
  cases h
  exact r_zret C rfl rfl (Nat.le_of_ble_eq_true rfl) (Nat.le_of_ble_eq_true rfl) dX4_allSleeves_8 hq
theorem c_X4_allSleeves {l : Launch} {G : jG} {sh : jSh} {κ : jKt} {a0 : Nat} (ha0 : sh a0 = (1, 8, 8)) {r : Int32} (h : P_X4_allSleeves κ a0 = some r) : jM l G yX4_allSleeves cX4_allSleeves 1 (some .int) 0 0 0 0 [.ref a0] (sh, κ) (jIs (some (.int r)) (sh, κ)) jNo :=
  r_body (by decide) (Nat.le_of_ble_eq_true rfl) fun F C hl hG hs ho hx => by
    subst hs
    exact w_X4_allSleeves_0 C ha0 (by rw [ho]; exact ⟨rfl, rfl⟩) h
set_option maxRecDepth 20000 in
theorem w_X4_sewnSet_4 {F : jFm} (C : jB F RX4 cX4_sewnSet 3 (some .int) 0 0 0 0) {κ : jKt} {a0 : Nat} (ha0 : jSof F a0 = (1, 8, 8)) {r : Int32} (hq : jOut F (some (.int r)) κ) : ∀ (n : Nat) (v1 : Int32) (v2 : Int32), P_X4_sewnSet_4 κ a0 n v1 v2 = some r → jW F 3 0 0 κ 4 [(0, .ref a0), (1, .int v1), (2, .int v2)] [] := by
  intro n
  induction n with
  | zero => intro v1 v2 h; cases h
  | succ n ih =>
    intro v1 v2 h
    rw [P_X4_sewnSet_4] at h
    refine r_iload_n C.1 2 5 rfl dX4_sewnSet_4 rfl ?_
    refine r_aload_n C.1 0 6 rfl dX4_sewnSet_5 rfl ?_
    refine r_getI C.1 3 fl_X4_21 rfl ha0 9 rfl dX4_sewnSet_6 ?_
    refine r_icmp_ge C.1 35 12 rfl dX4_sewnSet_9 rfl ⟨fun c9 => ?_, fun c9 => ?_⟩
    · have h := if_some_t c9 h
      refine r_iload_n C.1 1 36 rfl dX4_sewnSet_35 rfl ?_
      cases h
      exact r_zret C rfl rfl (Nat.le_of_ble_eq_true rfl) (Nat.le_of_ble_eq_true rfl) dX4_sewnSet_36 hq
    · have h := if_some_f c9 h
      refine r_aload_n C.1 0 13 rfl dX4_sewnSet_12 rfl ?_
      refine r_getR C.1 5 fl_X4_27 rfl ha0 16 rfl dX4_sewnSet_13 (fun (h10 : jSof F (kR κ a0 5) = (2, 1, 16)) => ?_)
      refine r_iload_n C.1 2 17 rfl dX4_sewnSet_16 rfl ?_
      obtain ⟨i11, h⟩ := ck_some h
      refine r_cald C.1 h10 i11 18 rfl dX4_sewnSet_17 ?_
      refine r_bipush C.1 115 rfl 20 rfl dX4_sewnSet_18 ?_
      refine r_icmp_ne C.1 29 23 rfl dX4_sewnSet_20 rfl ⟨fun c12 => ?_, fun c12 => ?_⟩
      · have h := if_some_f c12 h
        refine r_iinc C.1 (lv' := [(0, .ref a0), (1, .int v1), (2, .int (v2 + 1))]) 2 [1, 2, 0] 32 rfl dX4_sewnSet_29 rfl (Nat.le_of_ble_eq_true rfl) rfl rfl ?_
        refine r_goto C.1 4 dX4_sewnSet_32 rfl ?_
        exact ih v1 (v2 + 1) h
      · have h := if_some_t c12 h
        refine r_iload_n C.1 1 24 rfl dX4_sewnSet_23 rfl ?_
        refine r_iconst C.1 1 rfl 25 rfl dX4_sewnSet_24 ?_
        refine r_iload_n C.1 2 26 rfl dX4_sewnSet_25 rfl ?_
        refine r_ishl C.1 27 rfl dX4_sewnSet_26 ?_
        refine r_ior C.1 28 rfl dX4_sewnSet_27 ?_
        refine r_istore_n C.1 (lv' := [(0, .ref a0), (1, .int (v1 ||| (1 <<< (v2 &&& 31)))), (2, .int v2)]) [1, 0, 2] 29 rfl dX4_sewnSet_28 (Nat.le_of_ble_eq_true rfl) rfl ?_
        refine r_iinc C.1 (lv' := [(0, .ref a0), (1, .int (v1 ||| (1 <<< (v2 &&& 31)))), (2, .int (v2 + 1))]) 2 [1, 2, 0] 32 rfl dX4_sewnSet_29 rfl (Nat.le_of_ble_eq_true rfl) rfl rfl ?_
        refine r_goto C.1 4 dX4_sewnSet_32 rfl ?_
        exact ih (v1 ||| (1 <<< (v2 &&& 31))) (v2 + 1) h
set_option maxRecDepth 20000 in
theorem w_X4_sewnSet_0 {F : jFm} (C : jB F RX4 cX4_sewnSet 3 (some .int) 0 0 0 0) {κ : jKt} {a0 : Nat} (ha0 : jSof F a0 = (1, 8, 8)) {r : Int32} (hq : jOut F (some (.int r)) κ) (h : P_X4_sewnSet κ a0 = some r) : jW F 3 0 0 κ 0 [(0, .ref a0)] [] := by
  unfold P_X4_sewnSet at h
  refine r_iconst C.1 0 rfl 1 rfl dX4_sewnSet_0 ?_
  refine r_istore_n C.1 (lv' := [(0, .ref a0), (1, .int 0)]) [1, 0] 2 rfl dX4_sewnSet_1 (Nat.le_of_ble_eq_true rfl) rfl ?_
  refine r_iconst C.1 0 rfl 3 rfl dX4_sewnSet_2 ?_
  refine r_istore_n C.1 (lv' := [(0, .ref a0), (1, .int 0), (2, .int 0)]) [1, 2, 0] 4 rfl dX4_sewnSet_3 (Nat.le_of_ble_eq_true rfl) rfl ?_
  exact w_X4_sewnSet_4 C ha0 hq 4000 0 0 h
theorem c_X4_sewnSet {l : Launch} {G : jG} {sh : jSh} {κ : jKt} {a0 : Nat} (ha0 : sh a0 = (1, 8, 8)) {r : Int32} (h : P_X4_sewnSet κ a0 = some r) : jM l G yX4_sewnSet cX4_sewnSet 3 (some .int) 0 0 0 0 [.ref a0] (sh, κ) (jIs (some (.int r)) (sh, κ)) jNo :=
  r_body (by decide) (Nat.le_of_ble_eq_true rfl) fun F C hl hG hs ho hx => by
    subst hs
    exact w_X4_sewnSet_0 C ha0 (by rw [ho]; exact ⟨rfl, rfl⟩) h
set_option maxRecDepth 20000 in
theorem w_X4_sewnCount_0 {F : jFm} (C : jB F RX4 cX4_sewnCount 1 (some .int) 1 0 0 22) {κ : jKt} {a0 : Nat} (ha0 : jSof F a0 = (1, 8, 8)) {r : Int32} (hq : jOut F (some (.int r)) κ) (h : P_X4_sewnCount κ a0 = some r) : jW F 1 0 0 κ 0 [(0, .ref a0)] [] := by
  unfold P_X4_sewnCount at h
  refine r_aload_n C.1 0 1 rfl dX4_sewnCount_0 rfl ?_
  obtain ⟨y10, e9, h⟩ := bd_some h
  refine r_cVi C.1 (st := []) (c_X4_sewnSet ha0 e9) yv_X4_sewnSet ml_X4_44 rfl ha0 rfl ⟨Nat.le_of_ble_eq_true rfl, Nat.le_of_ble_eq_true rfl⟩ ⟨Nat.le_of_ble_eq_true rfl, Nat.le_of_ble_eq_true rfl⟩ (Nat.le_of_ble_eq_true rfl) rfl 0 0 rfl rfl 4 rfl dX4_sewnCount_1 ?_
  obtain ⟨y12, e11, h⟩ := bd_some h
  refine r_cSi C.1 (st := []) (c_J6_bitCount_0f7a4 e11) yv_J6_bitCount_0f7a4 ml_X4_48 rfl ⟨Nat.le_of_ble_eq_true rfl, Nat.le_of_ble_eq_true rfl⟩ ⟨Nat.le_of_ble_eq_true rfl, Nat.le_of_ble_eq_true rfl⟩ (Nat.le_of_ble_eq_true rfl) rfl 0 0 rfl rfl 7 rfl dX4_sewnCount_4 ?_
  cases h
  exact r_zret C rfl rfl (Nat.le_of_ble_eq_true rfl) (Nat.le_of_ble_eq_true rfl) dX4_sewnCount_7 hq
theorem c_X4_sewnCount {l : Launch} {G : jG} {sh : jSh} {κ : jKt} {a0 : Nat} (ha0 : sh a0 = (1, 8, 8)) {r : Int32} (h : P_X4_sewnCount κ a0 = some r) : jM l G yX4_sewnCount cX4_sewnCount 1 (some .int) 1 0 0 22 [.ref a0] (sh, κ) (jIs (some (.int r)) (sh, κ)) jNo :=
  r_body (by decide) (Nat.le_of_ble_eq_true rfl) fun F C hl hG hs ho hx => by
    subst hs
    exact w_X4_sewnCount_0 C ha0 (by rw [ho]; exact ⟨rfl, rfl⟩) h
set_option maxRecDepth 20000 in
theorem w_X4_unsewnCount_0 {F : jFm} (C : jB F RX4 cX4_unsewnCount 1 (some .int) 1 0 0 22) {κ : jKt} {a0 : Nat} (ha0 : jSof F a0 = (1, 8, 8)) {r : Int32} (hq : jOut F (some (.int r)) κ) (h : P_X4_unsewnCount κ a0 = some r) : jW F 1 0 0 κ 0 [(0, .ref a0)] [] := by
  unfold P_X4_unsewnCount at h
  refine r_aload_n C.1 0 1 rfl dX4_unsewnCount_0 rfl ?_
  refine r_getI C.1 3 fl_X4_21 rfl ha0 4 rfl dX4_unsewnCount_1 ?_
  refine r_aload_n C.1 0 5 rfl dX4_unsewnCount_4 rfl ?_
  obtain ⟨y10, e9, h⟩ := bd_some h
  refine r_cVi C.1 (st := [.int (kI κ a0 3)]) (c_X4_sewnSet ha0 e9) yv_X4_sewnSet ml_X4_44 rfl ha0 rfl ⟨Nat.le_of_ble_eq_true rfl, Nat.le_of_ble_eq_true rfl⟩ ⟨Nat.le_of_ble_eq_true rfl, Nat.le_of_ble_eq_true rfl⟩ (Nat.le_of_ble_eq_true rfl) rfl 0 0 rfl rfl 8 rfl dX4_unsewnCount_5 ?_
  obtain ⟨y12, e11, h⟩ := bd_some h
  refine r_cSi C.1 (st := [.int (kI κ a0 3)]) (c_J6_bitCount_0f7a4 e11) yv_J6_bitCount_0f7a4 ml_X4_48 rfl ⟨Nat.le_of_ble_eq_true rfl, Nat.le_of_ble_eq_true rfl⟩ ⟨Nat.le_of_ble_eq_true rfl, Nat.le_of_ble_eq_true rfl⟩ (Nat.le_of_ble_eq_true rfl) rfl 0 0 rfl rfl 11 rfl dX4_unsewnCount_8 ?_
  refine r_isub C.1 12 rfl dX4_unsewnCount_11 ?_
  cases h
  exact r_zret C rfl rfl (Nat.le_of_ble_eq_true rfl) (Nat.le_of_ble_eq_true rfl) dX4_unsewnCount_12 hq
theorem c_X4_unsewnCount {l : Launch} {G : jG} {sh : jSh} {κ : jKt} {a0 : Nat} (ha0 : sh a0 = (1, 8, 8)) {r : Int32} (h : P_X4_unsewnCount κ a0 = some r) : jM l G yX4_unsewnCount cX4_unsewnCount 1 (some .int) 1 0 0 22 [.ref a0] (sh, κ) (jIs (some (.int r)) (sh, κ)) jNo :=
  r_body (by decide) (Nat.le_of_ble_eq_true rfl) fun F C hl hG hs ho hx => by
    subst hs
    exact w_X4_unsewnCount_0 C ha0 (by rw [ho]; exact ⟨rfl, rfl⟩) h
set_option maxRecDepth 20000 in
theorem w_X4_fitsAt_0 {F : jFm} (C : jB F RX4 cX4_fitsAt 3 (some .boolean) 0 0 0 0) {κ : jKt} {a0 : Nat} (ha0 : jSof F a0 = (1, 8, 8)) {x1 : Int32} {a2 : Nat} (ha2 : jSof F a2 = (1, 4, 2)) {r : Int32} (hq : jOut F (some (.int r)) κ) (h : P_X4_fitsAt κ a0 x1 a2 = some r) : jW F 3 0 0 κ 0 [(0, .ref a0), (1, .int x1), (2, .ref a2)] [] := by
  unfold P_X4_fitsAt at h
  refine r_aload_n C.1 0 1 rfl dX4_fitsAt_0 rfl ?_
  refine r_getR C.1 6 fl_X4_31 rfl ha0 4 rfl dX4_fitsAt_1 (fun (h11 : jSof F (kR κ a0 6) = (2, 0, 16)) => ?_)
  refine r_iload_n C.1 1 5 rfl dX4_fitsAt_4 rfl ?_
  obtain ⟨i12, h⟩ := ck_some h
  refine r_iald C.1 h11 i12 6 rfl dX4_fitsAt_5 ?_
  refine r_aload_n C.1 2 7 rfl dX4_fitsAt_6 rfl ?_
  refine r_getR C.1 1 fl_X4_54 rfl ha2 10 rfl dX4_fitsAt_7 (fun (h13 : jSof F (kR κ a2 1) = (2, 0, 16)) => ?_)
  refine r_iload_n C.1 1 11 rfl dX4_fitsAt_10 rfl ?_
  obtain ⟨i14, h⟩ := ck_some h
  refine r_iald C.1 h13 i14 12 rfl dX4_fitsAt_11 ?_
  refine r_icmp_ne C.1 19 15 rfl dX4_fitsAt_12 rfl ⟨fun c15 => ?_, fun c15 => ?_⟩
  · have h := if_some_f c15 h
    refine r_iconst C.1 0 rfl 20 rfl dX4_fitsAt_19 ?_
    cases h
    exact r_zret C rfl rfl (Nat.le_of_ble_eq_true rfl) (Nat.le_of_ble_eq_true rfl) dX4_fitsAt_20 hq
  · have h := if_some_t c15 h
    refine r_iconst C.1 1 rfl 16 rfl dX4_fitsAt_15 ?_
    refine r_goto C.1 20 dX4_fitsAt_16 rfl ?_
    cases h
    exact r_zret C rfl rfl (Nat.le_of_ble_eq_true rfl) (Nat.le_of_ble_eq_true rfl) dX4_fitsAt_20 hq
theorem c_X4_fitsAt {l : Launch} {G : jG} {sh : jSh} {κ : jKt} {a0 : Nat} (ha0 : sh a0 = (1, 8, 8)) {x1 : Int32} {a2 : Nat} (ha2 : sh a2 = (1, 4, 2)) {r : Int32} (h : P_X4_fitsAt κ a0 x1 a2 = some r) : jM l G yX4_fitsAt cX4_fitsAt 3 (some .boolean) 0 0 0 0 [.ref a0, .int x1, .ref a2] (sh, κ) (jIs (some (.int r)) (sh, κ)) jNo :=
  r_body (by decide) (Nat.le_of_ble_eq_true rfl) fun F C hl hG hs ho hx => by
    subst hs
    exact w_X4_fitsAt_0 C ha0 ha2 (by rw [ho]; exact ⟨rfl, rfl⟩) h
set_option maxRecDepth 20000 in
theorem w_X4_isFitting_2 {F : jFm} (C : jB F RX4 cX4_isFitting 3 (some .boolean) 1 0 0 22) {κ : jKt} {a0 : Nat} (ha0 : jSof F a0 = (1, 8, 8)) {a1 : Nat} (ha1 : jSof F a1 = (1, 4, 2)) {r : Int32} (hq : jOut F (some (.int r)) κ) : ∀ (n : Nat) (v2 : Int32), P_X4_isFitting_2 κ a0 a1 n v2 = some r → jW F 3 0 0 κ 2 [(0, .ref a0), (1, .ref a1), (2, .int v2)] [] := by
  intro n
  induction n with
  | zero => intro v2 h; cases h
  | succ n ih =>
    intro v2 h
    rw [P_X4_isFitting_2] at h
    refine r_iload_n C.1 2 3 rfl dX4_isFitting_2 rfl ?_
    refine r_aload_n C.1 0 4 rfl dX4_isFitting_3 rfl ?_
    refine r_getI C.1 3 fl_X4_21 rfl ha0 7 rfl dX4_isFitting_4 ?_
    refine r_icmp_ge C.1 35 10 rfl dX4_isFitting_7 rfl ⟨fun c15 => ?_, fun c15 => ?_⟩
    · have h := if_some_t c15 h
      refine r_iconst C.1 1 rfl 36 rfl dX4_isFitting_35 ?_
      cases h
      exact r_zret C rfl rfl (Nat.le_of_ble_eq_true rfl) (Nat.le_of_ble_eq_true rfl) dX4_isFitting_36 hq
    · have h := if_some_f c15 h
      refine r_aload_n C.1 0 11 rfl dX4_isFitting_10 rfl ?_
      refine r_iload_n C.1 2 12 rfl dX4_isFitting_11 rfl ?_
      obtain ⟨y17, e16, h⟩ := bd_some h
      refine r_cVi C.1 (st := []) (c_X4_isPlanned ha0 e16) yv_X4_isPlanned ml_X4_59 rfl ha0 rfl ⟨Nat.le_of_ble_eq_true rfl, Nat.le_of_ble_eq_true rfl⟩ ⟨Nat.le_of_ble_eq_true rfl, Nat.le_of_ble_eq_true rfl⟩ (Nat.le_of_ble_eq_true rfl) rfl 0 0 rfl rfl 15 rfl dX4_isFitting_12 ?_
      refine r_if_ne C.1 29 18 rfl dX4_isFitting_15 rfl ⟨fun c18 => ?_, fun c18 => ?_⟩
      · have h := if_some_f c18 h
        refine r_iinc C.1 (lv' := [(0, .ref a0), (1, .ref a1), (2, .int (v2 + 1))]) 2 [1, 2, 0] 32 rfl dX4_isFitting_29 rfl (Nat.le_of_ble_eq_true rfl) rfl rfl ?_
        refine r_goto C.1 2 dX4_isFitting_32 rfl ?_
        exact ih (v2 + 1) h
      · have h := if_some_t c18 h
        refine r_aload_n C.1 0 19 rfl dX4_isFitting_18 rfl ?_
        refine r_iload_n C.1 2 20 rfl dX4_isFitting_19 rfl ?_
        refine r_aload_n C.1 1 21 rfl dX4_isFitting_20 rfl ?_
        obtain ⟨y20, e19, h⟩ := bd_some h
        refine r_cVi C.1 (st := []) (c_X4_fitsAt ha0 ha1 e19) yv_X4_fitsAt ml_X4_63 rfl ha0 rfl ⟨Nat.le_of_ble_eq_true rfl, Nat.le_of_ble_eq_true rfl⟩ ⟨Nat.le_of_ble_eq_true rfl, Nat.le_of_ble_eq_true rfl⟩ (Nat.le_of_ble_eq_true rfl) rfl 0 0 rfl rfl 24 rfl dX4_isFitting_21 ?_
        refine r_if_ne C.1 29 27 rfl dX4_isFitting_24 rfl ⟨fun c21 => ?_, fun c21 => ?_⟩
        · have h := if_some_f c21 h
          refine r_iinc C.1 (lv' := [(0, .ref a0), (1, .ref a1), (2, .int (v2 + 1))]) 2 [1, 2, 0] 32 rfl dX4_isFitting_29 rfl (Nat.le_of_ble_eq_true rfl) rfl rfl ?_
          refine r_goto C.1 2 dX4_isFitting_32 rfl ?_
          exact ih (v2 + 1) h
        · have h := if_some_t c21 h
          refine r_iconst C.1 0 rfl 28 rfl dX4_isFitting_27 ?_
          cases h
          exact r_zret C rfl rfl (Nat.le_of_ble_eq_true rfl) (Nat.le_of_ble_eq_true rfl) dX4_isFitting_28 hq
set_option maxRecDepth 20000 in
theorem w_X4_isFitting_0 {F : jFm} (C : jB F RX4 cX4_isFitting 3 (some .boolean) 1 0 0 22) {κ : jKt} {a0 : Nat} (ha0 : jSof F a0 = (1, 8, 8)) {a1 : Nat} (ha1 : jSof F a1 = (1, 4, 2)) {r : Int32} (hq : jOut F (some (.int r)) κ) (h : P_X4_isFitting κ a0 a1 = some r) : jW F 3 0 0 κ 0 [(0, .ref a0), (1, .ref a1)] [] := by
  unfold P_X4_isFitting at h
  refine r_iconst C.1 0 rfl 1 rfl dX4_isFitting_0 ?_
  refine r_istore_n C.1 (lv' := [(0, .ref a0), (1, .ref a1), (2, .int 0)]) [1, 2, 0] 2 rfl dX4_isFitting_1 (Nat.le_of_ble_eq_true rfl) rfl ?_
  exact w_X4_isFitting_2 C ha0 ha1 hq 4000 0 h
theorem c_X4_isFitting {l : Launch} {G : jG} {sh : jSh} {κ : jKt} {a0 : Nat} (ha0 : sh a0 = (1, 8, 8)) {a1 : Nat} (ha1 : sh a1 = (1, 4, 2)) {r : Int32} (h : P_X4_isFitting κ a0 a1 = some r) : jM l G yX4_isFitting cX4_isFitting 3 (some .boolean) 1 0 0 22 [.ref a0, .ref a1] (sh, κ) (jIs (some (.int r)) (sh, κ)) jNo :=
  r_body (by decide) (Nat.le_of_ble_eq_true rfl) fun F C hl hG hs ho hx => by
    subst hs
    exact w_X4_isFitting_0 C ha0 ha1 (by rw [ho]; exact ⟨rfl, rfl⟩) h
set_option maxRecDepth 20000 in
theorem w_X4_hasEvenSleeves_2 {F : jFm} (C : jB F RX4 cX4_hasEvenSleeves 2 (some .boolean) 1 0 0 24) {κ : jKt} {a0 : Nat} (ha0 : jSof F a0 = (1, 8, 8)) {r : Int32} (hq : jOut F (some (.int r)) κ) : ∀ (n : Nat) (v1 : Int32), P_X4_hasEvenSleeves_2 κ a0 n v1 = some r → jW F 2 0 0 κ 2 [(0, .ref a0), (1, .int v1)] [] := by
  intro n
  induction n with
  | zero => intro v1 h; cases h
  | succ n ih =>
    intro v1 h
    rw [P_X4_hasEvenSleeves_2] at h
    refine r_iload_n C.1 1 3 rfl dX4_hasEvenSleeves_2 rfl ?_
    refine r_iconst C.1 1 rfl 4 rfl dX4_hasEvenSleeves_3 ?_
    refine r_iadd C.1 5 rfl dX4_hasEvenSleeves_4 ?_
    refine r_aload_n C.1 0 6 rfl dX4_hasEvenSleeves_5 rfl ?_
    refine r_getI C.1 3 fl_X4_21 rfl ha0 9 rfl dX4_hasEvenSleeves_6 ?_
    refine r_icmp_ge C.1 67 12 rfl dX4_hasEvenSleeves_9 rfl ⟨fun c29 => ?_, fun c29 => ?_⟩
    · have h := if_some_t c29 h
      refine r_iconst C.1 1 rfl 68 rfl dX4_hasEvenSleeves_67 ?_
      cases h
      exact r_zret C rfl rfl (Nat.le_of_ble_eq_true rfl) (Nat.le_of_ble_eq_true rfl) dX4_hasEvenSleeves_68 hq
    · have h := if_some_f c29 h
      refine r_aload_n C.1 0 13 rfl dX4_hasEvenSleeves_12 rfl ?_
      refine r_iload_n C.1 1 14 rfl dX4_hasEvenSleeves_13 rfl ?_
      obtain ⟨y31, e30, h⟩ := bd_some h
      refine r_cVi C.1 (st := []) (c_X4_isPlanned ha0 e30) yv_X4_isPlanned ml_X4_59 rfl ha0 rfl ⟨Nat.le_of_ble_eq_true rfl, Nat.le_of_ble_eq_true rfl⟩ ⟨Nat.le_of_ble_eq_true rfl, Nat.le_of_ble_eq_true rfl⟩ (Nat.le_of_ble_eq_true rfl) rfl 0 0 rfl rfl 17 rfl dX4_hasEvenSleeves_14 ?_
      refine r_aload_n C.1 0 18 rfl dX4_hasEvenSleeves_17 rfl ?_
      refine r_iload_n C.1 1 19 rfl dX4_hasEvenSleeves_18 rfl ?_
      refine r_iconst C.1 1 rfl 20 rfl dX4_hasEvenSleeves_19 ?_
      refine r_iadd C.1 21 rfl dX4_hasEvenSleeves_20 ?_
      obtain ⟨y33, e32, h⟩ := bd_some h
      refine r_cVi C.1 (st := [.int y31]) (c_X4_isPlanned ha0 e32) yv_X4_isPlanned ml_X4_59 rfl ha0 rfl ⟨Nat.le_of_ble_eq_true rfl, Nat.le_of_ble_eq_true rfl⟩ ⟨Nat.le_of_ble_eq_true rfl, Nat.le_of_ble_eq_true rfl⟩ (Nat.le_of_ble_eq_true rfl) rfl 0 0 rfl rfl 24 rfl dX4_hasEvenSleeves_21 ?_
      refine r_icmp_eq C.1 29 27 rfl dX4_hasEvenSleeves_24 rfl ⟨fun c34 => ?_, fun c34 => ?_⟩
      · have h := if_some_t c34 h
        refine r_aload_n C.1 0 30 rfl dX4_hasEvenSleeves_29 rfl ?_
        refine r_iload_n C.1 1 31 rfl dX4_hasEvenSleeves_30 rfl ?_
        obtain ⟨y36, e35, h⟩ := bd_some h
        refine r_cVi C.1 (st := []) (c_X4_isPlanned ha0 e35) yv_X4_isPlanned ml_X4_59 rfl ha0 rfl ⟨Nat.le_of_ble_eq_true rfl, Nat.le_of_ble_eq_true rfl⟩ ⟨Nat.le_of_ble_eq_true rfl, Nat.le_of_ble_eq_true rfl⟩ (Nat.le_of_ble_eq_true rfl) rfl 0 0 rfl rfl 34 rfl dX4_hasEvenSleeves_31 ?_
        refine r_if_ne C.1 61 37 rfl dX4_hasEvenSleeves_34 rfl ⟨fun c37 => ?_, fun c37 => ?_⟩
        · have h := if_some_f c37 h
          refine r_iinc C.1 (lv' := [(0, .ref a0), (1, .int (v1 + 2))]) 1 [1, 0] 64 rfl dX4_hasEvenSleeves_61 rfl (Nat.le_of_ble_eq_true rfl) rfl rfl ?_
          refine r_goto C.1 2 dX4_hasEvenSleeves_64 rfl ?_
          exact ih (v1 + 2) h
        · have h := if_some_t c37 h
          refine r_aload_n C.1 0 38 rfl dX4_hasEvenSleeves_37 rfl ?_
          refine r_getR C.1 6 fl_X4_31 rfl ha0 41 rfl dX4_hasEvenSleeves_38 (fun (h38 : jSof F (kR κ a0 6) = (2, 0, 16)) => ?_)
          refine r_iload_n C.1 1 42 rfl dX4_hasEvenSleeves_41 rfl ?_
          obtain ⟨i39, h⟩ := ck_some h
          refine r_iald C.1 h38 i39 43 rfl dX4_hasEvenSleeves_42 ?_
          refine r_aload_n C.1 0 44 rfl dX4_hasEvenSleeves_43 rfl ?_
          refine r_getR C.1 6 fl_X4_31 rfl ha0 47 rfl dX4_hasEvenSleeves_44 (fun (h40 : jSof F (kR κ a0 6) = (2, 0, 16)) => ?_)
          refine r_iload_n C.1 1 48 rfl dX4_hasEvenSleeves_47 rfl ?_
          refine r_iconst C.1 1 rfl 49 rfl dX4_hasEvenSleeves_48 ?_
          refine r_iadd C.1 50 rfl dX4_hasEvenSleeves_49 ?_
          obtain ⟨i41, h⟩ := ck_some h
          refine r_iald C.1 h40 i41 51 rfl dX4_hasEvenSleeves_50 ?_
          refine r_isub C.1 52 rfl dX4_hasEvenSleeves_51 ?_
          refine r_mabs C.1 mx_X4_67 ⟨Nat.le_of_ble_eq_true rfl, Nat.le_of_ble_eq_true rfl⟩ ⟨Nat.le_of_ble_eq_true rfl, Nat.le_of_ble_eq_true rfl⟩ 55 rfl dX4_hasEvenSleeves_52 ?_
          refine r_iconst C.1 1 rfl 56 rfl dX4_hasEvenSleeves_55 ?_
          refine r_icmp_le C.1 61 59 rfl dX4_hasEvenSleeves_56 rfl ⟨fun c42 => ?_, fun c42 => ?_⟩
          · have h := if_some_t c42 h
            refine r_iinc C.1 (lv' := [(0, .ref a0), (1, .int (v1 + 2))]) 1 [1, 0] 64 rfl dX4_hasEvenSleeves_61 rfl (Nat.le_of_ble_eq_true rfl) rfl rfl ?_
            refine r_goto C.1 2 dX4_hasEvenSleeves_64 rfl ?_
            exact ih (v1 + 2) h
          · have h := if_some_f c42 h
            refine r_iconst C.1 0 rfl 60 rfl dX4_hasEvenSleeves_59 ?_
            cases h
            exact r_zret C rfl rfl (Nat.le_of_ble_eq_true rfl) (Nat.le_of_ble_eq_true rfl) dX4_hasEvenSleeves_60 hq
      · have h := if_some_f c34 h
        refine r_iconst C.1 0 rfl 28 rfl dX4_hasEvenSleeves_27 ?_
        cases h
        exact r_zret C rfl rfl (Nat.le_of_ble_eq_true rfl) (Nat.le_of_ble_eq_true rfl) dX4_hasEvenSleeves_28 hq
set_option maxRecDepth 20000 in
theorem w_X4_hasEvenSleeves_0 {F : jFm} (C : jB F RX4 cX4_hasEvenSleeves 2 (some .boolean) 1 0 0 24) {κ : jKt} {a0 : Nat} (ha0 : jSof F a0 = (1, 8, 8)) {r : Int32} (hq : jOut F (some (.int r)) κ) (h : P_X4_hasEvenSleeves κ a0 = some r) : jW F 2 0 0 κ 0 [(0, .ref a0)] [] := by
  unfold P_X4_hasEvenSleeves at h
  refine r_iconst C.1 0 rfl 1 rfl dX4_hasEvenSleeves_0 ?_
  refine r_istore_n C.1 (lv' := [(0, .ref a0), (1, .int 0)]) [1, 0] 2 rfl dX4_hasEvenSleeves_1 (Nat.le_of_ble_eq_true rfl) rfl ?_
  exact w_X4_hasEvenSleeves_2 C ha0 hq 4000 0 h
theorem c_X4_hasEvenSleeves {l : Launch} {G : jG} {sh : jSh} {κ : jKt} {a0 : Nat} (ha0 : sh a0 = (1, 8, 8)) {r : Int32} (h : P_X4_hasEvenSleeves κ a0 = some r) : jM l G yX4_hasEvenSleeves cX4_hasEvenSleeves 2 (some .boolean) 1 0 0 24 [.ref a0] (sh, κ) (jIs (some (.int r)) (sh, κ)) jNo :=
  r_body (by decide) (Nat.le_of_ble_eq_true rfl) fun F C hl hG hs ho hx => by
    subst hs
    exact w_X4_hasEvenSleeves_0 C ha0 (by rw [ho]; exact ⟨rfl, rfl⟩) h
set_option maxRecDepth 20000 in
theorem w_X4_isReadyFor_0 {F : jFm} (C : jB F RX4 cX4_isReadyFor 2 (some .boolean) 2 0 0 45) {κ : jKt} {a0 : Nat} (ha0 : jSof F a0 = (1, 8, 8)) {a1 : Nat} (ha1 : jSof F a1 = (1, 4, 2)) {r : Int32} (hq : jOut F (some (.int r)) κ) (h : P_X4_isReadyFor κ a0 a1 = some r) : jW F 2 0 0 κ 0 [(0, .ref a0), (1, .ref a1)] [] := by
  unfold P_X4_isReadyFor at h
  refine r_aload_n C.1 0 1 rfl dX4_isReadyFor_0 rfl ?_
  obtain ⟨y24, e23, h⟩ := bd_some h
  refine r_cVi C.1 (st := []) (c_X4_sewnSet ha0 e23) yv_X4_sewnSet ml_X4_44 rfl ha0 rfl ⟨Nat.le_of_ble_eq_true rfl, Nat.le_of_ble_eq_true rfl⟩ ⟨Nat.le_of_ble_eq_true rfl, Nat.le_of_ble_eq_true rfl⟩ (Nat.le_of_ble_eq_true rfl) rfl 0 0 rfl rfl 4 rfl dX4_isReadyFor_1 ?_
  refine r_aload_n C.1 0 5 rfl dX4_isReadyFor_4 rfl ?_
  obtain ⟨y26, e25, h⟩ := bd_some h
  refine r_cVi C.1 (st := [.int y24]) (c_X4_allSleeves ha0 e25) yv_X4_allSleeves ml_X4_72 rfl ha0 rfl ⟨Nat.le_of_ble_eq_true rfl, Nat.le_of_ble_eq_true rfl⟩ ⟨Nat.le_of_ble_eq_true rfl, Nat.le_of_ble_eq_true rfl⟩ (Nat.le_of_ble_eq_true rfl) rfl 0 0 rfl rfl 8 rfl dX4_isReadyFor_5 ?_
  refine r_icmp_ne C.1 30 11 rfl dX4_isReadyFor_8 rfl ⟨fun c27 => ?_, fun c27 => ?_⟩
  · have h := if_some_f c27 h
    refine r_iconst C.1 0 rfl 31 rfl dX4_isReadyFor_30 ?_
    cases h
    exact r_zret C rfl rfl (Nat.le_of_ble_eq_true rfl) (Nat.le_of_ble_eq_true rfl) dX4_isReadyFor_31 hq
  · have h := if_some_t c27 h
    refine r_aload_n C.1 0 12 rfl dX4_isReadyFor_11 rfl ?_
    refine r_aload_n C.1 1 13 rfl dX4_isReadyFor_12 rfl ?_
    obtain ⟨y29, e28, h⟩ := bd_some h
    refine r_cVi C.1 (st := []) (c_X4_isFitting ha0 ha1 e28) yv_X4_isFitting ml_X4_75 rfl ha0 rfl ⟨Nat.le_of_ble_eq_true rfl, Nat.le_of_ble_eq_true rfl⟩ ⟨Nat.le_of_ble_eq_true rfl, Nat.le_of_ble_eq_true rfl⟩ (Nat.le_of_ble_eq_true rfl) rfl 0 0 rfl rfl 16 rfl dX4_isReadyFor_13 ?_
    refine r_if_eq C.1 30 19 rfl dX4_isReadyFor_16 rfl ⟨fun c30 => ?_, fun c30 => ?_⟩
    · have h := if_some_t c30 h
      refine r_iconst C.1 0 rfl 31 rfl dX4_isReadyFor_30 ?_
      cases h
      exact r_zret C rfl rfl (Nat.le_of_ble_eq_true rfl) (Nat.le_of_ble_eq_true rfl) dX4_isReadyFor_31 hq
    · have h := if_some_f c30 h
      refine r_aload_n C.1 0 20 rfl dX4_isReadyFor_19 rfl ?_
      obtain ⟨y32, e31, h⟩ := bd_some h
      refine r_cVi C.1 (st := []) (c_X4_hasEvenSleeves ha0 e31) yv_X4_hasEvenSleeves ml_X4_79 rfl ha0 rfl ⟨Nat.le_of_ble_eq_true rfl, Nat.le_of_ble_eq_true rfl⟩ ⟨Nat.le_of_ble_eq_true rfl, Nat.le_of_ble_eq_true rfl⟩ (Nat.le_of_ble_eq_true rfl) rfl 0 0 rfl rfl 23 rfl dX4_isReadyFor_20 ?_
      refine r_if_eq C.1 30 26 rfl dX4_isReadyFor_23 rfl ⟨fun c33 => ?_, fun c33 => ?_⟩
      · have h := if_some_t c33 h
        refine r_iconst C.1 0 rfl 31 rfl dX4_isReadyFor_30 ?_
        cases h
        exact r_zret C rfl rfl (Nat.le_of_ble_eq_true rfl) (Nat.le_of_ble_eq_true rfl) dX4_isReadyFor_31 hq
      · have h := if_some_f c33 h
        refine r_iconst C.1 1 rfl 27 rfl dX4_isReadyFor_26 ?_
        refine r_goto C.1 31 dX4_isReadyFor_27 rfl ?_
        cases h
        exact r_zret C rfl rfl (Nat.le_of_ble_eq_true rfl) (Nat.le_of_ble_eq_true rfl) dX4_isReadyFor_31 hq
theorem c_X4_isReadyFor {l : Launch} {G : jG} {sh : jSh} {κ : jKt} {a0 : Nat} (ha0 : sh a0 = (1, 8, 8)) {a1 : Nat} (ha1 : sh a1 = (1, 4, 2)) {r : Int32} (h : P_X4_isReadyFor κ a0 a1 = some r) : jM l G yX4_isReadyFor cX4_isReadyFor 2 (some .boolean) 2 0 0 45 [.ref a0, .ref a1] (sh, κ) (jIs (some (.int r)) (sh, κ)) jNo :=
  r_body (by decide) (Nat.le_of_ble_eq_true rfl) fun F C hl hG hs ho hx => by
    subst hs
    exact w_X4_isReadyFor_0 C ha0 ha1 (by rw [ho]; exact ⟨rfl, rfl⟩) h
set_option maxRecDepth 20000 in
theorem w_X4_priceFor_9 {F : jFm} (C : jB F RX4 cX4_priceFor 4 (some .int) 1 0 0 21) {κ : jKt} {a0 : Nat} (ha0 : jSof F a0 = (1, 8, 8)) {a1 : Nat} (ha1 : jSof F a1 = (1, 4, 2)) {r : Int32} (hq : jOut F (some (.int r)) κ) : ∀ (n : Nat) (v2 : Int32) (v3 : Int32), P_X4_priceFor_9 κ a0 a1 n v2 v3 = some r → jW F 4 0 0 κ 9 [(0, .ref a0), (1, .ref a1), (2, .int v2), (3, .int v3)] [] := by
  intro n
  induction n with
  | zero => intro v2 v3 h; cases h
  | succ n ih =>
    intro v2 v3 h
    rw [P_X4_priceFor_9] at h
    refine r_iload_n C.1 3 10 rfl dX4_priceFor_9 rfl ?_
    refine r_aload_n C.1 0 11 rfl dX4_priceFor_10 rfl ?_
    refine r_getI C.1 3 fl_X4_21 rfl ha0 14 rfl dX4_priceFor_11 ?_
    refine r_icmp_ge C.1 49 17 rfl dX4_priceFor_14 rfl ⟨fun c29 => ?_, fun c29 => ?_⟩
    · have h := if_some_t c29 h
      refine r_iload_n C.1 2 50 rfl dX4_priceFor_49 rfl ?_
      cases h
      exact r_zret C rfl rfl (Nat.le_of_ble_eq_true rfl) (Nat.le_of_ble_eq_true rfl) dX4_priceFor_50 hq
    · have h := if_some_f c29 h
      refine r_iload_n C.1 2 18 rfl dX4_priceFor_17 rfl ?_
      refine r_aload_n C.1 0 19 rfl dX4_priceFor_18 rfl ?_
      refine r_iload_n C.1 3 20 rfl dX4_priceFor_19 rfl ?_
      obtain ⟨y31, e30, h⟩ := bd_some h
      refine r_cVi C.1 (st := [.int v2]) (c_X4_isPlanned ha0 e30) yv_X4_isPlanned ml_X4_59 rfl ha0 rfl ⟨Nat.le_of_ble_eq_true rfl, Nat.le_of_ble_eq_true rfl⟩ ⟨Nat.le_of_ble_eq_true rfl, Nat.le_of_ble_eq_true rfl⟩ (Nat.le_of_ble_eq_true rfl) rfl 0 0 rfl rfl 23 rfl dX4_priceFor_20 ?_
      refine r_if_eq C.1 35 26 rfl dX4_priceFor_23 rfl ⟨fun c32 => ?_, fun c32 => ?_⟩
      · have h := if_some_t c32 h
        refine r_aload_n C.1 0 36 rfl dX4_priceFor_35 rfl ?_
        refine r_getR C.1 6 fl_X4_31 rfl ha0 39 rfl dX4_priceFor_36 (fun (h33 : jSof F (kR κ a0 6) = (2, 0, 16)) => ?_)
        refine r_iload_n C.1 3 40 rfl dX4_priceFor_39 rfl ?_
        obtain ⟨i34, h⟩ := ck_some h
        refine r_iald C.1 h33 i34 41 rfl dX4_priceFor_40 ?_
        refine r_iadd C.1 42 rfl dX4_priceFor_41 ?_
        obtain ⟨y35, e36, h⟩ := bnd_some h
        refine r_top e36 ?_
        refine r_istore_n C.1 (lv' := [(0, .ref a0), (1, .ref a1), (2, .int y35), (3, .int v3)]) [1, 2, 0, 3] 43 rfl dX4_priceFor_42 (Nat.le_of_ble_eq_true rfl) rfl ?_
        refine r_iinc C.1 (lv' := [(0, .ref a0), (1, .ref a1), (2, .int y35), (3, .int (v3 + 1))]) 3 [1, 2, 3, 0] 46 rfl dX4_priceFor_43 rfl (Nat.le_of_ble_eq_true rfl) rfl rfl ?_
        refine r_goto C.1 9 dX4_priceFor_46 rfl ?_
        exact ih y35 (v3 + 1) h
      · have h := if_some_f c32 h
        refine r_aload_n C.1 1 27 rfl dX4_priceFor_26 rfl ?_
        refine r_getR C.1 1 fl_X4_54 rfl ha1 30 rfl dX4_priceFor_27 (fun (h37 : jSof F (kR κ a1 1) = (2, 0, 16)) => ?_)
        refine r_iload_n C.1 3 31 rfl dX4_priceFor_30 rfl ?_
        obtain ⟨i38, h⟩ := ck_some h
        refine r_iald C.1 h37 i38 32 rfl dX4_priceFor_31 ?_
        refine r_goto C.1 41 dX4_priceFor_32 rfl ?_
        refine r_iadd C.1 42 rfl dX4_priceFor_41 ?_
        obtain ⟨y39, e40, h⟩ := bnd_some h
        refine r_top e40 ?_
        refine r_istore_n C.1 (lv' := [(0, .ref a0), (1, .ref a1), (2, .int y39), (3, .int v3)]) [1, 2, 0, 3] 43 rfl dX4_priceFor_42 (Nat.le_of_ble_eq_true rfl) rfl ?_
        refine r_iinc C.1 (lv' := [(0, .ref a0), (1, .ref a1), (2, .int y39), (3, .int (v3 + 1))]) 3 [1, 2, 3, 0] 46 rfl dX4_priceFor_43 rfl (Nat.le_of_ble_eq_true rfl) rfl rfl ?_
        refine r_goto C.1 9 dX4_priceFor_46 rfl ?_
        exact ih y39 (v3 + 1) h
set_option maxRecDepth 20000 in
theorem w_X4_priceFor_0 {F : jFm} (C : jB F RX4 cX4_priceFor 4 (some .int) 1 0 0 21) {κ : jKt} {a0 : Nat} (ha0 : jSof F a0 = (1, 8, 8)) {a1 : Nat} (ha1 : jSof F a1 = (1, 4, 2)) {r : Int32} (hq : jOut F (some (.int r)) κ) (h : P_X4_priceFor κ a0 a1 = some r) : jW F 4 0 0 κ 0 [(0, .ref a0), (1, .ref a1)] [] := by
  unfold P_X4_priceFor at h
  refine r_iconst C.1 3 rfl 1 rfl dX4_priceFor_0 ?_
  refine r_aload_n C.1 0 2 rfl dX4_priceFor_1 rfl ?_
  refine r_getI C.1 4 fl_X4_24 rfl ha0 5 rfl dX4_priceFor_2 ?_
  refine r_imul C.1 6 rfl dX4_priceFor_5 ?_
  obtain ⟨y41, e42, h⟩ := bnd_some h
  refine r_top e42 ?_
  refine r_istore_n C.1 (lv' := [(0, .ref a0), (1, .ref a1), (2, .int y41)]) [1, 2, 0] 7 rfl dX4_priceFor_6 (Nat.le_of_ble_eq_true rfl) rfl ?_
  refine r_iconst C.1 0 rfl 8 rfl dX4_priceFor_7 ?_
  refine r_istore_n C.1 (lv' := [(0, .ref a0), (1, .ref a1), (2, .int y41), (3, .int 0)]) [1, 2, 3, 0] 9 rfl dX4_priceFor_8 (Nat.le_of_ble_eq_true rfl) rfl ?_
  exact w_X4_priceFor_9 C ha0 ha1 hq 4000 y41 0 h
theorem c_X4_priceFor {l : Launch} {G : jG} {sh : jSh} {κ : jKt} {a0 : Nat} (ha0 : sh a0 = (1, 8, 8)) {a1 : Nat} (ha1 : sh a1 = (1, 4, 2)) {r : Int32} (h : P_X4_priceFor κ a0 a1 = some r) : jM l G yX4_priceFor cX4_priceFor 4 (some .int) 1 0 0 21 [.ref a0, .ref a1] (sh, κ) (jIs (some (.int r)) (sh, κ)) jNo :=
  r_body (by decide) (Nat.le_of_ble_eq_true rfl) fun F C hl hG hs ho hx => by
    subst hs
    exact w_X4_priceFor_0 C ha0 ha1 (by rw [ho]; exact ⟨rfl, rfl⟩) h
set_option maxRecDepth 20000 in
theorem w_X4_clothInside_4 {F : jFm} (C : jB F RX4 cX4_clothInside 3 (some .int) 1 0 0 21) {κ : jKt} {a0 : Nat} (ha0 : jSof F a0 = (1, 8, 8)) {r : Int32} (hq : jOut F (some (.int r)) κ) : ∀ (n : Nat) (v1 : Int32) (v2 : Int32), P_X4_clothInside_4 κ a0 n v1 v2 = some r → jW F 3 0 0 κ 4 [(0, .ref a0), (1, .int v1), (2, .int v2)] [] := by
  intro n
  induction n with
  | zero => intro v1 v2 h; cases h
  | succ n ih =>
    intro v1 v2 h
    rw [P_X4_clothInside_4] at h
    refine r_iload_n C.1 2 5 rfl dX4_clothInside_4 rfl ?_
    refine r_aload_n C.1 0 6 rfl dX4_clothInside_5 rfl ?_
    refine r_getI C.1 3 fl_X4_21 rfl ha0 9 rfl dX4_clothInside_6 ?_
    refine r_icmp_ge C.1 37 12 rfl dX4_clothInside_9 rfl ⟨fun c17 => ?_, fun c17 => ?_⟩
    · have h := if_some_t c17 h
      refine r_iload_n C.1 1 38 rfl dX4_clothInside_37 rfl ?_
      cases h
      exact r_zret C rfl rfl (Nat.le_of_ble_eq_true rfl) (Nat.le_of_ble_eq_true rfl) dX4_clothInside_38 hq
    · have h := if_some_f c17 h
      refine r_aload_n C.1 0 13 rfl dX4_clothInside_12 rfl ?_
      refine r_iload_n C.1 2 14 rfl dX4_clothInside_13 rfl ?_
      obtain ⟨y19, e18, h⟩ := bd_some h
      refine r_cVi C.1 (st := []) (c_X4_isPlanned ha0 e18) yv_X4_isPlanned ml_X4_59 rfl ha0 rfl ⟨Nat.le_of_ble_eq_true rfl, Nat.le_of_ble_eq_true rfl⟩ ⟨Nat.le_of_ble_eq_true rfl, Nat.le_of_ble_eq_true rfl⟩ (Nat.le_of_ble_eq_true rfl) rfl 0 0 rfl rfl 17 rfl dX4_clothInside_14 ?_
      refine r_if_ne C.1 31 20 rfl dX4_clothInside_17 rfl ⟨fun c20 => ?_, fun c20 => ?_⟩
      · have h := if_some_f c20 h
        refine r_iinc C.1 (lv' := [(0, .ref a0), (1, .int v1), (2, .int (v2 + 1))]) 2 [1, 2, 0] 34 rfl dX4_clothInside_31 rfl (Nat.le_of_ble_eq_true rfl) rfl rfl ?_
        refine r_goto C.1 4 dX4_clothInside_34 rfl ?_
        exact ih v1 (v2 + 1) h
      · have h := if_some_t c20 h
        refine r_iload_n C.1 1 21 rfl dX4_clothInside_20 rfl ?_
        refine r_aload_n C.1 0 22 rfl dX4_clothInside_21 rfl ?_
        refine r_getR C.1 6 fl_X4_31 rfl ha0 25 rfl dX4_clothInside_22 (fun (h21 : jSof F (kR κ a0 6) = (2, 0, 16)) => ?_)
        refine r_iload_n C.1 2 26 rfl dX4_clothInside_25 rfl ?_
        obtain ⟨i22, h⟩ := ck_some h
        refine r_iald C.1 h21 i22 27 rfl dX4_clothInside_26 ?_
        refine r_iconst C.1 2 rfl 28 rfl dX4_clothInside_27 ?_
        refine r_iadd C.1 29 rfl dX4_clothInside_28 ?_
        refine r_iadd C.1 30 rfl dX4_clothInside_29 ?_
        obtain ⟨y23, e24, h⟩ := bnd_some h
        refine r_top e24 ?_
        refine r_istore_n C.1 (lv' := [(0, .ref a0), (1, .int y23), (2, .int v2)]) [1, 0, 2] 31 rfl dX4_clothInside_30 (Nat.le_of_ble_eq_true rfl) rfl ?_
        refine r_iinc C.1 (lv' := [(0, .ref a0), (1, .int y23), (2, .int (v2 + 1))]) 2 [1, 2, 0] 34 rfl dX4_clothInside_31 rfl (Nat.le_of_ble_eq_true rfl) rfl rfl ?_
        refine r_goto C.1 4 dX4_clothInside_34 rfl ?_
        exact ih y23 (v2 + 1) h
set_option maxRecDepth 20000 in
theorem w_X4_clothInside_0 {F : jFm} (C : jB F RX4 cX4_clothInside 3 (some .int) 1 0 0 21) {κ : jKt} {a0 : Nat} (ha0 : jSof F a0 = (1, 8, 8)) {r : Int32} (hq : jOut F (some (.int r)) κ) (h : P_X4_clothInside κ a0 = some r) : jW F 3 0 0 κ 0 [(0, .ref a0)] [] := by
  unfold P_X4_clothInside at h
  refine r_iconst C.1 0 rfl 1 rfl dX4_clothInside_0 ?_
  refine r_istore_n C.1 (lv' := [(0, .ref a0), (1, .int 0)]) [1, 0] 2 rfl dX4_clothInside_1 (Nat.le_of_ble_eq_true rfl) rfl ?_
  refine r_iconst C.1 0 rfl 3 rfl dX4_clothInside_2 ?_
  refine r_istore_n C.1 (lv' := [(0, .ref a0), (1, .int 0), (2, .int 0)]) [1, 2, 0] 4 rfl dX4_clothInside_3 (Nat.le_of_ble_eq_true rfl) rfl ?_
  exact w_X4_clothInside_4 C ha0 hq 4000 0 0 h
theorem c_X4_clothInside {l : Launch} {G : jG} {sh : jSh} {κ : jKt} {a0 : Nat} (ha0 : sh a0 = (1, 8, 8)) {r : Int32} (h : P_X4_clothInside κ a0 = some r) : jM l G yX4_clothInside cX4_clothInside 3 (some .int) 1 0 0 21 [.ref a0] (sh, κ) (jIs (some (.int r)) (sh, κ)) jNo :=
  r_body (by decide) (Nat.le_of_ble_eq_true rfl) fun F C hl hG hs ho hx => by
    subst hs
    exact w_X4_clothInside_0 C ha0 (by rw [ho]; exact ⟨rfl, rfl⟩) h
set_option maxRecDepth 20000 in
theorem w_X4_neededBySleeve_4 {F : jFm} (C : jB F RX4 cX4_neededBySleeve 4 (some .int) 1 0 0 21) {κ : jKt} {a0 : Nat} (ha0 : jSof F a0 = (1, 8, 8)) {a1 : Nat} (ha1 : jSof F a1 = (1, 4, 2)) {r : Int32} (hq : jOut F (some (.int r)) κ) : ∀ (n : Nat) (v2 : Int32) (v3 : Int32), P_X4_neededBySleeve_4 κ a0 a1 n v2 v3 = some r → jW F 4 0 0 κ 4 [(0, .ref a0), (1, .ref a1), (2, .int v2), (3, .int v3)] [] := by
  intro n
  induction n with
  | zero => intro v2 v3 h; cases h
  | succ n ih =>
    intro v2 v3 h
    rw [P_X4_neededBySleeve_4] at h
    refine r_iload_n C.1 3 5 rfl dX4_neededBySleeve_4 rfl ?_
    refine r_aload_n C.1 0 6 rfl dX4_neededBySleeve_5 rfl ?_
    refine r_getI C.1 3 fl_X4_21 rfl ha0 9 rfl dX4_neededBySleeve_6 ?_
    refine r_icmp_ge C.1 37 12 rfl dX4_neededBySleeve_9 rfl ⟨fun c17 => ?_, fun c17 => ?_⟩
    · have h := if_some_t c17 h
      refine r_iload_n C.1 2 38 rfl dX4_neededBySleeve_37 rfl ?_
      cases h
      exact r_zret C rfl rfl (Nat.le_of_ble_eq_true rfl) (Nat.le_of_ble_eq_true rfl) dX4_neededBySleeve_38 hq
    · have h := if_some_f c17 h
      refine r_aload_n C.1 0 13 rfl dX4_neededBySleeve_12 rfl ?_
      refine r_iload_n C.1 3 14 rfl dX4_neededBySleeve_13 rfl ?_
      obtain ⟨y19, e18, h⟩ := bd_some h
      refine r_cVi C.1 (st := []) (c_X4_isPlanned ha0 e18) yv_X4_isPlanned ml_X4_59 rfl ha0 rfl ⟨Nat.le_of_ble_eq_true rfl, Nat.le_of_ble_eq_true rfl⟩ ⟨Nat.le_of_ble_eq_true rfl, Nat.le_of_ble_eq_true rfl⟩ (Nat.le_of_ble_eq_true rfl) rfl 0 0 rfl rfl 17 rfl dX4_neededBySleeve_14 ?_
      refine r_if_eq C.1 31 20 rfl dX4_neededBySleeve_17 rfl ⟨fun c20 => ?_, fun c20 => ?_⟩
      · have h := if_some_t c20 h
        refine r_iinc C.1 (lv' := [(0, .ref a0), (1, .ref a1), (2, .int v2), (3, .int (v3 + 1))]) 3 [1, 2, 3, 0] 34 rfl dX4_neededBySleeve_31 rfl (Nat.le_of_ble_eq_true rfl) rfl rfl ?_
        refine r_goto C.1 4 dX4_neededBySleeve_34 rfl ?_
        exact ih v2 (v3 + 1) h
      · have h := if_some_f c20 h
        refine r_iload_n C.1 2 21 rfl dX4_neededBySleeve_20 rfl ?_
        refine r_aload_n C.1 1 22 rfl dX4_neededBySleeve_21 rfl ?_
        refine r_getR C.1 1 fl_X4_54 rfl ha1 25 rfl dX4_neededBySleeve_22 (fun (h21 : jSof F (kR κ a1 1) = (2, 0, 16)) => ?_)
        refine r_iload_n C.1 3 26 rfl dX4_neededBySleeve_25 rfl ?_
        obtain ⟨i22, h⟩ := ck_some h
        refine r_iald C.1 h21 i22 27 rfl dX4_neededBySleeve_26 ?_
        refine r_iconst C.1 2 rfl 28 rfl dX4_neededBySleeve_27 ?_
        refine r_iadd C.1 29 rfl dX4_neededBySleeve_28 ?_
        refine r_iadd C.1 30 rfl dX4_neededBySleeve_29 ?_
        obtain ⟨y23, e24, h⟩ := bnd_some h
        refine r_top e24 ?_
        refine r_istore_n C.1 (lv' := [(0, .ref a0), (1, .ref a1), (2, .int y23), (3, .int v3)]) [1, 2, 0, 3] 31 rfl dX4_neededBySleeve_30 (Nat.le_of_ble_eq_true rfl) rfl ?_
        refine r_iinc C.1 (lv' := [(0, .ref a0), (1, .ref a1), (2, .int y23), (3, .int (v3 + 1))]) 3 [1, 2, 3, 0] 34 rfl dX4_neededBySleeve_31 rfl (Nat.le_of_ble_eq_true rfl) rfl rfl ?_
        refine r_goto C.1 4 dX4_neededBySleeve_34 rfl ?_
        exact ih y23 (v3 + 1) h
set_option maxRecDepth 20000 in
theorem w_X4_neededBySleeve_0 {F : jFm} (C : jB F RX4 cX4_neededBySleeve 4 (some .int) 1 0 0 21) {κ : jKt} {a0 : Nat} (ha0 : jSof F a0 = (1, 8, 8)) {a1 : Nat} (ha1 : jSof F a1 = (1, 4, 2)) {r : Int32} (hq : jOut F (some (.int r)) κ) (h : P_X4_neededBySleeve κ a0 a1 = some r) : jW F 4 0 0 κ 0 [(0, .ref a0), (1, .ref a1)] [] := by
  unfold P_X4_neededBySleeve at h
  refine r_iconst C.1 0 rfl 1 rfl dX4_neededBySleeve_0 ?_
  refine r_istore_n C.1 (lv' := [(0, .ref a0), (1, .ref a1), (2, .int 0)]) [1, 2, 0] 2 rfl dX4_neededBySleeve_1 (Nat.le_of_ble_eq_true rfl) rfl ?_
  refine r_iconst C.1 0 rfl 3 rfl dX4_neededBySleeve_2 ?_
  refine r_istore_n C.1 (lv' := [(0, .ref a0), (1, .ref a1), (2, .int 0), (3, .int 0)]) [1, 2, 3, 0] 4 rfl dX4_neededBySleeve_3 (Nat.le_of_ble_eq_true rfl) rfl ?_
  exact w_X4_neededBySleeve_4 C ha0 ha1 hq 4000 0 0 h
theorem c_X4_neededBySleeve {l : Launch} {G : jG} {sh : jSh} {κ : jKt} {a0 : Nat} (ha0 : sh a0 = (1, 8, 8)) {a1 : Nat} (ha1 : sh a1 = (1, 4, 2)) {r : Int32} (h : P_X4_neededBySleeve κ a0 a1 = some r) : jM l G yX4_neededBySleeve cX4_neededBySleeve 4 (some .int) 1 0 0 21 [.ref a0, .ref a1] (sh, κ) (jIs (some (.int r)) (sh, κ)) jNo :=
  r_body (by decide) (Nat.le_of_ble_eq_true rfl) fun F C hl hG hs ho hx => by
    subst hs
    exact w_X4_neededBySleeve_0 C ha0 ha1 (by rw [ho]; exact ⟨rfl, rfl⟩) h
set_option maxRecDepth 20000 in
theorem w_X4_neededByDifference_14 {F : jFm} (C : jB F RX4 cX4_neededByDifference 4 (some .int) 1 0 0 22) {κ : jKt} {a0 : Nat} (ha0 : jSof F a0 = (1, 8, 8)) {a1 : Nat} (ha1 : jSof F a1 = (1, 4, 2)) {r : Int32} (hq : jOut F (some (.int r)) κ) : ∀ (n : Nat) (v2 : Int32) (v3 : Int32), P_X4_neededByDifference_14 κ a0 a1 n v2 v3 = some r → jW F 4 0 0 κ 14 [(0, .ref a0), (1, .ref a1), (2, .int v2), (3, .int v3)] [] := by
  intro n
  induction n with
  | zero => intro v2 v3 h; cases h
  | succ n ih =>
    intro v2 v3 h
    rw [P_X4_neededByDifference_14] at h
    refine r_iload_n C.1 3 15 rfl dX4_neededByDifference_14 rfl ?_
    refine r_aload_n C.1 0 16 rfl dX4_neededByDifference_15 rfl ?_
    refine r_getI C.1 3 fl_X4_21 rfl ha0 19 rfl dX4_neededByDifference_16 ?_
    refine r_icmp_ge C.1 47 22 rfl dX4_neededByDifference_19 rfl ⟨fun c25 => ?_, fun c25 => ?_⟩
    · have h := if_some_t c25 h
      refine r_iload_n C.1 2 48 rfl dX4_neededByDifference_47 rfl ?_
      cases h
      exact r_zret C rfl rfl (Nat.le_of_ble_eq_true rfl) (Nat.le_of_ble_eq_true rfl) dX4_neededByDifference_48 hq
    · have h := if_some_f c25 h
      refine r_aload_n C.1 0 23 rfl dX4_neededByDifference_22 rfl ?_
      refine r_iload_n C.1 3 24 rfl dX4_neededByDifference_23 rfl ?_
      obtain ⟨y27, e26, h⟩ := bd_some h
      refine r_cVi C.1 (st := []) (c_X4_isPlanned ha0 e26) yv_X4_isPlanned ml_X4_59 rfl ha0 rfl ⟨Nat.le_of_ble_eq_true rfl, Nat.le_of_ble_eq_true rfl⟩ ⟨Nat.le_of_ble_eq_true rfl, Nat.le_of_ble_eq_true rfl⟩ (Nat.le_of_ble_eq_true rfl) rfl 0 0 rfl rfl 27 rfl dX4_neededByDifference_24 ?_
      refine r_if_ne C.1 41 30 rfl dX4_neededByDifference_27 rfl ⟨fun c28 => ?_, fun c28 => ?_⟩
      · have h := if_some_f c28 h
        refine r_iinc C.1 (lv' := [(0, .ref a0), (1, .ref a1), (2, .int v2), (3, .int (v3 + 1))]) 3 [1, 2, 3, 0] 44 rfl dX4_neededByDifference_41 rfl (Nat.le_of_ble_eq_true rfl) rfl rfl ?_
        refine r_goto C.1 14 dX4_neededByDifference_44 rfl ?_
        exact ih v2 (v3 + 1) h
      · have h := if_some_t c28 h
        refine r_iload_n C.1 2 31 rfl dX4_neededByDifference_30 rfl ?_
        refine r_aload_n C.1 1 32 rfl dX4_neededByDifference_31 rfl ?_
        refine r_getR C.1 1 fl_X4_54 rfl ha1 35 rfl dX4_neededByDifference_32 (fun (h29 : jSof F (kR κ a1 1) = (2, 0, 16)) => ?_)
        refine r_iload_n C.1 3 36 rfl dX4_neededByDifference_35 rfl ?_
        obtain ⟨i30, h⟩ := ck_some h
        refine r_iald C.1 h29 i30 37 rfl dX4_neededByDifference_36 ?_
        refine r_iconst C.1 2 rfl 38 rfl dX4_neededByDifference_37 ?_
        refine r_iadd C.1 39 rfl dX4_neededByDifference_38 ?_
        refine r_isub C.1 40 rfl dX4_neededByDifference_39 ?_
        obtain ⟨y31, e32, h⟩ := bnd_some h
        refine r_top e32 ?_
        refine r_istore_n C.1 (lv' := [(0, .ref a0), (1, .ref a1), (2, .int y31), (3, .int v3)]) [1, 2, 0, 3] 41 rfl dX4_neededByDifference_40 (Nat.le_of_ble_eq_true rfl) rfl ?_
        refine r_iinc C.1 (lv' := [(0, .ref a0), (1, .ref a1), (2, .int y31), (3, .int (v3 + 1))]) 3 [1, 2, 3, 0] 44 rfl dX4_neededByDifference_41 rfl (Nat.le_of_ble_eq_true rfl) rfl rfl ?_
        refine r_goto C.1 14 dX4_neededByDifference_44 rfl ?_
        exact ih y31 (v3 + 1) h
set_option maxRecDepth 20000 in
theorem w_X4_neededByDifference_0 {F : jFm} (C : jB F RX4 cX4_neededByDifference 4 (some .int) 1 0 0 22) {κ : jKt} {a0 : Nat} (ha0 : jSof F a0 = (1, 8, 8)) {a1 : Nat} (ha1 : jSof F a1 = (1, 4, 2)) {r : Int32} (hq : jOut F (some (.int r)) κ) (h : P_X4_neededByDifference κ a0 a1 = some r) : jW F 4 0 0 κ 0 [(0, .ref a0), (1, .ref a1)] [] := by
  unfold P_X4_neededByDifference at h
  refine r_aload_n C.1 1 1 rfl dX4_neededByDifference_0 rfl ?_
  obtain ⟨y34, e33, h⟩ := bd_some h
  refine r_cVi C.1 (st := []) (c_X0_legSum ha1 e33) yv_X0_legSum ml_X4_83 rfl ha1 rfl ⟨Nat.le_of_ble_eq_true rfl, Nat.le_of_ble_eq_true rfl⟩ ⟨Nat.le_of_ble_eq_true rfl, Nat.le_of_ble_eq_true rfl⟩ (Nat.le_of_ble_eq_true rfl) rfl 0 0 rfl rfl 4 rfl dX4_neededByDifference_1 ?_
  refine r_iconst C.1 2 rfl 5 rfl dX4_neededByDifference_4 ?_
  refine r_aload_n C.1 0 6 rfl dX4_neededByDifference_5 rfl ?_
  refine r_getI C.1 3 fl_X4_21 rfl ha0 9 rfl dX4_neededByDifference_6 ?_
  refine r_imul C.1 10 rfl dX4_neededByDifference_9 ?_
  refine r_iadd C.1 11 rfl dX4_neededByDifference_10 ?_
  obtain ⟨y35, e36, h⟩ := bnd_some h
  refine r_top e36 ?_
  refine r_istore_n C.1 (lv' := [(0, .ref a0), (1, .ref a1), (2, .int y35)]) [1, 2, 0] 12 rfl dX4_neededByDifference_11 (Nat.le_of_ble_eq_true rfl) rfl ?_
  refine r_iconst C.1 0 rfl 13 rfl dX4_neededByDifference_12 ?_
  refine r_istore_n C.1 (lv' := [(0, .ref a0), (1, .ref a1), (2, .int y35), (3, .int 0)]) [1, 2, 3, 0] 14 rfl dX4_neededByDifference_13 (Nat.le_of_ble_eq_true rfl) rfl ?_
  exact w_X4_neededByDifference_14 C ha0 ha1 hq 4000 y35 0 h
theorem c_X4_neededByDifference {l : Launch} {G : jG} {sh : jSh} {κ : jKt} {a0 : Nat} (ha0 : sh a0 = (1, 8, 8)) {a1 : Nat} (ha1 : sh a1 = (1, 4, 2)) {r : Int32} (h : P_X4_neededByDifference κ a0 a1 = some r) : jM l G yX4_neededByDifference cX4_neededByDifference 4 (some .int) 1 0 0 22 [.ref a0, .ref a1] (sh, κ) (jIs (some (.int r)) (sh, κ)) jNo :=
  r_body (by decide) (Nat.le_of_ble_eq_true rfl) fun F C hl hG hs ho hx => by
    subst hs
    exact w_X4_neededByDifference_0 C ha0 ha1 (by rw [ho]; exact ⟨rfl, rfl⟩) h
set_option maxRecDepth 20000 in
theorem w_X4_addPair_0 {F : jFm} (C : jB F RX4 cX4_addPair 3 (some .int) 0 0 0 0) {κ : jKt} {a0 : Nat} (ha0 : jSof F a0 = (1, 8, 8)) {x1 : Int32} {x2 : Int32} {r : Int32 × jKt} (hq : jOut F (some (.int r.1)) r.2) (h : P_X4_addPair κ a0 x1 x2 = some r) : jW F 3 0 0 κ 0 [(0, .ref a0), (1, .int x1), (2, .int x2)] [] := by
  unfold P_X4_addPair at h
  refine r_aload_n C.1 0 1 rfl dX4_addPair_0 rfl ?_
  refine r_getR C.1 7 fl_X4_35 rfl ha0 4 rfl dX4_addPair_1 (fun (h15 : jSof F (kR κ a0 7) = (2, 0, 16)) => ?_)
  refine r_iload_n C.1 2 5 rfl dX4_addPair_4 rfl ?_
  refine r_dup2 C.1 rfl rfl 6 rfl dX4_addPair_5 ?_
  obtain ⟨i16, h⟩ := ck_some h
  refine r_iald C.1 h15 i16 7 rfl dX4_addPair_6 ?_
  refine r_iconst C.1 1 rfl 8 rfl dX4_addPair_7 ?_
  refine r_iload_n C.1 1 9 rfl dX4_addPair_8 rfl ?_
  refine r_ishl C.1 10 rfl dX4_addPair_9 ?_
  refine r_ior C.1 11 rfl dX4_addPair_10 ?_
  obtain ⟨i17, h⟩ := ck_some h
  obtain ⟨κ18, e19, h⟩ := bnd_some h
  refine r_iast C.1 h15 i17 e19 12 rfl dX4_addPair_11 ?_
  refine r_aload_n C.1 0 13 rfl dX4_addPair_12 rfl ?_
  refine r_dup C.1 rfl 14 rfl dX4_addPair_13 ?_
  refine r_getI C.1 4 fl_X4_24 rfl ha0 17 rfl dX4_addPair_14 ?_
  refine r_iconst C.1 1 rfl 18 rfl dX4_addPair_17 ?_
  refine r_iadd C.1 19 rfl dX4_addPair_18 ?_
  obtain ⟨κ20, e21, h⟩ := bnd_some h
  refine r_putI C.1 4 fw_X4_24 rfl rfl rfl ha0 e21 22 rfl dX4_addPair_19 ?_
  refine r_aload_n C.1 0 23 rfl dX4_addPair_22 rfl ?_
  refine r_getI C.1 4 fl_X4_24 rfl ha0 26 rfl dX4_addPair_23 ?_
  cases h
  exact r_zret C rfl rfl (Nat.le_of_ble_eq_true rfl) (Nat.le_of_ble_eq_true rfl) dX4_addPair_26 hq
theorem c_X4_addPair {l : Launch} {G : jG} {sh : jSh} {κ : jKt} {a0 : Nat} (ha0 : sh a0 = (1, 8, 8)) {x1 : Int32} {x2 : Int32} {r : Int32} {κr : jKt} (h : P_X4_addPair κ a0 x1 x2 = some (r, κr)) : jM l G yX4_addPair cX4_addPair 3 (some .int) 0 0 0 0 [.ref a0, .int x1, .int x2] (sh, κ) (jIs (some (.int r)) (sh, κr)) jNo :=
  r_body (by decide) (Nat.le_of_ble_eq_true rfl) fun F C hl hG hs ho hx => by
    subst hs
    exact w_X4_addPair_0 C ha0 (by rw [ho]; exact ⟨rfl, rfl⟩) h
set_option maxRecDepth 20000 in
theorem w_X4_isHeldBack_0 {F : jFm} (C : jB F RX4 cX4_isHeldBack 3 (some .boolean) 0 0 0 0) {κ : jKt} {a0 : Nat} (ha0 : jSof F a0 = (1, 8, 8)) {x1 : Int32} {x2 : Int32} {r : Int32} (hq : jOut F (some (.int r)) κ) (h : P_X4_isHeldBack κ a0 x1 x2 = some r) : jW F 3 0 0 κ 0 [(0, .ref a0), (1, .int x1), (2, .int x2)] [] := by
  unfold P_X4_isHeldBack at h
  refine r_aload_n C.1 0 1 rfl dX4_isHeldBack_0 rfl ?_
  refine r_getR C.1 7 fl_X4_35 rfl ha0 4 rfl dX4_isHeldBack_1 (fun (h7 : jSof F (kR κ a0 7) = (2, 0, 16)) => ?_)
  refine r_iload_n C.1 1 5 rfl dX4_isHeldBack_4 rfl ?_
  obtain ⟨i8, h⟩ := ck_some h
  refine r_iald C.1 h7 i8 6 rfl dX4_isHeldBack_5 ?_
  refine r_iload_n C.1 2 7 rfl dX4_isHeldBack_6 rfl ?_
  refine r_iconst C.1 (-1) rfl 8 rfl dX4_isHeldBack_7 ?_
  refine r_ixor C.1 9 rfl dX4_isHeldBack_8 ?_
  refine r_iand C.1 10 rfl dX4_isHeldBack_9 ?_
  refine r_if_eq C.1 17 13 rfl dX4_isHeldBack_10 rfl ⟨fun c9 => ?_, fun c9 => ?_⟩
  · have h := if_some_t c9 h
    refine r_iconst C.1 0 rfl 18 rfl dX4_isHeldBack_17 ?_
    cases h
    exact r_zret C rfl rfl (Nat.le_of_ble_eq_true rfl) (Nat.le_of_ble_eq_true rfl) dX4_isHeldBack_18 hq
  · have h := if_some_f c9 h
    refine r_iconst C.1 1 rfl 14 rfl dX4_isHeldBack_13 ?_
    refine r_goto C.1 18 dX4_isHeldBack_14 rfl ?_
    cases h
    exact r_zret C rfl rfl (Nat.le_of_ble_eq_true rfl) (Nat.le_of_ble_eq_true rfl) dX4_isHeldBack_18 hq
theorem c_X4_isHeldBack {l : Launch} {G : jG} {sh : jSh} {κ : jKt} {a0 : Nat} (ha0 : sh a0 = (1, 8, 8)) {x1 : Int32} {x2 : Int32} {r : Int32} (h : P_X4_isHeldBack κ a0 x1 x2 = some r) : jM l G yX4_isHeldBack cX4_isHeldBack 3 (some .boolean) 0 0 0 0 [.ref a0, .int x1, .int x2] (sh, κ) (jIs (some (.int r)) (sh, κ)) jNo :=
  r_body (by decide) (Nat.le_of_ble_eq_true rfl) fun F C hl hG hs ho hx => by
    subst hs
    exact w_X4_isHeldBack_0 C ha0 (by rw [ho]; exact ⟨rfl, rfl⟩) h
set_option maxRecDepth 20000 in
theorem w_X4_isSewnInOrder_7 {F : jFm} (C : jB F RX4 cX4_isSewnInOrder 3 (some .boolean) 1 0 0 22) {κ : jKt} {a0 : Nat} (ha0 : jSof F a0 = (1, 8, 8)) {v1 : Int32} {r : Int32} (hq : jOut F (some (.int r)) κ) : ∀ (n : Nat) (v2 : Int32), P_X4_isSewnInOrder_7 κ a0 v1 n v2 = some r → jW F 3 0 0 κ 7 [(0, .ref a0), (1, .int v1), (2, .int v2)] [] := by
  intro n
  induction n with
  | zero => intro v2 h; cases h
  | succ n ih =>
    intro v2 h
    rw [P_X4_isSewnInOrder_7] at h
    refine r_iload_n C.1 2 8 rfl dX4_isSewnInOrder_7 rfl ?_
    refine r_aload_n C.1 0 9 rfl dX4_isSewnInOrder_8 rfl ?_
    refine r_getI C.1 3 fl_X4_21 rfl ha0 12 rfl dX4_isSewnInOrder_9 ?_
    refine r_icmp_ge C.1 40 15 rfl dX4_isSewnInOrder_12 rfl ⟨fun c19 => ?_, fun c19 => ?_⟩
    · have h := if_some_t c19 h
      refine r_iconst C.1 1 rfl 41 rfl dX4_isSewnInOrder_40 ?_
      cases h
      exact r_zret C rfl rfl (Nat.le_of_ble_eq_true rfl) (Nat.le_of_ble_eq_true rfl) dX4_isSewnInOrder_41 hq
    · have h := if_some_f c19 h
      refine r_aload_n C.1 0 16 rfl dX4_isSewnInOrder_15 rfl ?_
      refine r_iload_n C.1 2 17 rfl dX4_isSewnInOrder_16 rfl ?_
      obtain ⟨y21, e20, h⟩ := bd_some h
      refine r_cVi C.1 (st := []) (c_X4_isSewn ha0 e20) yv_X4_isSewn ml_X4_96 rfl ha0 rfl ⟨Nat.le_of_ble_eq_true rfl, Nat.le_of_ble_eq_true rfl⟩ ⟨Nat.le_of_ble_eq_true rfl, Nat.le_of_ble_eq_true rfl⟩ (Nat.le_of_ble_eq_true rfl) rfl 0 0 rfl rfl 20 rfl dX4_isSewnInOrder_17 ?_
      refine r_if_eq C.1 34 23 rfl dX4_isSewnInOrder_20 rfl ⟨fun c22 => ?_, fun c22 => ?_⟩
      · have h := if_some_t c22 h
        refine r_iinc C.1 (lv' := [(0, .ref a0), (1, .int v1), (2, .int (v2 + 1))]) 2 [1, 2, 0] 37 rfl dX4_isSewnInOrder_34 rfl (Nat.le_of_ble_eq_true rfl) rfl rfl ?_
        refine r_goto C.1 7 dX4_isSewnInOrder_37 rfl ?_
        exact ih (v2 + 1) h
      · have h := if_some_f c22 h
        refine r_aload_n C.1 0 24 rfl dX4_isSewnInOrder_23 rfl ?_
        refine r_iload_n C.1 2 25 rfl dX4_isSewnInOrder_24 rfl ?_
        refine r_iload_n C.1 1 26 rfl dX4_isSewnInOrder_25 rfl ?_
        obtain ⟨y24, e23, h⟩ := bd_some h
        refine r_cVi C.1 (st := []) (c_X4_isHeldBack ha0 e23) yv_X4_isHeldBack ml_X4_99 rfl ha0 rfl ⟨Nat.le_of_ble_eq_true rfl, Nat.le_of_ble_eq_true rfl⟩ ⟨Nat.le_of_ble_eq_true rfl, Nat.le_of_ble_eq_true rfl⟩ (Nat.le_of_ble_eq_true rfl) rfl 0 0 rfl rfl 29 rfl dX4_isSewnInOrder_26 ?_
        refine r_if_eq C.1 34 32 rfl dX4_isSewnInOrder_29 rfl ⟨fun c25 => ?_, fun c25 => ?_⟩
        · have h := if_some_t c25 h
          refine r_iinc C.1 (lv' := [(0, .ref a0), (1, .int v1), (2, .int (v2 + 1))]) 2 [1, 2, 0] 37 rfl dX4_isSewnInOrder_34 rfl (Nat.le_of_ble_eq_true rfl) rfl rfl ?_
          refine r_goto C.1 7 dX4_isSewnInOrder_37 rfl ?_
          exact ih (v2 + 1) h
        · have h := if_some_f c25 h
          refine r_iconst C.1 0 rfl 33 rfl dX4_isSewnInOrder_32 ?_
          cases h
          exact r_zret C rfl rfl (Nat.le_of_ble_eq_true rfl) (Nat.le_of_ble_eq_true rfl) dX4_isSewnInOrder_33 hq
set_option maxRecDepth 20000 in
theorem w_X4_isSewnInOrder_0 {F : jFm} (C : jB F RX4 cX4_isSewnInOrder 3 (some .boolean) 1 0 0 22) {κ : jKt} {a0 : Nat} (ha0 : jSof F a0 = (1, 8, 8)) {r : Int32} (hq : jOut F (some (.int r)) κ) (h : P_X4_isSewnInOrder κ a0 = some r) : jW F 3 0 0 κ 0 [(0, .ref a0)] [] := by
  unfold P_X4_isSewnInOrder at h
  refine r_aload_n C.1 0 1 rfl dX4_isSewnInOrder_0 rfl ?_
  obtain ⟨y27, e26, h⟩ := bd_some h
  refine r_cVi C.1 (st := []) (c_X4_sewnSet ha0 e26) yv_X4_sewnSet ml_X4_44 rfl ha0 rfl ⟨Nat.le_of_ble_eq_true rfl, Nat.le_of_ble_eq_true rfl⟩ ⟨Nat.le_of_ble_eq_true rfl, Nat.le_of_ble_eq_true rfl⟩ (Nat.le_of_ble_eq_true rfl) rfl 0 0 rfl rfl 4 rfl dX4_isSewnInOrder_1 ?_
  refine r_istore_n C.1 (lv' := [(0, .ref a0), (1, .int y27)]) [1, 0] 5 rfl dX4_isSewnInOrder_4 (Nat.le_of_ble_eq_true rfl) rfl ?_
  refine r_iconst C.1 0 rfl 6 rfl dX4_isSewnInOrder_5 ?_
  refine r_istore_n C.1 (lv' := [(0, .ref a0), (1, .int y27), (2, .int 0)]) [1, 2, 0] 7 rfl dX4_isSewnInOrder_6 (Nat.le_of_ble_eq_true rfl) rfl ?_
  exact w_X4_isSewnInOrder_7 C ha0 hq 4000 0 h
theorem c_X4_isSewnInOrder {l : Launch} {G : jG} {sh : jSh} {κ : jKt} {a0 : Nat} (ha0 : sh a0 = (1, 8, 8)) {r : Int32} (h : P_X4_isSewnInOrder κ a0 = some r) : jM l G yX4_isSewnInOrder cX4_isSewnInOrder 3 (some .boolean) 1 0 0 22 [.ref a0] (sh, κ) (jIs (some (.int r)) (sh, κ)) jNo :=
  r_body (by decide) (Nat.le_of_ble_eq_true rfl) fun F C hl hG hs ho hx => by
    subst hs
    exact w_X4_isSewnInOrder_0 C ha0 (by rw [ho]; exact ⟨rfl, rfl⟩) h
set_option maxRecDepth 20000 in
theorem w_X4_contains_0 {F : jFm} (C : jB F RX4 cX4_contains 2 (some .boolean) 0 0 0 0) {κ : jKt} {x0 : Int32} {x1 : Int32} {r : Int32} (hq : jOut F (some (.int r)) κ) (h : P_X4_contains κ x0 x1 = some r) : jW F 2 0 0 κ 0 [(0, .int x0), (1, .int x1)] [] := by
  unfold P_X4_contains at h
  refine r_iload_n C.1 0 1 rfl dX4_contains_0 rfl ?_
  refine r_iload_n C.1 1 2 rfl dX4_contains_1 rfl ?_
  refine r_ishr C.1 3 rfl dX4_contains_2 ?_
  refine r_iconst C.1 1 rfl 4 rfl dX4_contains_3 ?_
  refine r_iand C.1 5 rfl dX4_contains_4 ?_
  refine r_iconst C.1 1 rfl 6 rfl dX4_contains_5 ?_
  refine r_icmp_ne C.1 13 9 rfl dX4_contains_6 rfl ⟨fun c3 => ?_, fun c3 => ?_⟩
  · have h := if_some_f c3 h
    refine r_iconst C.1 0 rfl 14 rfl dX4_contains_13 ?_
    cases h
    exact r_zret C rfl rfl (Nat.le_of_ble_eq_true rfl) (Nat.le_of_ble_eq_true rfl) dX4_contains_14 hq
  · have h := if_some_t c3 h
    refine r_iconst C.1 1 rfl 10 rfl dX4_contains_9 ?_
    refine r_goto C.1 14 dX4_contains_10 rfl ?_
    cases h
    exact r_zret C rfl rfl (Nat.le_of_ble_eq_true rfl) (Nat.le_of_ble_eq_true rfl) dX4_contains_14 hq
theorem c_X4_contains {l : Launch} {G : jG} {sh : jSh} {κ : jKt} {x0 : Int32} {x1 : Int32} {r : Int32} (h : P_X4_contains κ x0 x1 = some r) : jM l G yX4_contains cX4_contains 2 (some .boolean) 0 0 0 0 [.int x0, .int x1] (sh, κ) (jIs (some (.int r)) (sh, κ)) jNo :=
  r_body (by decide) (Nat.le_of_ble_eq_true rfl) fun F C hl hG hs ho hx => by
    subst hs
    exact w_X4_contains_0 C (by rw [ho]; exact ⟨rfl, rfl⟩) h
set_option maxRecDepth 20000 in
theorem w_X4_hasDemand_0 {F : jFm} (C : jB F RX4 cX4_hasDemand 3 (some .boolean) 1 0 0 21) {κ : jKt} {a0 : Nat} (ha0 : jSof F a0 = (1, 8, 8)) {x1 : Int32} {x2 : Int32} {r : Int32} (hq : jOut F (some (.int r)) κ) (h : P_X4_hasDemand κ a0 x1 x2 = some r) : jW F 3 0 0 κ 0 [(0, .ref a0), (1, .int x1), (2, .int x2)] [] := by
  unfold P_X4_hasDemand at h
  refine r_aload_n C.1 0 1 rfl dX4_hasDemand_0 rfl ?_
  refine r_getR C.1 7 fl_X4_35 rfl ha0 4 rfl dX4_hasDemand_1 (fun (h11 : jSof F (kR κ a0 7) = (2, 0, 16)) => ?_)
  refine r_iload_n C.1 2 5 rfl dX4_hasDemand_4 rfl ?_
  obtain ⟨i12, h⟩ := ck_some h
  refine r_iald C.1 h11 i12 6 rfl dX4_hasDemand_5 ?_
  refine r_iload_n C.1 1 7 rfl dX4_hasDemand_6 rfl ?_
  obtain ⟨y14, e13, h⟩ := bd_some h
  refine r_cSi C.1 (st := []) (c_X4_contains e13) yv_X4_contains ml_X4_86 rfl ⟨Nat.le_of_ble_eq_true rfl, Nat.le_of_ble_eq_true rfl⟩ ⟨Nat.le_of_ble_eq_true rfl, Nat.le_of_ble_eq_true rfl⟩ (Nat.le_of_ble_eq_true rfl) rfl 0 0 rfl rfl 10 rfl dX4_hasDemand_7 ?_
  obtain ⟨z15, h⟩ := ck_some h
  cases h
  exact r_zret C rfl (jz_narrow z15) (Nat.le_of_ble_eq_true rfl) (Nat.le_of_ble_eq_true rfl) dX4_hasDemand_10 hq
theorem c_X4_hasDemand {l : Launch} {G : jG} {sh : jSh} {κ : jKt} {a0 : Nat} (ha0 : sh a0 = (1, 8, 8)) {x1 : Int32} {x2 : Int32} {r : Int32} (h : P_X4_hasDemand κ a0 x1 x2 = some r) : jM l G yX4_hasDemand cX4_hasDemand 3 (some .boolean) 1 0 0 21 [.ref a0, .int x1, .int x2] (sh, κ) (jIs (some (.int r)) (sh, κ)) jNo :=
  r_body (by decide) (Nat.le_of_ble_eq_true rfl) fun F C hl hG hs ho hx => by
    subst hs
    exact w_X4_hasDemand_0 C ha0 (by rw [ho]; exact ⟨rfl, rfl⟩) h
set_option maxRecDepth 20000 in
theorem w_X4_allBefore_23 {F : jFm} (C : jB F RX4 cX4_allBefore 6 (some .int) 1 0 0 21) {κ : jKt} {a0 : Nat} (ha0 : jSof F a0 = (1, 8, 8)) {v2 : Int32} {v3 : Int32} {r : Int32} (hq : jOut F (some (.int r)) κ) {K9 : Int32 → Int32 → Option (Int32)} (hK9 : ∀ (u2 : Int32) (u3 : Int32), K9 u2 u3 = some r → jW F 6 0 0 κ 9 [(0, .ref a0), (2, .int u2), (3, .int u3)] []) : ∀ (n : Nat) (v4 : Int32) (v5 : Int32), P_X4_allBefore_23 κ a0 v2 v3 K9 n v4 v5 = some r → jW F 6 0 0 κ 23 [(0, .ref a0), (2, .int v2), (3, .int v3), (4, .int v4), (5, .int v5)] [] := by
  intro n
  induction n with
  | zero => intro v4 v5 h; cases h
  | succ n ih =>
    intro v4 v5 h
    rw [P_X4_allBefore_23] at h
    refine r_iload C.1 4 25 rfl dX4_allBefore_23 rfl ?_
    refine r_aload_n C.1 0 26 rfl dX4_allBefore_25 rfl ?_
    refine r_getI C.1 3 fl_X4_21 rfl ha0 29 rfl dX4_allBefore_26 ?_
    refine r_icmp_ge C.1 59 32 rfl dX4_allBefore_29 rfl ⟨fun c27 => ?_, fun c27 => ?_⟩
    · have h := if_some_t c27 h
      refine r_iload C.1 3 61 rfl dX4_allBefore_59 rfl ?_
      refine r_istore_n C.1 (lv' := [(0, .ref a0), (2, .int v4), (3, .int v3), (4, .int v4), (5, .int v5)]) [1, 0, 2, 3, 4] 62 rfl dX4_allBefore_61 (Nat.le_of_ble_eq_true rfl) rfl ?_
      refine r_iinc C.1 (lv' := [(0, .ref a0), (2, .int v4), (3, .int (v3 + 1)), (4, .int v4), (5, .int v5)]) 2 [1, 2, 0, 3, 4] 65 rfl dX4_allBefore_62 rfl (Nat.le_of_ble_eq_true rfl) rfl rfl ?_
      refine r_goto C.1 9 dX4_allBefore_65 rfl ?_
      refine r_lv [0, 1, 2] rfl ?_
      exact hK9 v4 (v3 + 1) h
    · have h := if_some_f c27 h
      refine r_iload_n C.1 1 33 rfl dX4_allBefore_32 rfl ?_
      refine r_iload C.1 4 35 rfl dX4_allBefore_33 rfl ?_
      obtain ⟨y29, e28, h⟩ := bd_some h
      refine r_cSi C.1 (st := []) (c_X4_contains e28) yv_X4_contains ml_X4_86 rfl ⟨Nat.le_of_ble_eq_true rfl, Nat.le_of_ble_eq_true rfl⟩ ⟨Nat.le_of_ble_eq_true rfl, Nat.le_of_ble_eq_true rfl⟩ (Nat.le_of_ble_eq_true rfl) rfl 0 0 rfl rfl 38 rfl dX4_allBefore_35 ?_
      refine r_if_eq C.1 53 41 rfl dX4_allBefore_38 rfl ⟨fun c30 => ?_, fun c30 => ?_⟩
      · have h := if_some_t c30 h
        refine r_iinc C.1 (lv' := [(0, .ref a0), (2, .int v2), (3, .int v3), (4, .int v4), (5, .int (v5 + 1))]) 4 [1, 2, 3, 4, 0] 56 rfl dX4_allBefore_53 rfl (Nat.le_of_ble_eq_true rfl) rfl rfl ?_
        refine r_goto C.1 23 dX4_allBefore_56 rfl ?_
        exact ih v4 (v5 + 1) h
      · have h := if_some_f c30 h
        refine r_iload C.1 3 43 rfl dX4_allBefore_41 rfl ?_
        refine r_aload_n C.1 0 44 rfl dX4_allBefore_43 rfl ?_
        refine r_getR C.1 7 fl_X4_35 rfl ha0 47 rfl dX4_allBefore_44 (fun (h31 : jSof F (kR κ a0 7) = (2, 0, 16)) => ?_)
        refine r_iload C.1 4 49 rfl dX4_allBefore_47 rfl ?_
        obtain ⟨i32, h⟩ := ck_some h
        refine r_iald C.1 h31 i32 50 rfl dX4_allBefore_49 ?_
        refine r_ior C.1 51 rfl dX4_allBefore_50 ?_
        obtain ⟨y33, e34, h⟩ := bnd_some h
        refine r_top e34 ?_
        refine r_istore C.1 (lv' := [(0, .ref a0), (2, .int v2), (3, .int v3), (4, .int y33), (5, .int v5)]) [1, 2, 3, 0, 4] 53 rfl dX4_allBefore_51 (Nat.le_of_ble_eq_true rfl) rfl ?_
        refine r_iinc C.1 (lv' := [(0, .ref a0), (2, .int v2), (3, .int v3), (4, .int y33), (5, .int (v5 + 1))]) 4 [1, 2, 3, 4, 0] 56 rfl dX4_allBefore_53 rfl (Nat.le_of_ble_eq_true rfl) rfl rfl ?_
        refine r_goto C.1 23 dX4_allBefore_56 rfl ?_
        exact ih y33 (v5 + 1) h
set_option maxRecDepth 20000 in
theorem w_X4_allBefore_9 {F : jFm} (C : jB F RX4 cX4_allBefore 6 (some .int) 1 0 0 21) {κ : jKt} {a0 : Nat} (ha0 : jSof F a0 = (1, 8, 8)) {r : Int32} (hq : jOut F (some (.int r)) κ) : ∀ (n : Nat) (v2 : Int32) (v3 : Int32), P_X4_allBefore_9 κ a0 n v2 v3 = some r → jW F 6 0 0 κ 9 [(0, .ref a0), (2, .int v2), (3, .int v3)] [] := by
  intro n
  induction n with
  | zero => intro v2 v3 h; cases h
  | succ n ih =>
    intro v2 v3 h
    rw [P_X4_allBefore_9] at h
    refine r_iload_n C.1 2 10 rfl dX4_allBefore_9 rfl ?_
    refine r_aload_n C.1 0 11 rfl dX4_allBefore_10 rfl ?_
    refine r_getI C.1 3 fl_X4_21 rfl ha0 14 rfl dX4_allBefore_11 ?_
    refine r_icmp_ge C.1 68 17 rfl dX4_allBefore_14 rfl ⟨fun c35 => ?_, fun c35 => ?_⟩
    · have h := if_some_t c35 h
      refine r_iload_n C.1 1 69 rfl dX4_allBefore_68 rfl ?_
      cases h
      exact r_zret C rfl rfl (Nat.le_of_ble_eq_true rfl) (Nat.le_of_ble_eq_true rfl) dX4_allBefore_69 hq
    · have h := if_some_f c35 h
      refine r_iload_n C.1 1 18 rfl dX4_allBefore_17 rfl ?_
      refine r_istore C.1 (lv' := [(0, .ref a0), (2, .int v2), (3, .int v3), (4, .int v2)]) [1, 2, 3, 0] 20 rfl dX4_allBefore_18 (Nat.le_of_ble_eq_true rfl) rfl ?_
      refine r_iconst C.1 0 rfl 21 rfl dX4_allBefore_20 ?_
      refine r_istore C.1 (lv' := [(0, .ref a0), (2, .int v2), (3, .int v3), (4, .int v2), (5, .int 0)]) [1, 2, 3, 4, 0] 23 rfl dX4_allBefore_21 (Nat.le_of_ble_eq_true rfl) rfl ?_
      exact w_X4_allBefore_23 C ha0 hq ih 4000 v2 0 h
set_option maxRecDepth 20000 in
theorem w_X4_allBefore_0 {F : jFm} (C : jB F RX4 cX4_allBefore 6 (some .int) 1 0 0 21) {κ : jKt} {a0 : Nat} (ha0 : jSof F a0 = (1, 8, 8)) {x1 : Int32} {r : Int32} (hq : jOut F (some (.int r)) κ) (h : P_X4_allBefore κ a0 x1 = some r) : jW F 6 0 0 κ 0 [(0, .ref a0), (1, .int x1)] [] := by
  unfold P_X4_allBefore at h
  refine r_aload_n C.1 0 1 rfl dX4_allBefore_0 rfl ?_
  refine r_getR C.1 7 fl_X4_35 rfl ha0 4 rfl dX4_allBefore_1 (fun (h36 : jSof F (kR κ a0 7) = (2, 0, 16)) => ?_)
  refine r_iload_n C.1 1 5 rfl dX4_allBefore_4 rfl ?_
  obtain ⟨i37, h⟩ := ck_some h
  refine r_iald C.1 h36 i37 6 rfl dX4_allBefore_5 ?_
  obtain ⟨y38, e39, h⟩ := bnd_some h
  refine r_top e39 ?_
  refine r_istore_n C.1 (lv' := [(0, .ref a0), (1, .int x1), (2, .int y38)]) [1, 2, 0] 7 rfl dX4_allBefore_6 (Nat.le_of_ble_eq_true rfl) rfl ?_
  refine r_iconst C.1 0 rfl 8 rfl dX4_allBefore_7 ?_
  refine r_istore_n C.1 (lv' := [(0, .ref a0), (1, .int x1), (2, .int y38), (3, .int 0)]) [1, 2, 3, 0] 9 rfl dX4_allBefore_8 (Nat.le_of_ble_eq_true rfl) rfl ?_
  refine r_lv [0, 2, 3] rfl ?_
  exact w_X4_allBefore_9 C ha0 hq 4000 y38 0 h
theorem c_X4_allBefore {l : Launch} {G : jG} {sh : jSh} {κ : jKt} {a0 : Nat} (ha0 : sh a0 = (1, 8, 8)) {x1 : Int32} {r : Int32} (h : P_X4_allBefore κ a0 x1 = some r) : jM l G yX4_allBefore cX4_allBefore 6 (some .int) 1 0 0 21 [.ref a0, .int x1] (sh, κ) (jIs (some (.int r)) (sh, κ)) jNo :=
  r_body (by decide) (Nat.le_of_ble_eq_true rfl) fun F C hl hG hs ho hx => by
    subst hs
    exact w_X4_allBefore_0 C ha0 (by rw [ho]; exact ⟨rfl, rfl⟩) h
set_option maxRecDepth 20000 in
theorem w_X4_comesBefore_0 {F : jFm} (C : jB F RX4 cX4_comesBefore 3 (some .boolean) 2 0 0 46) {κ : jKt} {a0 : Nat} (ha0 : jSof F a0 = (1, 8, 8)) {x1 : Int32} {x2 : Int32} {r : Int32} (hq : jOut F (some (.int r)) κ) (h : P_X4_comesBefore κ a0 x1 x2 = some r) : jW F 3 0 0 κ 0 [(0, .ref a0), (1, .int x1), (2, .int x2)] [] := by
  unfold P_X4_comesBefore at h
  refine r_aload_n C.1 0 1 rfl dX4_comesBefore_0 rfl ?_
  refine r_iload_n C.1 2 2 rfl dX4_comesBefore_1 rfl ?_
  obtain ⟨y12, e11, h⟩ := bd_some h
  refine r_cVi C.1 (st := []) (c_X4_allBefore ha0 e11) yv_X4_allBefore ml_X4_90 rfl ha0 rfl ⟨Nat.le_of_ble_eq_true rfl, Nat.le_of_ble_eq_true rfl⟩ ⟨Nat.le_of_ble_eq_true rfl, Nat.le_of_ble_eq_true rfl⟩ (Nat.le_of_ble_eq_true rfl) rfl 0 0 rfl rfl 5 rfl dX4_comesBefore_2 ?_
  refine r_iload_n C.1 1 6 rfl dX4_comesBefore_5 rfl ?_
  obtain ⟨y14, e13, h⟩ := bd_some h
  refine r_cSi C.1 (st := []) (c_X4_contains e13) yv_X4_contains ml_X4_86 rfl ⟨Nat.le_of_ble_eq_true rfl, Nat.le_of_ble_eq_true rfl⟩ ⟨Nat.le_of_ble_eq_true rfl, Nat.le_of_ble_eq_true rfl⟩ (Nat.le_of_ble_eq_true rfl) rfl 0 0 rfl rfl 9 rfl dX4_comesBefore_6 ?_
  obtain ⟨z15, h⟩ := ck_some h
  cases h
  exact r_zret C rfl (jz_narrow z15) (Nat.le_of_ble_eq_true rfl) (Nat.le_of_ble_eq_true rfl) dX4_comesBefore_9 hq
theorem c_X4_comesBefore {l : Launch} {G : jG} {sh : jSh} {κ : jKt} {a0 : Nat} (ha0 : sh a0 = (1, 8, 8)) {x1 : Int32} {x2 : Int32} {r : Int32} (h : P_X4_comesBefore κ a0 x1 x2 = some r) : jM l G yX4_comesBefore cX4_comesBefore 3 (some .boolean) 2 0 0 46 [.ref a0, .int x1, .int x2] (sh, κ) (jIs (some (.int r)) (sh, κ)) jNo :=
  r_body (by decide) (Nat.le_of_ble_eq_true rfl) fun F C hl hG hs ho hx => by
    subst hs
    exact w_X4_comesBefore_0 C ha0 (by rw [ho]; exact ⟨rfl, rfl⟩) h
set_option maxRecDepth 20000 in
theorem w_X4_hasCycle_2 {F : jFm} (C : jB F RX4 cX4_hasCycle 2 (some .boolean) 3 0 0 68) {κ : jKt} {a0 : Nat} (ha0 : jSof F a0 = (1, 8, 8)) {r : Int32} (hq : jOut F (some (.int r)) κ) : ∀ (n : Nat) (v1 : Int32), P_X4_hasCycle_2 κ a0 n v1 = some r → jW F 2 0 0 κ 2 [(0, .ref a0), (1, .int v1)] [] := by
  intro n
  induction n with
  | zero => intro v1 h; cases h
  | succ n ih =>
    intro v1 h
    rw [P_X4_hasCycle_2] at h
    refine r_iload_n C.1 1 3 rfl dX4_hasCycle_2 rfl ?_
    refine r_aload_n C.1 0 4 rfl dX4_hasCycle_3 rfl ?_
    refine r_getI C.1 3 fl_X4_21 rfl ha0 7 rfl dX4_hasCycle_4 ?_
    refine r_icmp_ge C.1 27 10 rfl dX4_hasCycle_7 rfl ⟨fun c9 => ?_, fun c9 => ?_⟩
    · have h := if_some_t c9 h
      refine r_iconst C.1 0 rfl 28 rfl dX4_hasCycle_27 ?_
      cases h
      exact r_zret C rfl rfl (Nat.le_of_ble_eq_true rfl) (Nat.le_of_ble_eq_true rfl) dX4_hasCycle_28 hq
    · have h := if_some_f c9 h
      refine r_aload_n C.1 0 11 rfl dX4_hasCycle_10 rfl ?_
      refine r_iload_n C.1 1 12 rfl dX4_hasCycle_11 rfl ?_
      refine r_iload_n C.1 1 13 rfl dX4_hasCycle_12 rfl ?_
      obtain ⟨y11, e10, h⟩ := bd_some h
      refine r_cVi C.1 (st := []) (c_X4_comesBefore ha0 e10) yv_X4_comesBefore ml_X4_93 rfl ha0 rfl ⟨Nat.le_of_ble_eq_true rfl, Nat.le_of_ble_eq_true rfl⟩ ⟨Nat.le_of_ble_eq_true rfl, Nat.le_of_ble_eq_true rfl⟩ (Nat.le_of_ble_eq_true rfl) rfl 0 0 rfl rfl 16 rfl dX4_hasCycle_13 ?_
      refine r_if_eq C.1 21 19 rfl dX4_hasCycle_16 rfl ⟨fun c12 => ?_, fun c12 => ?_⟩
      · have h := if_some_t c12 h
        refine r_iinc C.1 (lv' := [(0, .ref a0), (1, .int (v1 + 1))]) 1 [1, 0] 24 rfl dX4_hasCycle_21 rfl (Nat.le_of_ble_eq_true rfl) rfl rfl ?_
        refine r_goto C.1 2 dX4_hasCycle_24 rfl ?_
        exact ih (v1 + 1) h
      · have h := if_some_f c12 h
        refine r_iconst C.1 1 rfl 20 rfl dX4_hasCycle_19 ?_
        cases h
        exact r_zret C rfl rfl (Nat.le_of_ble_eq_true rfl) (Nat.le_of_ble_eq_true rfl) dX4_hasCycle_20 hq
set_option maxRecDepth 20000 in
theorem w_X4_hasCycle_0 {F : jFm} (C : jB F RX4 cX4_hasCycle 2 (some .boolean) 3 0 0 68) {κ : jKt} {a0 : Nat} (ha0 : jSof F a0 = (1, 8, 8)) {r : Int32} (hq : jOut F (some (.int r)) κ) (h : P_X4_hasCycle κ a0 = some r) : jW F 2 0 0 κ 0 [(0, .ref a0)] [] := by
  unfold P_X4_hasCycle at h
  refine r_iconst C.1 0 rfl 1 rfl dX4_hasCycle_0 ?_
  refine r_istore_n C.1 (lv' := [(0, .ref a0), (1, .int 0)]) [1, 0] 2 rfl dX4_hasCycle_1 (Nat.le_of_ble_eq_true rfl) rfl ?_
  exact w_X4_hasCycle_2 C ha0 hq 4000 0 h
theorem c_X4_hasCycle {l : Launch} {G : jG} {sh : jSh} {κ : jKt} {a0 : Nat} (ha0 : sh a0 = (1, 8, 8)) {r : Int32} (h : P_X4_hasCycle κ a0 = some r) : jM l G yX4_hasCycle cX4_hasCycle 2 (some .boolean) 3 0 0 68 [.ref a0] (sh, κ) (jIs (some (.int r)) (sh, κ)) jNo :=
  r_body (by decide) (Nat.le_of_ble_eq_true rfl) fun F C hl hG hs ho hx => by
    subst hs
    exact w_X4_hasCycle_0 C ha0 (by rw [ho]; exact ⟨rfl, rfl⟩) h
set_option maxRecDepth 20000 in
theorem w_X4_isNeededBySewn_2 {F : jFm} (C : jB F RX4 cX4_isNeededBySewn 3 (some .boolean) 2 0 0 43) {κ : jKt} {a0 : Nat} (ha0 : jSof F a0 = (1, 8, 8)) {v1 : Int32} {r : Int32} (hq : jOut F (some (.int r)) κ) : ∀ (n : Nat) (v2 : Int32), P_X4_isNeededBySewn_2 κ a0 v1 n v2 = some r → jW F 3 0 0 κ 2 [(0, .ref a0), (1, .int v1), (2, .int v2)] [] := by
  intro n
  induction n with
  | zero => intro v2 h; cases h
  | succ n ih =>
    intro v2 h
    rw [P_X4_isNeededBySewn_2] at h
    refine r_iload_n C.1 2 3 rfl dX4_isNeededBySewn_2 rfl ?_
    refine r_aload_n C.1 0 4 rfl dX4_isNeededBySewn_3 rfl ?_
    refine r_getI C.1 3 fl_X4_21 rfl ha0 7 rfl dX4_isNeededBySewn_4 ?_
    refine r_icmp_ge C.1 35 10 rfl dX4_isNeededBySewn_7 rfl ⟨fun c15 => ?_, fun c15 => ?_⟩
    · have h := if_some_t c15 h
      refine r_iconst C.1 0 rfl 36 rfl dX4_isNeededBySewn_35 ?_
      cases h
      exact r_zret C rfl rfl (Nat.le_of_ble_eq_true rfl) (Nat.le_of_ble_eq_true rfl) dX4_isNeededBySewn_36 hq
    · have h := if_some_f c15 h
      refine r_aload_n C.1 0 11 rfl dX4_isNeededBySewn_10 rfl ?_
      refine r_iload_n C.1 2 12 rfl dX4_isNeededBySewn_11 rfl ?_
      obtain ⟨y17, e16, h⟩ := bd_some h
      refine r_cVi C.1 (st := []) (c_X4_isSewn ha0 e16) yv_X4_isSewn ml_X4_96 rfl ha0 rfl ⟨Nat.le_of_ble_eq_true rfl, Nat.le_of_ble_eq_true rfl⟩ ⟨Nat.le_of_ble_eq_true rfl, Nat.le_of_ble_eq_true rfl⟩ (Nat.le_of_ble_eq_true rfl) rfl 0 0 rfl rfl 15 rfl dX4_isNeededBySewn_12 ?_
      refine r_if_eq C.1 29 18 rfl dX4_isNeededBySewn_15 rfl ⟨fun c18 => ?_, fun c18 => ?_⟩
      · have h := if_some_t c18 h
        refine r_iinc C.1 (lv' := [(0, .ref a0), (1, .int v1), (2, .int (v2 + 1))]) 2 [1, 2, 0] 32 rfl dX4_isNeededBySewn_29 rfl (Nat.le_of_ble_eq_true rfl) rfl rfl ?_
        refine r_goto C.1 2 dX4_isNeededBySewn_32 rfl ?_
        exact ih (v2 + 1) h
      · have h := if_some_f c18 h
        refine r_aload_n C.1 0 19 rfl dX4_isNeededBySewn_18 rfl ?_
        refine r_iload_n C.1 1 20 rfl dX4_isNeededBySewn_19 rfl ?_
        refine r_iload_n C.1 2 21 rfl dX4_isNeededBySewn_20 rfl ?_
        obtain ⟨y20, e19, h⟩ := bd_some h
        refine r_cVi C.1 (st := []) (c_X4_hasDemand ha0 e19) yv_X4_hasDemand ml_X4_102 rfl ha0 rfl ⟨Nat.le_of_ble_eq_true rfl, Nat.le_of_ble_eq_true rfl⟩ ⟨Nat.le_of_ble_eq_true rfl, Nat.le_of_ble_eq_true rfl⟩ (Nat.le_of_ble_eq_true rfl) rfl 0 0 rfl rfl 24 rfl dX4_isNeededBySewn_21 ?_
        refine r_if_eq C.1 29 27 rfl dX4_isNeededBySewn_24 rfl ⟨fun c21 => ?_, fun c21 => ?_⟩
        · have h := if_some_t c21 h
          refine r_iinc C.1 (lv' := [(0, .ref a0), (1, .int v1), (2, .int (v2 + 1))]) 2 [1, 2, 0] 32 rfl dX4_isNeededBySewn_29 rfl (Nat.le_of_ble_eq_true rfl) rfl rfl ?_
          refine r_goto C.1 2 dX4_isNeededBySewn_32 rfl ?_
          exact ih (v2 + 1) h
        · have h := if_some_f c21 h
          refine r_iconst C.1 1 rfl 28 rfl dX4_isNeededBySewn_27 ?_
          cases h
          exact r_zret C rfl rfl (Nat.le_of_ble_eq_true rfl) (Nat.le_of_ble_eq_true rfl) dX4_isNeededBySewn_28 hq
set_option maxRecDepth 20000 in
theorem w_X4_isNeededBySewn_0 {F : jFm} (C : jB F RX4 cX4_isNeededBySewn 3 (some .boolean) 2 0 0 43) {κ : jKt} {a0 : Nat} (ha0 : jSof F a0 = (1, 8, 8)) {x1 : Int32} {r : Int32} (hq : jOut F (some (.int r)) κ) (h : P_X4_isNeededBySewn κ a0 x1 = some r) : jW F 3 0 0 κ 0 [(0, .ref a0), (1, .int x1)] [] := by
  unfold P_X4_isNeededBySewn at h
  refine r_iconst C.1 0 rfl 1 rfl dX4_isNeededBySewn_0 ?_
  refine r_istore_n C.1 (lv' := [(0, .ref a0), (1, .int x1), (2, .int 0)]) [1, 2, 0] 2 rfl dX4_isNeededBySewn_1 (Nat.le_of_ble_eq_true rfl) rfl ?_
  exact w_X4_isNeededBySewn_2 C ha0 hq 4000 0 h
theorem c_X4_isNeededBySewn {l : Launch} {G : jG} {sh : jSh} {κ : jKt} {a0 : Nat} (ha0 : sh a0 = (1, 8, 8)) {x1 : Int32} {r : Int32} (h : P_X4_isNeededBySewn κ a0 x1 = some r) : jM l G yX4_isNeededBySewn cX4_isNeededBySewn 3 (some .boolean) 2 0 0 43 [.ref a0, .int x1] (sh, κ) (jIs (some (.int r)) (sh, κ)) jNo :=
  r_body (by decide) (Nat.le_of_ble_eq_true rfl) fun F C hl hG hs ho hx => by
    subst hs
    exact w_X4_isNeededBySewn_0 C ha0 (by rw [ho]; exact ⟨rfl, rfl⟩) h
set_option maxRecDepth 20000 in
theorem w_X4_freeSleeves_4 {F : jFm} (C : jB F RX4 cX4_freeSleeves 4 (some .int) 1 0 0 22) {κ : jKt} {a0 : Nat} (ha0 : jSof F a0 = (1, 8, 8)) {v1 : Int32} {r : Int32} (hq : jOut F (some (.int r)) κ) : ∀ (n : Nat) (v2 : Int32) (v3 : Int32), P_X4_freeSleeves_4 κ a0 v1 n v2 v3 = some r → jW F 4 0 0 κ 4 [(0, .ref a0), (1, .int v1), (2, .int v2), (3, .int v3)] [] := by
  intro n
  induction n with
  | zero => intro v2 v3 h; cases h
  | succ n ih =>
    intro v2 v3 h
    rw [P_X4_freeSleeves_4] at h
    refine r_iload_n C.1 3 5 rfl dX4_freeSleeves_4 rfl ?_
    refine r_aload_n C.1 0 6 rfl dX4_freeSleeves_5 rfl ?_
    refine r_getI C.1 3 fl_X4_21 rfl ha0 9 rfl dX4_freeSleeves_6 ?_
    refine r_icmp_ge C.1 41 12 rfl dX4_freeSleeves_9 rfl ⟨fun c15 => ?_, fun c15 => ?_⟩
    · have h := if_some_t c15 h
      refine r_iload_n C.1 2 42 rfl dX4_freeSleeves_41 rfl ?_
      cases h
      exact r_zret C rfl rfl (Nat.le_of_ble_eq_true rfl) (Nat.le_of_ble_eq_true rfl) dX4_freeSleeves_42 hq
    · have h := if_some_f c15 h
      refine r_iload_n C.1 1 13 rfl dX4_freeSleeves_12 rfl ?_
      refine r_iload_n C.1 3 14 rfl dX4_freeSleeves_13 rfl ?_
      obtain ⟨y17, e16, h⟩ := bd_some h
      refine r_cSi C.1 (st := []) (c_X4_contains e16) yv_X4_contains ml_X4_86 rfl ⟨Nat.le_of_ble_eq_true rfl, Nat.le_of_ble_eq_true rfl⟩ ⟨Nat.le_of_ble_eq_true rfl, Nat.le_of_ble_eq_true rfl⟩ (Nat.le_of_ble_eq_true rfl) rfl 0 0 rfl rfl 17 rfl dX4_freeSleeves_14 ?_
      refine r_if_ne C.1 35 20 rfl dX4_freeSleeves_17 rfl ⟨fun c18 => ?_, fun c18 => ?_⟩
      · have h := if_some_f c18 h
        refine r_iinc C.1 (lv' := [(0, .ref a0), (1, .int v1), (2, .int v2), (3, .int (v3 + 1))]) 3 [1, 2, 3, 0] 38 rfl dX4_freeSleeves_35 rfl (Nat.le_of_ble_eq_true rfl) rfl rfl ?_
        refine r_goto C.1 4 dX4_freeSleeves_38 rfl ?_
        exact ih v2 (v3 + 1) h
      · have h := if_some_t c18 h
        refine r_aload_n C.1 0 21 rfl dX4_freeSleeves_20 rfl ?_
        refine r_iload_n C.1 3 22 rfl dX4_freeSleeves_21 rfl ?_
        refine r_iload_n C.1 1 23 rfl dX4_freeSleeves_22 rfl ?_
        obtain ⟨y20, e19, h⟩ := bd_some h
        refine r_cVi C.1 (st := []) (c_X4_isHeldBack ha0 e19) yv_X4_isHeldBack ml_X4_99 rfl ha0 rfl ⟨Nat.le_of_ble_eq_true rfl, Nat.le_of_ble_eq_true rfl⟩ ⟨Nat.le_of_ble_eq_true rfl, Nat.le_of_ble_eq_true rfl⟩ (Nat.le_of_ble_eq_true rfl) rfl 0 0 rfl rfl 26 rfl dX4_freeSleeves_23 ?_
        refine r_if_ne C.1 35 29 rfl dX4_freeSleeves_26 rfl ⟨fun c21 => ?_, fun c21 => ?_⟩
        · have h := if_some_f c21 h
          refine r_iinc C.1 (lv' := [(0, .ref a0), (1, .int v1), (2, .int v2), (3, .int (v3 + 1))]) 3 [1, 2, 3, 0] 38 rfl dX4_freeSleeves_35 rfl (Nat.le_of_ble_eq_true rfl) rfl rfl ?_
          refine r_goto C.1 4 dX4_freeSleeves_38 rfl ?_
          exact ih v2 (v3 + 1) h
        · have h := if_some_t c21 h
          refine r_iload_n C.1 2 30 rfl dX4_freeSleeves_29 rfl ?_
          refine r_iconst C.1 1 rfl 31 rfl dX4_freeSleeves_30 ?_
          refine r_iload_n C.1 3 32 rfl dX4_freeSleeves_31 rfl ?_
          refine r_ishl C.1 33 rfl dX4_freeSleeves_32 ?_
          refine r_ior C.1 34 rfl dX4_freeSleeves_33 ?_
          refine r_istore_n C.1 (lv' := [(0, .ref a0), (1, .int v1), (2, .int (v2 ||| (1 <<< (v3 &&& 31)))), (3, .int v3)]) [1, 2, 0, 3] 35 rfl dX4_freeSleeves_34 (Nat.le_of_ble_eq_true rfl) rfl ?_
          refine r_iinc C.1 (lv' := [(0, .ref a0), (1, .int v1), (2, .int (v2 ||| (1 <<< (v3 &&& 31)))), (3, .int (v3 + 1))]) 3 [1, 2, 3, 0] 38 rfl dX4_freeSleeves_35 rfl (Nat.le_of_ble_eq_true rfl) rfl rfl ?_
          refine r_goto C.1 4 dX4_freeSleeves_38 rfl ?_
          exact ih (v2 ||| (1 <<< (v3 &&& 31))) (v3 + 1) h
set_option maxRecDepth 20000 in
theorem w_X4_freeSleeves_0 {F : jFm} (C : jB F RX4 cX4_freeSleeves 4 (some .int) 1 0 0 22) {κ : jKt} {a0 : Nat} (ha0 : jSof F a0 = (1, 8, 8)) {x1 : Int32} {r : Int32} (hq : jOut F (some (.int r)) κ) (h : P_X4_freeSleeves κ a0 x1 = some r) : jW F 4 0 0 κ 0 [(0, .ref a0), (1, .int x1)] [] := by
  unfold P_X4_freeSleeves at h
  refine r_iconst C.1 0 rfl 1 rfl dX4_freeSleeves_0 ?_
  refine r_istore_n C.1 (lv' := [(0, .ref a0), (1, .int x1), (2, .int 0)]) [1, 2, 0] 2 rfl dX4_freeSleeves_1 (Nat.le_of_ble_eq_true rfl) rfl ?_
  refine r_iconst C.1 0 rfl 3 rfl dX4_freeSleeves_2 ?_
  refine r_istore_n C.1 (lv' := [(0, .ref a0), (1, .int x1), (2, .int 0), (3, .int 0)]) [1, 2, 3, 0] 4 rfl dX4_freeSleeves_3 (Nat.le_of_ble_eq_true rfl) rfl ?_
  exact w_X4_freeSleeves_4 C ha0 hq 4000 0 0 h
theorem c_X4_freeSleeves {l : Launch} {G : jG} {sh : jSh} {κ : jKt} {a0 : Nat} (ha0 : sh a0 = (1, 8, 8)) {x1 : Int32} {r : Int32} (h : P_X4_freeSleeves κ a0 x1 = some r) : jM l G yX4_freeSleeves cX4_freeSleeves 4 (some .int) 1 0 0 22 [.ref a0, .int x1] (sh, κ) (jIs (some (.int r)) (sh, κ)) jNo :=
  r_body (by decide) (Nat.le_of_ble_eq_true rfl) fun F C hl hG hs ho hx => by
    subst hs
    exact w_X4_freeSleeves_0 C ha0 (by rw [ho]; exact ⟨rfl, rfl⟩) h
set_option maxRecDepth 20000 in
theorem w_X4_roundsLeft_9 {F : jFm} (C : jB F RX4 cX4_roundsLeft 4 (some .int) 2 0 0 45) {κ : jKt} {a0 : Nat} (ha0 : jSof F a0 = (1, 8, 8)) {r : Int32} (hq : jOut F (some (.int r)) κ) : ∀ (n : Nat) (v1 : Int32) (v2 : Int32) (v3 : Int32), P_X4_roundsLeft_9 κ a0 n v1 v2 v3 = some r → jW F 4 0 0 κ 9 [(0, .ref a0), (1, .int v1), (2, .int v2), (3, .int v3)] [] := by
  intro n
  induction n with
  | zero => intro v1 v2 v3 h; cases h
  | succ n ih =>
    intro v1 v2 v3 h
    rw [P_X4_roundsLeft_9] at h
    refine r_iload_n C.1 3 10 rfl dX4_roundsLeft_9 rfl ?_
    refine r_aload_n C.1 0 11 rfl dX4_roundsLeft_10 rfl ?_
    refine r_getI C.1 3 fl_X4_21 rfl ha0 14 rfl dX4_roundsLeft_11 ?_
    refine r_icmp_ge C.1 42 17 rfl dX4_roundsLeft_14 rfl ⟨fun c17 => ?_, fun c17 => ?_⟩
    · have h := if_some_t c17 h
      refine r_iload_n C.1 2 43 rfl dX4_roundsLeft_42 rfl ?_
      cases h
      exact r_zret C rfl rfl (Nat.le_of_ble_eq_true rfl) (Nat.le_of_ble_eq_true rfl) dX4_roundsLeft_43 hq
    · have h := if_some_f c17 h
      refine r_iload_n C.1 1 18 rfl dX4_roundsLeft_17 rfl ?_
      refine r_aload_n C.1 0 19 rfl dX4_roundsLeft_18 rfl ?_
      obtain ⟨y19, e18, h⟩ := bd_some h
      refine r_cVi C.1 (st := [.int v1]) (c_X4_allSleeves ha0 e18) yv_X4_allSleeves ml_X4_72 rfl ha0 rfl ⟨Nat.le_of_ble_eq_true rfl, Nat.le_of_ble_eq_true rfl⟩ ⟨Nat.le_of_ble_eq_true rfl, Nat.le_of_ble_eq_true rfl⟩ (Nat.le_of_ble_eq_true rfl) rfl 0 0 rfl rfl 22 rfl dX4_roundsLeft_19 ?_
      refine r_icmp_eq C.1 42 25 rfl dX4_roundsLeft_22 rfl ⟨fun c20 => ?_, fun c20 => ?_⟩
      · have h := if_some_t c20 h
        refine r_iload_n C.1 2 43 rfl dX4_roundsLeft_42 rfl ?_
        cases h
        exact r_zret C rfl rfl (Nat.le_of_ble_eq_true rfl) (Nat.le_of_ble_eq_true rfl) dX4_roundsLeft_43 hq
      · have h := if_some_f c20 h
        refine r_iload_n C.1 1 26 rfl dX4_roundsLeft_25 rfl ?_
        refine r_aload_n C.1 0 27 rfl dX4_roundsLeft_26 rfl ?_
        refine r_iload_n C.1 1 28 rfl dX4_roundsLeft_27 rfl ?_
        obtain ⟨y22, e21, h⟩ := bd_some h
        refine r_cVi C.1 (st := [.int v1]) (c_X4_freeSleeves ha0 e21) yv_X4_freeSleeves ml_X4_105 rfl ha0 rfl ⟨Nat.le_of_ble_eq_true rfl, Nat.le_of_ble_eq_true rfl⟩ ⟨Nat.le_of_ble_eq_true rfl, Nat.le_of_ble_eq_true rfl⟩ (Nat.le_of_ble_eq_true rfl) rfl 0 0 rfl rfl 31 rfl dX4_roundsLeft_28 ?_
        refine r_ior C.1 32 rfl dX4_roundsLeft_31 ?_
        refine r_istore_n C.1 (lv' := [(0, .ref a0), (1, .int (v1 ||| y22)), (2, .int v2), (3, .int v3)]) [1, 0, 2, 3] 33 rfl dX4_roundsLeft_32 (Nat.le_of_ble_eq_true rfl) rfl ?_
        refine r_iinc C.1 (lv' := [(0, .ref a0), (1, .int (v1 ||| y22)), (2, .int (v2 + 1)), (3, .int v3)]) 2 [1, 2, 0, 3] 36 rfl dX4_roundsLeft_33 rfl (Nat.le_of_ble_eq_true rfl) rfl rfl ?_
        refine r_iinc C.1 (lv' := [(0, .ref a0), (1, .int (v1 ||| y22)), (2, .int (v2 + 1)), (3, .int (v3 + 1))]) 3 [1, 2, 3, 0] 39 rfl dX4_roundsLeft_36 rfl (Nat.le_of_ble_eq_true rfl) rfl rfl ?_
        refine r_goto C.1 9 dX4_roundsLeft_39 rfl ?_
        exact ih (v1 ||| y22) (v2 + 1) (v3 + 1) h
set_option maxRecDepth 20000 in
theorem w_X4_roundsLeft_0 {F : jFm} (C : jB F RX4 cX4_roundsLeft 4 (some .int) 2 0 0 45) {κ : jKt} {a0 : Nat} (ha0 : jSof F a0 = (1, 8, 8)) {r : Int32} (hq : jOut F (some (.int r)) κ) (h : P_X4_roundsLeft κ a0 = some r) : jW F 4 0 0 κ 0 [(0, .ref a0)] [] := by
  unfold P_X4_roundsLeft at h
  refine r_aload_n C.1 0 1 rfl dX4_roundsLeft_0 rfl ?_
  obtain ⟨y24, e23, h⟩ := bd_some h
  refine r_cVi C.1 (st := []) (c_X4_sewnSet ha0 e23) yv_X4_sewnSet ml_X4_44 rfl ha0 rfl ⟨Nat.le_of_ble_eq_true rfl, Nat.le_of_ble_eq_true rfl⟩ ⟨Nat.le_of_ble_eq_true rfl, Nat.le_of_ble_eq_true rfl⟩ (Nat.le_of_ble_eq_true rfl) rfl 0 0 rfl rfl 4 rfl dX4_roundsLeft_1 ?_
  refine r_istore_n C.1 (lv' := [(0, .ref a0), (1, .int y24)]) [1, 0] 5 rfl dX4_roundsLeft_4 (Nat.le_of_ble_eq_true rfl) rfl ?_
  refine r_iconst C.1 0 rfl 6 rfl dX4_roundsLeft_5 ?_
  refine r_istore_n C.1 (lv' := [(0, .ref a0), (1, .int y24), (2, .int 0)]) [1, 2, 0] 7 rfl dX4_roundsLeft_6 (Nat.le_of_ble_eq_true rfl) rfl ?_
  refine r_iconst C.1 0 rfl 8 rfl dX4_roundsLeft_7 ?_
  refine r_istore_n C.1 (lv' := [(0, .ref a0), (1, .int y24), (2, .int 0), (3, .int 0)]) [1, 2, 3, 0] 9 rfl dX4_roundsLeft_8 (Nat.le_of_ble_eq_true rfl) rfl ?_
  exact w_X4_roundsLeft_9 C ha0 hq 4000 y24 0 0 h
theorem c_X4_roundsLeft {l : Launch} {G : jG} {sh : jSh} {κ : jKt} {a0 : Nat} (ha0 : sh a0 = (1, 8, 8)) {r : Int32} (h : P_X4_roundsLeft κ a0 = some r) : jM l G yX4_roundsLeft cX4_roundsLeft 4 (some .int) 2 0 0 45 [.ref a0] (sh, κ) (jIs (some (.int r)) (sh, κ)) jNo :=
  r_body (by decide) (Nat.le_of_ble_eq_true rfl) fun F C hl hG hs ho hx => by
    subst hs
    exact w_X4_roundsLeft_0 C ha0 (by rw [ho]; exact ⟨rfl, rfl⟩) h
