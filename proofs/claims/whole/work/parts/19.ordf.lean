/-! pure methods and walks: ['TailorWorkshop$SleeveQueue', 'TailorWorkshop$OrderFinder'] -/
def P_X3_lowerChildOf (κ : jKt) (a0 : Nat) (x1 : Int32) : Option (Int32) :=
  if (kI κ a0 1) ≤ (((2 * x1) + 1) + 1) then
  some ((2 * x1) + 1)
  else
  ck (jin (((2 * x1) + 1) + 1) 16) <|
  ck (jin ((2 * x1) + 1) 16) <|
  if (kI κ (kR κ a0 0) (ix ((2 * x1) + 1))) ≤ (kI κ (kR κ a0 0) (ix (((2 * x1) + 1) + 1))) then
  some ((2 * x1) + 1)
  else
  some (((2 * x1) + 1) + 1)
def P_X3_swapIfLower (κ : jKt) (a0 : Nat) (x1 : Int32) (x2 : Int32) : Option (jKt) :=
  ck (jin x1 16) <|
  ck (jin x2 16) <|
  if (kI κ (kR κ a0 0) (ix x2)) ≤ (kI κ (kR κ a0 0) (ix x1)) then
  some κ
  else
  ck (jin x1 16) <|
  bnd (kI κ (kR κ a0 0) (ix x1)) fun y46 =>
  ck (jin x2 16) <|
  ck (jin x1 16) <|
  bnd (kU κ (kR κ a0 0) (ix x1) (.int (kI κ (kR κ a0 0) (ix x2)))) fun κ52 =>
  ck (jin x2 16) <|
  bnd (kU κ52 (kR κ52 a0 0) (ix x2) (.int y46)) fun κ56 =>
  some κ56
def P_X1_lowestFree_2 (κ : jKt) (a1 : Nat) (v2 : Int32) : Nat → Int32 → Option (Int32)
  | 0, _ => none
  | n + 1, v3 =>
    if (kI κ a1 3) ≤ v3 then
  some (-1)
  else
  bd (P_X4_contains κ v2 v3) fun y17 =>
  if y17 = 0 then
  bd (P_X4_isHeldBack κ a1 v3 v2) fun y20 =>
  if y20 = 0 then
  some v3
  else
  P_X1_lowestFree_2 κ a1 v2 n (v3 + 1)
  else
  P_X1_lowestFree_2 κ a1 v2 n (v3 + 1)
def P_X1_lowestFree (κ : jKt) (a0 : Nat) (a1 : Nat) (x2 : Int32) : Option (Int32) :=
  P_X1_lowestFree_2 κ a1 x2 4000 0
def P_X3_add_37 (a0 : Nat) : Nat → jKt → Int32 → Option (jKt)
  | 0, _, _ => none
  | n + 1, κ, v2 =>
    if v2 ≤ 0 then
  some κ
  else
  bd (P_X3_swapIfLower κ a0 v2 ((v2 - 1) / 2)) fun κ27 =>
  P_X3_add_37 a0 n κ27 ((v2 - 1) / 2)
def P_X3_add (κ : jKt) (a0 : Nat) (x1 : Int32) : Option (jKt) :=
  if (kI κ a0 1) = 16 then
  some κ
  else
  ck (jin (kI κ a0 1) 16) <|
  bnd (kU κ (kR κ a0 0) (ix (kI κ a0 1)) (.int x1)) fun κ31 =>
  bnd (kU κ31 a0 1 (.int ((kI κ31 a0 1) + 1))) fun κ33 =>
  bnd ((kI κ33 a0 1) - 1) fun y35 =>
  P_X3_add_37 a0 4000 κ33 y35
def P_X3_sinkTop_4 (a0 : Nat) : Nat → jKt → Int32 → Int32 → Option (jKt)
  | 0, _, _, _ => none
  | n + 1, κ, v1, v2 =>
    if (kI κ a0 1) ≤ v2 then
  some κ
  else
  if (kI κ a0 1) ≤ ((2 * v1) + 1) then
  some κ
  else
  bd (P_X3_lowerChildOf κ a0 v1) fun y16 =>
  bd (P_X3_swapIfLower κ a0 y16 v1) fun κ18 =>
  P_X3_sinkTop_4 a0 n κ18 y16 (v2 + 1)
def P_X3_sinkTop (κ : jKt) (a0 : Nat) : Option (jKt) :=
  P_X3_sinkTop_4 a0 4000 κ 0 0
def P_X1_findByScan_16 (a0 : Nat) (a1 : Nat) (v3 : Int32) : Nat → jKt → Int32 → Int32 → Int32 → Option (Int32 × jKt)
  | 0, _, _, _, _ => none
  | n + 1, κ, v2, v4, v5 =>
    if v3 ≤ v5 then
  some (v4, κ)
  else
  bd (P_X1_lowestFree κ a0 a1 v2) fun y27 =>
  if y27 = (-1) then
  some (v4, κ)
  else
  ck (jin v4 16) <|
  bnd (kU κ (kR κ a0 0) (ix v4) (.int y27)) fun κ31 =>
  P_X1_findByScan_16 a0 a1 v3 n κ31 (v2 ||| (1 <<< (y27 &&& 31))) (v4 + 1) (v5 + 1)
def P_X1_findByScan (κ : jKt) (a0 : Nat) (a1 : Nat) : Option (Int32 × jKt) :=
  bd (P_X4_sewnSet κ a1) fun y34 =>
  bd (P_X4_unsewnCount κ a1) fun y36 =>
  P_X1_findByScan_16 a0 a1 y36 4000 κ y34 0 0
def P_X1_queueFreeSleeves_15 (a0 : Nat) (a1 : Nat) (v2 : Int32) : Nat → jKt → Int32 → Option (jKt)
  | 0, _, _ => none
  | n + 1, κ, v3 =>
    if (kI κ a1 3) ≤ v3 then
  some κ
  else
  ck (jin v3 16) <|
  bd (P_J6_bitCount_0f7a4 κ ((kI κ (kR κ a1 7) (ix v3)) &&& (v2 ^^^ (-1)))) fun y52 =>
  ck (jin v3 16) <|
  bnd (kU κ (kR κ a0 2) (ix v3) (.int y52)) fun κ54 =>
  ck (jin v3 16) <|
  if (kI κ54 (kR κ54 a0 2) (ix v3)) = 0 then
  bd (P_X4_isSewn κ54 a1 v3) fun y60 =>
  if y60 = 0 then
  bd (P_X3_add κ54 (kR κ54 a0 3) v3) fun κ64 =>
  P_X1_queueFreeSleeves_15 a0 a1 v2 n κ64 (v3 + 1)
  else
  P_X1_queueFreeSleeves_15 a0 a1 v2 n κ54 (v3 + 1)
  else
  P_X1_queueFreeSleeves_15 a0 a1 v2 n κ54 (v3 + 1)
def P_X1_queueFreeSleeves (κ : jKt) (a0 : Nat) (a1 : Nat) : Option (jKt) :=
  bd (P_X4_sewnSet κ a1) fun y66 =>
  bnd (kU κ (kR κ a0 3) 1 (.int 0)) fun κ68 =>
  P_X1_queueFreeSleeves_15 a0 a1 y66 4000 κ68 0
def P_X1_releaseFrom_2 (a0 : Nat) (a1 : Nat) (v2 : Int32) : Nat → jKt → Int32 → Option (jKt)
  | 0, _, _ => none
  | n + 1, κ, v3 =>
    if (kI κ a1 3) ≤ v3 then
  some κ
  else
  bd (P_X4_hasDemand κ a1 v2 v3) fun y39 =>
  if y39 = 0 then
  P_X1_releaseFrom_2 a0 a1 v2 n κ (v3 + 1)
  else
  ck (jin v3 16) <|
  ck (jin v3 16) <|
  bnd (kU κ (kR κ a0 2) (ix v3) (.int ((kI κ (kR κ a0 2) (ix v3)) - 1))) fun κ44 =>
  ck (jin v3 16) <|
  if (kI κ44 (kR κ44 a0 2) (ix v3)) = 0 then
  bd (P_X4_isSewn κ44 a1 v3) fun y50 =>
  if y50 = 0 then
  bd (P_X3_add κ44 (kR κ44 a0 3) v3) fun κ54 =>
  P_X1_releaseFrom_2 a0 a1 v2 n κ54 (v3 + 1)
  else
  P_X1_releaseFrom_2 a0 a1 v2 n κ44 (v3 + 1)
  else
  P_X1_releaseFrom_2 a0 a1 v2 n κ44 (v3 + 1)
def P_X1_releaseFrom (κ : jKt) (a0 : Nat) (a1 : Nat) (x2 : Int32) : Option (jKt) :=
  P_X1_releaseFrom_2 a0 a1 x2 4000 κ 0
def P_X3_takeLowest (κ : jKt) (a0 : Nat) : Option (Int32 × jKt) :=
  if (kI κ a0 1) = 0 then
  some ((-1), κ)
  else
  bnd (kI κ (kR κ a0 0) (ix 0)) fun y29 =>
  bnd (kU κ a0 1 (.int ((kI κ a0 1) - 1))) fun κ31 =>
  ck (jin (kI κ31 a0 1) 16) <|
  bnd (kU κ31 (kR κ31 a0 0) (ix 0) (.int (kI κ31 (kR κ31 a0 0) (ix (kI κ31 a0 1))))) fun κ36 =>
  bd (P_X3_sinkTop κ36 a0) fun κ39 =>
  some (y29, κ39)
def P_X1_findByQueue_15 (a0 : Nat) (a1 : Nat) (v2 : Int32) : Nat → jKt → Int32 → Int32 → Option (Int32 × jKt)
  | 0, _, _, _ => none
  | n + 1, κ, v3, v4 =>
    if v2 ≤ v4 then
  some (v3, κ)
  else
  bd2 (P_X3_takeLowest κ (kR κ a0 3)) fun y36 κ37 =>
  if y36 = (-1) then
  some (v3, κ37)
  else
  ck (jin v3 16) <|
  bnd (kU κ37 (kR κ37 a0 1) (ix v3) (.int y36)) fun κ41 =>
  bd (P_X1_releaseFrom κ41 a0 a1 y36) fun κ44 =>
  P_X1_findByQueue_15 a0 a1 v2 n κ44 (v3 + 1) (v4 + 1)
def P_X1_findByQueue (κ : jKt) (a0 : Nat) (a1 : Nat) : Option (Int32 × jKt) :=
  bd (P_X1_queueFreeSleeves κ a0 a1) fun κ46 =>
  bd (P_X4_unsewnCount κ46 a1) fun y48 =>
  P_X1_findByQueue_15 a0 a1 y48 4000 κ46 0 0
def P_X1_bothWaysAgree_19 (a0 : Nat) (v2 : Int32) : Nat → jKt → Int32 → Option (Int32 × jKt)
  | 0, _, _ => none
  | n + 1, κ, v3 =>
    if v2 ≤ v3 then
  some (1, κ)
  else
  ck (jin v3 16) <|
  ck (jin v3 16) <|
  if (kI κ (kR κ a0 0) (ix v3)) = (kI κ (kR κ a0 1) (ix v3)) then
  P_X1_bothWaysAgree_19 a0 v2 n κ (v3 + 1)
  else
  some (0, κ)
def P_X1_bothWaysAgree (κ : jKt) (a0 : Nat) (a1 : Nat) : Option (Int32 × jKt) :=
  bd2 (P_X1_findByScan κ a0 a1) fun y34 κ35 =>
  bd2 (P_X1_findByQueue κ35 a0 a1) fun y37 κ38 =>
  if y37 = y34 then
  P_X1_bothWaysAgree_19 a0 y34 4000 κ38 0
  else
  some (0, κ38)
set_option maxRecDepth 20000 in
theorem w_X3_lowerChildOf_0 {F : jFm} (C : jB F RX3 cX3_lowerChildOf 3 (some .int) 0 0 0 0) {κ : jKt} {a0 : Nat} (ha0 : jSof F a0 = (1, 7, 2)) {x1 : Int32} {r : Int32} (hq : jOut F (some (.int r)) κ) (h : P_X3_lowerChildOf κ a0 x1 = some r) : jW F 3 0 0 κ 0 [(0, .ref a0), (1, .int x1)] [] := by
  unfold P_X3_lowerChildOf at h
  refine r_iconst C.1 2 rfl 1 rfl dX3_lowerChildOf_0 ?_
  refine r_iload_n C.1 1 2 rfl dX3_lowerChildOf_1 rfl ?_
  refine r_imul C.1 3 rfl dX3_lowerChildOf_2 ?_
  refine r_iconst C.1 1 rfl 4 rfl dX3_lowerChildOf_3 ?_
  refine r_iadd C.1 5 rfl dX3_lowerChildOf_4 ?_
  refine r_istore_n C.1 (lv' := [(0, .ref a0), (1, .int x1), (2, .int ((2 * x1) + 1))]) [1, 2, 0] 6 rfl dX3_lowerChildOf_5 (Nat.le_of_ble_eq_true rfl) rfl ?_
  refine r_iload_n C.1 2 7 rfl dX3_lowerChildOf_6 rfl ?_
  refine r_iconst C.1 1 rfl 8 rfl dX3_lowerChildOf_7 ?_
  refine r_iadd C.1 9 rfl dX3_lowerChildOf_8 ?_
  refine r_aload_n C.1 0 10 rfl dX3_lowerChildOf_9 rfl ?_
  refine r_getI C.1 1 fl_X3_15 rfl ha0 13 rfl dX3_lowerChildOf_10 ?_
  refine r_icmp_ge C.1 39 16 rfl dX3_lowerChildOf_13 rfl ⟨fun c13 => ?_, fun c13 => ?_⟩
  · have h := if_some_t c13 h
    refine r_iload_n C.1 2 40 rfl dX3_lowerChildOf_39 rfl ?_
    cases h
    exact r_zret C rfl rfl (Nat.le_of_ble_eq_true rfl) (Nat.le_of_ble_eq_true rfl) dX3_lowerChildOf_40 hq
  · have h := if_some_f c13 h
    refine r_aload_n C.1 0 17 rfl dX3_lowerChildOf_16 rfl ?_
    refine r_getR C.1 0 fl_X3_9 rfl ha0 20 rfl dX3_lowerChildOf_17 (fun (h14 : jSof F (kR κ a0 0) = (2, 0, 16)) => ?_)
    refine r_iload_n C.1 2 21 rfl dX3_lowerChildOf_20 rfl ?_
    refine r_iconst C.1 1 rfl 22 rfl dX3_lowerChildOf_21 ?_
    refine r_iadd C.1 23 rfl dX3_lowerChildOf_22 ?_
    obtain ⟨i15, h⟩ := ck_some h
    refine r_iald C.1 h14 i15 24 rfl dX3_lowerChildOf_23 ?_
    refine r_aload_n C.1 0 25 rfl dX3_lowerChildOf_24 rfl ?_
    refine r_getR C.1 0 fl_X3_9 rfl ha0 28 rfl dX3_lowerChildOf_25 (fun (h16 : jSof F (kR κ a0 0) = (2, 0, 16)) => ?_)
    refine r_iload_n C.1 2 29 rfl dX3_lowerChildOf_28 rfl ?_
    obtain ⟨i17, h⟩ := ck_some h
    refine r_iald C.1 h16 i17 30 rfl dX3_lowerChildOf_29 ?_
    refine r_icmp_ge C.1 39 33 rfl dX3_lowerChildOf_30 rfl ⟨fun c18 => ?_, fun c18 => ?_⟩
    · have h := if_some_t c18 h
      refine r_iload_n C.1 2 40 rfl dX3_lowerChildOf_39 rfl ?_
      cases h
      exact r_zret C rfl rfl (Nat.le_of_ble_eq_true rfl) (Nat.le_of_ble_eq_true rfl) dX3_lowerChildOf_40 hq
    · have h := if_some_f c18 h
      refine r_iload_n C.1 2 34 rfl dX3_lowerChildOf_33 rfl ?_
      refine r_iconst C.1 1 rfl 35 rfl dX3_lowerChildOf_34 ?_
      refine r_iadd C.1 36 rfl dX3_lowerChildOf_35 ?_
      refine r_goto C.1 40 dX3_lowerChildOf_36 rfl ?_
      cases h
      exact r_zret C rfl rfl (Nat.le_of_ble_eq_true rfl) (Nat.le_of_ble_eq_true rfl) dX3_lowerChildOf_40 hq
theorem c_X3_lowerChildOf {l : Launch} {G : jG} {sh : jSh} {κ : jKt} {a0 : Nat} (ha0 : sh a0 = (1, 7, 2)) {x1 : Int32} {r : Int32} (h : P_X3_lowerChildOf κ a0 x1 = some r) : jM l G yX3_lowerChildOf cX3_lowerChildOf 3 (some .int) 0 0 0 0 [.ref a0, .int x1] (sh, κ) (jIs (some (.int r)) (sh, κ)) jNo :=
  r_body (by decide) (Nat.le_of_ble_eq_true rfl) fun F C hl hG hs ho hx => by
    subst hs
    exact w_X3_lowerChildOf_0 C ha0 (by rw [ho]; exact ⟨rfl, rfl⟩) h
set_option maxRecDepth 20000 in
theorem w_X3_swapIfLower_0 {F : jFm} (C : jB F RX3 cX3_swapIfLower 4 none 0 0 0 0) {κ : jKt} {a0 : Nat} (ha0 : jSof F a0 = (1, 7, 2)) {x1 : Int32} {x2 : Int32} {r : jKt} (hq : jOut F none r) (h : P_X3_swapIfLower κ a0 x1 x2 = some r) : jW F 4 0 0 κ 0 [(0, .ref a0), (1, .int x1), (2, .int x2)] [] := by
  unfold P_X3_swapIfLower at h
  refine r_aload_n C.1 0 1 rfl dX3_swapIfLower_0 rfl ?_
  refine r_getR C.1 0 fl_X3_9 rfl ha0 4 rfl dX3_swapIfLower_1 (fun (h39 : jSof F (kR κ a0 0) = (2, 0, 16)) => ?_)
  refine r_iload_n C.1 1 5 rfl dX3_swapIfLower_4 rfl ?_
  obtain ⟨i40, h⟩ := ck_some h
  refine r_iald C.1 h39 i40 6 rfl dX3_swapIfLower_5 ?_
  refine r_aload_n C.1 0 7 rfl dX3_swapIfLower_6 rfl ?_
  refine r_getR C.1 0 fl_X3_9 rfl ha0 10 rfl dX3_swapIfLower_7 (fun (h41 : jSof F (kR κ a0 0) = (2, 0, 16)) => ?_)
  refine r_iload_n C.1 2 11 rfl dX3_swapIfLower_10 rfl ?_
  obtain ⟨i42, h⟩ := ck_some h
  refine r_iald C.1 h41 i42 12 rfl dX3_swapIfLower_11 ?_
  refine r_icmp_ge C.1 41 15 rfl dX3_swapIfLower_12 rfl ⟨fun c43 => ?_, fun c43 => ?_⟩
  · have h := if_some_t c43 h
    cases h
    exact r_vret C rfl (Nat.le_of_ble_eq_true rfl) (Nat.le_of_ble_eq_true rfl) dX3_swapIfLower_41 hq
  · have h := if_some_f c43 h
    refine r_aload_n C.1 0 16 rfl dX3_swapIfLower_15 rfl ?_
    refine r_getR C.1 0 fl_X3_9 rfl ha0 19 rfl dX3_swapIfLower_16 (fun (h44 : jSof F (kR κ a0 0) = (2, 0, 16)) => ?_)
    refine r_iload_n C.1 1 20 rfl dX3_swapIfLower_19 rfl ?_
    obtain ⟨i45, h⟩ := ck_some h
    refine r_iald C.1 h44 i45 21 rfl dX3_swapIfLower_20 ?_
    obtain ⟨y46, e47, h⟩ := bnd_some h
    refine r_top e47 ?_
    refine r_istore_n C.1 (lv' := [(0, .ref a0), (1, .int x1), (2, .int x2), (3, .int y46)]) [1, 2, 3, 0] 22 rfl dX3_swapIfLower_21 (Nat.le_of_ble_eq_true rfl) rfl ?_
    refine r_aload_n C.1 0 23 rfl dX3_swapIfLower_22 rfl ?_
    refine r_getR C.1 0 fl_X3_9 rfl ha0 26 rfl dX3_swapIfLower_23 (fun (h48 : jSof F (kR κ a0 0) = (2, 0, 16)) => ?_)
    refine r_iload_n C.1 1 27 rfl dX3_swapIfLower_26 rfl ?_
    refine r_aload_n C.1 0 28 rfl dX3_swapIfLower_27 rfl ?_
    refine r_getR C.1 0 fl_X3_9 rfl ha0 31 rfl dX3_swapIfLower_28 (fun (h49 : jSof F (kR κ a0 0) = (2, 0, 16)) => ?_)
    refine r_iload_n C.1 2 32 rfl dX3_swapIfLower_31 rfl ?_
    obtain ⟨i50, h⟩ := ck_some h
    refine r_iald C.1 h49 i50 33 rfl dX3_swapIfLower_32 ?_
    obtain ⟨i51, h⟩ := ck_some h
    obtain ⟨κ52, e53, h⟩ := bnd_some h
    refine r_iast C.1 h48 i51 e53 34 rfl dX3_swapIfLower_33 ?_
    refine r_aload_n C.1 0 35 rfl dX3_swapIfLower_34 rfl ?_
    refine r_getR C.1 0 fl_X3_9 rfl ha0 38 rfl dX3_swapIfLower_35 (fun (h54 : jSof F (kR κ52 a0 0) = (2, 0, 16)) => ?_)
    refine r_iload_n C.1 2 39 rfl dX3_swapIfLower_38 rfl ?_
    refine r_iload_n C.1 3 40 rfl dX3_swapIfLower_39 rfl ?_
    obtain ⟨i55, h⟩ := ck_some h
    obtain ⟨κ56, e57, h⟩ := bnd_some h
    refine r_iast C.1 h54 i55 e57 41 rfl dX3_swapIfLower_40 ?_
    cases h
    exact r_vret C rfl (Nat.le_of_ble_eq_true rfl) (Nat.le_of_ble_eq_true rfl) dX3_swapIfLower_41 hq
theorem c_X3_swapIfLower {l : Launch} {G : jG} {sh : jSh} {κ : jKt} {a0 : Nat} (ha0 : sh a0 = (1, 7, 2)) {x1 : Int32} {x2 : Int32}  {κr : jKt} (h : P_X3_swapIfLower κ a0 x1 x2 = some κr) : jM l G yX3_swapIfLower cX3_swapIfLower 4 none 0 0 0 0 [.ref a0, .int x1, .int x2] (sh, κ) (jIs none (sh, κr)) jNo :=
  r_body (by decide) (Nat.le_of_ble_eq_true rfl) fun F C hl hG hs ho hx => by
    subst hs
    exact w_X3_swapIfLower_0 C ha0 (by rw [ho]; exact ⟨rfl, rfl⟩) h
set_option maxRecDepth 20000 in
theorem w_X1_lowestFree_2 {F : jFm} (C : jB F RX1 cX1_lowestFree 4 (some .int) 1 0 0 22) {κ : jKt} {a1 : Nat} (ha1 : jSof F a1 = (1, 8, 8)) {v2 : Int32} {r : Int32} (hq : jOut F (some (.int r)) κ) : ∀ (n : Nat) (v3 : Int32), P_X1_lowestFree_2 κ a1 v2 n v3 = some r → jW F 4 0 0 κ 2 [(1, .ref a1), (2, .int v2), (3, .int v3)] [] := by
  intro n
  induction n with
  | zero => intro v3 h; cases h
  | succ n ih =>
    intro v3 h
    rw [P_X1_lowestFree_2] at h
    refine r_iload_n C.1 2 3 rfl dX1_lowestFree_2 rfl ?_
    refine r_aload_n C.1 0 4 rfl dX1_lowestFree_3 rfl ?_
    refine r_getI C.1 3 fl_X1_41 rfl ha1 7 rfl dX1_lowestFree_4 ?_
    refine r_icmp_ge C.1 35 10 rfl dX1_lowestFree_7 rfl ⟨fun c15 => ?_, fun c15 => ?_⟩
    · have h := if_some_t c15 h
      refine r_iconst C.1 (-1) rfl 36 rfl dX1_lowestFree_35 ?_
      cases h
      exact r_zret C rfl rfl (Nat.le_of_ble_eq_true rfl) (Nat.le_of_ble_eq_true rfl) dX1_lowestFree_36 hq
    · have h := if_some_f c15 h
      refine r_iload_n C.1 1 11 rfl dX1_lowestFree_10 rfl ?_
      refine r_iload_n C.1 2 12 rfl dX1_lowestFree_11 rfl ?_
      obtain ⟨y17, e16, h⟩ := bd_some h
      refine r_cSi C.1 (st := []) (c_X4_contains e16) yv_X4_contains ml_X1_45 rfl ⟨Nat.le_of_ble_eq_true rfl, Nat.le_of_ble_eq_true rfl⟩ ⟨Nat.le_of_ble_eq_true rfl, Nat.le_of_ble_eq_true rfl⟩ (Nat.le_of_ble_eq_true rfl) rfl 0 0 rfl rfl 15 rfl dX1_lowestFree_12 ?_
      refine r_if_ne C.1 29 18 rfl dX1_lowestFree_15 rfl ⟨fun c18 => ?_, fun c18 => ?_⟩
      · have h := if_some_f c18 h
        refine r_iinc C.1 (lv' := [(1, .ref a1), (2, .int v2), (3, .int (v3 + 1))]) 2 [1, 2, 0] 32 rfl dX1_lowestFree_29 rfl (Nat.le_of_ble_eq_true rfl) rfl rfl ?_
        refine r_goto C.1 2 dX1_lowestFree_32 rfl ?_
        exact ih (v3 + 1) h
      · have h := if_some_t c18 h
        refine r_aload_n C.1 0 19 rfl dX1_lowestFree_18 rfl ?_
        refine r_iload_n C.1 2 20 rfl dX1_lowestFree_19 rfl ?_
        refine r_iload_n C.1 1 21 rfl dX1_lowestFree_20 rfl ?_
        obtain ⟨y20, e19, h⟩ := bd_some h
        refine r_cVi C.1 (st := []) (c_X4_isHeldBack ha1 e19) yv_X4_isHeldBack ml_X1_49 rfl ha1 rfl ⟨Nat.le_of_ble_eq_true rfl, Nat.le_of_ble_eq_true rfl⟩ ⟨Nat.le_of_ble_eq_true rfl, Nat.le_of_ble_eq_true rfl⟩ (Nat.le_of_ble_eq_true rfl) rfl 0 0 rfl rfl 24 rfl dX1_lowestFree_21 ?_
        refine r_if_ne C.1 29 27 rfl dX1_lowestFree_24 rfl ⟨fun c21 => ?_, fun c21 => ?_⟩
        · have h := if_some_f c21 h
          refine r_iinc C.1 (lv' := [(1, .ref a1), (2, .int v2), (3, .int (v3 + 1))]) 2 [1, 2, 0] 32 rfl dX1_lowestFree_29 rfl (Nat.le_of_ble_eq_true rfl) rfl rfl ?_
          refine r_goto C.1 2 dX1_lowestFree_32 rfl ?_
          exact ih (v3 + 1) h
        · have h := if_some_t c21 h
          refine r_iload_n C.1 2 28 rfl dX1_lowestFree_27 rfl ?_
          cases h
          exact r_zret C rfl rfl (Nat.le_of_ble_eq_true rfl) (Nat.le_of_ble_eq_true rfl) dX1_lowestFree_28 hq
set_option maxRecDepth 20000 in
theorem w_X1_lowestFree_0 {F : jFm} (C : jB F RX1 cX1_lowestFree 4 (some .int) 1 0 0 22) {κ : jKt} {a0 : Nat} (ha0 : jSof F a0 = (1, 5, 4)) {a1 : Nat} (ha1 : jSof F a1 = (1, 8, 8)) {x2 : Int32} {r : Int32} (hq : jOut F (some (.int r)) κ) (h : P_X1_lowestFree κ a0 a1 x2 = some r) : jW F 4 0 0 κ 0 [(0, .ref a0), (1, .ref a1), (2, .int x2)] [] := by
  unfold P_X1_lowestFree at h
  refine r_iconst C.1 0 rfl 1 rfl dX1_lowestFree_0 ?_
  refine r_istore_n C.1 (lv' := [(0, .ref a0), (1, .ref a1), (2, .int x2), (3, .int 0)]) [1, 2, 3, 0] 2 rfl dX1_lowestFree_1 (Nat.le_of_ble_eq_true rfl) rfl ?_
  refine r_lv [1, 2, 3] rfl ?_
  exact w_X1_lowestFree_2 C ha1 hq 4000 0 h
theorem c_X1_lowestFree {l : Launch} {G : jG} {sh : jSh} {κ : jKt} {a0 : Nat} (ha0 : sh a0 = (1, 5, 4)) {a1 : Nat} (ha1 : sh a1 = (1, 8, 8)) {x2 : Int32} {r : Int32} (h : P_X1_lowestFree κ a0 a1 x2 = some r) : jM l G yX1_lowestFree cX1_lowestFree 4 (some .int) 1 0 0 22 [.ref a0, .ref a1, .int x2] (sh, κ) (jIs (some (.int r)) (sh, κ)) jNo :=
  r_body (by decide) (Nat.le_of_ble_eq_true rfl) fun F C hl hG hs ho hx => by
    subst hs
    exact w_X1_lowestFree_0 C ha0 ha1 (by rw [ho]; exact ⟨rfl, rfl⟩) h
set_option maxRecDepth 20000 in
theorem w_X3_add_37 {F : jFm} (C : jB F RX3 cX3_add 3 none 1 0 0 23) {a0 : Nat} (ha0 : jSof F a0 = (1, 7, 2)) {r : jKt} (hq : jOut F none r) : ∀ (n : Nat) (κ : jKt) (v2 : Int32), P_X3_add_37 a0 n κ v2 = some r → jW F 3 0 0 κ 37 [(0, .ref a0), (2, .int v2)] [] := by
  intro n
  induction n with
  | zero => intro κ v2 h; cases h
  | succ n ih =>
    intro κ v2 h
    rw [P_X3_add_37] at h
    refine r_iload_n C.1 1 38 rfl dX3_add_37 rfl ?_
    refine r_if_le C.1 60 41 rfl dX3_add_38 rfl ⟨fun c25 => ?_, fun c25 => ?_⟩
    · have h := if_some_t c25 h
      cases h
      exact r_vret C rfl (Nat.le_of_ble_eq_true rfl) (Nat.le_of_ble_eq_true rfl) dX3_add_60 hq
    · have h := if_some_f c25 h
      refine r_aload_n C.1 0 42 rfl dX3_add_41 rfl ?_
      refine r_iload_n C.1 1 43 rfl dX3_add_42 rfl ?_
      refine r_iload_n C.1 1 44 rfl dX3_add_43 rfl ?_
      refine r_iconst C.1 1 rfl 45 rfl dX3_add_44 ?_
      refine r_isub C.1 46 rfl dX3_add_45 ?_
      refine r_iconst C.1 2 rfl 47 rfl dX3_add_46 ?_
      refine r_idiv C.1 48 rfl dX3_add_47 (by decide) ?_
      obtain ⟨κ27, e26, h⟩ := bd_some h
      refine r_cVv C.1 (st := []) (c_X3_swapIfLower ha0 e26) yv_X3_swapIfLower ml_X3_19 rfl ha0 rfl ⟨Nat.le_of_ble_eq_true rfl, Nat.le_of_ble_eq_true rfl⟩ ⟨Nat.le_of_ble_eq_true rfl, Nat.le_of_ble_eq_true rfl⟩ (Nat.le_of_ble_eq_true rfl) rfl 0 0 rfl rfl 51 rfl dX3_add_48 ?_
      refine r_iload_n C.1 1 52 rfl dX3_add_51 rfl ?_
      refine r_iconst C.1 1 rfl 53 rfl dX3_add_52 ?_
      refine r_isub C.1 54 rfl dX3_add_53 ?_
      refine r_iconst C.1 2 rfl 55 rfl dX3_add_54 ?_
      refine r_idiv C.1 56 rfl dX3_add_55 (by decide) ?_
      refine r_istore_n C.1 (lv' := [(0, .ref a0), (2, .int ((v2 - 1) / 2))]) [1, 0] 57 rfl dX3_add_56 (Nat.le_of_ble_eq_true rfl) rfl ?_
      refine r_goto C.1 37 dX3_add_57 rfl ?_
      exact ih κ27 ((v2 - 1) / 2) h
set_option maxRecDepth 20000 in
theorem w_X3_add_0 {F : jFm} (C : jB F RX3 cX3_add 3 none 1 0 0 23) {κ : jKt} {a0 : Nat} (ha0 : jSof F a0 = (1, 7, 2)) {x1 : Int32} {r : jKt} (hq : jOut F none r) (h : P_X3_add κ a0 x1 = some r) : jW F 3 0 0 κ 0 [(0, .ref a0), (1, .int x1)] [] := by
  unfold P_X3_add at h
  refine r_aload_n C.1 0 1 rfl dX3_add_0 rfl ?_
  refine r_getI C.1 1 fl_X3_15 rfl ha0 4 rfl dX3_add_1 ?_
  refine r_bipush C.1 16 rfl 6 rfl dX3_add_4 ?_
  refine r_icmp_ne C.1 10 9 rfl dX3_add_6 rfl ⟨fun c28 => ?_, fun c28 => ?_⟩
  · have h := if_some_f c28 h
    refine r_aload_n C.1 0 11 rfl dX3_add_10 rfl ?_
    refine r_getR C.1 0 fl_X3_9 rfl ha0 14 rfl dX3_add_11 (fun (h29 : jSof F (kR κ a0 0) = (2, 0, 16)) => ?_)
    refine r_aload_n C.1 0 15 rfl dX3_add_14 rfl ?_
    refine r_getI C.1 1 fl_X3_15 rfl ha0 18 rfl dX3_add_15 ?_
    refine r_iload_n C.1 1 19 rfl dX3_add_18 rfl ?_
    obtain ⟨i30, h⟩ := ck_some h
    obtain ⟨κ31, e32, h⟩ := bnd_some h
    refine r_iast C.1 h29 i30 e32 20 rfl dX3_add_19 ?_
    refine r_aload_n C.1 0 21 rfl dX3_add_20 rfl ?_
    refine r_dup C.1 rfl 22 rfl dX3_add_21 ?_
    refine r_getI C.1 1 fl_X3_15 rfl ha0 25 rfl dX3_add_22 ?_
    refine r_iconst C.1 1 rfl 26 rfl dX3_add_25 ?_
    refine r_iadd C.1 27 rfl dX3_add_26 ?_
    obtain ⟨κ33, e34, h⟩ := bnd_some h
    refine r_putI C.1 1 fw_X3_15 rfl rfl rfl ha0 e34 30 rfl dX3_add_27 ?_
    refine r_aload_n C.1 0 31 rfl dX3_add_30 rfl ?_
    refine r_getI C.1 1 fl_X3_15 rfl ha0 34 rfl dX3_add_31 ?_
    refine r_iconst C.1 1 rfl 35 rfl dX3_add_34 ?_
    refine r_isub C.1 36 rfl dX3_add_35 ?_
    obtain ⟨y35, e36, h⟩ := bnd_some h
    refine r_top e36 ?_
    refine r_istore_n C.1 (lv' := [(0, .ref a0), (1, .int x1), (2, .int y35)]) [1, 2, 0] 37 rfl dX3_add_36 (Nat.le_of_ble_eq_true rfl) rfl ?_
    refine r_lv [0, 2] rfl ?_
    exact w_X3_add_37 C ha0 hq 4000 κ33 y35 h
  · have h := if_some_t c28 h
    cases h
    exact r_vret C rfl (Nat.le_of_ble_eq_true rfl) (Nat.le_of_ble_eq_true rfl) dX3_add_9 hq
theorem c_X3_add {l : Launch} {G : jG} {sh : jSh} {κ : jKt} {a0 : Nat} (ha0 : sh a0 = (1, 7, 2)) {x1 : Int32}  {κr : jKt} (h : P_X3_add κ a0 x1 = some κr) : jM l G yX3_add cX3_add 3 none 1 0 0 23 [.ref a0, .int x1] (sh, κ) (jIs none (sh, κr)) jNo :=
  r_body (by decide) (Nat.le_of_ble_eq_true rfl) fun F C hl hG hs ho hx => by
    subst hs
    exact w_X3_add_0 C ha0 (by rw [ho]; exact ⟨rfl, rfl⟩) h
set_option maxRecDepth 20000 in
theorem w_X3_sinkTop_4 {F : jFm} (C : jB F RX3 cX3_sinkTop 4 none 1 0 0 23) {a0 : Nat} (ha0 : jSof F a0 = (1, 7, 2)) {r : jKt} (hq : jOut F none r) : ∀ (n : Nat) (κ : jKt) (v1 : Int32) (v2 : Int32), P_X3_sinkTop_4 a0 n κ v1 v2 = some r → jW F 4 0 0 κ 4 [(0, .ref a0), (1, .int v1), (2, .int v2)] [] := by
  intro n
  induction n with
  | zero => intro κ v1 v2 h; cases h
  | succ n ih =>
    intro κ v1 v2 h
    rw [P_X3_sinkTop_4] at h
    refine r_iload_n C.1 2 5 rfl dX3_sinkTop_4 rfl ?_
    refine r_aload_n C.1 0 6 rfl dX3_sinkTop_5 rfl ?_
    refine r_getI C.1 1 fl_X3_15 rfl ha0 9 rfl dX3_sinkTop_6 ?_
    refine r_icmp_ge C.1 44 12 rfl dX3_sinkTop_9 rfl ⟨fun c13 => ?_, fun c13 => ?_⟩
    · have h := if_some_t c13 h
      cases h
      exact r_vret C rfl (Nat.le_of_ble_eq_true rfl) (Nat.le_of_ble_eq_true rfl) dX3_sinkTop_44 hq
    · have h := if_some_f c13 h
      refine r_iconst C.1 2 rfl 13 rfl dX3_sinkTop_12 ?_
      refine r_iload_n C.1 1 14 rfl dX3_sinkTop_13 rfl ?_
      refine r_imul C.1 15 rfl dX3_sinkTop_14 ?_
      refine r_iconst C.1 1 rfl 16 rfl dX3_sinkTop_15 ?_
      refine r_iadd C.1 17 rfl dX3_sinkTop_16 ?_
      refine r_aload_n C.1 0 18 rfl dX3_sinkTop_17 rfl ?_
      refine r_getI C.1 1 fl_X3_15 rfl ha0 21 rfl dX3_sinkTop_18 ?_
      refine r_icmp_ge C.1 44 24 rfl dX3_sinkTop_21 rfl ⟨fun c14 => ?_, fun c14 => ?_⟩
      · have h := if_some_t c14 h
        cases h
        exact r_vret C rfl (Nat.le_of_ble_eq_true rfl) (Nat.le_of_ble_eq_true rfl) dX3_sinkTop_44 hq
      · have h := if_some_f c14 h
        refine r_aload_n C.1 0 25 rfl dX3_sinkTop_24 rfl ?_
        refine r_iload_n C.1 1 26 rfl dX3_sinkTop_25 rfl ?_
        obtain ⟨y16, e15, h⟩ := bd_some h
        refine r_cVi C.1 (st := []) (c_X3_lowerChildOf ha0 e15) yv_X3_lowerChildOf ml_X3_26 rfl ha0 rfl ⟨Nat.le_of_ble_eq_true rfl, Nat.le_of_ble_eq_true rfl⟩ ⟨Nat.le_of_ble_eq_true rfl, Nat.le_of_ble_eq_true rfl⟩ (Nat.le_of_ble_eq_true rfl) rfl 0 0 rfl rfl 29 rfl dX3_sinkTop_26 ?_
        refine r_istore_n C.1 (lv' := [(0, .ref a0), (1, .int v1), (2, .int v2), (3, .int y16)]) [1, 2, 3, 0] 30 rfl dX3_sinkTop_29 (Nat.le_of_ble_eq_true rfl) rfl ?_
        refine r_aload_n C.1 0 31 rfl dX3_sinkTop_30 rfl ?_
        refine r_iload_n C.1 3 32 rfl dX3_sinkTop_31 rfl ?_
        refine r_iload_n C.1 1 33 rfl dX3_sinkTop_32 rfl ?_
        obtain ⟨κ18, e17, h⟩ := bd_some h
        refine r_cVv C.1 (st := []) (c_X3_swapIfLower ha0 e17) yv_X3_swapIfLower ml_X3_19 rfl ha0 rfl ⟨Nat.le_of_ble_eq_true rfl, Nat.le_of_ble_eq_true rfl⟩ ⟨Nat.le_of_ble_eq_true rfl, Nat.le_of_ble_eq_true rfl⟩ (Nat.le_of_ble_eq_true rfl) rfl 0 0 rfl rfl 36 rfl dX3_sinkTop_33 ?_
        refine r_iload_n C.1 3 37 rfl dX3_sinkTop_36 rfl ?_
        refine r_istore_n C.1 (lv' := [(0, .ref a0), (1, .int y16), (2, .int v2), (3, .int y16)]) [1, 0, 2, 3] 38 rfl dX3_sinkTop_37 (Nat.le_of_ble_eq_true rfl) rfl ?_
        refine r_iinc C.1 (lv' := [(0, .ref a0), (1, .int y16), (2, .int (v2 + 1)), (3, .int y16)]) 2 [1, 2, 0, 3] 41 rfl dX3_sinkTop_38 rfl (Nat.le_of_ble_eq_true rfl) rfl rfl ?_
        refine r_goto C.1 4 dX3_sinkTop_41 rfl ?_
        refine r_lv [0, 1, 2] rfl ?_
        exact ih κ18 y16 (v2 + 1) h
set_option maxRecDepth 20000 in
theorem w_X3_sinkTop_0 {F : jFm} (C : jB F RX3 cX3_sinkTop 4 none 1 0 0 23) {κ : jKt} {a0 : Nat} (ha0 : jSof F a0 = (1, 7, 2)) {r : jKt} (hq : jOut F none r) (h : P_X3_sinkTop κ a0 = some r) : jW F 4 0 0 κ 0 [(0, .ref a0)] [] := by
  unfold P_X3_sinkTop at h
  refine r_iconst C.1 0 rfl 1 rfl dX3_sinkTop_0 ?_
  refine r_istore_n C.1 (lv' := [(0, .ref a0), (1, .int 0)]) [1, 0] 2 rfl dX3_sinkTop_1 (Nat.le_of_ble_eq_true rfl) rfl ?_
  refine r_iconst C.1 0 rfl 3 rfl dX3_sinkTop_2 ?_
  refine r_istore_n C.1 (lv' := [(0, .ref a0), (1, .int 0), (2, .int 0)]) [1, 2, 0] 4 rfl dX3_sinkTop_3 (Nat.le_of_ble_eq_true rfl) rfl ?_
  exact w_X3_sinkTop_4 C ha0 hq 4000 κ 0 0 h
theorem c_X3_sinkTop {l : Launch} {G : jG} {sh : jSh} {κ : jKt} {a0 : Nat} (ha0 : sh a0 = (1, 7, 2))  {κr : jKt} (h : P_X3_sinkTop κ a0 = some κr) : jM l G yX3_sinkTop cX3_sinkTop 4 none 1 0 0 23 [.ref a0] (sh, κ) (jIs none (sh, κr)) jNo :=
  r_body (by decide) (Nat.le_of_ble_eq_true rfl) fun F C hl hG hs ho hx => by
    subst hs
    exact w_X3_sinkTop_0 C ha0 (by rw [ho]; exact ⟨rfl, rfl⟩) h
set_option maxRecDepth 20000 in
theorem w_X1_findByScan_16 {F : jFm} (C : jB F RX1 cX1_findByScan 7 (some .int) 2 0 0 45) {a0 : Nat} (ha0 : jSof F a0 = (1, 5, 4)) {a1 : Nat} (ha1 : jSof F a1 = (1, 8, 8)) {v3 : Int32} {r : Int32 × jKt} (hq : jOut F (some (.int r.1)) r.2) : ∀ (n : Nat) (κ : jKt) (v2 : Int32) (v4 : Int32) (v5 : Int32), P_X1_findByScan_16 a0 a1 v3 n κ v2 v4 v5 = some r → jW F 7 0 0 κ 16 [(0, .ref a0), (1, .ref a1), (2, .int v2), (3, .int v3), (4, .int v4), (5, .int v5)] [] := by
  intro n
  induction n with
  | zero => intro κ v2 v4 v5 h; cases h
  | succ n ih =>
    intro κ v2 v4 v5 h
    rw [P_X1_findByScan_16] at h
    refine r_iload C.1 5 18 rfl dX1_findByScan_16 rfl ?_
    refine r_iload_n C.1 3 19 rfl dX1_findByScan_18 rfl ?_
    refine r_icmp_ge C.1 64 22 rfl dX1_findByScan_19 rfl ⟨fun c25 => ?_, fun c25 => ?_⟩
    · have h := if_some_t c25 h
      refine r_iload C.1 4 66 rfl dX1_findByScan_64 rfl ?_
      cases h
      exact r_zret C rfl rfl (Nat.le_of_ble_eq_true rfl) (Nat.le_of_ble_eq_true rfl) dX1_findByScan_66 hq
    · have h := if_some_f c25 h
      refine r_aload_n C.1 0 23 rfl dX1_findByScan_22 rfl ?_
      refine r_aload_n C.1 1 24 rfl dX1_findByScan_23 rfl ?_
      refine r_iload_n C.1 2 25 rfl dX1_findByScan_24 rfl ?_
      obtain ⟨y27, e26, h⟩ := bd_some h
      refine r_cVi C.1 (st := []) (c_X1_lowestFree ha0 ha1 e26) yv_X1_lowestFree ml_X1_37 rfl ha0 rfl ⟨Nat.le_of_ble_eq_true rfl, Nat.le_of_ble_eq_true rfl⟩ ⟨Nat.le_of_ble_eq_true rfl, Nat.le_of_ble_eq_true rfl⟩ (Nat.le_of_ble_eq_true rfl) rfl 0 0 rfl rfl 28 rfl dX1_findByScan_25 ?_
      refine r_istore C.1 (lv' := [(0, .ref a0), (1, .ref a1), (2, .int v2), (3, .int v3), (4, .int v4), (5, .int v5), (6, .int y27)]) [1, 2, 3, 4, 5, 6, 0] 30 rfl dX1_findByScan_28 (Nat.le_of_ble_eq_true rfl) rfl ?_
      refine r_iload C.1 6 32 rfl dX1_findByScan_30 rfl ?_
      refine r_iconst C.1 (-1) rfl 33 rfl dX1_findByScan_32 ?_
      refine r_icmp_ne C.1 39 36 rfl dX1_findByScan_33 rfl ⟨fun c28 => ?_, fun c28 => ?_⟩
      · have h := if_some_f c28 h
        refine r_aload_n C.1 0 40 rfl dX1_findByScan_39 rfl ?_
        refine r_getR C.1 0 fl_X1_9 rfl ha0 43 rfl dX1_findByScan_40 (fun (h29 : jSof F (kR κ a0 0) = (2, 0, 16)) => ?_)
        refine r_iload C.1 4 45 rfl dX1_findByScan_43 rfl ?_
        refine r_iload C.1 6 47 rfl dX1_findByScan_45 rfl ?_
        obtain ⟨i30, h⟩ := ck_some h
        obtain ⟨κ31, e32, h⟩ := bnd_some h
        refine r_iast C.1 h29 i30 e32 48 rfl dX1_findByScan_47 ?_
        refine r_iinc C.1 (lv' := [(0, .ref a0), (1, .ref a1), (2, .int v2), (3, .int v3), (4, .int (v4 + 1)), (5, .int v5), (6, .int y27)]) 4 [1, 2, 3, 4, 0, 5, 6] 51 rfl dX1_findByScan_48 rfl (Nat.le_of_ble_eq_true rfl) rfl rfl ?_
        refine r_iload_n C.1 2 52 rfl dX1_findByScan_51 rfl ?_
        refine r_iconst C.1 1 rfl 53 rfl dX1_findByScan_52 ?_
        refine r_iload C.1 6 55 rfl dX1_findByScan_53 rfl ?_
        refine r_ishl C.1 56 rfl dX1_findByScan_55 ?_
        refine r_ior C.1 57 rfl dX1_findByScan_56 ?_
        refine r_istore_n C.1 (lv' := [(0, .ref a0), (1, .ref a1), (2, .int (v2 ||| (1 <<< (y27 &&& 31)))), (3, .int v3), (4, .int (v4 + 1)), (5, .int v5), (6, .int y27)]) [1, 2, 0, 3, 4, 5, 6] 58 rfl dX1_findByScan_57 (Nat.le_of_ble_eq_true rfl) rfl ?_
        refine r_iinc C.1 (lv' := [(0, .ref a0), (1, .ref a1), (2, .int (v2 ||| (1 <<< (y27 &&& 31)))), (3, .int v3), (4, .int (v4 + 1)), (5, .int (v5 + 1)), (6, .int y27)]) 5 [1, 2, 3, 4, 5, 0, 6] 61 rfl dX1_findByScan_58 rfl (Nat.le_of_ble_eq_true rfl) rfl rfl ?_
        refine r_goto C.1 16 dX1_findByScan_61 rfl ?_
        refine r_lv [0, 1, 2, 3, 4, 5] rfl ?_
        exact ih κ31 (v2 ||| (1 <<< (y27 &&& 31))) (v4 + 1) (v5 + 1) h
      · have h := if_some_t c28 h
        refine r_iload C.1 4 38 rfl dX1_findByScan_36 rfl ?_
        cases h
        exact r_zret C rfl rfl (Nat.le_of_ble_eq_true rfl) (Nat.le_of_ble_eq_true rfl) dX1_findByScan_38 hq
set_option maxRecDepth 20000 in
theorem w_X1_findByScan_0 {F : jFm} (C : jB F RX1 cX1_findByScan 7 (some .int) 2 0 0 45) {κ : jKt} {a0 : Nat} (ha0 : jSof F a0 = (1, 5, 4)) {a1 : Nat} (ha1 : jSof F a1 = (1, 8, 8)) {r : Int32 × jKt} (hq : jOut F (some (.int r.1)) r.2) (h : P_X1_findByScan κ a0 a1 = some r) : jW F 7 0 0 κ 0 [(0, .ref a0), (1, .ref a1)] [] := by
  unfold P_X1_findByScan at h
  refine r_aload_n C.1 1 1 rfl dX1_findByScan_0 rfl ?_
  obtain ⟨y34, e33, h⟩ := bd_some h
  refine r_cVi C.1 (st := []) (c_X4_sewnSet ha1 e33) yv_X4_sewnSet ml_X1_28 rfl ha1 rfl ⟨Nat.le_of_ble_eq_true rfl, Nat.le_of_ble_eq_true rfl⟩ ⟨Nat.le_of_ble_eq_true rfl, Nat.le_of_ble_eq_true rfl⟩ (Nat.le_of_ble_eq_true rfl) rfl 0 0 rfl rfl 4 rfl dX1_findByScan_1 ?_
  refine r_istore_n C.1 (lv' := [(0, .ref a0), (1, .ref a1), (2, .int y34)]) [1, 2, 0] 5 rfl dX1_findByScan_4 (Nat.le_of_ble_eq_true rfl) rfl ?_
  refine r_aload_n C.1 1 6 rfl dX1_findByScan_5 rfl ?_
  obtain ⟨y36, e35, h⟩ := bd_some h
  refine r_cVi C.1 (st := []) (c_X4_unsewnCount ha1 e35) yv_X4_unsewnCount ml_X1_34 rfl ha1 rfl ⟨Nat.le_of_ble_eq_true rfl, Nat.le_of_ble_eq_true rfl⟩ ⟨Nat.le_of_ble_eq_true rfl, Nat.le_of_ble_eq_true rfl⟩ (Nat.le_of_ble_eq_true rfl) rfl 0 0 rfl rfl 9 rfl dX1_findByScan_6 ?_
  refine r_istore_n C.1 (lv' := [(0, .ref a0), (1, .ref a1), (2, .int y34), (3, .int y36)]) [1, 2, 3, 0] 10 rfl dX1_findByScan_9 (Nat.le_of_ble_eq_true rfl) rfl ?_
  refine r_iconst C.1 0 rfl 11 rfl dX1_findByScan_10 ?_
  refine r_istore C.1 (lv' := [(0, .ref a0), (1, .ref a1), (2, .int y34), (3, .int y36), (4, .int 0)]) [1, 2, 3, 4, 0] 13 rfl dX1_findByScan_11 (Nat.le_of_ble_eq_true rfl) rfl ?_
  refine r_iconst C.1 0 rfl 14 rfl dX1_findByScan_13 ?_
  refine r_istore C.1 (lv' := [(0, .ref a0), (1, .ref a1), (2, .int y34), (3, .int y36), (4, .int 0), (5, .int 0)]) [1, 2, 3, 4, 5, 0] 16 rfl dX1_findByScan_14 (Nat.le_of_ble_eq_true rfl) rfl ?_
  exact w_X1_findByScan_16 C ha0 ha1 hq 4000 κ y34 0 0 h
theorem c_X1_findByScan {l : Launch} {G : jG} {sh : jSh} {κ : jKt} {a0 : Nat} (ha0 : sh a0 = (1, 5, 4)) {a1 : Nat} (ha1 : sh a1 = (1, 8, 8)) {r : Int32} {κr : jKt} (h : P_X1_findByScan κ a0 a1 = some (r, κr)) : jM l G yX1_findByScan cX1_findByScan 7 (some .int) 2 0 0 45 [.ref a0, .ref a1] (sh, κ) (jIs (some (.int r)) (sh, κr)) jNo :=
  r_body (by decide) (Nat.le_of_ble_eq_true rfl) fun F C hl hG hs ho hx => by
    subst hs
    exact w_X1_findByScan_0 C ha0 ha1 (by rw [ho]; exact ⟨rfl, rfl⟩) h
set_option maxRecDepth 20000 in
theorem w_X1_queueFreeSleeves_15 {F : jFm} (C : jB F RX1 cX1_queueFreeSleeves 4 none 2 0 0 45) {a0 : Nat} (ha0 : jSof F a0 = (1, 5, 4)) {a1 : Nat} (ha1 : jSof F a1 = (1, 8, 8)) {v2 : Int32} {r : jKt} (hq : jOut F none r) : ∀ (n : Nat) (κ : jKt) (v3 : Int32), P_X1_queueFreeSleeves_15 a0 a1 v2 n κ v3 = some r → jW F 4 0 0 κ 15 [(0, .ref a0), (1, .ref a1), (2, .int v2), (3, .int v3)] [] := by
  intro n
  induction n with
  | zero => intro κ v3 h; cases h
  | succ n ih =>
    intro κ v3 h
    rw [P_X1_queueFreeSleeves_15] at h
    refine r_iload_n C.1 3 16 rfl dX1_queueFreeSleeves_15 rfl ?_
    refine r_aload_n C.1 1 17 rfl dX1_queueFreeSleeves_16 rfl ?_
    refine r_getI C.1 3 fl_X1_41 rfl ha1 20 rfl dX1_queueFreeSleeves_17 ?_
    refine r_icmp_ge C.1 73 23 rfl dX1_queueFreeSleeves_20 rfl ⟨fun c47 => ?_, fun c47 => ?_⟩
    · have h := if_some_t c47 h
      cases h
      exact r_vret C rfl (Nat.le_of_ble_eq_true rfl) (Nat.le_of_ble_eq_true rfl) dX1_queueFreeSleeves_73 hq
    · have h := if_some_f c47 h
      refine r_aload_n C.1 0 24 rfl dX1_queueFreeSleeves_23 rfl ?_
      refine r_getR C.1 2 fl_X1_18 rfl ha0 27 rfl dX1_queueFreeSleeves_24 (fun (h48 : jSof F (kR κ a0 2) = (2, 0, 16)) => ?_)
      refine r_iload_n C.1 3 28 rfl dX1_queueFreeSleeves_27 rfl ?_
      refine r_aload_n C.1 1 29 rfl dX1_queueFreeSleeves_28 rfl ?_
      refine r_getR C.1 7 fl_X1_66 rfl ha1 32 rfl dX1_queueFreeSleeves_29 (fun (h49 : jSof F (kR κ a1 7) = (2, 0, 16)) => ?_)
      refine r_iload_n C.1 3 33 rfl dX1_queueFreeSleeves_32 rfl ?_
      obtain ⟨i50, h⟩ := ck_some h
      refine r_iald C.1 h49 i50 34 rfl dX1_queueFreeSleeves_33 ?_
      refine r_iload_n C.1 2 35 rfl dX1_queueFreeSleeves_34 rfl ?_
      refine r_iconst C.1 (-1) rfl 36 rfl dX1_queueFreeSleeves_35 ?_
      refine r_ixor C.1 37 rfl dX1_queueFreeSleeves_36 ?_
      refine r_iand C.1 38 rfl dX1_queueFreeSleeves_37 ?_
      obtain ⟨y52, e51, h⟩ := bd_some h
      refine r_cSi C.1 (st := [.int v3, .ref (kR κ a0 2)]) (c_J6_bitCount_0f7a4 e51) yv_J6_bitCount_0f7a4 ml_X1_69 rfl ⟨Nat.le_of_ble_eq_true rfl, Nat.le_of_ble_eq_true rfl⟩ ⟨Nat.le_of_ble_eq_true rfl, Nat.le_of_ble_eq_true rfl⟩ (Nat.le_of_ble_eq_true rfl) rfl 0 0 rfl rfl 41 rfl dX1_queueFreeSleeves_38 ?_
      obtain ⟨i53, h⟩ := ck_some h
      obtain ⟨κ54, e55, h⟩ := bnd_some h
      refine r_iast C.1 h48 i53 e55 42 rfl dX1_queueFreeSleeves_41 ?_
      refine r_aload_n C.1 0 43 rfl dX1_queueFreeSleeves_42 rfl ?_
      refine r_getR C.1 2 fl_X1_18 rfl ha0 46 rfl dX1_queueFreeSleeves_43 (fun (h56 : jSof F (kR κ54 a0 2) = (2, 0, 16)) => ?_)
      refine r_iload_n C.1 3 47 rfl dX1_queueFreeSleeves_46 rfl ?_
      obtain ⟨i57, h⟩ := ck_some h
      refine r_iald C.1 h56 i57 48 rfl dX1_queueFreeSleeves_47 ?_
      refine r_if_ne C.1 67 51 rfl dX1_queueFreeSleeves_48 rfl ⟨fun c58 => ?_, fun c58 => ?_⟩
      · have h := if_some_f c58 h
        refine r_iinc C.1 (lv' := [(0, .ref a0), (1, .ref a1), (2, .int v2), (3, .int (v3 + 1))]) 3 [1, 2, 3, 0] 70 rfl dX1_queueFreeSleeves_67 rfl (Nat.le_of_ble_eq_true rfl) rfl rfl ?_
        refine r_goto C.1 15 dX1_queueFreeSleeves_70 rfl ?_
        exact ih κ54 (v3 + 1) h
      · have h := if_some_t c58 h
        refine r_aload_n C.1 1 52 rfl dX1_queueFreeSleeves_51 rfl ?_
        refine r_iload_n C.1 3 53 rfl dX1_queueFreeSleeves_52 rfl ?_
        obtain ⟨y60, e59, h⟩ := bd_some h
        refine r_cVi C.1 (st := []) (c_X4_isSewn ha1 e59) yv_X4_isSewn ml_X1_75 rfl ha1 rfl ⟨Nat.le_of_ble_eq_true rfl, Nat.le_of_ble_eq_true rfl⟩ ⟨Nat.le_of_ble_eq_true rfl, Nat.le_of_ble_eq_true rfl⟩ (Nat.le_of_ble_eq_true rfl) rfl 0 0 rfl rfl 56 rfl dX1_queueFreeSleeves_53 ?_
        refine r_if_ne C.1 67 59 rfl dX1_queueFreeSleeves_56 rfl ⟨fun c61 => ?_, fun c61 => ?_⟩
        · have h := if_some_f c61 h
          refine r_iinc C.1 (lv' := [(0, .ref a0), (1, .ref a1), (2, .int v2), (3, .int (v3 + 1))]) 3 [1, 2, 3, 0] 70 rfl dX1_queueFreeSleeves_67 rfl (Nat.le_of_ble_eq_true rfl) rfl rfl ?_
          refine r_goto C.1 15 dX1_queueFreeSleeves_70 rfl ?_
          exact ih κ54 (v3 + 1) h
        · have h := if_some_t c61 h
          refine r_aload_n C.1 0 60 rfl dX1_queueFreeSleeves_59 rfl ?_
          refine r_getR C.1 3 fl_X1_24 rfl ha0 63 rfl dX1_queueFreeSleeves_60 (fun (h62 : jSof F (kR κ54 a0 3) = (1, 7, 2)) => ?_)
          refine r_iload_n C.1 3 64 rfl dX1_queueFreeSleeves_63 rfl ?_
          obtain ⟨κ64, e63, h⟩ := bd_some h
          refine r_cVv C.1 (st := []) (c_X3_add h62 e63) yv_X3_add ml_X1_79 rfl h62 rfl ⟨Nat.le_of_ble_eq_true rfl, Nat.le_of_ble_eq_true rfl⟩ ⟨Nat.le_of_ble_eq_true rfl, Nat.le_of_ble_eq_true rfl⟩ (Nat.le_of_ble_eq_true rfl) rfl 0 0 rfl rfl 67 rfl dX1_queueFreeSleeves_64 ?_
          refine r_iinc C.1 (lv' := [(0, .ref a0), (1, .ref a1), (2, .int v2), (3, .int (v3 + 1))]) 3 [1, 2, 3, 0] 70 rfl dX1_queueFreeSleeves_67 rfl (Nat.le_of_ble_eq_true rfl) rfl rfl ?_
          refine r_goto C.1 15 dX1_queueFreeSleeves_70 rfl ?_
          exact ih κ64 (v3 + 1) h
set_option maxRecDepth 20000 in
theorem w_X1_queueFreeSleeves_0 {F : jFm} (C : jB F RX1 cX1_queueFreeSleeves 4 none 2 0 0 45) {κ : jKt} {a0 : Nat} (ha0 : jSof F a0 = (1, 5, 4)) {a1 : Nat} (ha1 : jSof F a1 = (1, 8, 8)) {r : jKt} (hq : jOut F none r) (h : P_X1_queueFreeSleeves κ a0 a1 = some r) : jW F 4 0 0 κ 0 [(0, .ref a0), (1, .ref a1)] [] := by
  unfold P_X1_queueFreeSleeves at h
  refine r_aload_n C.1 1 1 rfl dX1_queueFreeSleeves_0 rfl ?_
  obtain ⟨y66, e65, h⟩ := bd_some h
  refine r_cVi C.1 (st := []) (c_X4_sewnSet ha1 e65) yv_X4_sewnSet ml_X1_28 rfl ha1 rfl ⟨Nat.le_of_ble_eq_true rfl, Nat.le_of_ble_eq_true rfl⟩ ⟨Nat.le_of_ble_eq_true rfl, Nat.le_of_ble_eq_true rfl⟩ (Nat.le_of_ble_eq_true rfl) rfl 0 0 rfl rfl 4 rfl dX1_queueFreeSleeves_1 ?_
  refine r_istore_n C.1 (lv' := [(0, .ref a0), (1, .ref a1), (2, .int y66)]) [1, 2, 0] 5 rfl dX1_queueFreeSleeves_4 (Nat.le_of_ble_eq_true rfl) rfl ?_
  refine r_aload_n C.1 0 6 rfl dX1_queueFreeSleeves_5 rfl ?_
  refine r_getR C.1 3 fl_X1_24 rfl ha0 9 rfl dX1_queueFreeSleeves_6 (fun (h67 : jSof F (kR κ a0 3) = (1, 7, 2)) => ?_)
  refine r_iconst C.1 0 rfl 10 rfl dX1_queueFreeSleeves_9 ?_
  obtain ⟨κ68, e69, h⟩ := bnd_some h
  refine r_putI C.1 1 fw_X1_63 rfl rfl rfl h67 e69 13 rfl dX1_queueFreeSleeves_10 ?_
  refine r_iconst C.1 0 rfl 14 rfl dX1_queueFreeSleeves_13 ?_
  refine r_istore_n C.1 (lv' := [(0, .ref a0), (1, .ref a1), (2, .int y66), (3, .int 0)]) [1, 2, 3, 0] 15 rfl dX1_queueFreeSleeves_14 (Nat.le_of_ble_eq_true rfl) rfl ?_
  exact w_X1_queueFreeSleeves_15 C ha0 ha1 hq 4000 κ68 0 h
theorem c_X1_queueFreeSleeves {l : Launch} {G : jG} {sh : jSh} {κ : jKt} {a0 : Nat} (ha0 : sh a0 = (1, 5, 4)) {a1 : Nat} (ha1 : sh a1 = (1, 8, 8))  {κr : jKt} (h : P_X1_queueFreeSleeves κ a0 a1 = some κr) : jM l G yX1_queueFreeSleeves cX1_queueFreeSleeves 4 none 2 0 0 45 [.ref a0, .ref a1] (sh, κ) (jIs none (sh, κr)) jNo :=
  r_body (by decide) (Nat.le_of_ble_eq_true rfl) fun F C hl hG hs ho hx => by
    subst hs
    exact w_X1_queueFreeSleeves_0 C ha0 ha1 (by rw [ho]; exact ⟨rfl, rfl⟩) h
set_option maxRecDepth 20000 in
theorem w_X1_releaseFrom_2 {F : jFm} (C : jB F RX1 cX1_releaseFrom 4 none 2 0 0 45) {a0 : Nat} (ha0 : jSof F a0 = (1, 5, 4)) {a1 : Nat} (ha1 : jSof F a1 = (1, 8, 8)) {v2 : Int32} {r : jKt} (hq : jOut F none r) : ∀ (n : Nat) (κ : jKt) (v3 : Int32), P_X1_releaseFrom_2 a0 a1 v2 n κ v3 = some r → jW F 4 0 0 κ 2 [(0, .ref a0), (1, .ref a1), (2, .int v2), (3, .int v3)] [] := by
  intro n
  induction n with
  | zero => intro κ v3 h; cases h
  | succ n ih =>
    intro κ v3 h
    rw [P_X1_releaseFrom_2] at h
    refine r_iload_n C.1 3 3 rfl dX1_releaseFrom_2 rfl ?_
    refine r_aload_n C.1 1 4 rfl dX1_releaseFrom_3 rfl ?_
    refine r_getI C.1 3 fl_X1_41 rfl ha1 7 rfl dX1_releaseFrom_4 ?_
    refine r_icmp_ge C.1 60 10 rfl dX1_releaseFrom_7 rfl ⟨fun c37 => ?_, fun c37 => ?_⟩
    · have h := if_some_t c37 h
      cases h
      exact r_vret C rfl (Nat.le_of_ble_eq_true rfl) (Nat.le_of_ble_eq_true rfl) dX1_releaseFrom_60 hq
    · have h := if_some_f c37 h
      refine r_aload_n C.1 1 11 rfl dX1_releaseFrom_10 rfl ?_
      refine r_iload_n C.1 2 12 rfl dX1_releaseFrom_11 rfl ?_
      refine r_iload_n C.1 3 13 rfl dX1_releaseFrom_12 rfl ?_
      obtain ⟨y39, e38, h⟩ := bd_some h
      refine r_cVi C.1 (st := []) (c_X4_hasDemand ha1 e38) yv_X4_hasDemand ml_X1_83 rfl ha1 rfl ⟨Nat.le_of_ble_eq_true rfl, Nat.le_of_ble_eq_true rfl⟩ ⟨Nat.le_of_ble_eq_true rfl, Nat.le_of_ble_eq_true rfl⟩ (Nat.le_of_ble_eq_true rfl) rfl 0 0 rfl rfl 16 rfl dX1_releaseFrom_13 ?_
      refine r_if_eq C.1 54 19 rfl dX1_releaseFrom_16 rfl ⟨fun c40 => ?_, fun c40 => ?_⟩
      · have h := if_some_t c40 h
        refine r_iinc C.1 (lv' := [(0, .ref a0), (1, .ref a1), (2, .int v2), (3, .int (v3 + 1))]) 3 [1, 2, 3, 0] 57 rfl dX1_releaseFrom_54 rfl (Nat.le_of_ble_eq_true rfl) rfl rfl ?_
        refine r_goto C.1 2 dX1_releaseFrom_57 rfl ?_
        exact ih κ (v3 + 1) h
      · have h := if_some_f c40 h
        refine r_aload_n C.1 0 20 rfl dX1_releaseFrom_19 rfl ?_
        refine r_getR C.1 2 fl_X1_18 rfl ha0 23 rfl dX1_releaseFrom_20 (fun (h41 : jSof F (kR κ a0 2) = (2, 0, 16)) => ?_)
        refine r_iload_n C.1 3 24 rfl dX1_releaseFrom_23 rfl ?_
        refine r_dup2 C.1 rfl rfl 25 rfl dX1_releaseFrom_24 ?_
        obtain ⟨i42, h⟩ := ck_some h
        refine r_iald C.1 h41 i42 26 rfl dX1_releaseFrom_25 ?_
        refine r_iconst C.1 1 rfl 27 rfl dX1_releaseFrom_26 ?_
        refine r_isub C.1 28 rfl dX1_releaseFrom_27 ?_
        obtain ⟨i43, h⟩ := ck_some h
        obtain ⟨κ44, e45, h⟩ := bnd_some h
        refine r_iast C.1 h41 i43 e45 29 rfl dX1_releaseFrom_28 ?_
        refine r_aload_n C.1 0 30 rfl dX1_releaseFrom_29 rfl ?_
        refine r_getR C.1 2 fl_X1_18 rfl ha0 33 rfl dX1_releaseFrom_30 (fun (h46 : jSof F (kR κ44 a0 2) = (2, 0, 16)) => ?_)
        refine r_iload_n C.1 3 34 rfl dX1_releaseFrom_33 rfl ?_
        obtain ⟨i47, h⟩ := ck_some h
        refine r_iald C.1 h46 i47 35 rfl dX1_releaseFrom_34 ?_
        refine r_if_ne C.1 54 38 rfl dX1_releaseFrom_35 rfl ⟨fun c48 => ?_, fun c48 => ?_⟩
        · have h := if_some_f c48 h
          refine r_iinc C.1 (lv' := [(0, .ref a0), (1, .ref a1), (2, .int v2), (3, .int (v3 + 1))]) 3 [1, 2, 3, 0] 57 rfl dX1_releaseFrom_54 rfl (Nat.le_of_ble_eq_true rfl) rfl rfl ?_
          refine r_goto C.1 2 dX1_releaseFrom_57 rfl ?_
          exact ih κ44 (v3 + 1) h
        · have h := if_some_t c48 h
          refine r_aload_n C.1 1 39 rfl dX1_releaseFrom_38 rfl ?_
          refine r_iload_n C.1 3 40 rfl dX1_releaseFrom_39 rfl ?_
          obtain ⟨y50, e49, h⟩ := bd_some h
          refine r_cVi C.1 (st := []) (c_X4_isSewn ha1 e49) yv_X4_isSewn ml_X1_75 rfl ha1 rfl ⟨Nat.le_of_ble_eq_true rfl, Nat.le_of_ble_eq_true rfl⟩ ⟨Nat.le_of_ble_eq_true rfl, Nat.le_of_ble_eq_true rfl⟩ (Nat.le_of_ble_eq_true rfl) rfl 0 0 rfl rfl 43 rfl dX1_releaseFrom_40 ?_
          refine r_if_ne C.1 54 46 rfl dX1_releaseFrom_43 rfl ⟨fun c51 => ?_, fun c51 => ?_⟩
          · have h := if_some_f c51 h
            refine r_iinc C.1 (lv' := [(0, .ref a0), (1, .ref a1), (2, .int v2), (3, .int (v3 + 1))]) 3 [1, 2, 3, 0] 57 rfl dX1_releaseFrom_54 rfl (Nat.le_of_ble_eq_true rfl) rfl rfl ?_
            refine r_goto C.1 2 dX1_releaseFrom_57 rfl ?_
            exact ih κ44 (v3 + 1) h
          · have h := if_some_t c51 h
            refine r_aload_n C.1 0 47 rfl dX1_releaseFrom_46 rfl ?_
            refine r_getR C.1 3 fl_X1_24 rfl ha0 50 rfl dX1_releaseFrom_47 (fun (h52 : jSof F (kR κ44 a0 3) = (1, 7, 2)) => ?_)
            refine r_iload_n C.1 3 51 rfl dX1_releaseFrom_50 rfl ?_
            obtain ⟨κ54, e53, h⟩ := bd_some h
            refine r_cVv C.1 (st := []) (c_X3_add h52 e53) yv_X3_add ml_X1_79 rfl h52 rfl ⟨Nat.le_of_ble_eq_true rfl, Nat.le_of_ble_eq_true rfl⟩ ⟨Nat.le_of_ble_eq_true rfl, Nat.le_of_ble_eq_true rfl⟩ (Nat.le_of_ble_eq_true rfl) rfl 0 0 rfl rfl 54 rfl dX1_releaseFrom_51 ?_
            refine r_iinc C.1 (lv' := [(0, .ref a0), (1, .ref a1), (2, .int v2), (3, .int (v3 + 1))]) 3 [1, 2, 3, 0] 57 rfl dX1_releaseFrom_54 rfl (Nat.le_of_ble_eq_true rfl) rfl rfl ?_
            refine r_goto C.1 2 dX1_releaseFrom_57 rfl ?_
            exact ih κ54 (v3 + 1) h
set_option maxRecDepth 20000 in
theorem w_X1_releaseFrom_0 {F : jFm} (C : jB F RX1 cX1_releaseFrom 4 none 2 0 0 45) {κ : jKt} {a0 : Nat} (ha0 : jSof F a0 = (1, 5, 4)) {a1 : Nat} (ha1 : jSof F a1 = (1, 8, 8)) {x2 : Int32} {r : jKt} (hq : jOut F none r) (h : P_X1_releaseFrom κ a0 a1 x2 = some r) : jW F 4 0 0 κ 0 [(0, .ref a0), (1, .ref a1), (2, .int x2)] [] := by
  unfold P_X1_releaseFrom at h
  refine r_iconst C.1 0 rfl 1 rfl dX1_releaseFrom_0 ?_
  refine r_istore_n C.1 (lv' := [(0, .ref a0), (1, .ref a1), (2, .int x2), (3, .int 0)]) [1, 2, 3, 0] 2 rfl dX1_releaseFrom_1 (Nat.le_of_ble_eq_true rfl) rfl ?_
  exact w_X1_releaseFrom_2 C ha0 ha1 hq 4000 κ 0 h
theorem c_X1_releaseFrom {l : Launch} {G : jG} {sh : jSh} {κ : jKt} {a0 : Nat} (ha0 : sh a0 = (1, 5, 4)) {a1 : Nat} (ha1 : sh a1 = (1, 8, 8)) {x2 : Int32}  {κr : jKt} (h : P_X1_releaseFrom κ a0 a1 x2 = some κr) : jM l G yX1_releaseFrom cX1_releaseFrom 4 none 2 0 0 45 [.ref a0, .ref a1, .int x2] (sh, κ) (jIs none (sh, κr)) jNo :=
  r_body (by decide) (Nat.le_of_ble_eq_true rfl) fun F C hl hG hs ho hx => by
    subst hs
    exact w_X1_releaseFrom_0 C ha0 ha1 (by rw [ho]; exact ⟨rfl, rfl⟩) h
set_option maxRecDepth 20000 in
theorem w_X3_takeLowest_0 {F : jFm} (C : jB F RX3 cX3_takeLowest 2 (some .int) 2 0 0 46) {κ : jKt} {a0 : Nat} (ha0 : jSof F a0 = (1, 7, 2)) {r : Int32 × jKt} (hq : jOut F (some (.int r.1)) r.2) (h : P_X3_takeLowest κ a0 = some r) : jW F 2 0 0 κ 0 [(0, .ref a0)] [] := by
  unfold P_X3_takeLowest at h
  refine r_aload_n C.1 0 1 rfl dX3_takeLowest_0 rfl ?_
  refine r_getI C.1 1 fl_X3_15 rfl ha0 4 rfl dX3_takeLowest_1 ?_
  refine r_if_ne C.1 9 7 rfl dX3_takeLowest_4 rfl ⟨fun c27 => ?_, fun c27 => ?_⟩
  · have h := if_some_f c27 h
    refine r_aload_n C.1 0 10 rfl dX3_takeLowest_9 rfl ?_
    refine r_getR C.1 0 fl_X3_9 rfl ha0 13 rfl dX3_takeLowest_10 (fun (h28 : jSof F (kR κ a0 0) = (2, 0, 16)) => ?_)
    refine r_iconst C.1 0 rfl 14 rfl dX3_takeLowest_13 ?_
    refine r_iald C.1 h28 (by decide) 15 rfl dX3_takeLowest_14 ?_
    obtain ⟨y29, e30, h⟩ := bnd_some h
    refine r_top e30 ?_
    refine r_istore_n C.1 (lv' := [(0, .ref a0), (1, .int y29)]) [1, 0] 16 rfl dX3_takeLowest_15 (Nat.le_of_ble_eq_true rfl) rfl ?_
    refine r_aload_n C.1 0 17 rfl dX3_takeLowest_16 rfl ?_
    refine r_dup C.1 rfl 18 rfl dX3_takeLowest_17 ?_
    refine r_getI C.1 1 fl_X3_15 rfl ha0 21 rfl dX3_takeLowest_18 ?_
    refine r_iconst C.1 1 rfl 22 rfl dX3_takeLowest_21 ?_
    refine r_isub C.1 23 rfl dX3_takeLowest_22 ?_
    obtain ⟨κ31, e32, h⟩ := bnd_some h
    refine r_putI C.1 1 fw_X3_15 rfl rfl rfl ha0 e32 26 rfl dX3_takeLowest_23 ?_
    refine r_aload_n C.1 0 27 rfl dX3_takeLowest_26 rfl ?_
    refine r_getR C.1 0 fl_X3_9 rfl ha0 30 rfl dX3_takeLowest_27 (fun (h33 : jSof F (kR κ31 a0 0) = (2, 0, 16)) => ?_)
    refine r_iconst C.1 0 rfl 31 rfl dX3_takeLowest_30 ?_
    refine r_aload_n C.1 0 32 rfl dX3_takeLowest_31 rfl ?_
    refine r_getR C.1 0 fl_X3_9 rfl ha0 35 rfl dX3_takeLowest_32 (fun (h34 : jSof F (kR κ31 a0 0) = (2, 0, 16)) => ?_)
    refine r_aload_n C.1 0 36 rfl dX3_takeLowest_35 rfl ?_
    refine r_getI C.1 1 fl_X3_15 rfl ha0 39 rfl dX3_takeLowest_36 ?_
    obtain ⟨i35, h⟩ := ck_some h
    refine r_iald C.1 h34 i35 40 rfl dX3_takeLowest_39 ?_
    obtain ⟨κ36, e37, h⟩ := bnd_some h
    refine r_iast C.1 h33 (by decide) e37 41 rfl dX3_takeLowest_40 ?_
    refine r_aload_n C.1 0 42 rfl dX3_takeLowest_41 rfl ?_
    obtain ⟨κ39, e38, h⟩ := bd_some h
    refine r_cVv C.1 (st := []) (c_X3_sinkTop ha0 e38) yv_X3_sinkTop ml_X3_23 rfl ha0 rfl ⟨Nat.le_of_ble_eq_true rfl, Nat.le_of_ble_eq_true rfl⟩ ⟨Nat.le_of_ble_eq_true rfl, Nat.le_of_ble_eq_true rfl⟩ (Nat.le_of_ble_eq_true rfl) rfl 0 0 rfl rfl 45 rfl dX3_takeLowest_42 ?_
    refine r_iload_n C.1 1 46 rfl dX3_takeLowest_45 rfl ?_
    cases h
    exact r_zret C rfl rfl (Nat.le_of_ble_eq_true rfl) (Nat.le_of_ble_eq_true rfl) dX3_takeLowest_46 hq
  · have h := if_some_t c27 h
    refine r_iconst C.1 (-1) rfl 8 rfl dX3_takeLowest_7 ?_
    cases h
    exact r_zret C rfl rfl (Nat.le_of_ble_eq_true rfl) (Nat.le_of_ble_eq_true rfl) dX3_takeLowest_8 hq
theorem c_X3_takeLowest {l : Launch} {G : jG} {sh : jSh} {κ : jKt} {a0 : Nat} (ha0 : sh a0 = (1, 7, 2)) {r : Int32} {κr : jKt} (h : P_X3_takeLowest κ a0 = some (r, κr)) : jM l G yX3_takeLowest cX3_takeLowest 2 (some .int) 2 0 0 46 [.ref a0] (sh, κ) (jIs (some (.int r)) (sh, κr)) jNo :=
  r_body (by decide) (Nat.le_of_ble_eq_true rfl) fun F C hl hG hs ho hx => by
    subst hs
    exact w_X3_takeLowest_0 C ha0 (by rw [ho]; exact ⟨rfl, rfl⟩) h
set_option maxRecDepth 20000 in
theorem w_X1_findByQueue_15 {F : jFm} (C : jB F RX1 cX1_findByQueue 6 (some .int) 3 0 0 68) {a0 : Nat} (ha0 : jSof F a0 = (1, 5, 4)) {a1 : Nat} (ha1 : jSof F a1 = (1, 8, 8)) {v2 : Int32} {r : Int32 × jKt} (hq : jOut F (some (.int r.1)) r.2) : ∀ (n : Nat) (κ : jKt) (v3 : Int32) (v4 : Int32), P_X1_findByQueue_15 a0 a1 v2 n κ v3 v4 = some r → jW F 6 0 0 κ 15 [(0, .ref a0), (1, .ref a1), (2, .int v2), (3, .int v3), (4, .int v4)] [] := by
  intro n
  induction n with
  | zero => intro κ v3 v4 h; cases h
  | succ n ih =>
    intro κ v3 v4 h
    rw [P_X1_findByQueue_15] at h
    refine r_iload C.1 4 17 rfl dX1_findByQueue_15 rfl ?_
    refine r_iload_n C.1 2 18 rfl dX1_findByQueue_17 rfl ?_
    refine r_icmp_ge C.1 62 21 rfl dX1_findByQueue_18 rfl ⟨fun c33 => ?_, fun c33 => ?_⟩
    · have h := if_some_t c33 h
      refine r_iload_n C.1 3 63 rfl dX1_findByQueue_62 rfl ?_
      cases h
      exact r_zret C rfl rfl (Nat.le_of_ble_eq_true rfl) (Nat.le_of_ble_eq_true rfl) dX1_findByQueue_63 hq
    · have h := if_some_f c33 h
      refine r_aload_n C.1 0 22 rfl dX1_findByQueue_21 rfl ?_
      refine r_getR C.1 3 fl_X1_24 rfl ha0 25 rfl dX1_findByQueue_22 (fun (h34 : jSof F (kR κ a0 3) = (1, 7, 2)) => ?_)
      obtain ⟨y36, κ37, e35, h⟩ := bd2_some h
      refine r_cVi C.1 (st := []) (c_X3_takeLowest h34 e35) yv_X3_takeLowest ml_X1_56 rfl h34 rfl ⟨Nat.le_of_ble_eq_true rfl, Nat.le_of_ble_eq_true rfl⟩ ⟨Nat.le_of_ble_eq_true rfl, Nat.le_of_ble_eq_true rfl⟩ (Nat.le_of_ble_eq_true rfl) rfl 0 0 rfl rfl 28 rfl dX1_findByQueue_25 ?_
      refine r_istore C.1 (lv' := [(0, .ref a0), (1, .ref a1), (2, .int v2), (3, .int v3), (4, .int v4), (5, .int y36)]) [1, 2, 3, 4, 5, 0] 30 rfl dX1_findByQueue_28 (Nat.le_of_ble_eq_true rfl) rfl ?_
      refine r_iload C.1 5 32 rfl dX1_findByQueue_30 rfl ?_
      refine r_iconst C.1 (-1) rfl 33 rfl dX1_findByQueue_32 ?_
      refine r_icmp_ne C.1 38 36 rfl dX1_findByQueue_33 rfl ⟨fun c38 => ?_, fun c38 => ?_⟩
      · have h := if_some_f c38 h
        refine r_aload_n C.1 0 39 rfl dX1_findByQueue_38 rfl ?_
        refine r_getR C.1 1 fl_X1_15 rfl ha0 42 rfl dX1_findByQueue_39 (fun (h39 : jSof F (kR κ37 a0 1) = (2, 0, 16)) => ?_)
        refine r_iload_n C.1 3 43 rfl dX1_findByQueue_42 rfl ?_
        refine r_iload C.1 5 45 rfl dX1_findByQueue_43 rfl ?_
        obtain ⟨i40, h⟩ := ck_some h
        obtain ⟨κ41, e42, h⟩ := bnd_some h
        refine r_iast C.1 h39 i40 e42 46 rfl dX1_findByQueue_45 ?_
        refine r_iinc C.1 (lv' := [(0, .ref a0), (1, .ref a1), (2, .int v2), (3, .int (v3 + 1)), (4, .int v4), (5, .int y36)]) 3 [1, 2, 3, 0, 4, 5] 49 rfl dX1_findByQueue_46 rfl (Nat.le_of_ble_eq_true rfl) rfl rfl ?_
        refine r_aload_n C.1 0 50 rfl dX1_findByQueue_49 rfl ?_
        refine r_aload_n C.1 1 51 rfl dX1_findByQueue_50 rfl ?_
        refine r_iload C.1 5 53 rfl dX1_findByQueue_51 rfl ?_
        obtain ⟨κ44, e43, h⟩ := bd_some h
        refine r_cVv C.1 (st := []) (c_X1_releaseFrom ha0 ha1 e43) yv_X1_releaseFrom ml_X1_59 rfl ha0 rfl ⟨Nat.le_of_ble_eq_true rfl, Nat.le_of_ble_eq_true rfl⟩ ⟨Nat.le_of_ble_eq_true rfl, Nat.le_of_ble_eq_true rfl⟩ (Nat.le_of_ble_eq_true rfl) rfl 0 0 rfl rfl 56 rfl dX1_findByQueue_53 ?_
        refine r_iinc C.1 (lv' := [(0, .ref a0), (1, .ref a1), (2, .int v2), (3, .int (v3 + 1)), (4, .int (v4 + 1)), (5, .int y36)]) 4 [1, 2, 3, 4, 0, 5] 59 rfl dX1_findByQueue_56 rfl (Nat.le_of_ble_eq_true rfl) rfl rfl ?_
        refine r_goto C.1 15 dX1_findByQueue_59 rfl ?_
        refine r_lv [0, 1, 2, 3, 4] rfl ?_
        exact ih κ44 (v3 + 1) (v4 + 1) h
      · have h := if_some_t c38 h
        refine r_iload_n C.1 3 37 rfl dX1_findByQueue_36 rfl ?_
        cases h
        exact r_zret C rfl rfl (Nat.le_of_ble_eq_true rfl) (Nat.le_of_ble_eq_true rfl) dX1_findByQueue_37 hq
set_option maxRecDepth 20000 in
theorem w_X1_findByQueue_0 {F : jFm} (C : jB F RX1 cX1_findByQueue 6 (some .int) 3 0 0 68) {κ : jKt} {a0 : Nat} (ha0 : jSof F a0 = (1, 5, 4)) {a1 : Nat} (ha1 : jSof F a1 = (1, 8, 8)) {r : Int32 × jKt} (hq : jOut F (some (.int r.1)) r.2) (h : P_X1_findByQueue κ a0 a1 = some r) : jW F 6 0 0 κ 0 [(0, .ref a0), (1, .ref a1)] [] := by
  unfold P_X1_findByQueue at h
  refine r_aload_n C.1 0 1 rfl dX1_findByQueue_0 rfl ?_
  refine r_aload_n C.1 1 2 rfl dX1_findByQueue_1 rfl ?_
  obtain ⟨κ46, e45, h⟩ := bd_some h
  refine r_cVv C.1 (st := []) (c_X1_queueFreeSleeves ha0 ha1 e45) yv_X1_queueFreeSleeves ml_X1_52 rfl ha0 rfl ⟨Nat.le_of_ble_eq_true rfl, Nat.le_of_ble_eq_true rfl⟩ ⟨Nat.le_of_ble_eq_true rfl, Nat.le_of_ble_eq_true rfl⟩ (Nat.le_of_ble_eq_true rfl) rfl 0 0 rfl rfl 5 rfl dX1_findByQueue_2 ?_
  refine r_aload_n C.1 1 6 rfl dX1_findByQueue_5 rfl ?_
  obtain ⟨y48, e47, h⟩ := bd_some h
  refine r_cVi C.1 (st := []) (c_X4_unsewnCount ha1 e47) yv_X4_unsewnCount ml_X1_34 rfl ha1 rfl ⟨Nat.le_of_ble_eq_true rfl, Nat.le_of_ble_eq_true rfl⟩ ⟨Nat.le_of_ble_eq_true rfl, Nat.le_of_ble_eq_true rfl⟩ (Nat.le_of_ble_eq_true rfl) rfl 0 0 rfl rfl 9 rfl dX1_findByQueue_6 ?_
  refine r_istore_n C.1 (lv' := [(0, .ref a0), (1, .ref a1), (2, .int y48)]) [1, 2, 0] 10 rfl dX1_findByQueue_9 (Nat.le_of_ble_eq_true rfl) rfl ?_
  refine r_iconst C.1 0 rfl 11 rfl dX1_findByQueue_10 ?_
  refine r_istore_n C.1 (lv' := [(0, .ref a0), (1, .ref a1), (2, .int y48), (3, .int 0)]) [1, 2, 3, 0] 12 rfl dX1_findByQueue_11 (Nat.le_of_ble_eq_true rfl) rfl ?_
  refine r_iconst C.1 0 rfl 13 rfl dX1_findByQueue_12 ?_
  refine r_istore C.1 (lv' := [(0, .ref a0), (1, .ref a1), (2, .int y48), (3, .int 0), (4, .int 0)]) [1, 2, 3, 4, 0] 15 rfl dX1_findByQueue_13 (Nat.le_of_ble_eq_true rfl) rfl ?_
  exact w_X1_findByQueue_15 C ha0 ha1 hq 4000 κ46 0 0 h
theorem c_X1_findByQueue {l : Launch} {G : jG} {sh : jSh} {κ : jKt} {a0 : Nat} (ha0 : sh a0 = (1, 5, 4)) {a1 : Nat} (ha1 : sh a1 = (1, 8, 8)) {r : Int32} {κr : jKt} (h : P_X1_findByQueue κ a0 a1 = some (r, κr)) : jM l G yX1_findByQueue cX1_findByQueue 6 (some .int) 3 0 0 68 [.ref a0, .ref a1] (sh, κ) (jIs (some (.int r)) (sh, κr)) jNo :=
  r_body (by decide) (Nat.le_of_ble_eq_true rfl) fun F C hl hG hs ho hx => by
    subst hs
    exact w_X1_findByQueue_0 C ha0 ha1 (by rw [ho]; exact ⟨rfl, rfl⟩) h
set_option maxRecDepth 20000 in
theorem w_X1_bothWaysAgree_19 {F : jFm} (C : jB F RX1 cX1_bothWaysAgree 4 (some .boolean) 4 0 0 93) {a0 : Nat} (ha0 : jSof F a0 = (1, 5, 4)) {v2 : Int32} {r : Int32 × jKt} (hq : jOut F (some (.int r.1)) r.2) : ∀ (n : Nat) (κ : jKt) (v3 : Int32), P_X1_bothWaysAgree_19 a0 v2 n κ v3 = some r → jW F 4 0 0 κ 19 [(0, .ref a0), (2, .int v2), (3, .int v3)] [] := by
  intro n
  induction n with
  | zero => intro κ v3 h; cases h
  | succ n ih =>
    intro κ v3 h
    rw [P_X1_bothWaysAgree_19] at h
    refine r_iload_n C.1 2 20 rfl dX1_bothWaysAgree_19 rfl ?_
    refine r_iload_n C.1 1 21 rfl dX1_bothWaysAgree_20 rfl ?_
    refine r_icmp_ge C.1 47 24 rfl dX1_bothWaysAgree_21 rfl ⟨fun c27 => ?_, fun c27 => ?_⟩
    · have h := if_some_t c27 h
      refine r_iconst C.1 1 rfl 48 rfl dX1_bothWaysAgree_47 ?_
      cases h
      exact r_zret C rfl rfl (Nat.le_of_ble_eq_true rfl) (Nat.le_of_ble_eq_true rfl) dX1_bothWaysAgree_48 hq
    · have h := if_some_f c27 h
      refine r_aload_n C.1 0 25 rfl dX1_bothWaysAgree_24 rfl ?_
      refine r_getR C.1 0 fl_X1_9 rfl ha0 28 rfl dX1_bothWaysAgree_25 (fun (h28 : jSof F (kR κ a0 0) = (2, 0, 16)) => ?_)
      refine r_iload_n C.1 2 29 rfl dX1_bothWaysAgree_28 rfl ?_
      obtain ⟨i29, h⟩ := ck_some h
      refine r_iald C.1 h28 i29 30 rfl dX1_bothWaysAgree_29 ?_
      refine r_aload_n C.1 0 31 rfl dX1_bothWaysAgree_30 rfl ?_
      refine r_getR C.1 1 fl_X1_15 rfl ha0 34 rfl dX1_bothWaysAgree_31 (fun (h30 : jSof F (kR κ a0 1) = (2, 0, 16)) => ?_)
      refine r_iload_n C.1 2 35 rfl dX1_bothWaysAgree_34 rfl ?_
      obtain ⟨i31, h⟩ := ck_some h
      refine r_iald C.1 h30 i31 36 rfl dX1_bothWaysAgree_35 ?_
      refine r_icmp_eq C.1 41 39 rfl dX1_bothWaysAgree_36 rfl ⟨fun c32 => ?_, fun c32 => ?_⟩
      · have h := if_some_t c32 h
        refine r_iinc C.1 (lv' := [(0, .ref a0), (2, .int v2), (3, .int (v3 + 1))]) 2 [1, 2, 0] 44 rfl dX1_bothWaysAgree_41 rfl (Nat.le_of_ble_eq_true rfl) rfl rfl ?_
        refine r_goto C.1 19 dX1_bothWaysAgree_44 rfl ?_
        exact ih κ (v3 + 1) h
      · have h := if_some_f c32 h
        refine r_iconst C.1 0 rfl 40 rfl dX1_bothWaysAgree_39 ?_
        cases h
        exact r_zret C rfl rfl (Nat.le_of_ble_eq_true rfl) (Nat.le_of_ble_eq_true rfl) dX1_bothWaysAgree_40 hq
set_option maxRecDepth 20000 in
theorem w_X1_bothWaysAgree_0 {F : jFm} (C : jB F RX1 cX1_bothWaysAgree 4 (some .boolean) 4 0 0 93) {κ : jKt} {a0 : Nat} (ha0 : jSof F a0 = (1, 5, 4)) {a1 : Nat} (ha1 : jSof F a1 = (1, 8, 8)) {r : Int32 × jKt} (hq : jOut F (some (.int r.1)) r.2) (h : P_X1_bothWaysAgree κ a0 a1 = some r) : jW F 4 0 0 κ 0 [(0, .ref a0), (1, .ref a1)] [] := by
  unfold P_X1_bothWaysAgree at h
  refine r_aload_n C.1 0 1 rfl dX1_bothWaysAgree_0 rfl ?_
  refine r_aload_n C.1 1 2 rfl dX1_bothWaysAgree_1 rfl ?_
  obtain ⟨y34, κ35, e33, h⟩ := bd2_some h
  refine r_cVi C.1 (st := []) (c_X1_findByScan ha0 ha1 e33) yv_X1_findByScan ml_X1_86 rfl ha0 rfl ⟨Nat.le_of_ble_eq_true rfl, Nat.le_of_ble_eq_true rfl⟩ ⟨Nat.le_of_ble_eq_true rfl, Nat.le_of_ble_eq_true rfl⟩ (Nat.le_of_ble_eq_true rfl) rfl 0 0 rfl rfl 5 rfl dX1_bothWaysAgree_2 ?_
  refine r_istore_n C.1 (lv' := [(0, .ref a0), (1, .ref a1), (2, .int y34)]) [1, 2, 0] 6 rfl dX1_bothWaysAgree_5 (Nat.le_of_ble_eq_true rfl) rfl ?_
  refine r_aload_n C.1 0 7 rfl dX1_bothWaysAgree_6 rfl ?_
  refine r_aload_n C.1 1 8 rfl dX1_bothWaysAgree_7 rfl ?_
  obtain ⟨y37, κ38, e36, h⟩ := bd2_some h
  refine r_cVi C.1 (st := []) (c_X1_findByQueue ha0 ha1 e36) yv_X1_findByQueue ml_X1_90 rfl ha0 rfl ⟨Nat.le_of_ble_eq_true rfl, Nat.le_of_ble_eq_true rfl⟩ ⟨Nat.le_of_ble_eq_true rfl, Nat.le_of_ble_eq_true rfl⟩ (Nat.le_of_ble_eq_true rfl) rfl 0 0 rfl rfl 11 rfl dX1_bothWaysAgree_8 ?_
  refine r_iload_n C.1 2 12 rfl dX1_bothWaysAgree_11 rfl ?_
  refine r_icmp_eq C.1 17 15 rfl dX1_bothWaysAgree_12 rfl ⟨fun c39 => ?_, fun c39 => ?_⟩
  · have h := if_some_t c39 h
    refine r_iconst C.1 0 rfl 18 rfl dX1_bothWaysAgree_17 ?_
    refine r_istore_n C.1 (lv' := [(0, .ref a0), (1, .ref a1), (2, .int y34), (3, .int 0)]) [1, 2, 3, 0] 19 rfl dX1_bothWaysAgree_18 (Nat.le_of_ble_eq_true rfl) rfl ?_
    refine r_lv [0, 2, 3] rfl ?_
    exact w_X1_bothWaysAgree_19 C ha0 hq 4000 κ38 0 h
  · have h := if_some_f c39 h
    refine r_iconst C.1 0 rfl 16 rfl dX1_bothWaysAgree_15 ?_
    cases h
    exact r_zret C rfl rfl (Nat.le_of_ble_eq_true rfl) (Nat.le_of_ble_eq_true rfl) dX1_bothWaysAgree_16 hq
theorem c_X1_bothWaysAgree {l : Launch} {G : jG} {sh : jSh} {κ : jKt} {a0 : Nat} (ha0 : sh a0 = (1, 5, 4)) {a1 : Nat} (ha1 : sh a1 = (1, 8, 8)) {r : Int32} {κr : jKt} (h : P_X1_bothWaysAgree κ a0 a1 = some (r, κr)) : jM l G yX1_bothWaysAgree cX1_bothWaysAgree 4 (some .boolean) 4 0 0 93 [.ref a0, .ref a1] (sh, κ) (jIs (some (.int r)) (sh, κr)) jNo :=
  r_body (by decide) (Nat.le_of_ble_eq_true rfl) fun F C hl hG hs ho hx => by
    subst hs
    exact w_X1_bothWaysAgree_0 C ha0 ha1 (by rw [ho]; exact ⟨rfl, rfl⟩) h
