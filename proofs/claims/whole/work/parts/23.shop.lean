/-! pure methods and walks: ['TailorWorkshop'] -/
def P_X6_refuse (κ : jKt) (x0 : Int32) : Option (Except String Unit) :=
  if x0 = (-4) then
  some (.error "java/lang/IllegalStateException")
  else if x0 = (-3) then
  some (.error "java/lang/IllegalArgumentException")
  else if x0 = (-2) then
  some (.error "java/lang/IndexOutOfBoundsException")
  else if x0 = (-1) then
  some (.error "java/util/NoSuchElementException")
  else some (.error "java/lang/UnsupportedOperationException")
def P_X6_forgetOldest_9 (a0 : Nat) (a1 : Nat) : Nat → jKt → Int32 → Option (jKt)
  | 0, _, _ => none
  | n + 1, κ, v2 =>
    if 8 ≤ v2 then
  bnd (kU κ (kR κ a0 4) (ix 7) (.ref a1)) fun κ33 =>
  bnd (kU κ33 a0 5 (.int 7)) fun κ35 =>
  some κ35
  else
  ck (jin v2 8) <|
  ck (jin (v2 - 1) 8) <|
  bnd (kU κ (kR κ a0 4) (ix (v2 - 1)) (.ref (kR κ (kR κ a0 4) (ix v2)))) fun κ42 =>
  P_X6_forgetOldest_9 a0 a1 n κ42 (v2 + 1)
def P_X6_forgetOldest (κ : jKt) (a0 : Nat) : Option (jKt) :=
  P_X6_forgetOldest_9 a0 (kR κ (kR κ a0 4) (ix 0)) 4000 κ 1
def P_X6_stock (κ : jKt) (a0 : Nat) (x1 : Int32) : Option (Except String Int32) :=
  if x1 < 0 then
  some (.error "java/lang/IndexOutOfBoundsException")
  else
  if x1 < 4 then
  ck (jin x1 4) <|
  some (.ok (kI κ (kR κ (kR κ a0 0) 0) (ix x1)))
  else
  some (.error "java/lang/IndexOutOfBoundsException")
def P_X6_customerCount (κ : jKt) (a0 : Nat) : Option (Int32) :=
  some (kI κ (kR κ a0 0) 2)
def P_X6_suitCount (κ : jKt) (a0 : Nat) : Option (Int32) :=
  some (kI κ (kR κ a0 0) 4)
def P_X6_suitAt (κ : jKt) (a0 : Nat) (x1 : Int32) : Option (Except String Int32) :=
  if x1 < 0 then
  some (.error "java/util/NoSuchElementException")
  else
  if x1 < (kI κ (kR κ a0 0) 4) then
  ck (jin x1 6) <|
  some (.ok (kI κ (kR κ (kR κ (kR κ a0 0) 3) (ix x1)) 0))
  else
  some (.error "java/util/NoSuchElementException")
def P_X6_placeInOrder (κ : jKt) (a0 : Nat) (x1 : Int32) (x2 : Int32) : Option (Except String Int32) :=
  if x2 < 0 then
  some (.error "java/lang/IndexOutOfBoundsException")
  else
  if x2 < x1 then
  ck (jin x2 16) <|
  some (.ok (kI κ a0 (ix x2)))
  else
  some (.error "java/lang/IndexOutOfBoundsException")
def P_X6_boughtTotal (κ : jKt) (a0 : Nat) : Option (Int32) :=
  some (kI κ (kR κ a0 0) 6)
def P_X6_wasteTotal (κ : jKt) (a0 : Nat) : Option (Int32) :=
  some (kI κ (kR κ a0 0) 7)
def P_X6_deliveredTotal (κ : jKt) (a0 : Nat) : Option (Int32) :=
  some (kI κ (kR κ a0 0) 8)
def P_X6_income (κ : jKt) (a0 : Nat) : Option (Int32) :=
  some (kI κ (kR κ a0 0) 9)
def P_X6_deliveredSuits (κ : jKt) (a0 : Nat) : Option (Int32) :=
  some (kI κ (kR κ a0 0) 10)
def P_X6_wasteShare (κ : jKt) (a0 : Nat) : Option (Except String UInt32) :=
  if (kI κ (kR κ a0 0) 6) = 0 then
  some (.error "java/lang/ArithmeticException")
  else
  ck ((FP.fdiv (FP.i2f (kI κ (kR κ a0 0) 7)) (FP.i2f (kI κ (kR κ a0 0) 6))) &&& 0x7fffffff ≤ 0x7f800000) <|
  some (.ok (FP.fdiv (FP.i2f (kI κ (kR κ a0 0) 7)) (FP.i2f (kI κ (kR κ a0 0) 6))))
def P_X6_outputAt (κ : jKt) (a0 : Nat) (x1 : Int32) : Option (Except String Int32) :=
  if x1 < 0 then
  some (.error "java/lang/IndexOutOfBoundsException")
  else
  bd (P_J4_length_8abf5 κ (kR κ a0 10)) fun y22 =>
  if x1 < y22 then
  bd (P_J4_charAt_5068e κ (kR κ a0 10) x1) fun y26 =>
  ck (jch y26) <|
  some (.ok y26)
  else
  some (.error "java/lang/IndexOutOfBoundsException")
def P_X6_errorPosition (κ : jKt) (a0 : Nat) : Option (Except String Int32) :=
  if (kI κ a0 8) = (-1) then
  some (.error "java/util/NoSuchElementException")
  else
  some (.ok (kI κ a0 8))
def P_X6_failedCommand (κ : jKt) (a0 : Nat) : Option (Except String Int32) :=
  if (kI κ a0 9) = (-1) then
  some (.error "java/util/NoSuchElementException")
  else
  some (.ok (kI κ a0 9))
def P_X6_undo (κ : jKt) (a0 : Nat) : Option (Except String Int32 × jKt) :=
  if (kI κ a0 5) = 0 then
  some (.error "java/util/NoSuchElementException", κ)
  else
  bnd (kU κ a0 5 (.int ((kI κ a0 5) - 1))) fun κ28 =>
  ck (jin (kI κ28 a0 5) 8) <|
  bnd (kU κ28 a0 0 (.ref (kR κ28 (kR κ28 a0 4) (ix (kI κ28 a0 5))))) fun κ34 =>
  ck (jin (kI κ34 a0 5) 8) <|
  bnd (kU κ34 (kR κ34 a0 4) (ix (kI κ34 a0 5)) (.ref (kR κ28 a0 0))) fun κ38 =>
  some (.ok (kI κ38 a0 5), κ38)
def P_X6_adoptTrial_13 (κ : jKt) (a0 : Nat) : Option (jKt) :=
  ck (jin (kI κ a0 5) 8) <|
  ck (jin (kI κ a0 5) 8) <|
  bnd (kU κ (kR κ a0 4) (ix (kI κ a0 5)) (.ref (kR κ a0 0))) fun κ43 =>
  bnd (kU κ43 a0 5 (.int ((kI κ43 a0 5) + 1))) fun κ45 =>
  bnd (kU κ45 a0 0 (.ref (kR κ45 a0 1))) fun κ48 =>
  bnd (kU κ48 a0 1 (.ref (kR κ (kR κ a0 4) (ix (kI κ a0 5))))) fun κ50 =>
  some κ50
def P_X6_adoptTrial (κ : jKt) (a0 : Nat) : Option (jKt) :=
  if (kI κ a0 5) = 8 then
  bd (P_X6_forgetOldest κ a0) fun κ54 =>
  P_X6_adoptTrial_13 κ54 a0
  else
  P_X6_adoptTrial_13 κ a0
def P_X6_known (κ : jKt) (a0 : Nat) (x1 : Int32) : Option (Except String Nat) :=
  bd (P_X5_hasCustomer κ (kR κ a0 0) x1) fun y19 =>
  if y19 = 0 then
  some (.error "java/lang/IndexOutOfBoundsException")
  else
  ck (jin x1 5) <|
  some (.ok (kR κ (kR κ (kR κ a0 0) 1) (ix x1)))
def P_X6_knownWithLeg (κ : jKt) (a0 : Nat) (x1 : Int32) (x2 : Int32) : Option (Except String Nat) :=
  bdx (P_X6_known κ a0 x1) (fun E17 => some (.error E17)) fun b16 =>
  bd (P_X0_hasLeg κ b16 x2) fun y20 =>
  if y20 = 0 then
  some (.error "java/lang/IndexOutOfBoundsException")
  else
  some (.ok b16)
def P_X6_existing (κ : jKt) (a0 : Nat) (x1 : Int32) : Option (Except String Nat) :=
  bdo (P_X5_suitWithId κ (kR κ a0 0) x1)
  (some (.error "java/util/NoSuchElementException"))
  fun b11 =>
  some (.ok b11)
def P_X6_existingWithSleeve (κ : jKt) (a0 : Nat) (x1 : Int32) (x2 : Int32) : Option (Except String Nat) :=
  bdx (P_X6_existing κ a0 x1) (fun E17 => some (.error E17)) fun b16 =>
  bd (P_X4_hasSleeve κ b16 x2) fun y20 =>
  if y20 = 0 then
  some (.error "java/lang/IndexOutOfBoundsException")
  else
  some (.ok b16)
def P_X6_existingWithPiece (κ : jKt) (a0 : Nat) (x1 : Int32) (x2 : Int32) : Option (Except String Nat) :=
  bdx (P_X6_existingWithSleeve κ a0 x1 x2) (fun E17 => some (.error E17)) fun b16 =>
  bd (P_X4_isPlanned κ b16 x2) fun y20 =>
  if y20 = 0 then
  some (.ok b16)
  else
  some (.error "java/lang/IllegalStateException")
def P_X6_meanLeg (κ : jKt) (a0 : Nat) (x1 : Int32) : Option (Except String UInt64) :=
  bdx (P_X6_known κ a0 x1) (fun E19 => some (.error E19)) fun b18 =>
  if (kI κ b18 0) = 0 then
  some (.ok FP.dconst0)
  else
  bd (P_X0_legSum κ b18) fun y23 =>
  ck ((FP.ddiv (FP.i2d y23) (FP.i2d (kI κ b18 0))) &&& 0x7fffffffffffffff ≤ 0x7ff0000000000000) <|
  some (.ok (FP.ddiv (FP.i2d y23) (FP.i2d (kI κ b18 0))))
def P_X6_renderSleeve (κ : jKt) (a0 : Nat) (a1 : Nat) (x2 : Int32) : Option (jKt) :=
  bd (P_X4_isPlanned κ a1 x2) fun y46 =>
  if y46 = 0 then
  ck (jin x2 16) <|
  bd2 (P_J4_append_bf812 κ (kR κ a0 10) (kI κ (kR κ a1 6) (ix x2))) fun b52 κ53 =>
  ck (jin x2 16) <|
  bd2 (P_J4_append_cf468 κ53 (kR κ53 a0 10) (kI κ53 (kR κ53 a1 5) (ix x2))) fun b59 κ60 =>
  some κ60
  else
  bd2 (P_J4_append_cf468 κ (kR κ a0 10) 46) fun b64 κ65 =>
  some κ65
def P_X6_type (κ : jKt) (a0 : Nat) (x1 : Int32) : Option (Except String Int32 × jKt) :=
  if x1 < 32 then
  some (.error "java/lang/IllegalArgumentException", κ)
  else
  if x1 ≤ 126 then
  if (kI κ (kR κ a0 7) 1) = 60 then
  some (.error "java/lang/IllegalStateException", κ)
  else
  bd2 (P_X2_append κ (kR κ a0 7) x1) fun y23 κ24 =>
  some (.ok y23, κ24)
  else
  some (.error "java/lang/IllegalArgumentException", κ)
def P_X6_save (κ : jKt) (a0 : Nat) : Option (Int32 × jKt) :=
  bd (P_X5_takeOver κ (kR κ a0 2) (kR κ a0 0)) fun κ18 =>
  bnd (kU κ18 a0 3 (.int 1)) fun κ19 =>
  some (kI κ19 (kR κ19 a0 0) 4, κ19)
def P_X6_restore (κ : jKt) (a0 : Nat) : Option (Except String Int32 × jKt) :=
  if (kI κ a0 3) = 0 then
  some (.error "java/lang/IllegalStateException", κ)
  else
  bd (P_X5_takeOver κ (kR κ a0 0) (kR κ a0 2)) fun κ21 =>
  bnd (kU κ21 a0 5 (.int 0)) fun κ22 =>
  some (.ok (kI κ22 (kR κ22 a0 0) 4), κ22)
def P_X6_pairs (κ : jKt) (a0 : Nat) (x1 : Int32) : Option (Except String Int32) :=
  bdx (P_X6_known κ a0 x1) (fun E11 => some (.error E11)) fun b10 =>
  some (.ok ((kI κ b10 0) / 2))
def P_X6_legLength (κ : jKt) (a0 : Nat) (x1 : Int32) (x2 : Int32) : Option (Except String Int32) :=
  bdx (P_X6_knownWithLeg κ a0 x1 x2) (fun E15 => some (.error E15)) fun b14 =>
  ck (jin x2 16) <|
  some (.ok (kI κ (kR κ b14 1) (ix x2)))
def P_X6_mirrorLeg (κ : jKt) (a0 : Nat) (x1 : Int32) (x2 : Int32) : Option (Except String Int32) :=
  bdx (P_X6_knownWithLeg κ a0 x1 x2) (fun E13 => some (.error E13)) fun b12 =>
  if (irem x2 2) = 0 then
  some (.ok (x2 + 1))
  else
  some (.ok (x2 - 1))
def P_X6_isMirrored (κ : jKt) (a0 : Nat) (x1 : Int32) : Option (Except String Int32) :=
  bdx (P_X6_known κ a0 x1) (fun E17 => some (.error E17)) fun b16 =>
  bd (P_X0_hasEvenPairs κ b16) fun y20 =>
  ck (jz y20) <|
  some (.ok y20)
def P_X6_customerByLegs (κ : jKt) (a0 : Nat) (x1 : Int32) : Option (Except String Int32) :=
  bd (P_X5_customerAtRank κ (kR κ a0 0) x1) fun y11 =>
  if 0 ≤ y11 then
  some (.ok y11)
  else
  some (.error "java/util/NoSuchElementException")
def P_X6_customerOf (κ : jKt) (a0 : Nat) (x1 : Int32) : Option (Except String Int32) :=
  bdx (P_X6_existing κ a0 x1) (fun E11 => some (.error E11)) fun b10 =>
  some (.ok (kI κ b10 1))
def P_X6_clothOf (κ : jKt) (a0 : Nat) (x1 : Int32) : Option (Except String Int32) :=
  bdx (P_X6_existing κ a0 x1) (fun E11 => some (.error E11)) fun b10 =>
  some (.ok (kI κ b10 2))
def P_X6_sleeveState (κ : jKt) (a0 : Nat) (x1 : Int32) (x2 : Int32) : Option (Except String Int32) :=
  bdx (P_X6_existingWithSleeve κ a0 x1 x2) (fun E17 => some (.error E17)) fun b16 =>
  ck (jin x2 16) <|
  ck (jch (kI κ (kR κ b16 5) (ix x2))) <|
  some (.ok (kI κ (kR κ b16 5) (ix x2)))
def P_X6_sleeveLength (κ : jKt) (a0 : Nat) (x1 : Int32) (x2 : Int32) : Option (Except String Int32) :=
  bdx (P_X6_existingWithPiece κ a0 x1 x2) (fun E15 => some (.error E15)) fun b14 =>
  ck (jin x2 16) <|
  some (.ok (kI κ (kR κ b14 6) (ix x2)))
def P_X6_doesFit (κ : jKt) (a0 : Nat) (x1 : Int32) (x2 : Int32) : Option (Except String Int32) :=
  bdx (P_X6_existingWithPiece κ a0 x1 x2) (fun E25 => some (.error E25)) fun b24 =>
  bd (P_X5_wearerOf κ (kR κ a0 0) b24) fun b29 =>
  bd (P_X4_fitsAt κ b24 x2 b29) fun y32 =>
  ck (jz y32) <|
  some (.ok y32)
def P_X6_sewnSleeves (κ : jKt) (a0 : Nat) (x1 : Int32) : Option (Except String Int32) :=
  bdx (P_X6_existing κ a0 x1) (fun E15 => some (.error E15)) fun b14 =>
  bd (P_X4_sewnCount κ b14) fun y18 =>
  some (.ok y18)
def P_X6_demandCount (κ : jKt) (a0 : Nat) (x1 : Int32) : Option (Except String Int32) :=
  bdx (P_X6_existing κ a0 x1) (fun E11 => some (.error E11)) fun b10 =>
  some (.ok (kI κ b10 4))
def P_X6_isBefore (κ : jKt) (a0 : Nat) (x1 : Int32) (x2 : Int32) (x3 : Int32) : Option (Except String Int32) :=
  bdx (P_X6_existingWithSleeve κ a0 x1 x2) (fun E25 => some (.error E25)) fun b24 =>
  bdx (P_X6_existingWithSleeve κ a0 x1 x3) (fun E29 => some (.error E29)) fun b28 =>
  bd (P_X4_comesBefore κ b28 x2 x3) fun y32 =>
  ck (jz y32) <|
  some (.ok y32)
def P_X6_canDeliver (κ : jKt) (a0 : Nat) (x1 : Int32) : Option (Except String Int32) :=
  bdx (P_X6_existing κ a0 x1) (fun E25 => some (.error E25)) fun b24 =>
  bd (P_X5_wearerOf κ (kR κ a0 0) b24) fun b29 =>
  bd (P_X4_isReadyFor κ b24 b29) fun y32 =>
  ck (jz y32) <|
  some (.ok y32)
def P_X6_price (κ : jKt) (a0 : Nat) (x1 : Int32) : Option (Except String Int32) :=
  bdx (P_X6_existing κ a0 x1) (fun E23 => some (.error E23)) fun b22 =>
  bd (P_X5_wearerOf κ (kR κ a0 0) b22) fun b27 =>
  bd (P_X4_priceFor κ b22 b27) fun y30 =>
  some (.ok y30)
def P_X6_sleevesLeft (κ : jKt) (a0 : Nat) (x1 : Int32) : Option (Except String Int32) :=
  bdx (P_X6_existing κ a0 x1) (fun E15 => some (.error E15)) fun b14 =>
  bd (P_X4_unsewnCount κ b14) fun y18 =>
  some (.ok y18)
def P_X6_clothNeeded (κ : jKt) (a0 : Nat) (x1 : Int32) : Option (Except String Int32) :=
  bdx (P_X6_existing κ a0 x1) (fun E23 => some (.error E23)) fun b22 =>
  bd (P_X5_wearerOf κ (kR κ a0 0) b22) fun b27 =>
  bd (P_X4_neededBySleeve κ b22 b27) fun y30 =>
  some (.ok y30)
def P_X6_clothNeededByDifference (κ : jKt) (a0 : Nat) (x1 : Int32) : Option (Except String Int32) :=
  bdx (P_X6_existing κ a0 x1) (fun E23 => some (.error E23)) fun b22 =>
  bd (P_X5_wearerOf κ (kR κ a0 0) b22) fun b27 =>
  bd (P_X4_neededByDifference κ b22 b27) fun y30 =>
  some (.ok y30)
def P_X6_renderSuit_16 (a0 : Nat) (a2 : Nat) : Nat → jKt → Int32 → Option (Except String Int32 × jKt)
  | 0, _, _ => none
  | n + 1, κ, v3 =>
    if (kI κ a2 3) ≤ v3 then
  bd (P_J4_length_8abf5 κ (kR κ a0 10)) fun y60 =>
  some (.ok y60, κ)
  else
  if v3 ≤ 0 then
  bd (P_X6_renderSleeve κ a0 a2 v3) fun κ63 =>
  P_X6_renderSuit_16 a0 a2 n κ63 (v3 + 1)
  else
  if (irem v3 2) = 0 then
  bd2 (P_J4_append_cf468 κ (kR κ a0 10) 124) fun b73 κ74 =>
  bd (P_X6_renderSleeve κ74 a0 a2 v3) fun κ77 =>
  P_X6_renderSuit_16 a0 a2 n κ77 (v3 + 1)
  else
  bd2 (P_J4_append_cf468 κ (kR κ a0 10) 32) fun b67 κ68 =>
  bd (P_X6_renderSleeve κ68 a0 a2 v3) fun κ71 =>
  P_X6_renderSuit_16 a0 a2 n κ71 (v3 + 1)
def P_X6_renderSuit (κ : jKt) (a0 : Nat) (x1 : Int32) : Option (Except String Int32 × jKt) :=
  bdx (P_X6_existing κ a0 x1) (fun E80 => some (.error E80, κ)) fun b79 =>
  bd (P_J4_setLength_d00df κ (kR κ a0 10) 0) fun κ84 =>
  P_X6_renderSuit_16 a0 b79 17 κ84 0
def P_X6_change (κ : jKt) (a0 : Nat) (x1 : Int32) (x2 : Int32) (x3 : Int32) (x4 : Int32) : Option (Except String Int32 × jKt) :=
  bd (P_X5_takeOver κ (kR κ a0 1) (kR κ a0 0)) fun κ36 =>
  bd2 (P_X5_perform κ36 (kR κ36 a0 1) x1 x2 x3 x4) fun y39 κ40 =>
  if 0 ≤ y39 then
  bd (P_X6_adoptTrial κ40 a0) fun κ43 =>
  some (.ok y39, κ43)
  else
  bdx (P_X6_refuse κ40 y39) (fun E46 => some (.error E46, κ40)) fun _ =>
  bd (P_X6_adoptTrial κ40 a0) fun κ48 =>
  some (.ok y39, κ48)
def P_X6_sewingOrder (κ : jKt) (a0 : Nat) (x1 : Int32) (x2 : Int32) : Option (Except String Int32 × jKt) :=
  bdx (P_X6_existing κ a0 x1) (fun E30 => some (.error E30, κ)) fun b29 =>
  bd2 (P_X1_findByScan κ (kR κ a0 6) b29) fun y33 κ34 =>
  bdx (P_X6_placeInOrder κ34 (kR κ34 (kR κ34 a0 6) 0) y33 x2) (fun E39 => some (.error E39, κ34)) fun y38 =>
  some (.ok y38, κ34)
def P_X6_rounds (κ : jKt) (a0 : Nat) (x1 : Int32) : Option (Except String Int32) :=
  bdx (P_X6_existing κ a0 x1) (fun E15 => some (.error E15)) fun b14 =>
  bd (P_X4_roundsLeft κ b14) fun y18 =>
  some (.ok y18)
def P_X6_renderOrder_42 (κ : jKt) (a0 : Nat) (v2 : Int32) (v3 : Int32) (K23 : jKt → Int32 → Option (Except String Int32 × jKt)) : Option (Except String Int32 × jKt) :=
  ck (jin v3 16) <|
  bd2 (P_J4_append_bf812 κ (kR κ a0 10) (kI κ (kR κ (kR κ a0 6) 0) (ix v3))) fun b64 κ65 =>
  K23 κ65 (v3 + 1)
def P_X6_renderOrder_23 (a0 : Nat) (v2 : Int32) : Nat → jKt → Int32 → Option (Except String Int32 × jKt)
  | 0, _, _ => none
  | n + 1, κ, v3 =>
    if v2 ≤ v3 then
  bd (P_J4_length_8abf5 κ (kR κ a0 10)) fun y70 =>
  some (.ok y70, κ)
  else
  if v3 ≤ 0 then
  P_X6_renderOrder_42 κ a0 v2 v3 (P_X6_renderOrder_23 a0 v2 n)
  else
  bd2 (P_J4_append_cf468 κ (kR κ a0 10) 44) fun b74 κ75 =>
  P_X6_renderOrder_42 κ75 a0 v2 v3 (P_X6_renderOrder_23 a0 v2 n)
def P_X6_renderOrder (κ : jKt) (a0 : Nat) (x1 : Int32) : Option (Except String Int32 × jKt) :=
  bdx (P_X6_existing κ a0 x1) (fun E80 => some (.error E80, κ)) fun b79 =>
  bd2 (P_X1_findByScan κ (kR κ a0 6) b79) fun y83 κ84 =>
  bd (P_J4_setLength_d00df κ84 (kR κ84 a0 10) 0) fun κ87 =>
  P_X6_renderOrder_23 a0 y83 17 κ87 0
def P_X6_buyCloth (κ : jKt) (a0 : Nat) (x1 : Int32) (x2 : Int32) : Option (Except String Int32 × jKt) :=
  bdx2 (P_X6_change κ a0 0 x1 x2 0) (fun E11 κ12 => some (.error E11, κ12)) fun y10 κ12 =>
  some (.ok y10, κ12)
def P_X6_addCustomer (κ : jKt) (a0 : Nat) (x1 : Int32) (x2 : Int32) : Option (Except String Int32 × jKt) :=
  bdx2 (P_X6_change κ a0 1 x1 x2 0) (fun E11 κ12 => some (.error E11, κ12)) fun y10 κ12 =>
  some (.ok y10, κ12)
def P_X6_fit (κ : jKt) (a0 : Nat) (x1 : Int32) (x2 : Int32) (x3 : Int32) : Option (Except String Int32 × jKt) :=
  bdx2 (P_X6_change κ a0 2 x1 x2 x3) (fun E11 κ12 => some (.error E11, κ12)) fun y10 κ12 =>
  some (.ok y10, κ12)
def P_X6_orderSuit (κ : jKt) (a0 : Nat) (x1 : Int32) (x2 : Int32) : Option (Except String Int32 × jKt) :=
  bdx2 (P_X6_change κ a0 3 x1 x2 0) (fun E11 κ12 => some (.error E11, κ12)) fun y10 κ12 =>
  some (.ok y10, κ12)
def P_X6_cut (κ : jKt) (a0 : Nat) (x1 : Int32) (x2 : Int32) : Option (Except String Int32 × jKt) :=
  bdx2 (P_X6_change κ a0 4 x1 x2 0) (fun E11 κ12 => some (.error E11, κ12)) fun y10 κ12 =>
  some (.ok y10, κ12)
def P_X6_sew (κ : jKt) (a0 : Nat) (x1 : Int32) (x2 : Int32) : Option (Except String Int32 × jKt) :=
  bdx2 (P_X6_change κ a0 5 x1 x2 0) (fun E11 κ12 => some (.error E11, κ12)) fun y10 κ12 =>
  some (.ok y10, κ12)
def P_X6_unpick (κ : jKt) (a0 : Nat) (x1 : Int32) (x2 : Int32) : Option (Except String Int32 × jKt) :=
  bdx2 (P_X6_change κ a0 6 x1 x2 0) (fun E11 κ12 => some (.error E11, κ12)) fun y10 κ12 =>
  some (.ok y10, κ12)
def P_X6_demand (κ : jKt) (a0 : Nat) (x1 : Int32) (x2 : Int32) (x3 : Int32) : Option (Except String Int32 × jKt) :=
  bdx2 (P_X6_change κ a0 7 x1 x2 x3) (fun E11 κ12 => some (.error E11, κ12)) fun y10 κ12 =>
  some (.ok y10, κ12)
def P_X6_deliver (κ : jKt) (a0 : Nat) (x1 : Int32) : Option (Except String Int32 × jKt) :=
  bdx2 (P_X6_change κ a0 8 x1 0 0) (fun E11 κ12 => some (.error E11, κ12)) fun y10 κ12 =>
  some (.ok y10, κ12)
def P_X6_scrap (κ : jKt) (a0 : Nat) (x1 : Int32) : Option (Except String Int32 × jKt) :=
  bdx2 (P_X6_change κ a0 9 x1 0 0) (fun E11 κ12 => some (.error E11, κ12)) fun y10 κ12 =>
  some (.ok y10, κ12)
def P_X6_sewingOrderByQueue (κ : jKt) (a0 : Nat) (x1 : Int32) (x2 : Int32) : Option (Except String Int32 × jKt) :=
  bdx (P_X6_existing κ a0 x1) (fun E30 => some (.error E30, κ)) fun b29 =>
  bd2 (P_X1_findByQueue κ (kR κ a0 6) b29) fun y33 κ34 =>
  bdx (P_X6_placeInOrder κ34 (kR κ34 (kR κ34 a0 6) 1) y33 x2) (fun E39 => some (.error E39, κ34)) fun y38 =>
  some (.ok y38, κ34)
def P_X6_isSuitConsistent (κ : jKt) (a0 : Nat) (a1 : Nat) : Option (Int32 × jKt) :=
  bd (P_X5_wearerOf κ (kR κ a0 0) a1) fun b43 =>
  bd2 (P_X1_bothWaysAgree κ (kR κ a0 6) a1) fun y47 κ48 =>
  if y47 = 0 then
  some (0, κ48)
  else
  bd (P_X4_neededBySleeve κ48 a1 b43) fun y51 =>
  bd (P_X4_neededByDifference κ48 a1 b43) fun y53 =>
  if y51 = y53 then
  bd (P_X4_hasCycle κ48 a1) fun y56 =>
  if y56 = 0 then
  bd (P_X4_isSewnInOrder κ48 a1) fun y59 =>
  if y59 = 0 then
  some (0, κ48)
  else
  some (1, κ48)
  else
  some (0, κ48)
  else
  some (0, κ48)
def P_X6_isConsistent_2 (a0 : Nat) : Nat → jKt → Int32 → Option (Int32 × jKt)
  | 0, _, _ => none
  | n + 1, κ, v1 =>
    if (kI κ (kR κ a0 0) 4) ≤ v1 then
  bd (P_X5_accountsForCloth κ (kR κ a0 0)) fun y33 =>
  ck (jz y33) <|
  some (y33, κ)
  else
  ck (jin v1 6) <|
  bd2 (P_X6_isSuitConsistent κ a0 (kR κ (kR κ (kR κ a0 0) 3) (ix v1))) fun y40 κ41 =>
  if y40 = 0 then
  some (0, κ41)
  else
  P_X6_isConsistent_2 a0 n κ41 (v1 + 1)
def P_X6_isConsistent (κ : jKt) (a0 : Nat) : Option (Int32 × jKt) :=
  P_X6_isConsistent_2 a0 4000 κ 0
def P_X6_runScript (κ : jKt) (a0 : Nat) : Option (Except String Int32 × jKt) :=
  bd2 (P_X2_read κ (kR κ a0 7)) fun y53 κ54 =>
  bnd (kU κ54 (kR κ54 a0 7) 1 (.int 0)) fun κ56 =>
  if y53 = (-1) then
  bd (P_X5_takeOver κ56 (kR κ56 a0 1) (kR κ56 a0 0)) fun κ62 =>
  bd2 (P_X2_performIn κ62 (kR κ62 a0 7) (kR κ62 a0 1)) fun y66 κ67 =>
  if y66 = (-1) then
  bd (P_X6_adoptTrial κ67 a0) fun κ70 =>
  some (.ok (kI κ70 (kR κ70 a0 7) 4), κ70)
  else
  bnd (kU κ67 a0 9 (.int y66)) fun κ72 =>
  some (.error "java/lang/IllegalStateException", κ72)
  else
  bnd (kU κ56 a0 8 (.int y53)) fun κ74 =>
  some (.error "java/lang/IllegalArgumentException", κ74)
set_option maxRecDepth 20000 in
theorem w_X6_refuse_0 {F : jFm} (C : jB F RX6 cX6_refuse 1 none 9 1 6 160) {κ : jKt} {x0 : Int32} {r : Except String Unit} (hq : jFinX F (fun _ => none) r κ) (h : P_X6_refuse κ x0 = some r) : jW F 1 0 0 κ 0 [(0, .int x0)] [] := by
  unfold P_X6_refuse at h
  refine r_iload_n C.1 0 1 rfl dX6_refuse_0 rfl ?_
  by_cases c9 : x0 = (-4)
  · have h := if_some_t c9 h
    refine r_tableAt C.1 62 (x0 := (-4)) c9 dX6_refuse_1 (by decide) (by decide) rfl rfl ?_
    cases h
    exact r_throw C (Nat.le_of_ble_eq_true rfl) (Nat.le_of_ble_eq_true rfl) (Nat.le_of_ble_eq_true rfl) (Nat.le_of_ble_eq_true rfl) th_X6_96_98_100 dX6_refuse_62 dX6_refuse_65 dX6_refuse_66 dX6_refuse_68 dX6_refuse_71 hq
  replace h := if_some_f c9 h
  by_cases c10 : x0 = (-3)
  · have h := if_some_t c10 h
    refine r_tableAt C.1 52 (x0 := (-3)) c10 dX6_refuse_1 (by decide) (by decide) rfl rfl ?_
    cases h
    exact r_throw C (Nat.le_of_ble_eq_true rfl) (Nat.le_of_ble_eq_true rfl) (Nat.le_of_ble_eq_true rfl) (Nat.le_of_ble_eq_true rfl) th_X6_91_93_95 dX6_refuse_52 dX6_refuse_55 dX6_refuse_56 dX6_refuse_58 dX6_refuse_61 hq
  replace h := if_some_f c10 h
  by_cases c11 : x0 = (-2)
  · have h := if_some_t c11 h
    refine r_tableAt C.1 42 (x0 := (-2)) c11 dX6_refuse_1 (by decide) (by decide) rfl rfl ?_
    cases h
    exact r_throw C (Nat.le_of_ble_eq_true rfl) (Nat.le_of_ble_eq_true rfl) (Nat.le_of_ble_eq_true rfl) (Nat.le_of_ble_eq_true rfl) th_X6_86_88_90 dX6_refuse_42 dX6_refuse_45 dX6_refuse_46 dX6_refuse_48 dX6_refuse_51 hq
  replace h := if_some_f c11 h
  by_cases c12 : x0 = (-1)
  · have h := if_some_t c12 h
    refine r_tableAt C.1 32 (x0 := (-1)) c12 dX6_refuse_1 (by decide) (by decide) rfl rfl ?_
    cases h
    exact r_throx C (Nat.le_of_ble_eq_true rfl) (Nat.le_of_ble_eq_true rfl) (Nat.le_of_ble_eq_true rfl) (Nat.le_of_ble_eq_true rfl) th_X6_79_81_83 dX6_refuse_32 dX6_refuse_35 dX6_refuse_36 dX6_refuse_38 dX6_refuse_41 hq
  replace h := if_some_f c12 h
  refine r_tableOut C.1 72 dX6_refuse_1 (by have g0 : x0.toInt ≠ -4 := sw_ne c9; have g1 : x0.toInt ≠ -3 := sw_ne c10; have g2 : x0.toInt ≠ -2 := sw_ne c11; have g3 : x0.toInt ≠ -1 := sw_ne c12; omega) rfl ?_
  cases h
  exact r_throw C (Nat.le_of_ble_eq_true rfl) (Nat.le_of_ble_eq_true rfl) (Nat.le_of_ble_eq_true rfl) (Nat.le_of_ble_eq_true rfl) th_X6_101_103_105 dX6_refuse_72 dX6_refuse_75 dX6_refuse_76 dX6_refuse_78 dX6_refuse_81 hq
theorem c_X6_refuse {l : Launch} {G : jG} {sh : jSh} {κ : jKt} {x0 : Int32}  (h : P_X6_refuse κ x0 = some (.ok ())) : jM l G yX6_refuse cX6_refuse 1 none 9 1 6 160 [.int x0] (sh, κ) (jIs none (sh, κ)) jNo :=
  r_body (by decide) (Nat.le_of_ble_eq_true rfl) fun F C hl hG hs ho hx => by
    subst hs
    exact w_X6_refuse_0 C (fin_ok (by rw [ho]; exact ⟨rfl, rfl⟩)) h
theorem x_X6_refuse {l : Launch} {G : jG} {sh : jSh} {κ : jKt} {x0 : Int32} {E : String} (h : P_X6_refuse κ x0 = some (.error E)) : jM l G yX6_refuse cX6_refuse 1 none 9 1 6 160 [.int x0] (sh, κ) (fun _ _ => False) (jXs E (sh, κ)) :=
  r_body (by decide) (Nat.le_of_ble_eq_true rfl) fun F C hl hG hs ho hx => by
    subst hs
    exact w_X6_refuse_0 C (fin_er (by rw [hx]; exact ⟨rfl, rfl⟩)) h
set_option maxRecDepth 20000 in
theorem w_X6_forgetOldest_9 {F : jFm} (C : jB F RX6 cX6_forgetOldest 3 none 0 0 0 0) {a0 : Nat} (ha0 : jSof F a0 = (1, 10, 11)) {a1 : Nat} (ha1 : jSof F a1 = (1, 9, 11)) {r : jKt} (hq : jOut F none r) : ∀ (n : Nat) (κ : jKt) (v2 : Int32), P_X6_forgetOldest_9 a0 a1 n κ v2 = some r → jW F 3 0 0 κ 9 [(0, .ref a0), (1, .ref a1), (2, .int v2)] [] := by
  intro n
  induction n with
  | zero => intro κ v2 h; cases h
  | succ n ih =>
    intro κ v2 h
    rw [P_X6_forgetOldest_9] at h
    refine r_iload_n C.1 2 10 rfl dX6_forgetOldest_9 rfl ?_
    refine r_bipush C.1 8 rfl 12 rfl dX6_forgetOldest_10 ?_
    refine r_icmp_ge C.1 35 15 rfl dX6_forgetOldest_12 rfl ⟨fun c31 => ?_, fun c31 => ?_⟩
    · have h := if_some_t c31 h
      refine r_aload_n C.1 0 36 rfl dX6_forgetOldest_35 rfl ?_
      refine r_getR C.1 4 fl_X6_26 rfl ha0 39 rfl dX6_forgetOldest_36 (fun (h32 : jSof F (kR κ a0 4) = (2, 7, 8)) => ?_)
      refine r_bipush C.1 7 rfl 41 rfl dX6_forgetOldest_39 ?_
      refine r_aload_n C.1 1 42 rfl dX6_forgetOldest_41 rfl ?_
      obtain ⟨κ33, e34, h⟩ := bnd_some h
      refine r_aast C.1 9 rfl rfl rfl ha1 h32 (by decide) e34 43 rfl dX6_forgetOldest_42 ?_
      refine r_aload_n C.1 0 44 rfl dX6_forgetOldest_43 rfl ?_
      refine r_bipush C.1 7 rfl 46 rfl dX6_forgetOldest_44 ?_
      obtain ⟨κ35, e36, h⟩ := bnd_some h
      refine r_putI C.1 5 fw_X6_30 rfl rfl rfl ha0 e36 49 rfl dX6_forgetOldest_46 ?_
      cases h
      exact r_vret C rfl (Nat.le_of_ble_eq_true rfl) (Nat.le_of_ble_eq_true rfl) dX6_forgetOldest_49 hq
    · have h := if_some_f c31 h
      refine r_aload_n C.1 0 16 rfl dX6_forgetOldest_15 rfl ?_
      refine r_getR C.1 4 fl_X6_26 rfl ha0 19 rfl dX6_forgetOldest_16 (fun (h37 : jSof F (kR κ a0 4) = (2, 7, 8)) => ?_)
      refine r_iload_n C.1 2 20 rfl dX6_forgetOldest_19 rfl ?_
      refine r_iconst C.1 1 rfl 21 rfl dX6_forgetOldest_20 ?_
      refine r_isub C.1 22 rfl dX6_forgetOldest_21 ?_
      refine r_aload_n C.1 0 23 rfl dX6_forgetOldest_22 rfl ?_
      refine r_getR C.1 4 fl_X6_26 rfl ha0 26 rfl dX6_forgetOldest_23 (fun (h38 : jSof F (kR κ a0 4) = (2, 7, 8)) => ?_)
      refine r_iload_n C.1 2 27 rfl dX6_forgetOldest_26 rfl ?_
      obtain ⟨i39, h⟩ := ck_some h
      refine r_aald C.1 rfl rfl h38 i39 28 rfl dX6_forgetOldest_27 (fun (h40 : jSof F (kR κ (kR κ a0 4) (ix v2)) = (1, 9, 11)) => ?_)
      obtain ⟨i41, h⟩ := ck_some h
      obtain ⟨κ42, e43, h⟩ := bnd_some h
      refine r_aast C.1 9 rfl rfl rfl h40 h37 i41 e43 29 rfl dX6_forgetOldest_28 ?_
      refine r_iinc C.1 (lv' := [(0, .ref a0), (1, .ref a1), (2, .int (v2 + 1))]) 2 [1, 2, 0] 32 rfl dX6_forgetOldest_29 rfl (Nat.le_of_ble_eq_true rfl) rfl rfl ?_
      refine r_goto C.1 9 dX6_forgetOldest_32 rfl ?_
      exact ih κ42 (v2 + 1) h
set_option maxRecDepth 20000 in
theorem w_X6_forgetOldest_0 {F : jFm} (C : jB F RX6 cX6_forgetOldest 3 none 0 0 0 0) {κ : jKt} {a0 : Nat} (ha0 : jSof F a0 = (1, 10, 11)) {r : jKt} (hq : jOut F none r) (h : P_X6_forgetOldest κ a0 = some r) : jW F 3 0 0 κ 0 [(0, .ref a0)] [] := by
  unfold P_X6_forgetOldest at h
  refine r_aload_n C.1 0 1 rfl dX6_forgetOldest_0 rfl ?_
  refine r_getR C.1 4 fl_X6_26 rfl ha0 4 rfl dX6_forgetOldest_1 (fun (h44 : jSof F (kR κ a0 4) = (2, 7, 8)) => ?_)
  refine r_iconst C.1 0 rfl 5 rfl dX6_forgetOldest_4 ?_
  refine r_aald C.1 rfl rfl h44 (by decide) 6 rfl dX6_forgetOldest_5 (fun (h45 : jSof F (kR κ (kR κ a0 4) (ix 0)) = (1, 9, 11)) => ?_)
  refine r_astore_n C.1 (lv' := [(0, .ref a0), (1, .ref (kR κ (kR κ a0 4) (ix 0)))]) [1, 0] 7 rfl dX6_forgetOldest_6 (Nat.le_of_ble_eq_true rfl) rfl ?_
  refine r_iconst C.1 1 rfl 8 rfl dX6_forgetOldest_7 ?_
  refine r_istore_n C.1 (lv' := [(0, .ref a0), (1, .ref (kR κ (kR κ a0 4) (ix 0))), (2, .int 1)]) [1, 2, 0] 9 rfl dX6_forgetOldest_8 (Nat.le_of_ble_eq_true rfl) rfl ?_
  exact w_X6_forgetOldest_9 C ha0 h45 hq 4000 κ 1 h
theorem c_X6_forgetOldest {l : Launch} {G : jG} {sh : jSh} {κ : jKt} {a0 : Nat} (ha0 : sh a0 = (1, 10, 11))  {κr : jKt} (h : P_X6_forgetOldest κ a0 = some κr) : jM l G yX6_forgetOldest cX6_forgetOldest 3 none 0 0 0 0 [.ref a0] (sh, κ) (jIs none (sh, κr)) jNo :=
  r_body (by decide) (Nat.le_of_ble_eq_true rfl) fun F C hl hG hs ho hx => by
    subst hs
    exact w_X6_forgetOldest_0 C ha0 (by rw [ho]; exact ⟨rfl, rfl⟩) h
set_option maxRecDepth 20000 in
theorem w_X6_stock_0 {F : jFm} (C : jB F RX6 cX6_stock 2 (some .int) 9 1 6 160) {κ : jKt} {a0 : Nat} (ha0 : jSof F a0 = (1, 10, 11)) {x1 : Int32} {r : Except String Int32} (hq : jFinX F (fun x => some (.int x)) r κ) (h : P_X6_stock κ a0 x1 = some r) : jW F 2 0 0 κ 0 [(0, .ref a0), (1, .int x1)] [] := by
  unfold P_X6_stock at h
  refine r_iload_n C.1 1 1 rfl dX6_stock_0 rfl ?_
  refine r_if_lt C.1 9 4 rfl dX6_stock_1 rfl ⟨fun c11 => ?_, fun c11 => ?_⟩
  · have h := if_some_t c11 h
    cases h
    exact r_throw C (Nat.le_of_ble_eq_true rfl) (Nat.le_of_ble_eq_true rfl) (Nat.le_of_ble_eq_true rfl) (Nat.le_of_ble_eq_true rfl) th_X6_86_109_90 dX6_stock_9 dX6_stock_12 dX6_stock_13 dX6_stock_15 dX6_stock_18 hq
  · have h := if_some_f c11 h
    refine r_iload_n C.1 1 5 rfl dX6_stock_4 rfl ?_
    refine r_iconst C.1 4 rfl 6 rfl dX6_stock_5 ?_
    refine r_icmp_lt C.1 19 9 rfl dX6_stock_6 rfl ⟨fun c12 => ?_, fun c12 => ?_⟩
    · have h := if_some_t c12 h
      refine r_aload_n C.1 0 20 rfl dX6_stock_19 rfl ?_
      refine r_getR C.1 0 fl_X6_12 rfl ha0 23 rfl dX6_stock_20 (fun (h13 : jSof F (kR κ a0 0) = (1, 9, 11)) => ?_)
      refine r_getR C.1 0 fl_X6_111 rfl h13 26 rfl dX6_stock_23 (fun (h14 : jSof F (kR κ (kR κ a0 0) 0) = (2, 0, 4)) => ?_)
      refine r_iload_n C.1 1 27 rfl dX6_stock_26 rfl ?_
      obtain ⟨i15, h⟩ := ck_some h
      refine r_iald C.1 h14 i15 28 rfl dX6_stock_27 ?_
      cases h
      exact r_zret C rfl rfl (Nat.le_of_ble_eq_true rfl) (Nat.le_of_ble_eq_true rfl) dX6_stock_28 hq
    · have h := if_some_f c12 h
      cases h
      exact r_throw C (Nat.le_of_ble_eq_true rfl) (Nat.le_of_ble_eq_true rfl) (Nat.le_of_ble_eq_true rfl) (Nat.le_of_ble_eq_true rfl) th_X6_86_109_90 dX6_stock_9 dX6_stock_12 dX6_stock_13 dX6_stock_15 dX6_stock_18 hq
theorem c_X6_stock {l : Launch} {G : jG} {sh : jSh} {κ : jKt} {a0 : Nat} (ha0 : sh a0 = (1, 10, 11)) {x1 : Int32} {r : Int32} (h : P_X6_stock κ a0 x1 = some (.ok r)) : jM l G yX6_stock cX6_stock 2 (some .int) 9 1 6 160 [.ref a0, .int x1] (sh, κ) (jIs (some (.int r)) (sh, κ)) jNo :=
  r_body (by decide) (Nat.le_of_ble_eq_true rfl) fun F C hl hG hs ho hx => by
    subst hs
    exact w_X6_stock_0 C ha0 (fin_ok (by rw [ho]; exact ⟨rfl, rfl⟩)) h
theorem x_X6_stock {l : Launch} {G : jG} {sh : jSh} {κ : jKt} {a0 : Nat} (ha0 : sh a0 = (1, 10, 11)) {x1 : Int32} {E : String} (h : P_X6_stock κ a0 x1 = some (.error E)) : jM l G yX6_stock cX6_stock 2 (some .int) 9 1 6 160 [.ref a0, .int x1] (sh, κ) (fun _ _ => False) (jXs E (sh, κ)) :=
  r_body (by decide) (Nat.le_of_ble_eq_true rfl) fun F C hl hG hs ho hx => by
    subst hs
    exact w_X6_stock_0 C ha0 (fin_er (by rw [hx]; exact ⟨rfl, rfl⟩)) h
set_option maxRecDepth 20000 in
theorem w_X6_customerCount_0 {F : jFm} (C : jB F RX6 cX6_customerCount 1 (some .int) 0 0 0 0) {κ : jKt} {a0 : Nat} (ha0 : jSof F a0 = (1, 10, 11)) {r : Int32} (hq : jOut F (some (.int r)) κ) (h : P_X6_customerCount κ a0 = some r) : jW F 1 0 0 κ 0 [(0, .ref a0)] [] := by
  unfold P_X6_customerCount at h
  refine r_aload_n C.1 0 1 rfl dX6_customerCount_0 rfl ?_
  refine r_getR C.1 0 fl_X6_12 rfl ha0 4 rfl dX6_customerCount_1 (fun (h3 : jSof F (kR κ a0 0) = (1, 9, 11)) => ?_)
  refine r_getI C.1 2 fl_X6_115 rfl h3 7 rfl dX6_customerCount_4 ?_
  cases h
  exact r_zret C rfl rfl (Nat.le_of_ble_eq_true rfl) (Nat.le_of_ble_eq_true rfl) dX6_customerCount_7 hq
theorem c_X6_customerCount {l : Launch} {G : jG} {sh : jSh} {κ : jKt} {a0 : Nat} (ha0 : sh a0 = (1, 10, 11)) {r : Int32} (h : P_X6_customerCount κ a0 = some r) : jM l G yX6_customerCount cX6_customerCount 1 (some .int) 0 0 0 0 [.ref a0] (sh, κ) (jIs (some (.int r)) (sh, κ)) jNo :=
  r_body (by decide) (Nat.le_of_ble_eq_true rfl) fun F C hl hG hs ho hx => by
    subst hs
    exact w_X6_customerCount_0 C ha0 (by rw [ho]; exact ⟨rfl, rfl⟩) h
set_option maxRecDepth 20000 in
theorem w_X6_suitCount_0 {F : jFm} (C : jB F RX6 cX6_suitCount 1 (some .int) 0 0 0 0) {κ : jKt} {a0 : Nat} (ha0 : jSof F a0 = (1, 10, 11)) {r : Int32} (hq : jOut F (some (.int r)) κ) (h : P_X6_suitCount κ a0 = some r) : jW F 1 0 0 κ 0 [(0, .ref a0)] [] := by
  unfold P_X6_suitCount at h
  refine r_aload_n C.1 0 1 rfl dX6_suitCount_0 rfl ?_
  refine r_getR C.1 0 fl_X6_12 rfl ha0 4 rfl dX6_suitCount_1 (fun (h3 : jSof F (kR κ a0 0) = (1, 9, 11)) => ?_)
  refine r_getI C.1 4 fl_X6_159 rfl h3 7 rfl dX6_suitCount_4 ?_
  cases h
  exact r_zret C rfl rfl (Nat.le_of_ble_eq_true rfl) (Nat.le_of_ble_eq_true rfl) dX6_suitCount_7 hq
theorem c_X6_suitCount {l : Launch} {G : jG} {sh : jSh} {κ : jKt} {a0 : Nat} (ha0 : sh a0 = (1, 10, 11)) {r : Int32} (h : P_X6_suitCount κ a0 = some r) : jM l G yX6_suitCount cX6_suitCount 1 (some .int) 0 0 0 0 [.ref a0] (sh, κ) (jIs (some (.int r)) (sh, κ)) jNo :=
  r_body (by decide) (Nat.le_of_ble_eq_true rfl) fun F C hl hG hs ho hx => by
    subst hs
    exact w_X6_suitCount_0 C ha0 (by rw [ho]; exact ⟨rfl, rfl⟩) h
set_option maxRecDepth 20000 in
theorem w_X6_suitAt_0 {F : jFm} (C : jB F RX6 cX6_suitAt 2 (some .int) 9 1 6 160) {κ : jKt} {a0 : Nat} (ha0 : jSof F a0 = (1, 10, 11)) {x1 : Int32} {r : Except String Int32} (hq : jFinX F (fun x => some (.int x)) r κ) (h : P_X6_suitAt κ a0 x1 = some r) : jW F 2 0 0 κ 0 [(0, .ref a0), (1, .int x1)] [] := by
  unfold P_X6_suitAt at h
  refine r_iload_n C.1 1 1 rfl dX6_suitAt_0 rfl ?_
  refine r_if_lt C.1 15 4 rfl dX6_suitAt_1 rfl ⟨fun c15 => ?_, fun c15 => ?_⟩
  · have h := if_some_t c15 h
    cases h
    exact r_throx C (Nat.le_of_ble_eq_true rfl) (Nat.le_of_ble_eq_true rfl) (Nat.le_of_ble_eq_true rfl) (Nat.le_of_ble_eq_true rfl) th_X6_79_162_83 dX6_suitAt_15 dX6_suitAt_18 dX6_suitAt_19 dX6_suitAt_21 dX6_suitAt_24 hq
  · have h := if_some_f c15 h
    refine r_iload_n C.1 1 5 rfl dX6_suitAt_4 rfl ?_
    refine r_aload_n C.1 0 6 rfl dX6_suitAt_5 rfl ?_
    refine r_getR C.1 0 fl_X6_12 rfl ha0 9 rfl dX6_suitAt_6 (fun (h16 : jSof F (kR κ a0 0) = (1, 9, 11)) => ?_)
    refine r_getI C.1 4 fl_X6_159 rfl h16 12 rfl dX6_suitAt_9 ?_
    refine r_icmp_lt C.1 25 15 rfl dX6_suitAt_12 rfl ⟨fun c17 => ?_, fun c17 => ?_⟩
    · have h := if_some_t c17 h
      refine r_aload_n C.1 0 26 rfl dX6_suitAt_25 rfl ?_
      refine r_getR C.1 0 fl_X6_12 rfl ha0 29 rfl dX6_suitAt_26 (fun (h18 : jSof F (kR κ a0 0) = (1, 9, 11)) => ?_)
      refine r_getR C.1 3 fl_X6_164 rfl h18 32 rfl dX6_suitAt_29 (fun (h19 : jSof F (kR κ (kR κ a0 0) 3) = (2, 6, 6)) => ?_)
      refine r_iload_n C.1 1 33 rfl dX6_suitAt_32 rfl ?_
      obtain ⟨i20, h⟩ := ck_some h
      refine r_aald C.1 rfl rfl h19 i20 34 rfl dX6_suitAt_33 (fun (h21 : jSof F (kR κ (kR κ (kR κ a0 0) 3) (ix x1)) = (1, 8, 8)) => ?_)
      refine r_getI C.1 0 fl_X6_168 rfl h21 37 rfl dX6_suitAt_34 ?_
      cases h
      exact r_zret C rfl rfl (Nat.le_of_ble_eq_true rfl) (Nat.le_of_ble_eq_true rfl) dX6_suitAt_37 hq
    · have h := if_some_f c17 h
      cases h
      exact r_throx C (Nat.le_of_ble_eq_true rfl) (Nat.le_of_ble_eq_true rfl) (Nat.le_of_ble_eq_true rfl) (Nat.le_of_ble_eq_true rfl) th_X6_79_162_83 dX6_suitAt_15 dX6_suitAt_18 dX6_suitAt_19 dX6_suitAt_21 dX6_suitAt_24 hq
theorem c_X6_suitAt {l : Launch} {G : jG} {sh : jSh} {κ : jKt} {a0 : Nat} (ha0 : sh a0 = (1, 10, 11)) {x1 : Int32} {r : Int32} (h : P_X6_suitAt κ a0 x1 = some (.ok r)) : jM l G yX6_suitAt cX6_suitAt 2 (some .int) 9 1 6 160 [.ref a0, .int x1] (sh, κ) (jIs (some (.int r)) (sh, κ)) jNo :=
  r_body (by decide) (Nat.le_of_ble_eq_true rfl) fun F C hl hG hs ho hx => by
    subst hs
    exact w_X6_suitAt_0 C ha0 (fin_ok (by rw [ho]; exact ⟨rfl, rfl⟩)) h
theorem x_X6_suitAt {l : Launch} {G : jG} {sh : jSh} {κ : jKt} {a0 : Nat} (ha0 : sh a0 = (1, 10, 11)) {x1 : Int32} {E : String} (h : P_X6_suitAt κ a0 x1 = some (.error E)) : jM l G yX6_suitAt cX6_suitAt 2 (some .int) 9 1 6 160 [.ref a0, .int x1] (sh, κ) (fun _ _ => False) (jXs E (sh, κ)) :=
  r_body (by decide) (Nat.le_of_ble_eq_true rfl) fun F C hl hG hs ho hx => by
    subst hs
    exact w_X6_suitAt_0 C ha0 (fin_er (by rw [hx]; exact ⟨rfl, rfl⟩)) h
set_option maxRecDepth 20000 in
theorem w_X6_placeInOrder_0 {F : jFm} (C : jB F RX6 cX6_placeInOrder 3 (some .int) 9 1 6 160) {κ : jKt} {a0 : Nat} (ha0 : jSof F a0 = (2, 0, 16)) {x1 : Int32} {x2 : Int32} {r : Except String Int32} (hq : jFinX F (fun x => some (.int x)) r κ) (h : P_X6_placeInOrder κ a0 x1 x2 = some r) : jW F 3 0 0 κ 0 [(0, .ref a0), (1, .int x1), (2, .int x2)] [] := by
  unfold P_X6_placeInOrder at h
  refine r_iload_n C.1 2 1 rfl dX6_placeInOrder_0 rfl ?_
  refine r_if_lt C.1 9 4 rfl dX6_placeInOrder_1 rfl ⟨fun c7 => ?_, fun c7 => ?_⟩
  · have h := if_some_t c7 h
    cases h
    exact r_throw C (Nat.le_of_ble_eq_true rfl) (Nat.le_of_ble_eq_true rfl) (Nat.le_of_ble_eq_true rfl) (Nat.le_of_ble_eq_true rfl) th_X6_86_162_90 dX6_placeInOrder_9 dX6_placeInOrder_12 dX6_placeInOrder_13 dX6_placeInOrder_15 dX6_placeInOrder_18 hq
  · have h := if_some_f c7 h
    refine r_iload_n C.1 2 5 rfl dX6_placeInOrder_4 rfl ?_
    refine r_iload_n C.1 1 6 rfl dX6_placeInOrder_5 rfl ?_
    refine r_icmp_lt C.1 19 9 rfl dX6_placeInOrder_6 rfl ⟨fun c8 => ?_, fun c8 => ?_⟩
    · have h := if_some_t c8 h
      refine r_aload_n C.1 0 20 rfl dX6_placeInOrder_19 rfl ?_
      refine r_iload_n C.1 2 21 rfl dX6_placeInOrder_20 rfl ?_
      obtain ⟨i9, h⟩ := ck_some h
      refine r_iald C.1 ha0 i9 22 rfl dX6_placeInOrder_21 ?_
      cases h
      exact r_zret C rfl rfl (Nat.le_of_ble_eq_true rfl) (Nat.le_of_ble_eq_true rfl) dX6_placeInOrder_22 hq
    · have h := if_some_f c8 h
      cases h
      exact r_throw C (Nat.le_of_ble_eq_true rfl) (Nat.le_of_ble_eq_true rfl) (Nat.le_of_ble_eq_true rfl) (Nat.le_of_ble_eq_true rfl) th_X6_86_162_90 dX6_placeInOrder_9 dX6_placeInOrder_12 dX6_placeInOrder_13 dX6_placeInOrder_15 dX6_placeInOrder_18 hq
theorem c_X6_placeInOrder {l : Launch} {G : jG} {sh : jSh} {κ : jKt} {a0 : Nat} (ha0 : sh a0 = (2, 0, 16)) {x1 : Int32} {x2 : Int32} {r : Int32} (h : P_X6_placeInOrder κ a0 x1 x2 = some (.ok r)) : jM l G yX6_placeInOrder cX6_placeInOrder 3 (some .int) 9 1 6 160 [.ref a0, .int x1, .int x2] (sh, κ) (jIs (some (.int r)) (sh, κ)) jNo :=
  r_body (by decide) (Nat.le_of_ble_eq_true rfl) fun F C hl hG hs ho hx => by
    subst hs
    exact w_X6_placeInOrder_0 C ha0 (fin_ok (by rw [ho]; exact ⟨rfl, rfl⟩)) h
theorem x_X6_placeInOrder {l : Launch} {G : jG} {sh : jSh} {κ : jKt} {a0 : Nat} (ha0 : sh a0 = (2, 0, 16)) {x1 : Int32} {x2 : Int32} {E : String} (h : P_X6_placeInOrder κ a0 x1 x2 = some (.error E)) : jM l G yX6_placeInOrder cX6_placeInOrder 3 (some .int) 9 1 6 160 [.ref a0, .int x1, .int x2] (sh, κ) (fun _ _ => False) (jXs E (sh, κ)) :=
  r_body (by decide) (Nat.le_of_ble_eq_true rfl) fun F C hl hG hs ho hx => by
    subst hs
    exact w_X6_placeInOrder_0 C ha0 (fin_er (by rw [hx]; exact ⟨rfl, rfl⟩)) h
set_option maxRecDepth 20000 in
theorem w_X6_boughtTotal_0 {F : jFm} (C : jB F RX6 cX6_boughtTotal 1 (some .int) 0 0 0 0) {κ : jKt} {a0 : Nat} (ha0 : jSof F a0 = (1, 10, 11)) {r : Int32} (hq : jOut F (some (.int r)) κ) (h : P_X6_boughtTotal κ a0 = some r) : jW F 1 0 0 κ 0 [(0, .ref a0)] [] := by
  unfold P_X6_boughtTotal at h
  refine r_aload_n C.1 0 1 rfl dX6_boughtTotal_0 rfl ?_
  refine r_getR C.1 0 fl_X6_12 rfl ha0 4 rfl dX6_boughtTotal_1 (fun (h3 : jSof F (kR κ a0 0) = (1, 9, 11)) => ?_)
  refine r_getI C.1 6 fl_X6_266 rfl h3 7 rfl dX6_boughtTotal_4 ?_
  cases h
  exact r_zret C rfl rfl (Nat.le_of_ble_eq_true rfl) (Nat.le_of_ble_eq_true rfl) dX6_boughtTotal_7 hq
theorem c_X6_boughtTotal {l : Launch} {G : jG} {sh : jSh} {κ : jKt} {a0 : Nat} (ha0 : sh a0 = (1, 10, 11)) {r : Int32} (h : P_X6_boughtTotal κ a0 = some r) : jM l G yX6_boughtTotal cX6_boughtTotal 1 (some .int) 0 0 0 0 [.ref a0] (sh, κ) (jIs (some (.int r)) (sh, κ)) jNo :=
  r_body (by decide) (Nat.le_of_ble_eq_true rfl) fun F C hl hG hs ho hx => by
    subst hs
    exact w_X6_boughtTotal_0 C ha0 (by rw [ho]; exact ⟨rfl, rfl⟩) h
set_option maxRecDepth 20000 in
theorem w_X6_wasteTotal_0 {F : jFm} (C : jB F RX6 cX6_wasteTotal 1 (some .int) 0 0 0 0) {κ : jKt} {a0 : Nat} (ha0 : jSof F a0 = (1, 10, 11)) {r : Int32} (hq : jOut F (some (.int r)) κ) (h : P_X6_wasteTotal κ a0 = some r) : jW F 1 0 0 κ 0 [(0, .ref a0)] [] := by
  unfold P_X6_wasteTotal at h
  refine r_aload_n C.1 0 1 rfl dX6_wasteTotal_0 rfl ?_
  refine r_getR C.1 0 fl_X6_12 rfl ha0 4 rfl dX6_wasteTotal_1 (fun (h3 : jSof F (kR κ a0 0) = (1, 9, 11)) => ?_)
  refine r_getI C.1 7 fl_X6_269 rfl h3 7 rfl dX6_wasteTotal_4 ?_
  cases h
  exact r_zret C rfl rfl (Nat.le_of_ble_eq_true rfl) (Nat.le_of_ble_eq_true rfl) dX6_wasteTotal_7 hq
theorem c_X6_wasteTotal {l : Launch} {G : jG} {sh : jSh} {κ : jKt} {a0 : Nat} (ha0 : sh a0 = (1, 10, 11)) {r : Int32} (h : P_X6_wasteTotal κ a0 = some r) : jM l G yX6_wasteTotal cX6_wasteTotal 1 (some .int) 0 0 0 0 [.ref a0] (sh, κ) (jIs (some (.int r)) (sh, κ)) jNo :=
  r_body (by decide) (Nat.le_of_ble_eq_true rfl) fun F C hl hG hs ho hx => by
    subst hs
    exact w_X6_wasteTotal_0 C ha0 (by rw [ho]; exact ⟨rfl, rfl⟩) h
set_option maxRecDepth 20000 in
theorem w_X6_deliveredTotal_0 {F : jFm} (C : jB F RX6 cX6_deliveredTotal 1 (some .int) 0 0 0 0) {κ : jKt} {a0 : Nat} (ha0 : jSof F a0 = (1, 10, 11)) {r : Int32} (hq : jOut F (some (.int r)) κ) (h : P_X6_deliveredTotal κ a0 = some r) : jW F 1 0 0 κ 0 [(0, .ref a0)] [] := by
  unfold P_X6_deliveredTotal at h
  refine r_aload_n C.1 0 1 rfl dX6_deliveredTotal_0 rfl ?_
  refine r_getR C.1 0 fl_X6_12 rfl ha0 4 rfl dX6_deliveredTotal_1 (fun (h3 : jSof F (kR κ a0 0) = (1, 9, 11)) => ?_)
  refine r_getI C.1 8 fl_X6_272 rfl h3 7 rfl dX6_deliveredTotal_4 ?_
  cases h
  exact r_zret C rfl rfl (Nat.le_of_ble_eq_true rfl) (Nat.le_of_ble_eq_true rfl) dX6_deliveredTotal_7 hq
theorem c_X6_deliveredTotal {l : Launch} {G : jG} {sh : jSh} {κ : jKt} {a0 : Nat} (ha0 : sh a0 = (1, 10, 11)) {r : Int32} (h : P_X6_deliveredTotal κ a0 = some r) : jM l G yX6_deliveredTotal cX6_deliveredTotal 1 (some .int) 0 0 0 0 [.ref a0] (sh, κ) (jIs (some (.int r)) (sh, κ)) jNo :=
  r_body (by decide) (Nat.le_of_ble_eq_true rfl) fun F C hl hG hs ho hx => by
    subst hs
    exact w_X6_deliveredTotal_0 C ha0 (by rw [ho]; exact ⟨rfl, rfl⟩) h
set_option maxRecDepth 20000 in
theorem w_X6_income_0 {F : jFm} (C : jB F RX6 cX6_income 1 (some .int) 0 0 0 0) {κ : jKt} {a0 : Nat} (ha0 : jSof F a0 = (1, 10, 11)) {r : Int32} (hq : jOut F (some (.int r)) κ) (h : P_X6_income κ a0 = some r) : jW F 1 0 0 κ 0 [(0, .ref a0)] [] := by
  unfold P_X6_income at h
  refine r_aload_n C.1 0 1 rfl dX6_income_0 rfl ?_
  refine r_getR C.1 0 fl_X6_12 rfl ha0 4 rfl dX6_income_1 (fun (h3 : jSof F (kR κ a0 0) = (1, 9, 11)) => ?_)
  refine r_getI C.1 9 fl_X6_275 rfl h3 7 rfl dX6_income_4 ?_
  cases h
  exact r_zret C rfl rfl (Nat.le_of_ble_eq_true rfl) (Nat.le_of_ble_eq_true rfl) dX6_income_7 hq
theorem c_X6_income {l : Launch} {G : jG} {sh : jSh} {κ : jKt} {a0 : Nat} (ha0 : sh a0 = (1, 10, 11)) {r : Int32} (h : P_X6_income κ a0 = some r) : jM l G yX6_income cX6_income 1 (some .int) 0 0 0 0 [.ref a0] (sh, κ) (jIs (some (.int r)) (sh, κ)) jNo :=
  r_body (by decide) (Nat.le_of_ble_eq_true rfl) fun F C hl hG hs ho hx => by
    subst hs
    exact w_X6_income_0 C ha0 (by rw [ho]; exact ⟨rfl, rfl⟩) h
set_option maxRecDepth 20000 in
theorem w_X6_deliveredSuits_0 {F : jFm} (C : jB F RX6 cX6_deliveredSuits 1 (some .int) 0 0 0 0) {κ : jKt} {a0 : Nat} (ha0 : jSof F a0 = (1, 10, 11)) {r : Int32} (hq : jOut F (some (.int r)) κ) (h : P_X6_deliveredSuits κ a0 = some r) : jW F 1 0 0 κ 0 [(0, .ref a0)] [] := by
  unfold P_X6_deliveredSuits at h
  refine r_aload_n C.1 0 1 rfl dX6_deliveredSuits_0 rfl ?_
  refine r_getR C.1 0 fl_X6_12 rfl ha0 4 rfl dX6_deliveredSuits_1 (fun (h3 : jSof F (kR κ a0 0) = (1, 9, 11)) => ?_)
  refine r_getI C.1 10 fl_X6_278 rfl h3 7 rfl dX6_deliveredSuits_4 ?_
  cases h
  exact r_zret C rfl rfl (Nat.le_of_ble_eq_true rfl) (Nat.le_of_ble_eq_true rfl) dX6_deliveredSuits_7 hq
theorem c_X6_deliveredSuits {l : Launch} {G : jG} {sh : jSh} {κ : jKt} {a0 : Nat} (ha0 : sh a0 = (1, 10, 11)) {r : Int32} (h : P_X6_deliveredSuits κ a0 = some r) : jM l G yX6_deliveredSuits cX6_deliveredSuits 1 (some .int) 0 0 0 0 [.ref a0] (sh, κ) (jIs (some (.int r)) (sh, κ)) jNo :=
  r_body (by decide) (Nat.le_of_ble_eq_true rfl) fun F C hl hG hs ho hx => by
    subst hs
    exact w_X6_deliveredSuits_0 C ha0 (by rw [ho]; exact ⟨rfl, rfl⟩) h
set_option maxRecDepth 20000 in
theorem w_X6_wasteShare_0 {F : jFm} (C : jB F RX6 cX6_wasteShare 1 (some .float) 9 1 6 160) {κ : jKt} {a0 : Nat} (ha0 : jSof F a0 = (1, 10, 11)) {r : Except String UInt32} (hq : jFinX F (fun x => some (.float x)) r κ) (h : P_X6_wasteShare κ a0 = some r) : jW F 1 0 0 κ 0 [(0, .ref a0)] [] := by
  unfold P_X6_wasteShare at h
  refine r_aload_n C.1 0 1 rfl dX6_wasteShare_0 rfl ?_
  refine r_getR C.1 0 fl_X6_12 rfl ha0 4 rfl dX6_wasteShare_1 (fun (h11 : jSof F (kR κ a0 0) = (1, 9, 11)) => ?_)
  refine r_getI C.1 6 fl_X6_266 rfl h11 7 rfl dX6_wasteShare_4 ?_
  refine r_if_ne C.1 21 10 rfl dX6_wasteShare_7 rfl ⟨fun c12 => ?_, fun c12 => ?_⟩
  · have h := if_some_f c12 h
    refine r_aload_n C.1 0 22 rfl dX6_wasteShare_21 rfl ?_
    refine r_getR C.1 0 fl_X6_12 rfl ha0 25 rfl dX6_wasteShare_22 (fun (h13 : jSof F (kR κ a0 0) = (1, 9, 11)) => ?_)
    refine r_getI C.1 7 fl_X6_269 rfl h13 28 rfl dX6_wasteShare_25 ?_
    refine r_i2f C.1 29 rfl dX6_wasteShare_28 ?_
    refine r_aload_n C.1 0 30 rfl dX6_wasteShare_29 rfl ?_
    refine r_getR C.1 0 fl_X6_12 rfl ha0 33 rfl dX6_wasteShare_30 (fun (h14 : jSof F (kR κ a0 0) = (1, 9, 11)) => ?_)
    refine r_getI C.1 6 fl_X6_266 rfl h14 36 rfl dX6_wasteShare_33 ?_
    refine r_i2f C.1 37 rfl dX6_wasteShare_36 ?_
    obtain ⟨z15, h⟩ := ck_some h
    refine r_fdiv C.1 38 rfl dX6_wasteShare_37 z15 ?_
    cases h
    exact r_fret C rfl (Nat.le_of_ble_eq_true rfl) (Nat.le_of_ble_eq_true rfl) dX6_wasteShare_38 hq
  · have h := if_some_t c12 h
    cases h
    exact r_throwW C (Nat.le_of_ble_eq_true rfl) (Nat.le_of_ble_eq_true rfl) (Nat.le_of_ble_eq_true rfl) (Nat.le_of_ble_eq_true rfl) th_X6_284_286_288 dX6_wasteShare_10 dX6_wasteShare_13 dX6_wasteShare_14 dX6_wasteShare_17 dX6_wasteShare_20 hq
theorem c_X6_wasteShare {l : Launch} {G : jG} {sh : jSh} {κ : jKt} {a0 : Nat} (ha0 : sh a0 = (1, 10, 11)) {r : UInt32} (h : P_X6_wasteShare κ a0 = some (.ok r)) : jM l G yX6_wasteShare cX6_wasteShare 1 (some .float) 9 1 6 160 [.ref a0] (sh, κ) (jIs (some (.float r)) (sh, κ)) jNo :=
  r_body (by decide) (Nat.le_of_ble_eq_true rfl) fun F C hl hG hs ho hx => by
    subst hs
    exact w_X6_wasteShare_0 C ha0 (fin_ok (by rw [ho]; exact ⟨rfl, rfl⟩)) h
theorem x_X6_wasteShare {l : Launch} {G : jG} {sh : jSh} {κ : jKt} {a0 : Nat} (ha0 : sh a0 = (1, 10, 11)) {E : String} (h : P_X6_wasteShare κ a0 = some (.error E)) : jM l G yX6_wasteShare cX6_wasteShare 1 (some .float) 9 1 6 160 [.ref a0] (sh, κ) (fun _ _ => False) (jXs E (sh, κ)) :=
  r_body (by decide) (Nat.le_of_ble_eq_true rfl) fun F C hl hG hs ho hx => by
    subst hs
    exact w_X6_wasteShare_0 C ha0 (fin_er (by rw [hx]; exact ⟨rfl, rfl⟩)) h
set_option maxRecDepth 20000 in
theorem w_X6_outputAt_0 {F : jFm} (C : jB F RX6 cX6_outputAt 2 (some .char) 9 1 6 321) {κ : jKt} {a0 : Nat} (ha0 : jSof F a0 = (1, 10, 11)) {x1 : Int32} {r : Except String Int32} (hq : jFinX F (fun x => some (.int x)) r κ) (h : P_X6_outputAt κ a0 x1 = some r) : jW F 2 0 0 κ 0 [(0, .ref a0), (1, .int x1)] [] := by
  unfold P_X6_outputAt at h
  refine r_iload_n C.1 1 1 rfl dX6_outputAt_0 rfl ?_
  refine r_if_lt C.1 15 4 rfl dX6_outputAt_1 rfl ⟨fun c19 => ?_, fun c19 => ?_⟩
  · have h := if_some_t c19 h
    cases h
    exact r_throwW C (Nat.le_of_ble_eq_true rfl) (Nat.le_of_ble_eq_true rfl) (Nat.le_of_ble_eq_true rfl) (Nat.le_of_ble_eq_true rfl) th_X6_86_325_90 dX6_outputAt_15 dX6_outputAt_18 dX6_outputAt_19 dX6_outputAt_22 dX6_outputAt_25 hq
  · have h := if_some_f c19 h
    refine r_iload_n C.1 1 5 rfl dX6_outputAt_4 rfl ?_
    refine r_aload_n C.1 0 6 rfl dX6_outputAt_5 rfl ?_
    refine r_getR C.1 10 fl_X6_57 rfl ha0 9 rfl dX6_outputAt_6 (fun (h20 : jSof F (kR κ a0 10) = (6, 0, 0)) => ?_)
    obtain ⟨y22, e21, h⟩ := bd_some h
    refine r_cGi C.1 (st := [.int x1]) (c_J4_length_8abf5 h20 e21) yv_J4_length_8abf5 ml_X6_319 (jCell_T C.1 h20) rfl ⟨Nat.le_of_ble_eq_true rfl, Nat.le_of_ble_eq_true rfl⟩ ⟨Nat.le_of_ble_eq_true rfl, Nat.le_of_ble_eq_true rfl⟩ (Nat.le_of_ble_eq_true rfl) rfl 0 0 rfl rfl 12 rfl dX6_outputAt_9 ?_
    refine r_icmp_lt C.1 26 15 rfl dX6_outputAt_12 rfl ⟨fun c23 => ?_, fun c23 => ?_⟩
    · have h := if_some_t c23 h
      refine r_aload_n C.1 0 27 rfl dX6_outputAt_26 rfl ?_
      refine r_getR C.1 10 fl_X6_57 rfl ha0 30 rfl dX6_outputAt_27 (fun (h24 : jSof F (kR κ a0 10) = (6, 0, 0)) => ?_)
      refine r_iload_n C.1 1 31 rfl dX6_outputAt_30 rfl ?_
      obtain ⟨y26, e25, h⟩ := bd_some h
      refine r_cGi C.1 (st := []) (c_J4_charAt_5068e h24 e25) yv_J4_charAt_5068e ml_X6_327 (jCell_T C.1 h24) rfl ⟨Nat.le_of_ble_eq_true rfl, Nat.le_of_ble_eq_true rfl⟩ ⟨Nat.le_of_ble_eq_true rfl, Nat.le_of_ble_eq_true rfl⟩ (Nat.le_of_ble_eq_true rfl) rfl 0 0 rfl rfl 34 rfl dX6_outputAt_31 ?_
      obtain ⟨z27, h⟩ := ck_some h
      cases h
      exact r_zret C rfl (jch_narrow z27) (Nat.le_of_ble_eq_true rfl) (Nat.le_of_ble_eq_true rfl) dX6_outputAt_34 hq
    · have h := if_some_f c23 h
      cases h
      exact r_throwW C (Nat.le_of_ble_eq_true rfl) (Nat.le_of_ble_eq_true rfl) (Nat.le_of_ble_eq_true rfl) (Nat.le_of_ble_eq_true rfl) th_X6_86_325_90 dX6_outputAt_15 dX6_outputAt_18 dX6_outputAt_19 dX6_outputAt_22 dX6_outputAt_25 hq
theorem c_X6_outputAt {l : Launch} {G : jG} {sh : jSh} {κ : jKt} {a0 : Nat} (ha0 : sh a0 = (1, 10, 11)) {x1 : Int32} {r : Int32} (h : P_X6_outputAt κ a0 x1 = some (.ok r)) : jM l G yX6_outputAt cX6_outputAt 2 (some .char) 9 1 6 321 [.ref a0, .int x1] (sh, κ) (jIs (some (.int r)) (sh, κ)) jNo :=
  r_body (by decide) (Nat.le_of_ble_eq_true rfl) fun F C hl hG hs ho hx => by
    subst hs
    exact w_X6_outputAt_0 C ha0 (fin_ok (by rw [ho]; exact ⟨rfl, rfl⟩)) h
theorem x_X6_outputAt {l : Launch} {G : jG} {sh : jSh} {κ : jKt} {a0 : Nat} (ha0 : sh a0 = (1, 10, 11)) {x1 : Int32} {E : String} (h : P_X6_outputAt κ a0 x1 = some (.error E)) : jM l G yX6_outputAt cX6_outputAt 2 (some .char) 9 1 6 321 [.ref a0, .int x1] (sh, κ) (fun _ _ => False) (jXs E (sh, κ)) :=
  r_body (by decide) (Nat.le_of_ble_eq_true rfl) fun F C hl hG hs ho hx => by
    subst hs
    exact w_X6_outputAt_0 C ha0 (fin_er (by rw [hx]; exact ⟨rfl, rfl⟩)) h
set_option maxRecDepth 20000 in
theorem w_X6_errorPosition_0 {F : jFm} (C : jB F RX6 cX6_errorPosition 1 (some .int) 9 1 6 160) {κ : jKt} {a0 : Nat} (ha0 : jSof F a0 = (1, 10, 11)) {r : Except String Int32} (hq : jFinX F (fun x => some (.int x)) r κ) (h : P_X6_errorPosition κ a0 = some r) : jW F 1 0 0 κ 0 [(0, .ref a0)] [] := by
  unfold P_X6_errorPosition at h
  refine r_aload_n C.1 0 1 rfl dX6_errorPosition_0 rfl ?_
  refine r_getI C.1 8 fl_X6_48 rfl ha0 4 rfl dX6_errorPosition_1 ?_
  refine r_iconst C.1 (-1) rfl 5 rfl dX6_errorPosition_4 ?_
  refine r_icmp_ne C.1 19 8 rfl dX6_errorPosition_5 rfl ⟨fun c3 => ?_, fun c3 => ?_⟩
  · have h := if_some_f c3 h
    refine r_aload_n C.1 0 20 rfl dX6_errorPosition_19 rfl ?_
    refine r_getI C.1 8 fl_X6_48 rfl ha0 23 rfl dX6_errorPosition_20 ?_
    cases h
    exact r_zret C rfl rfl (Nat.le_of_ble_eq_true rfl) (Nat.le_of_ble_eq_true rfl) dX6_errorPosition_23 hq
  · have h := if_some_t c3 h
    cases h
    exact r_throxW C (Nat.le_of_ble_eq_true rfl) (Nat.le_of_ble_eq_true rfl) (Nat.le_of_ble_eq_true rfl) (Nat.le_of_ble_eq_true rfl) th_X6_79_354_83 dX6_errorPosition_8 dX6_errorPosition_11 dX6_errorPosition_12 dX6_errorPosition_15 dX6_errorPosition_18 hq
theorem c_X6_errorPosition {l : Launch} {G : jG} {sh : jSh} {κ : jKt} {a0 : Nat} (ha0 : sh a0 = (1, 10, 11)) {r : Int32} (h : P_X6_errorPosition κ a0 = some (.ok r)) : jM l G yX6_errorPosition cX6_errorPosition 1 (some .int) 9 1 6 160 [.ref a0] (sh, κ) (jIs (some (.int r)) (sh, κ)) jNo :=
  r_body (by decide) (Nat.le_of_ble_eq_true rfl) fun F C hl hG hs ho hx => by
    subst hs
    exact w_X6_errorPosition_0 C ha0 (fin_ok (by rw [ho]; exact ⟨rfl, rfl⟩)) h
theorem x_X6_errorPosition {l : Launch} {G : jG} {sh : jSh} {κ : jKt} {a0 : Nat} (ha0 : sh a0 = (1, 10, 11)) {E : String} (h : P_X6_errorPosition κ a0 = some (.error E)) : jM l G yX6_errorPosition cX6_errorPosition 1 (some .int) 9 1 6 160 [.ref a0] (sh, κ) (fun _ _ => False) (jXs E (sh, κ)) :=
  r_body (by decide) (Nat.le_of_ble_eq_true rfl) fun F C hl hG hs ho hx => by
    subst hs
    exact w_X6_errorPosition_0 C ha0 (fin_er (by rw [hx]; exact ⟨rfl, rfl⟩)) h
set_option maxRecDepth 20000 in
theorem w_X6_failedCommand_0 {F : jFm} (C : jB F RX6 cX6_failedCommand 1 (some .int) 9 1 6 160) {κ : jKt} {a0 : Nat} (ha0 : jSof F a0 = (1, 10, 11)) {r : Except String Int32} (hq : jFinX F (fun x => some (.int x)) r κ) (h : P_X6_failedCommand κ a0 = some r) : jW F 1 0 0 κ 0 [(0, .ref a0)] [] := by
  unfold P_X6_failedCommand at h
  refine r_aload_n C.1 0 1 rfl dX6_failedCommand_0 rfl ?_
  refine r_getI C.1 9 fl_X6_51 rfl ha0 4 rfl dX6_failedCommand_1 ?_
  refine r_iconst C.1 (-1) rfl 5 rfl dX6_failedCommand_4 ?_
  refine r_icmp_ne C.1 19 8 rfl dX6_failedCommand_5 rfl ⟨fun c3 => ?_, fun c3 => ?_⟩
  · have h := if_some_f c3 h
    refine r_aload_n C.1 0 20 rfl dX6_failedCommand_19 rfl ?_
    refine r_getI C.1 9 fl_X6_51 rfl ha0 23 rfl dX6_failedCommand_20 ?_
    cases h
    exact r_zret C rfl rfl (Nat.le_of_ble_eq_true rfl) (Nat.le_of_ble_eq_true rfl) dX6_failedCommand_23 hq
  · have h := if_some_t c3 h
    cases h
    exact r_throxW C (Nat.le_of_ble_eq_true rfl) (Nat.le_of_ble_eq_true rfl) (Nat.le_of_ble_eq_true rfl) (Nat.le_of_ble_eq_true rfl) th_X6_79_356_83 dX6_failedCommand_8 dX6_failedCommand_11 dX6_failedCommand_12 dX6_failedCommand_15 dX6_failedCommand_18 hq
theorem c_X6_failedCommand {l : Launch} {G : jG} {sh : jSh} {κ : jKt} {a0 : Nat} (ha0 : sh a0 = (1, 10, 11)) {r : Int32} (h : P_X6_failedCommand κ a0 = some (.ok r)) : jM l G yX6_failedCommand cX6_failedCommand 1 (some .int) 9 1 6 160 [.ref a0] (sh, κ) (jIs (some (.int r)) (sh, κ)) jNo :=
  r_body (by decide) (Nat.le_of_ble_eq_true rfl) fun F C hl hG hs ho hx => by
    subst hs
    exact w_X6_failedCommand_0 C ha0 (fin_ok (by rw [ho]; exact ⟨rfl, rfl⟩)) h
theorem x_X6_failedCommand {l : Launch} {G : jG} {sh : jSh} {κ : jKt} {a0 : Nat} (ha0 : sh a0 = (1, 10, 11)) {E : String} (h : P_X6_failedCommand κ a0 = some (.error E)) : jM l G yX6_failedCommand cX6_failedCommand 1 (some .int) 9 1 6 160 [.ref a0] (sh, κ) (fun _ _ => False) (jXs E (sh, κ)) :=
  r_body (by decide) (Nat.le_of_ble_eq_true rfl) fun F C hl hG hs ho hx => by
    subst hs
    exact w_X6_failedCommand_0 C ha0 (fin_er (by rw [hx]; exact ⟨rfl, rfl⟩)) h
set_option maxRecDepth 20000 in
theorem w_X6_undo_0 {F : jFm} (C : jB F RX6 cX6_undo 2 (some .int) 9 1 6 160) {κ : jKt} {a0 : Nat} (ha0 : jSof F a0 = (1, 10, 11)) {r : Except String Int32 × jKt} (hq : jFinX F (fun x => some (.int x)) r.1 r.2) (h : P_X6_undo κ a0 = some r) : jW F 2 0 0 κ 0 [(0, .ref a0)] [] := by
  unfold P_X6_undo at h
  refine r_aload_n C.1 0 1 rfl dX6_undo_0 rfl ?_
  refine r_getI C.1 5 fl_X6_30 rfl ha0 4 rfl dX6_undo_1 ?_
  refine r_if_ne C.1 18 7 rfl dX6_undo_4 rfl ⟨fun c27 => ?_, fun c27 => ?_⟩
  · have h := if_some_f c27 h
    refine r_aload_n C.1 0 19 rfl dX6_undo_18 rfl ?_
    refine r_dup C.1 rfl 20 rfl dX6_undo_19 ?_
    refine r_getI C.1 5 fl_X6_30 rfl ha0 23 rfl dX6_undo_20 ?_
    refine r_iconst C.1 1 rfl 24 rfl dX6_undo_23 ?_
    refine r_isub C.1 25 rfl dX6_undo_24 ?_
    obtain ⟨κ28, e29, h⟩ := bnd_some h
    refine r_putI C.1 5 fw_X6_30 rfl rfl rfl ha0 e29 28 rfl dX6_undo_25 ?_
    refine r_aload_n C.1 0 29 rfl dX6_undo_28 rfl ?_
    refine r_getR C.1 0 fl_X6_12 rfl ha0 32 rfl dX6_undo_29 (fun (h30 : jSof F (kR κ28 a0 0) = (1, 9, 11)) => ?_)
    refine r_astore_n C.1 (lv' := [(0, .ref a0), (1, .ref (kR κ28 a0 0))]) [1, 0] 33 rfl dX6_undo_32 (Nat.le_of_ble_eq_true rfl) rfl ?_
    refine r_aload_n C.1 0 34 rfl dX6_undo_33 rfl ?_
    refine r_aload_n C.1 0 35 rfl dX6_undo_34 rfl ?_
    refine r_getR C.1 4 fl_X6_26 rfl ha0 38 rfl dX6_undo_35 (fun (h31 : jSof F (kR κ28 a0 4) = (2, 7, 8)) => ?_)
    refine r_aload_n C.1 0 39 rfl dX6_undo_38 rfl ?_
    refine r_getI C.1 5 fl_X6_30 rfl ha0 42 rfl dX6_undo_39 ?_
    obtain ⟨i32, h⟩ := ck_some h
    refine r_aald C.1 rfl rfl h31 i32 43 rfl dX6_undo_42 (fun (h33 : jSof F (kR κ28 (kR κ28 a0 4) (ix (kI κ28 a0 5))) = (1, 9, 11)) => ?_)
    obtain ⟨κ34, e35, h⟩ := bnd_some h
    refine r_putR C.1 0 fw_X6_12 rfl rfl rfl h33 ha0 e35 46 rfl dX6_undo_43 ?_
    refine r_aload_n C.1 0 47 rfl dX6_undo_46 rfl ?_
    refine r_getR C.1 4 fl_X6_26 rfl ha0 50 rfl dX6_undo_47 (fun (h36 : jSof F (kR κ34 a0 4) = (2, 7, 8)) => ?_)
    refine r_aload_n C.1 0 51 rfl dX6_undo_50 rfl ?_
    refine r_getI C.1 5 fl_X6_30 rfl ha0 54 rfl dX6_undo_51 ?_
    refine r_aload_n C.1 1 55 rfl dX6_undo_54 rfl ?_
    obtain ⟨i37, h⟩ := ck_some h
    obtain ⟨κ38, e39, h⟩ := bnd_some h
    refine r_aast C.1 9 rfl rfl rfl h30 h36 i37 e39 56 rfl dX6_undo_55 ?_
    refine r_aload_n C.1 0 57 rfl dX6_undo_56 rfl ?_
    refine r_getI C.1 5 fl_X6_30 rfl ha0 60 rfl dX6_undo_57 ?_
    cases h
    exact r_zret C rfl rfl (Nat.le_of_ble_eq_true rfl) (Nat.le_of_ble_eq_true rfl) dX6_undo_60 hq
  · have h := if_some_t c27 h
    cases h
    exact r_throxW C (Nat.le_of_ble_eq_true rfl) (Nat.le_of_ble_eq_true rfl) (Nat.le_of_ble_eq_true rfl) (Nat.le_of_ble_eq_true rfl) th_X6_79_358_83 dX6_undo_7 dX6_undo_10 dX6_undo_11 dX6_undo_14 dX6_undo_17 hq
theorem c_X6_undo {l : Launch} {G : jG} {sh : jSh} {κ : jKt} {a0 : Nat} (ha0 : sh a0 = (1, 10, 11)) {r : Int32} {κr : jKt} (h : P_X6_undo κ a0 = some (.ok r, κr)) : jM l G yX6_undo cX6_undo 2 (some .int) 9 1 6 160 [.ref a0] (sh, κ) (jIs (some (.int r)) (sh, κr)) jNo :=
  r_body (by decide) (Nat.le_of_ble_eq_true rfl) fun F C hl hG hs ho hx => by
    subst hs
    exact w_X6_undo_0 C ha0 (fin_ok (by rw [ho]; exact ⟨rfl, rfl⟩)) h
theorem x_X6_undo {l : Launch} {G : jG} {sh : jSh} {κ : jKt} {a0 : Nat} (ha0 : sh a0 = (1, 10, 11)) {E : String} {κr : jKt} (h : P_X6_undo κ a0 = some (.error E, κr)) : jM l G yX6_undo cX6_undo 2 (some .int) 9 1 6 160 [.ref a0] (sh, κ) (fun _ _ => False) (jXs E (sh, κr)) :=
  r_body (by decide) (Nat.le_of_ble_eq_true rfl) fun F C hl hG hs ho hx => by
    subst hs
    exact w_X6_undo_0 C ha0 (fin_er (by rw [hx]; exact ⟨rfl, rfl⟩)) h
set_option maxRecDepth 20000 in
theorem w_X6_adoptTrial_13 {F : jFm} (C : jB F RX6 cX6_adoptTrial 2 none 1 0 0 22) {κ : jKt} {a0 : Nat} (ha0 : jSof F a0 = (1, 10, 11)) {r : jKt} (hq : jOut F none r) (h : P_X6_adoptTrial_13 κ a0 = some r) : jW F 2 0 0 κ 13 [(0, .ref a0)] [] := by
  unfold P_X6_adoptTrial_13 at h
  refine r_aload_n C.1 0 14 rfl dX6_adoptTrial_13 rfl ?_
  refine r_getR C.1 4 fl_X6_26 rfl ha0 17 rfl dX6_adoptTrial_14 (fun (h37 : jSof F (kR κ a0 4) = (2, 7, 8)) => ?_)
  refine r_aload_n C.1 0 18 rfl dX6_adoptTrial_17 rfl ?_
  refine r_getI C.1 5 fl_X6_30 rfl ha0 21 rfl dX6_adoptTrial_18 ?_
  obtain ⟨i38, h⟩ := ck_some h
  refine r_aald C.1 rfl rfl h37 i38 22 rfl dX6_adoptTrial_21 (fun (h39 : jSof F (kR κ (kR κ a0 4) (ix (kI κ a0 5))) = (1, 9, 11)) => ?_)
  refine r_astore_n C.1 (lv' := [(0, .ref a0), (1, .ref (kR κ (kR κ a0 4) (ix (kI κ a0 5))))]) [1, 0] 23 rfl dX6_adoptTrial_22 (Nat.le_of_ble_eq_true rfl) rfl ?_
  refine r_aload_n C.1 0 24 rfl dX6_adoptTrial_23 rfl ?_
  refine r_getR C.1 4 fl_X6_26 rfl ha0 27 rfl dX6_adoptTrial_24 (fun (h40 : jSof F (kR κ a0 4) = (2, 7, 8)) => ?_)
  refine r_aload_n C.1 0 28 rfl dX6_adoptTrial_27 rfl ?_
  refine r_getI C.1 5 fl_X6_30 rfl ha0 31 rfl dX6_adoptTrial_28 ?_
  refine r_aload_n C.1 0 32 rfl dX6_adoptTrial_31 rfl ?_
  refine r_getR C.1 0 fl_X6_12 rfl ha0 35 rfl dX6_adoptTrial_32 (fun (h41 : jSof F (kR κ a0 0) = (1, 9, 11)) => ?_)
  obtain ⟨i42, h⟩ := ck_some h
  obtain ⟨κ43, e44, h⟩ := bnd_some h
  refine r_aast C.1 9 rfl rfl rfl h41 h40 i42 e44 36 rfl dX6_adoptTrial_35 ?_
  refine r_aload_n C.1 0 37 rfl dX6_adoptTrial_36 rfl ?_
  refine r_dup C.1 rfl 38 rfl dX6_adoptTrial_37 ?_
  refine r_getI C.1 5 fl_X6_30 rfl ha0 41 rfl dX6_adoptTrial_38 ?_
  refine r_iconst C.1 1 rfl 42 rfl dX6_adoptTrial_41 ?_
  refine r_iadd C.1 43 rfl dX6_adoptTrial_42 ?_
  obtain ⟨κ45, e46, h⟩ := bnd_some h
  refine r_putI C.1 5 fw_X6_30 rfl rfl rfl ha0 e46 46 rfl dX6_adoptTrial_43 ?_
  refine r_aload_n C.1 0 47 rfl dX6_adoptTrial_46 rfl ?_
  refine r_aload_n C.1 0 48 rfl dX6_adoptTrial_47 rfl ?_
  refine r_getR C.1 1 fl_X6_16 rfl ha0 51 rfl dX6_adoptTrial_48 (fun (h47 : jSof F (kR κ45 a0 1) = (1, 9, 11)) => ?_)
  obtain ⟨κ48, e49, h⟩ := bnd_some h
  refine r_putR C.1 0 fw_X6_12 rfl rfl rfl h47 ha0 e49 54 rfl dX6_adoptTrial_51 ?_
  refine r_aload_n C.1 0 55 rfl dX6_adoptTrial_54 rfl ?_
  refine r_aload_n C.1 1 56 rfl dX6_adoptTrial_55 rfl ?_
  obtain ⟨κ50, e51, h⟩ := bnd_some h
  refine r_putR C.1 1 fw_X6_16 rfl rfl rfl h39 ha0 e51 59 rfl dX6_adoptTrial_56 ?_
  cases h
  exact r_vret C rfl (Nat.le_of_ble_eq_true rfl) (Nat.le_of_ble_eq_true rfl) dX6_adoptTrial_59 hq
set_option maxRecDepth 20000 in
theorem w_X6_adoptTrial_0 {F : jFm} (C : jB F RX6 cX6_adoptTrial 2 none 1 0 0 22) {κ : jKt} {a0 : Nat} (ha0 : jSof F a0 = (1, 10, 11)) {r : jKt} (hq : jOut F none r) (h : P_X6_adoptTrial κ a0 = some r) : jW F 2 0 0 κ 0 [(0, .ref a0)] [] := by
  unfold P_X6_adoptTrial at h
  refine r_aload_n C.1 0 1 rfl dX6_adoptTrial_0 rfl ?_
  refine r_getI C.1 5 fl_X6_30 rfl ha0 4 rfl dX6_adoptTrial_1 ?_
  refine r_bipush C.1 8 rfl 6 rfl dX6_adoptTrial_4 ?_
  refine r_icmp_ne C.1 13 9 rfl dX6_adoptTrial_6 rfl ⟨fun c52 => ?_, fun c52 => ?_⟩
  · have h := if_some_f c52 h
    exact w_X6_adoptTrial_13 C ha0 hq h
  · have h := if_some_t c52 h
    refine r_aload_n C.1 0 10 rfl dX6_adoptTrial_9 rfl ?_
    obtain ⟨κ54, e53, h⟩ := bd_some h
    refine r_cVv C.1 (st := []) (c_X6_forgetOldest ha0 e53) yv_X6_forgetOldest ml_X6_106 rfl ha0 rfl ⟨Nat.le_of_ble_eq_true rfl, Nat.le_of_ble_eq_true rfl⟩ ⟨Nat.le_of_ble_eq_true rfl, Nat.le_of_ble_eq_true rfl⟩ (Nat.le_of_ble_eq_true rfl) rfl 0 0 rfl rfl 13 rfl dX6_adoptTrial_10 ?_
    exact w_X6_adoptTrial_13 C ha0 hq h
theorem c_X6_adoptTrial {l : Launch} {G : jG} {sh : jSh} {κ : jKt} {a0 : Nat} (ha0 : sh a0 = (1, 10, 11))  {κr : jKt} (h : P_X6_adoptTrial κ a0 = some κr) : jM l G yX6_adoptTrial cX6_adoptTrial 2 none 1 0 0 22 [.ref a0] (sh, κ) (jIs none (sh, κr)) jNo :=
  r_body (by decide) (Nat.le_of_ble_eq_true rfl) fun F C hl hG hs ho hx => by
    subst hs
    exact w_X6_adoptTrial_0 C ha0 (by rw [ho]; exact ⟨rfl, rfl⟩) h
set_option maxRecDepth 20000 in
theorem w_X6_known_0 {F : jFm} (C : jB F RX6 cX6_known 2 (some (.object "TailorWorkshop$Customer")) 9 1 6 160) {κ : jKt} {a0 : Nat} (ha0 : jSof F a0 = (1, 10, 11)) {x1 : Int32} {r : Except String Nat} (hq : jFinG F (jOutR F (1, 4, 2)) r κ) (h : P_X6_known κ a0 x1 = some r) : jW F 2 0 0 κ 0 [(0, .ref a0), (1, .int x1)] [] := by
  unfold P_X6_known at h
  refine r_aload_n C.1 0 1 rfl dX6_known_0 rfl ?_
  refine r_getR C.1 0 fl_X6_12 rfl ha0 4 rfl dX6_known_1 (fun (h17 : jSof F (kR κ a0 0) = (1, 9, 11)) => ?_)
  refine r_iload_n C.1 1 5 rfl dX6_known_4 rfl ?_
  obtain ⟨y19, e18, h⟩ := bd_some h
  refine r_cVi C.1 (st := []) (c_X5_hasCustomer h17 e18) yv_X5_hasCustomer ml_X6_144 rfl h17 rfl ⟨Nat.le_of_ble_eq_true rfl, Nat.le_of_ble_eq_true rfl⟩ ⟨Nat.le_of_ble_eq_true rfl, Nat.le_of_ble_eq_true rfl⟩ (Nat.le_of_ble_eq_true rfl) rfl 0 0 rfl rfl 8 rfl dX6_known_5 ?_
  refine r_if_ne C.1 21 11 rfl dX6_known_8 rfl ⟨fun c20 => ?_, fun c20 => ?_⟩
  · have h := if_some_f c20 h
    refine r_aload_n C.1 0 22 rfl dX6_known_21 rfl ?_
    refine r_getR C.1 0 fl_X6_12 rfl ha0 25 rfl dX6_known_22 (fun (h21 : jSof F (kR κ a0 0) = (1, 9, 11)) => ?_)
    refine r_getR C.1 1 fl_X6_150 rfl h21 28 rfl dX6_known_25 (fun (h22 : jSof F (kR κ (kR κ a0 0) 1) = (2, 5, 5)) => ?_)
    refine r_iload_n C.1 1 29 rfl dX6_known_28 rfl ?_
    obtain ⟨i23, h⟩ := ck_some h
    refine r_aald C.1 rfl rfl h22 i23 30 rfl dX6_known_29 (fun (h24 : jSof F (kR κ (kR κ (kR κ a0 0) 1) (ix x1)) = (1, 4, 2)) => ?_)
    cases h
    exact r_aret C rfl (Or.inl ⟨_, rfl⟩) (Or.inr ⟨_, rfl⟩) (Nat.le_of_ble_eq_true rfl) (Nat.le_of_ble_eq_true rfl) dX6_known_30 (hq h24)
  · have h := if_some_t c20 h
    cases h
    exact r_throw C (Nat.le_of_ble_eq_true rfl) (Nat.le_of_ble_eq_true rfl) (Nat.le_of_ble_eq_true rfl) (Nat.le_of_ble_eq_true rfl) th_X6_86_148_90 dX6_known_11 dX6_known_14 dX6_known_15 dX6_known_17 dX6_known_20 hq
theorem c_X6_known {l : Launch} {G : jG} {sh : jSh} {κ : jKt} {a0 : Nat} (ha0 : sh a0 = (1, 10, 11)) {x1 : Int32} {r : Nat} (h : P_X6_known κ a0 x1 = some (.ok r)) : jM l G yX6_known cX6_known 2 (some (.object "TailorWorkshop$Customer")) 9 1 6 160 [.ref a0, .int x1] (sh, κ) (jIsT r (1, 4, 2) sh κ) jNo :=
  r_body (by decide) (Nat.le_of_ble_eq_true rfl) fun F C hl hG hs ho hx => by
    subst hs
    exact w_X6_known_0 C ha0 (fin_okG (by unfold jOutR; intro h9; rw [ho]; exact ⟨rfl, rfl, h9⟩)) h
theorem x_X6_known {l : Launch} {G : jG} {sh : jSh} {κ : jKt} {a0 : Nat} (ha0 : sh a0 = (1, 10, 11)) {x1 : Int32} {E : String} (h : P_X6_known κ a0 x1 = some (.error E)) : jM l G yX6_known cX6_known 2 (some (.object "TailorWorkshop$Customer")) 9 1 6 160 [.ref a0, .int x1] (sh, κ) (fun _ _ => False) (jXs E (sh, κ)) :=
  r_body (by decide) (Nat.le_of_ble_eq_true rfl) fun F C hl hG hs ho hx => by
    subst hs
    exact w_X6_known_0 C ha0 (fin_erG (by rw [hx]; exact ⟨rfl, rfl⟩)) h
set_option maxRecDepth 20000 in
theorem w_X6_knownWithLeg_0 {F : jFm} (C : jB F RX6 cX6_knownWithLeg 4 (some (.object "TailorWorkshop$Customer")) 10 2 12 181) {κ : jKt} {a0 : Nat} (ha0 : jSof F a0 = (1, 10, 11)) {x1 : Int32} {x2 : Int32} {r : Except String Nat} (hq : jFinG F (jOutR F (1, 4, 2)) r κ) (h : P_X6_knownWithLeg κ a0 x1 x2 = some r) : jW F 4 0 0 κ 0 [(0, .ref a0), (1, .int x1), (2, .int x2)] [] := by
  unfold P_X6_knownWithLeg at h
  refine r_aload_n C.1 0 1 rfl dX6_knownWithLeg_0 rfl ?_
  refine r_iload_n C.1 1 2 rfl dX6_knownWithLeg_1 rfl ?_
  rcases bdx_some h with ⟨b16, e15, h⟩ | ⟨E17, e15, h⟩
  rotate_left
  · cases h
    exact r_xV C.1 (st := []) (x_X6_known ha0 e15) yv_X6_known ml_X6_118 rfl ha0 rfl ⟨Nat.le_of_ble_eq_true rfl, Nat.le_of_ble_eq_true rfl⟩ ⟨Nat.le_of_ble_eq_true rfl, Nat.le_of_ble_eq_true rfl⟩ (Nat.le_of_ble_eq_true rfl) rfl dX6_knownWithLeg_2 (r_out C (Nat.le_of_ble_eq_true rfl) (Nat.le_of_ble_eq_true rfl) hq)
  refine r_cVr C.1 (st := []) (c_X6_known ha0 e15) yv_X6_known ml_X6_118 rfl ha0 rfl ⟨Nat.le_of_ble_eq_true rfl, Nat.le_of_ble_eq_true rfl⟩ ⟨Nat.le_of_ble_eq_true rfl, Nat.le_of_ble_eq_true rfl⟩ (Nat.le_of_ble_eq_true rfl) rfl 1 6 rfl rfl 5 rfl dX6_knownWithLeg_2 (fun (h18 : jSof F b16 = (1, 4, 2)) => ?_)
  refine r_astore_n C.1 (lv' := [(0, .ref a0), (1, .int x1), (2, .int x2), (3, .ref b16)]) [1, 2, 3, 0] 6 rfl dX6_knownWithLeg_5 (Nat.le_of_ble_eq_true rfl) rfl ?_
  refine r_aload_n C.1 3 7 rfl dX6_knownWithLeg_6 rfl ?_
  refine r_iload_n C.1 2 8 rfl dX6_knownWithLeg_7 rfl ?_
  obtain ⟨y20, e19, h⟩ := bd_some h
  refine r_cVi C.1 (st := []) (c_X0_hasLeg h18 e19) yv_X0_hasLeg ml_X6_154 rfl h18 rfl ⟨Nat.le_of_ble_eq_true rfl, Nat.le_of_ble_eq_true rfl⟩ ⟨Nat.le_of_ble_eq_true rfl, Nat.le_of_ble_eq_true rfl⟩ (Nat.le_of_ble_eq_true rfl) rfl 1 6 rfl rfl 11 rfl dX6_knownWithLeg_8 ?_
  refine r_if_ne C.1 24 14 rfl dX6_knownWithLeg_11 rfl ⟨fun c21 => ?_, fun c21 => ?_⟩
  · have h := if_some_f c21 h
    refine r_aload_n C.1 3 25 rfl dX6_knownWithLeg_24 rfl ?_
    cases h
    exact r_aret C rfl (Or.inl ⟨_, rfl⟩) (Or.inr ⟨_, rfl⟩) (Nat.le_of_ble_eq_true rfl) (Nat.le_of_ble_eq_true rfl) dX6_knownWithLeg_25 (hq h18)
  · have h := if_some_t c21 h
    cases h
    exact r_throw C (Nat.le_of_ble_eq_true rfl) (Nat.le_of_ble_eq_true rfl) (Nat.le_of_ble_eq_true rfl) (Nat.le_of_ble_eq_true rfl) th_X6_86_157_90 dX6_knownWithLeg_14 dX6_knownWithLeg_17 dX6_knownWithLeg_18 dX6_knownWithLeg_20 dX6_knownWithLeg_23 hq
theorem c_X6_knownWithLeg {l : Launch} {G : jG} {sh : jSh} {κ : jKt} {a0 : Nat} (ha0 : sh a0 = (1, 10, 11)) {x1 : Int32} {x2 : Int32} {r : Nat} (h : P_X6_knownWithLeg κ a0 x1 x2 = some (.ok r)) : jM l G yX6_knownWithLeg cX6_knownWithLeg 4 (some (.object "TailorWorkshop$Customer")) 10 2 12 181 [.ref a0, .int x1, .int x2] (sh, κ) (jIsT r (1, 4, 2) sh κ) jNo :=
  r_body (by decide) (Nat.le_of_ble_eq_true rfl) fun F C hl hG hs ho hx => by
    subst hs
    exact w_X6_knownWithLeg_0 C ha0 (fin_okG (by unfold jOutR; intro h9; rw [ho]; exact ⟨rfl, rfl, h9⟩)) h
theorem x_X6_knownWithLeg {l : Launch} {G : jG} {sh : jSh} {κ : jKt} {a0 : Nat} (ha0 : sh a0 = (1, 10, 11)) {x1 : Int32} {x2 : Int32} {E : String} (h : P_X6_knownWithLeg κ a0 x1 x2 = some (.error E)) : jM l G yX6_knownWithLeg cX6_knownWithLeg 4 (some (.object "TailorWorkshop$Customer")) 10 2 12 181 [.ref a0, .int x1, .int x2] (sh, κ) (fun _ _ => False) (jXs E (sh, κ)) :=
  r_body (by decide) (Nat.le_of_ble_eq_true rfl) fun F C hl hG hs ho hx => by
    subst hs
    exact w_X6_knownWithLeg_0 C ha0 (fin_erG (by rw [hx]; exact ⟨rfl, rfl⟩)) h
set_option maxRecDepth 20000 in
theorem w_X6_existing_0 {F : jFm} (C : jB F RX6 cX6_existing 3 (some (.object "TailorWorkshop$Suit")) 9 1 6 160) {κ : jKt} {a0 : Nat} (ha0 : jSof F a0 = (1, 10, 11)) {x1 : Int32} {r : Except String Nat} (hq : jFinG F (jOutR F (1, 8, 8)) r κ) (h : P_X6_existing κ a0 x1 = some r) : jW F 3 0 0 κ 0 [(0, .ref a0), (1, .int x1)] [] := by
  unfold P_X6_existing at h
  refine r_aload_n C.1 0 1 rfl dX6_existing_0 rfl ?_
  refine r_getR C.1 0 fl_X6_12 rfl ha0 4 rfl dX6_existing_1 (fun (h9 : jSof F (kR κ a0 0) = (1, 9, 11)) => ?_)
  refine r_iload_n C.1 1 5 rfl dX6_existing_4 rfl ?_
  rcases bdo_some h with ⟨e10, h⟩ | ⟨b11, e10, h⟩
  · refine r_cVn C.1 (st := []) (cn_X5_suitWithId h9 e10) yv_X5_suitWithId ml_X6_253 rfl h9 rfl ⟨Nat.le_of_ble_eq_true rfl, Nat.le_of_ble_eq_true rfl⟩ ⟨Nat.le_of_ble_eq_true rfl, Nat.le_of_ble_eq_true rfl⟩ (Nat.le_of_ble_eq_true rfl) rfl 0 0 rfl rfl 8 rfl dX6_existing_5 ?_
    refine r_astore_nN C.1 (lv' := [(0, .ref a0), (1, .int x1), (2, .null)]) [1, 2, 0] 9 rfl dX6_existing_8 (Nat.le_of_ble_eq_true rfl) rfl ?_
    refine r_aload_nN C.1 2 10 rfl dX6_existing_9 rfl ?_
    refine r_ifnonnullN C.1 13 rfl dX6_existing_10 ?_
    cases h
    exact r_throx C (Nat.le_of_ble_eq_true rfl) (Nat.le_of_ble_eq_true rfl) (Nat.le_of_ble_eq_true rfl) (Nat.le_of_ble_eq_true rfl) th_X6_79_81_83 dX6_existing_13 dX6_existing_16 dX6_existing_17 dX6_existing_19 dX6_existing_22 hq
  · refine r_cVr C.1 (st := []) (c_X5_suitWithId h9 e10) yv_X5_suitWithId ml_X6_253 rfl h9 rfl ⟨Nat.le_of_ble_eq_true rfl, Nat.le_of_ble_eq_true rfl⟩ ⟨Nat.le_of_ble_eq_true rfl, Nat.le_of_ble_eq_true rfl⟩ (Nat.le_of_ble_eq_true rfl) rfl 0 0 rfl rfl 8 rfl dX6_existing_5 (fun (h12 : jSof F b11 = (1, 8, 8)) => ?_)
    refine r_astore_n C.1 (lv' := [(0, .ref a0), (1, .int x1), (2, .ref b11)]) [1, 2, 0] 9 rfl dX6_existing_8 (Nat.le_of_ble_eq_true rfl) rfl ?_
    refine r_aload_n C.1 2 10 rfl dX6_existing_9 rfl ?_
    refine r_ifnonnull C.1 23 dX6_existing_10 rfl ?_
    refine r_aload_n C.1 2 24 rfl dX6_existing_23 rfl ?_
    cases h
    exact r_aret C rfl (Or.inl ⟨_, rfl⟩) (Or.inr ⟨_, rfl⟩) (Nat.le_of_ble_eq_true rfl) (Nat.le_of_ble_eq_true rfl) dX6_existing_24 (hq h12)
theorem c_X6_existing {l : Launch} {G : jG} {sh : jSh} {κ : jKt} {a0 : Nat} (ha0 : sh a0 = (1, 10, 11)) {x1 : Int32} {r : Nat} (h : P_X6_existing κ a0 x1 = some (.ok r)) : jM l G yX6_existing cX6_existing 3 (some (.object "TailorWorkshop$Suit")) 9 1 6 160 [.ref a0, .int x1] (sh, κ) (jIsT r (1, 8, 8) sh κ) jNo :=
  r_body (by decide) (Nat.le_of_ble_eq_true rfl) fun F C hl hG hs ho hx => by
    subst hs
    exact w_X6_existing_0 C ha0 (fin_okG (by unfold jOutR; intro h9; rw [ho]; exact ⟨rfl, rfl, h9⟩)) h
theorem x_X6_existing {l : Launch} {G : jG} {sh : jSh} {κ : jKt} {a0 : Nat} (ha0 : sh a0 = (1, 10, 11)) {x1 : Int32} {E : String} (h : P_X6_existing κ a0 x1 = some (.error E)) : jM l G yX6_existing cX6_existing 3 (some (.object "TailorWorkshop$Suit")) 9 1 6 160 [.ref a0, .int x1] (sh, κ) (fun _ _ => False) (jXs E (sh, κ)) :=
  r_body (by decide) (Nat.le_of_ble_eq_true rfl) fun F C hl hG hs ho hx => by
    subst hs
    exact w_X6_existing_0 C ha0 (fin_erG (by rw [hx]; exact ⟨rfl, rfl⟩)) h
set_option maxRecDepth 20000 in
theorem w_X6_existingWithSleeve_0 {F : jFm} (C : jB F RX6 cX6_existingWithSleeve 4 (some (.object "TailorWorkshop$Suit")) 10 2 12 182) {κ : jKt} {a0 : Nat} (ha0 : jSof F a0 = (1, 10, 11)) {x1 : Int32} {x2 : Int32} {r : Except String Nat} (hq : jFinG F (jOutR F (1, 8, 8)) r κ) (h : P_X6_existingWithSleeve κ a0 x1 x2 = some r) : jW F 4 0 0 κ 0 [(0, .ref a0), (1, .int x1), (2, .int x2)] [] := by
  unfold P_X6_existingWithSleeve at h
  refine r_aload_n C.1 0 1 rfl dX6_existingWithSleeve_0 rfl ?_
  refine r_iload_n C.1 1 2 rfl dX6_existingWithSleeve_1 rfl ?_
  rcases bdx_some h with ⟨b16, e15, h⟩ | ⟨E17, e15, h⟩
  rotate_left
  · cases h
    exact r_xV C.1 (st := []) (x_X6_existing ha0 e15) yv_X6_existing ml_X6_173 rfl ha0 rfl ⟨Nat.le_of_ble_eq_true rfl, Nat.le_of_ble_eq_true rfl⟩ ⟨Nat.le_of_ble_eq_true rfl, Nat.le_of_ble_eq_true rfl⟩ (Nat.le_of_ble_eq_true rfl) rfl dX6_existingWithSleeve_2 (r_out C (Nat.le_of_ble_eq_true rfl) (Nat.le_of_ble_eq_true rfl) hq)
  refine r_cVr C.1 (st := []) (c_X6_existing ha0 e15) yv_X6_existing ml_X6_173 rfl ha0 rfl ⟨Nat.le_of_ble_eq_true rfl, Nat.le_of_ble_eq_true rfl⟩ ⟨Nat.le_of_ble_eq_true rfl, Nat.le_of_ble_eq_true rfl⟩ (Nat.le_of_ble_eq_true rfl) rfl 1 6 rfl rfl 5 rfl dX6_existingWithSleeve_2 (fun (h18 : jSof F b16 = (1, 8, 8)) => ?_)
  refine r_astore_n C.1 (lv' := [(0, .ref a0), (1, .int x1), (2, .int x2), (3, .ref b16)]) [1, 2, 3, 0] 6 rfl dX6_existingWithSleeve_5 (Nat.le_of_ble_eq_true rfl) rfl ?_
  refine r_aload_n C.1 3 7 rfl dX6_existingWithSleeve_6 rfl ?_
  refine r_iload_n C.1 2 8 rfl dX6_existingWithSleeve_7 rfl ?_
  obtain ⟨y20, e19, h⟩ := bd_some h
  refine r_cVi C.1 (st := []) (c_X4_hasSleeve h18 e19) yv_X4_hasSleeve ml_X6_256 rfl h18 rfl ⟨Nat.le_of_ble_eq_true rfl, Nat.le_of_ble_eq_true rfl⟩ ⟨Nat.le_of_ble_eq_true rfl, Nat.le_of_ble_eq_true rfl⟩ (Nat.le_of_ble_eq_true rfl) rfl 1 6 rfl rfl 11 rfl dX6_existingWithSleeve_8 ?_
  refine r_if_ne C.1 25 14 rfl dX6_existingWithSleeve_11 rfl ⟨fun c21 => ?_, fun c21 => ?_⟩
  · have h := if_some_f c21 h
    refine r_aload_n C.1 3 26 rfl dX6_existingWithSleeve_25 rfl ?_
    cases h
    exact r_aret C rfl (Or.inl ⟨_, rfl⟩) (Or.inr ⟨_, rfl⟩) (Nat.le_of_ble_eq_true rfl) (Nat.le_of_ble_eq_true rfl) dX6_existingWithSleeve_26 (hq h18)
  · have h := if_some_t c21 h
    cases h
    exact r_throwW C (Nat.le_of_ble_eq_true rfl) (Nat.le_of_ble_eq_true rfl) (Nat.le_of_ble_eq_true rfl) (Nat.le_of_ble_eq_true rfl) th_X6_86_259_90 dX6_existingWithSleeve_14 dX6_existingWithSleeve_17 dX6_existingWithSleeve_18 dX6_existingWithSleeve_21 dX6_existingWithSleeve_24 hq
theorem c_X6_existingWithSleeve {l : Launch} {G : jG} {sh : jSh} {κ : jKt} {a0 : Nat} (ha0 : sh a0 = (1, 10, 11)) {x1 : Int32} {x2 : Int32} {r : Nat} (h : P_X6_existingWithSleeve κ a0 x1 x2 = some (.ok r)) : jM l G yX6_existingWithSleeve cX6_existingWithSleeve 4 (some (.object "TailorWorkshop$Suit")) 10 2 12 182 [.ref a0, .int x1, .int x2] (sh, κ) (jIsT r (1, 8, 8) sh κ) jNo :=
  r_body (by decide) (Nat.le_of_ble_eq_true rfl) fun F C hl hG hs ho hx => by
    subst hs
    exact w_X6_existingWithSleeve_0 C ha0 (fin_okG (by unfold jOutR; intro h9; rw [ho]; exact ⟨rfl, rfl, h9⟩)) h
theorem x_X6_existingWithSleeve {l : Launch} {G : jG} {sh : jSh} {κ : jKt} {a0 : Nat} (ha0 : sh a0 = (1, 10, 11)) {x1 : Int32} {x2 : Int32} {E : String} (h : P_X6_existingWithSleeve κ a0 x1 x2 = some (.error E)) : jM l G yX6_existingWithSleeve cX6_existingWithSleeve 4 (some (.object "TailorWorkshop$Suit")) 10 2 12 182 [.ref a0, .int x1, .int x2] (sh, κ) (fun _ _ => False) (jXs E (sh, κ)) :=
  r_body (by decide) (Nat.le_of_ble_eq_true rfl) fun F C hl hG hs ho hx => by
    subst hs
    exact w_X6_existingWithSleeve_0 C ha0 (fin_erG (by rw [hx]; exact ⟨rfl, rfl⟩)) h
set_option maxRecDepth 20000 in
theorem w_X6_existingWithPiece_0 {F : jFm} (C : jB F RX6 cX6_existingWithPiece 4 (some (.object "TailorWorkshop$Suit")) 11 3 18 205) {κ : jKt} {a0 : Nat} (ha0 : jSof F a0 = (1, 10, 11)) {x1 : Int32} {x2 : Int32} {r : Except String Nat} (hq : jFinG F (jOutR F (1, 8, 8)) r κ) (h : P_X6_existingWithPiece κ a0 x1 x2 = some r) : jW F 4 0 0 κ 0 [(0, .ref a0), (1, .int x1), (2, .int x2)] [] := by
  unfold P_X6_existingWithPiece at h
  refine r_aload_n C.1 0 1 rfl dX6_existingWithPiece_0 rfl ?_
  refine r_iload_n C.1 1 2 rfl dX6_existingWithPiece_1 rfl ?_
  refine r_iload_n C.1 2 3 rfl dX6_existingWithPiece_2 rfl ?_
  rcases bdx_some h with ⟨b16, e15, h⟩ | ⟨E17, e15, h⟩
  rotate_left
  · cases h
    exact r_xV C.1 (st := []) (x_X6_existingWithSleeve ha0 e15) yv_X6_existingWithSleeve ml_X6_183 rfl ha0 rfl ⟨Nat.le_of_ble_eq_true rfl, Nat.le_of_ble_eq_true rfl⟩ ⟨Nat.le_of_ble_eq_true rfl, Nat.le_of_ble_eq_true rfl⟩ (Nat.le_of_ble_eq_true rfl) rfl dX6_existingWithPiece_3 (r_out C (Nat.le_of_ble_eq_true rfl) (Nat.le_of_ble_eq_true rfl) hq)
  refine r_cVr C.1 (st := []) (c_X6_existingWithSleeve ha0 e15) yv_X6_existingWithSleeve ml_X6_183 rfl ha0 rfl ⟨Nat.le_of_ble_eq_true rfl, Nat.le_of_ble_eq_true rfl⟩ ⟨Nat.le_of_ble_eq_true rfl, Nat.le_of_ble_eq_true rfl⟩ (Nat.le_of_ble_eq_true rfl) rfl 2 12 rfl rfl 6 rfl dX6_existingWithPiece_3 (fun (h18 : jSof F b16 = (1, 8, 8)) => ?_)
  refine r_astore_n C.1 (lv' := [(0, .ref a0), (1, .int x1), (2, .int x2), (3, .ref b16)]) [1, 2, 3, 0] 7 rfl dX6_existingWithPiece_6 (Nat.le_of_ble_eq_true rfl) rfl ?_
  refine r_aload_n C.1 3 8 rfl dX6_existingWithPiece_7 rfl ?_
  refine r_iload_n C.1 2 9 rfl dX6_existingWithPiece_8 rfl ?_
  obtain ⟨y20, e19, h⟩ := bd_some h
  refine r_cVi C.1 (st := []) (c_X4_isPlanned h18 e19) yv_X4_isPlanned ml_X6_261 rfl h18 rfl ⟨Nat.le_of_ble_eq_true rfl, Nat.le_of_ble_eq_true rfl⟩ ⟨Nat.le_of_ble_eq_true rfl, Nat.le_of_ble_eq_true rfl⟩ (Nat.le_of_ble_eq_true rfl) rfl 2 12 rfl rfl 12 rfl dX6_existingWithPiece_9 ?_
  refine r_if_eq C.1 26 15 rfl dX6_existingWithPiece_12 rfl ⟨fun c21 => ?_, fun c21 => ?_⟩
  · have h := if_some_t c21 h
    refine r_aload_n C.1 3 27 rfl dX6_existingWithPiece_26 rfl ?_
    cases h
    exact r_aret C rfl (Or.inl ⟨_, rfl⟩) (Or.inr ⟨_, rfl⟩) (Nat.le_of_ble_eq_true rfl) (Nat.le_of_ble_eq_true rfl) dX6_existingWithPiece_27 (hq h18)
  · have h := if_some_f c21 h
    cases h
    exact r_throwW C (Nat.le_of_ble_eq_true rfl) (Nat.le_of_ble_eq_true rfl) (Nat.le_of_ble_eq_true rfl) (Nat.le_of_ble_eq_true rfl) th_X6_96_264_100 dX6_existingWithPiece_15 dX6_existingWithPiece_18 dX6_existingWithPiece_19 dX6_existingWithPiece_22 dX6_existingWithPiece_25 hq
theorem c_X6_existingWithPiece {l : Launch} {G : jG} {sh : jSh} {κ : jKt} {a0 : Nat} (ha0 : sh a0 = (1, 10, 11)) {x1 : Int32} {x2 : Int32} {r : Nat} (h : P_X6_existingWithPiece κ a0 x1 x2 = some (.ok r)) : jM l G yX6_existingWithPiece cX6_existingWithPiece 4 (some (.object "TailorWorkshop$Suit")) 11 3 18 205 [.ref a0, .int x1, .int x2] (sh, κ) (jIsT r (1, 8, 8) sh κ) jNo :=
  r_body (by decide) (Nat.le_of_ble_eq_true rfl) fun F C hl hG hs ho hx => by
    subst hs
    exact w_X6_existingWithPiece_0 C ha0 (fin_okG (by unfold jOutR; intro h9; rw [ho]; exact ⟨rfl, rfl, h9⟩)) h
theorem x_X6_existingWithPiece {l : Launch} {G : jG} {sh : jSh} {κ : jKt} {a0 : Nat} (ha0 : sh a0 = (1, 10, 11)) {x1 : Int32} {x2 : Int32} {E : String} (h : P_X6_existingWithPiece κ a0 x1 x2 = some (.error E)) : jM l G yX6_existingWithPiece cX6_existingWithPiece 4 (some (.object "TailorWorkshop$Suit")) 11 3 18 205 [.ref a0, .int x1, .int x2] (sh, κ) (fun _ _ => False) (jXs E (sh, κ)) :=
  r_body (by decide) (Nat.le_of_ble_eq_true rfl) fun F C hl hG hs ho hx => by
    subst hs
    exact w_X6_existingWithPiece_0 C ha0 (fin_erG (by rw [hx]; exact ⟨rfl, rfl⟩)) h
set_option maxRecDepth 20000 in
theorem w_X6_meanLeg_0 {F : jFm} (C : jB F RX6 cX6_meanLeg 3 (some .double) 10 1 6 181) {κ : jKt} {a0 : Nat} (ha0 : jSof F a0 = (1, 10, 11)) {x1 : Int32} {r : Except String UInt64} (hq : jFinX F (fun x => some (.double x)) r κ) (h : P_X6_meanLeg κ a0 x1 = some r) : jW F 3 0 0 κ 0 [(0, .ref a0), (1, .int x1)] [] := by
  unfold P_X6_meanLeg at h
  refine r_aload_n C.1 0 1 rfl dX6_meanLeg_0 rfl ?_
  refine r_iload_n C.1 1 2 rfl dX6_meanLeg_1 rfl ?_
  rcases bdx_some h with ⟨b18, e17, h⟩ | ⟨E19, e17, h⟩
  rotate_left
  · cases h
    exact r_xV C.1 (st := []) (x_X6_known ha0 e17) yv_X6_known ml_X6_118 rfl ha0 rfl ⟨Nat.le_of_ble_eq_true rfl, Nat.le_of_ble_eq_true rfl⟩ ⟨Nat.le_of_ble_eq_true rfl, Nat.le_of_ble_eq_true rfl⟩ (Nat.le_of_ble_eq_true rfl) rfl dX6_meanLeg_2 (r_out C (Nat.le_of_ble_eq_true rfl) (Nat.le_of_ble_eq_true rfl) hq)
  refine r_cVr C.1 (st := []) (c_X6_known ha0 e17) yv_X6_known ml_X6_118 rfl ha0 rfl ⟨Nat.le_of_ble_eq_true rfl, Nat.le_of_ble_eq_true rfl⟩ ⟨Nat.le_of_ble_eq_true rfl, Nat.le_of_ble_eq_true rfl⟩ (Nat.le_of_ble_eq_true rfl) rfl 1 6 rfl rfl 5 rfl dX6_meanLeg_2 (fun (h20 : jSof F b18 = (1, 4, 2)) => ?_)
  refine r_astore_n C.1 (lv' := [(0, .ref a0), (1, .int x1), (2, .ref b18)]) [1, 2, 0] 6 rfl dX6_meanLeg_5 (Nat.le_of_ble_eq_true rfl) rfl ?_
  refine r_aload_n C.1 2 7 rfl dX6_meanLeg_6 rfl ?_
  refine r_getI C.1 0 fl_X6_122 rfl h20 10 rfl dX6_meanLeg_7 ?_
  refine r_if_ne C.1 17 13 rfl dX6_meanLeg_10 rfl ⟨fun c21 => ?_, fun c21 => ?_⟩
  · have h := if_some_f c21 h
    refine r_aload_n C.1 2 18 rfl dX6_meanLeg_17 rfl ?_
    obtain ⟨y23, e22, h⟩ := bd_some h
    refine r_cVi C.1 (st := []) (c_X0_legSum h20 e22) yv_X0_legSum ml_X6_281 rfl h20 rfl ⟨Nat.le_of_ble_eq_true rfl, Nat.le_of_ble_eq_true rfl⟩ ⟨Nat.le_of_ble_eq_true rfl, Nat.le_of_ble_eq_true rfl⟩ (Nat.le_of_ble_eq_true rfl) rfl 1 6 rfl rfl 21 rfl dX6_meanLeg_18 ?_
    refine r_i2d C.1 22 rfl dX6_meanLeg_21 ?_
    refine r_aload_n C.1 2 23 rfl dX6_meanLeg_22 rfl ?_
    refine r_getI C.1 0 fl_X6_122 rfl h20 26 rfl dX6_meanLeg_23 ?_
    refine r_i2d C.1 27 rfl dX6_meanLeg_26 ?_
    obtain ⟨z24, h⟩ := ck_some h
    refine r_ddiv C.1 28 rfl dX6_meanLeg_27 z24 ?_
    cases h
    exact r_dret C rfl (Nat.le_of_ble_eq_true rfl) (Nat.le_of_ble_eq_true rfl) dX6_meanLeg_28 hq
  · have h := if_some_t c21 h
    refine r_dconst0 C.1 14 rfl dX6_meanLeg_13 ?_
    refine r_goto C.1 28 dX6_meanLeg_14 rfl ?_
    cases h
    exact r_dret C rfl (Nat.le_of_ble_eq_true rfl) (Nat.le_of_ble_eq_true rfl) dX6_meanLeg_28 hq
theorem c_X6_meanLeg {l : Launch} {G : jG} {sh : jSh} {κ : jKt} {a0 : Nat} (ha0 : sh a0 = (1, 10, 11)) {x1 : Int32} {r : UInt64} (h : P_X6_meanLeg κ a0 x1 = some (.ok r)) : jM l G yX6_meanLeg cX6_meanLeg 3 (some .double) 10 1 6 181 [.ref a0, .int x1] (sh, κ) (jIs (some (.double r)) (sh, κ)) jNo :=
  r_body (by decide) (Nat.le_of_ble_eq_true rfl) fun F C hl hG hs ho hx => by
    subst hs
    exact w_X6_meanLeg_0 C ha0 (fin_ok (by rw [ho]; exact ⟨rfl, rfl⟩)) h
theorem x_X6_meanLeg {l : Launch} {G : jG} {sh : jSh} {κ : jKt} {a0 : Nat} (ha0 : sh a0 = (1, 10, 11)) {x1 : Int32} {E : String} (h : P_X6_meanLeg κ a0 x1 = some (.error E)) : jM l G yX6_meanLeg cX6_meanLeg 3 (some .double) 10 1 6 181 [.ref a0, .int x1] (sh, κ) (fun _ _ => False) (jXs E (sh, κ)) :=
  r_body (by decide) (Nat.le_of_ble_eq_true rfl) fun F C hl hG hs ho hx => by
    subst hs
    exact w_X6_meanLeg_0 C ha0 (fin_er (by rw [hx]; exact ⟨rfl, rfl⟩)) h
set_option maxRecDepth 20000 in
theorem w_X6_renderSleeve_0 {F : jFm} (C : jB F RX6 cX6_renderSleeve 3 none 9 2 284 321) {κ : jKt} {a0 : Nat} (ha0 : jSof F a0 = (1, 10, 11)) {a1 : Nat} (ha1 : jSof F a1 = (1, 8, 8)) {x2 : Int32} {r : jKt} (hq : jOut F none r) (h : P_X6_renderSleeve κ a0 a1 x2 = some r) : jW F 3 0 0 κ 0 [(0, .ref a0), (1, .ref a1), (2, .int x2)] [] := by
  unfold P_X6_renderSleeve at h
  refine r_aload_n C.1 1 1 rfl dX6_renderSleeve_0 rfl ?_
  refine r_iload_n C.1 2 2 rfl dX6_renderSleeve_1 rfl ?_
  obtain ⟨y46, e45, h⟩ := bd_some h
  refine r_cVi C.1 (st := []) (c_X4_isPlanned ha1 e45) yv_X4_isPlanned ml_X6_261 rfl ha1 rfl ⟨Nat.le_of_ble_eq_true rfl, Nat.le_of_ble_eq_true rfl⟩ ⟨Nat.le_of_ble_eq_true rfl, Nat.le_of_ble_eq_true rfl⟩ (Nat.le_of_ble_eq_true rfl) rfl 0 0 rfl rfl 5 rfl dX6_renderSleeve_2 ?_
  refine r_if_eq C.1 21 8 rfl dX6_renderSleeve_5 rfl ⟨fun c47 => ?_, fun c47 => ?_⟩
  · have h := if_some_t c47 h
    refine r_aload_n C.1 0 22 rfl dX6_renderSleeve_21 rfl ?_
    refine r_getR C.1 10 fl_X6_57 rfl ha0 25 rfl dX6_renderSleeve_22 (fun (h48 : jSof F (kR κ a0 10) = (6, 0, 0)) => ?_)
    refine r_aload_n C.1 1 26 rfl dX6_renderSleeve_25 rfl ?_
    refine r_getR C.1 6 fl_X6_194 rfl ha1 29 rfl dX6_renderSleeve_26 (fun (h49 : jSof F (kR κ a1 6) = (2, 0, 16)) => ?_)
    refine r_iload_n C.1 2 30 rfl dX6_renderSleeve_29 rfl ?_
    obtain ⟨i50, h⟩ := ck_some h
    refine r_iald C.1 h49 i50 31 rfl dX6_renderSleeve_30 ?_
    obtain ⟨b52, κ53, e51, h⟩ := bd2_some h
    refine r_cGr C.1 (st := []) (c_J4_append_bf812 h48 e51) yv_J4_append_bf812 ml_X6_322 (jCell_T C.1 h48) rfl ⟨Nat.le_of_ble_eq_true rfl, Nat.le_of_ble_eq_true rfl⟩ ⟨Nat.le_of_ble_eq_true rfl, Nat.le_of_ble_eq_true rfl⟩ (Nat.le_of_ble_eq_true rfl) rfl 1 142 rfl rfl 34 rfl dX6_renderSleeve_31 (fun (h54 : jSof F b52 = (6, 0, 0)) => ?_)
    refine r_pop C.1 rfl 35 rfl dX6_renderSleeve_34 ?_
    refine r_aload_n C.1 0 36 rfl dX6_renderSleeve_35 rfl ?_
    refine r_getR C.1 10 fl_X6_57 rfl ha0 39 rfl dX6_renderSleeve_36 (fun (h55 : jSof F (kR κ53 a0 10) = (6, 0, 0)) => ?_)
    refine r_aload_n C.1 1 40 rfl dX6_renderSleeve_39 rfl ?_
    refine r_getR C.1 5 fl_X6_187 rfl ha1 43 rfl dX6_renderSleeve_40 (fun (h56 : jSof F (kR κ53 a1 5) = (2, 1, 16)) => ?_)
    refine r_iload_n C.1 2 44 rfl dX6_renderSleeve_43 rfl ?_
    obtain ⟨i57, h⟩ := ck_some h
    refine r_cald C.1 h56 i57 45 rfl dX6_renderSleeve_44 ?_
    obtain ⟨b59, κ60, e58, h⟩ := bd2_some h
    refine r_cGr C.1 (st := []) (c_J4_append_cf468 h55 e58) yv_J4_append_cf468 ml_X6_311 (jCell_T C.1 h55) rfl ⟨Nat.le_of_ble_eq_true rfl, Nat.le_of_ble_eq_true rfl⟩ ⟨Nat.le_of_ble_eq_true rfl, Nat.le_of_ble_eq_true rfl⟩ (Nat.le_of_ble_eq_true rfl) rfl 2 284 rfl rfl 48 rfl dX6_renderSleeve_45 (fun (h61 : jSof F b59 = (6, 0, 0)) => ?_)
    refine r_pop C.1 rfl 49 rfl dX6_renderSleeve_48 ?_
    cases h
    exact r_vret C rfl (Nat.le_of_ble_eq_true rfl) (Nat.le_of_ble_eq_true rfl) dX6_renderSleeve_49 hq
  · have h := if_some_f c47 h
    refine r_aload_n C.1 0 9 rfl dX6_renderSleeve_8 rfl ?_
    refine r_getR C.1 10 fl_X6_57 rfl ha0 12 rfl dX6_renderSleeve_9 (fun (h62 : jSof F (kR κ a0 10) = (6, 0, 0)) => ?_)
    refine r_bipush C.1 46 rfl 14 rfl dX6_renderSleeve_12 ?_
    obtain ⟨b64, κ65, e63, h⟩ := bd2_some h
    refine r_cGr C.1 (st := []) (c_J4_append_cf468 h62 e63) yv_J4_append_cf468 ml_X6_311 (jCell_T C.1 h62) rfl ⟨Nat.le_of_ble_eq_true rfl, Nat.le_of_ble_eq_true rfl⟩ ⟨Nat.le_of_ble_eq_true rfl, Nat.le_of_ble_eq_true rfl⟩ (Nat.le_of_ble_eq_true rfl) rfl 1 142 rfl rfl 17 rfl dX6_renderSleeve_14 (fun (h66 : jSof F b64 = (6, 0, 0)) => ?_)
    refine r_pop C.1 rfl 18 rfl dX6_renderSleeve_17 ?_
    refine r_goto C.1 49 dX6_renderSleeve_18 rfl ?_
    cases h
    exact r_vret C rfl (Nat.le_of_ble_eq_true rfl) (Nat.le_of_ble_eq_true rfl) dX6_renderSleeve_49 hq
theorem c_X6_renderSleeve {l : Launch} {G : jG} {sh : jSh} {κ : jKt} {a0 : Nat} (ha0 : sh a0 = (1, 10, 11)) {a1 : Nat} (ha1 : sh a1 = (1, 8, 8)) {x2 : Int32}  {κr : jKt} (h : P_X6_renderSleeve κ a0 a1 x2 = some κr) : jM l G yX6_renderSleeve cX6_renderSleeve 3 none 9 2 284 321 [.ref a0, .ref a1, .int x2] (sh, κ) (jIs none (sh, κr)) jNo :=
  r_body (by decide) (Nat.le_of_ble_eq_true rfl) fun F C hl hG hs ho hx => by
    subst hs
    exact w_X6_renderSleeve_0 C ha0 ha1 (by rw [ho]; exact ⟨rfl, rfl⟩) h
set_option maxRecDepth 20000 in
theorem w_X6_type_0 {F : jFm} (C : jB F RX6 cX6_type 2 (some .int) 9 1 6 160) {κ : jKt} {a0 : Nat} (ha0 : jSof F a0 = (1, 10, 11)) {x1 : Int32} {r : Except String Int32 × jKt} (hq : jFinX F (fun x => some (.int x)) r.1 r.2) (h : P_X6_type κ a0 x1 = some r) : jW F 2 0 0 κ 0 [(0, .ref a0), (1, .int x1)] [] := by
  unfold P_X6_type at h
  refine r_iload_n C.1 1 1 rfl dX6_type_0 rfl ?_
  refine r_bipush C.1 32 rfl 3 rfl dX6_type_1 ?_
  refine r_icmp_lt C.1 12 6 rfl dX6_type_3 rfl ⟨fun c17 => ?_, fun c17 => ?_⟩
  · have h := if_some_t c17 h
    cases h
    exact r_throwW C (Nat.le_of_ble_eq_true rfl) (Nat.le_of_ble_eq_true rfl) (Nat.le_of_ble_eq_true rfl) (Nat.le_of_ble_eq_true rfl) th_X6_91_331_95 dX6_type_12 dX6_type_15 dX6_type_16 dX6_type_19 dX6_type_22 hq
  · have h := if_some_f c17 h
    refine r_iload_n C.1 1 7 rfl dX6_type_6 rfl ?_
    refine r_bipush C.1 126 rfl 9 rfl dX6_type_7 ?_
    refine r_icmp_le C.1 23 12 rfl dX6_type_9 rfl ⟨fun c18 => ?_, fun c18 => ?_⟩
    · have h := if_some_t c18 h
      refine r_aload_n C.1 0 24 rfl dX6_type_23 rfl ?_
      refine r_getR C.1 7 fl_X6_44 rfl ha0 27 rfl dX6_type_24 (fun (h19 : jSof F (kR κ a0 7) = (1, 6, 5)) => ?_)
      refine r_getI C.1 1 fl_X6_333 rfl h19 30 rfl dX6_type_27 ?_
      refine r_bipush C.1 60 rfl 32 rfl dX6_type_30 ?_
      refine r_icmp_ne C.1 46 35 rfl dX6_type_32 rfl ⟨fun c20 => ?_, fun c20 => ?_⟩
      · have h := if_some_f c20 h
        refine r_aload_n C.1 0 47 rfl dX6_type_46 rfl ?_
        refine r_getR C.1 7 fl_X6_44 rfl ha0 50 rfl dX6_type_47 (fun (h21 : jSof F (kR κ a0 7) = (1, 6, 5)) => ?_)
        refine r_iload_n C.1 1 51 rfl dX6_type_50 rfl ?_
        obtain ⟨y23, κ24, e22, h⟩ := bd2_some h
        refine r_cVi C.1 (st := []) (c_X2_append h21 e22) yv_X2_append ml_X6_337 rfl h21 rfl ⟨Nat.le_of_ble_eq_true rfl, Nat.le_of_ble_eq_true rfl⟩ ⟨Nat.le_of_ble_eq_true rfl, Nat.le_of_ble_eq_true rfl⟩ (Nat.le_of_ble_eq_true rfl) rfl 0 0 rfl rfl 54 rfl dX6_type_51 ?_
        cases h
        exact r_zret C rfl rfl (Nat.le_of_ble_eq_true rfl) (Nat.le_of_ble_eq_true rfl) dX6_type_54 hq
      · have h := if_some_t c20 h
        cases h
        exact r_throwW C (Nat.le_of_ble_eq_true rfl) (Nat.le_of_ble_eq_true rfl) (Nat.le_of_ble_eq_true rfl) (Nat.le_of_ble_eq_true rfl) th_X6_96_335_100 dX6_type_35 dX6_type_38 dX6_type_39 dX6_type_42 dX6_type_45 hq
    · have h := if_some_f c18 h
      cases h
      exact r_throwW C (Nat.le_of_ble_eq_true rfl) (Nat.le_of_ble_eq_true rfl) (Nat.le_of_ble_eq_true rfl) (Nat.le_of_ble_eq_true rfl) th_X6_91_331_95 dX6_type_12 dX6_type_15 dX6_type_16 dX6_type_19 dX6_type_22 hq
theorem c_X6_type {l : Launch} {G : jG} {sh : jSh} {κ : jKt} {a0 : Nat} (ha0 : sh a0 = (1, 10, 11)) {x1 : Int32} {r : Int32} {κr : jKt} (h : P_X6_type κ a0 x1 = some (.ok r, κr)) : jM l G yX6_type cX6_type 2 (some .int) 9 1 6 160 [.ref a0, .int x1] (sh, κ) (jIs (some (.int r)) (sh, κr)) jNo :=
  r_body (by decide) (Nat.le_of_ble_eq_true rfl) fun F C hl hG hs ho hx => by
    subst hs
    exact w_X6_type_0 C ha0 (fin_ok (by rw [ho]; exact ⟨rfl, rfl⟩)) h
theorem x_X6_type {l : Launch} {G : jG} {sh : jSh} {κ : jKt} {a0 : Nat} (ha0 : sh a0 = (1, 10, 11)) {x1 : Int32} {E : String} {κr : jKt} (h : P_X6_type κ a0 x1 = some (.error E, κr)) : jM l G yX6_type cX6_type 2 (some .int) 9 1 6 160 [.ref a0, .int x1] (sh, κ) (fun _ _ => False) (jXs E (sh, κr)) :=
  r_body (by decide) (Nat.le_of_ble_eq_true rfl) fun F C hl hG hs ho hx => by
    subst hs
    exact w_X6_type_0 C ha0 (fin_er (by rw [hx]; exact ⟨rfl, rfl⟩)) h
set_option maxRecDepth 20000 in
theorem w_X6_save_0 {F : jFm} (C : jB F RX6 cX6_save 1 (some .int) 3 0 0 123) {κ : jKt} {a0 : Nat} (ha0 : jSof F a0 = (1, 10, 11)) {r : Int32 × jKt} (hq : jOut F (some (.int r.1)) r.2) (h : P_X6_save κ a0 = some r) : jW F 1 0 0 κ 0 [(0, .ref a0)] [] := by
  unfold P_X6_save at h
  refine r_aload_n C.1 0 1 rfl dX6_save_0 rfl ?_
  refine r_getR C.1 2 fl_X6_19 rfl ha0 4 rfl dX6_save_1 (fun (h15 : jSof F (kR κ a0 2) = (1, 9, 11)) => ?_)
  refine r_aload_n C.1 0 5 rfl dX6_save_4 rfl ?_
  refine r_getR C.1 0 fl_X6_12 rfl ha0 8 rfl dX6_save_5 (fun (h16 : jSof F (kR κ a0 0) = (1, 9, 11)) => ?_)
  obtain ⟨κ18, e17, h⟩ := bd_some h
  refine r_cVv C.1 (st := []) (c_X5_takeOver h15 h16 e17) yv_X5_takeOver ml_X6_65 rfl h15 rfl ⟨Nat.le_of_ble_eq_true rfl, Nat.le_of_ble_eq_true rfl⟩ ⟨Nat.le_of_ble_eq_true rfl, Nat.le_of_ble_eq_true rfl⟩ (Nat.le_of_ble_eq_true rfl) rfl 0 0 rfl rfl 11 rfl dX6_save_8 ?_
  refine r_aload_n C.1 0 12 rfl dX6_save_11 rfl ?_
  refine r_iconst C.1 1 rfl 13 rfl dX6_save_12 ?_
  obtain ⟨κ19, e20, h⟩ := bnd_some h
  refine r_putI C.1 3 fw_X6_22 rfl rfl rfl ha0 e20 16 rfl dX6_save_13 ?_
  refine r_aload_n C.1 0 17 rfl dX6_save_16 rfl ?_
  refine r_getR C.1 0 fl_X6_12 rfl ha0 20 rfl dX6_save_17 (fun (h21 : jSof F (kR κ19 a0 0) = (1, 9, 11)) => ?_)
  refine r_getI C.1 4 fl_X6_159 rfl h21 23 rfl dX6_save_20 ?_
  cases h
  exact r_zret C rfl rfl (Nat.le_of_ble_eq_true rfl) (Nat.le_of_ble_eq_true rfl) dX6_save_23 hq
theorem c_X6_save {l : Launch} {G : jG} {sh : jSh} {κ : jKt} {a0 : Nat} (ha0 : sh a0 = (1, 10, 11)) {r : Int32} {κr : jKt} (h : P_X6_save κ a0 = some (r, κr)) : jM l G yX6_save cX6_save 1 (some .int) 3 0 0 123 [.ref a0] (sh, κ) (jIs (some (.int r)) (sh, κr)) jNo :=
  r_body (by decide) (Nat.le_of_ble_eq_true rfl) fun F C hl hG hs ho hx => by
    subst hs
    exact w_X6_save_0 C ha0 (by rw [ho]; exact ⟨rfl, rfl⟩) h
set_option maxRecDepth 20000 in
theorem w_X6_restore_0 {F : jFm} (C : jB F RX6 cX6_restore 1 (some .int) 9 1 6 160) {κ : jKt} {a0 : Nat} (ha0 : jSof F a0 = (1, 10, 11)) {r : Except String Int32 × jKt} (hq : jFinX F (fun x => some (.int x)) r.1 r.2) (h : P_X6_restore κ a0 = some r) : jW F 1 0 0 κ 0 [(0, .ref a0)] [] := by
  unfold P_X6_restore at h
  refine r_aload_n C.1 0 1 rfl dX6_restore_0 rfl ?_
  refine r_getI C.1 3 fl_X6_22 rfl ha0 4 rfl dX6_restore_1 ?_
  refine r_if_ne C.1 18 7 rfl dX6_restore_4 rfl ⟨fun c17 => ?_, fun c17 => ?_⟩
  · have h := if_some_f c17 h
    refine r_aload_n C.1 0 19 rfl dX6_restore_18 rfl ?_
    refine r_getR C.1 0 fl_X6_12 rfl ha0 22 rfl dX6_restore_19 (fun (h18 : jSof F (kR κ a0 0) = (1, 9, 11)) => ?_)
    refine r_aload_n C.1 0 23 rfl dX6_restore_22 rfl ?_
    refine r_getR C.1 2 fl_X6_19 rfl ha0 26 rfl dX6_restore_23 (fun (h19 : jSof F (kR κ a0 2) = (1, 9, 11)) => ?_)
    obtain ⟨κ21, e20, h⟩ := bd_some h
    refine r_cVv C.1 (st := []) (c_X5_takeOver h18 h19 e20) yv_X5_takeOver ml_X6_65 rfl h18 rfl ⟨Nat.le_of_ble_eq_true rfl, Nat.le_of_ble_eq_true rfl⟩ ⟨Nat.le_of_ble_eq_true rfl, Nat.le_of_ble_eq_true rfl⟩ (Nat.le_of_ble_eq_true rfl) rfl 0 0 rfl rfl 29 rfl dX6_restore_26 ?_
    refine r_aload_n C.1 0 30 rfl dX6_restore_29 rfl ?_
    refine r_iconst C.1 0 rfl 31 rfl dX6_restore_30 ?_
    obtain ⟨κ22, e23, h⟩ := bnd_some h
    refine r_putI C.1 5 fw_X6_30 rfl rfl rfl ha0 e23 34 rfl dX6_restore_31 ?_
    refine r_aload_n C.1 0 35 rfl dX6_restore_34 rfl ?_
    refine r_getR C.1 0 fl_X6_12 rfl ha0 38 rfl dX6_restore_35 (fun (h24 : jSof F (kR κ22 a0 0) = (1, 9, 11)) => ?_)
    refine r_getI C.1 4 fl_X6_159 rfl h24 41 rfl dX6_restore_38 ?_
    cases h
    exact r_zret C rfl rfl (Nat.le_of_ble_eq_true rfl) (Nat.le_of_ble_eq_true rfl) dX6_restore_41 hq
  · have h := if_some_t c17 h
    cases h
    exact r_throwW C (Nat.le_of_ble_eq_true rfl) (Nat.le_of_ble_eq_true rfl) (Nat.le_of_ble_eq_true rfl) (Nat.le_of_ble_eq_true rfl) th_X6_96_360_100 dX6_restore_7 dX6_restore_10 dX6_restore_11 dX6_restore_14 dX6_restore_17 hq
theorem c_X6_restore {l : Launch} {G : jG} {sh : jSh} {κ : jKt} {a0 : Nat} (ha0 : sh a0 = (1, 10, 11)) {r : Int32} {κr : jKt} (h : P_X6_restore κ a0 = some (.ok r, κr)) : jM l G yX6_restore cX6_restore 1 (some .int) 9 1 6 160 [.ref a0] (sh, κ) (jIs (some (.int r)) (sh, κr)) jNo :=
  r_body (by decide) (Nat.le_of_ble_eq_true rfl) fun F C hl hG hs ho hx => by
    subst hs
    exact w_X6_restore_0 C ha0 (fin_ok (by rw [ho]; exact ⟨rfl, rfl⟩)) h
theorem x_X6_restore {l : Launch} {G : jG} {sh : jSh} {κ : jKt} {a0 : Nat} (ha0 : sh a0 = (1, 10, 11)) {E : String} {κr : jKt} (h : P_X6_restore κ a0 = some (.error E, κr)) : jM l G yX6_restore cX6_restore 1 (some .int) 9 1 6 160 [.ref a0] (sh, κ) (fun _ _ => False) (jXs E (sh, κr)) :=
  r_body (by decide) (Nat.le_of_ble_eq_true rfl) fun F C hl hG hs ho hx => by
    subst hs
    exact w_X6_restore_0 C ha0 (fin_er (by rw [hx]; exact ⟨rfl, rfl⟩)) h
set_option maxRecDepth 20000 in
theorem w_X6_pairs_0 {F : jFm} (C : jB F RX6 cX6_pairs 2 (some .int) 10 1 6 181) {κ : jKt} {a0 : Nat} (ha0 : jSof F a0 = (1, 10, 11)) {x1 : Int32} {r : Except String Int32} (hq : jFinX F (fun x => some (.int x)) r κ) (h : P_X6_pairs κ a0 x1 = some r) : jW F 2 0 0 κ 0 [(0, .ref a0), (1, .int x1)] [] := by
  unfold P_X6_pairs at h
  refine r_aload_n C.1 0 1 rfl dX6_pairs_0 rfl ?_
  refine r_iload_n C.1 1 2 rfl dX6_pairs_1 rfl ?_
  rcases bdx_some h with ⟨b10, e9, h⟩ | ⟨E11, e9, h⟩
  rotate_left
  · cases h
    exact r_xV C.1 (st := []) (x_X6_known ha0 e9) yv_X6_known ml_X6_118 rfl ha0 rfl ⟨Nat.le_of_ble_eq_true rfl, Nat.le_of_ble_eq_true rfl⟩ ⟨Nat.le_of_ble_eq_true rfl, Nat.le_of_ble_eq_true rfl⟩ (Nat.le_of_ble_eq_true rfl) rfl dX6_pairs_2 (r_out C (Nat.le_of_ble_eq_true rfl) (Nat.le_of_ble_eq_true rfl) hq)
  refine r_cVr C.1 (st := []) (c_X6_known ha0 e9) yv_X6_known ml_X6_118 rfl ha0 rfl ⟨Nat.le_of_ble_eq_true rfl, Nat.le_of_ble_eq_true rfl⟩ ⟨Nat.le_of_ble_eq_true rfl, Nat.le_of_ble_eq_true rfl⟩ (Nat.le_of_ble_eq_true rfl) rfl 1 6 rfl rfl 5 rfl dX6_pairs_2 (fun (h12 : jSof F b10 = (1, 4, 2)) => ?_)
  refine r_getI C.1 0 fl_X6_122 rfl h12 8 rfl dX6_pairs_5 ?_
  refine r_iconst C.1 2 rfl 9 rfl dX6_pairs_8 ?_
  refine r_idiv C.1 10 rfl dX6_pairs_9 (by decide) ?_
  cases h
  exact r_zret C rfl rfl (Nat.le_of_ble_eq_true rfl) (Nat.le_of_ble_eq_true rfl) dX6_pairs_10 hq
theorem c_X6_pairs {l : Launch} {G : jG} {sh : jSh} {κ : jKt} {a0 : Nat} (ha0 : sh a0 = (1, 10, 11)) {x1 : Int32} {r : Int32} (h : P_X6_pairs κ a0 x1 = some (.ok r)) : jM l G yX6_pairs cX6_pairs 2 (some .int) 10 1 6 181 [.ref a0, .int x1] (sh, κ) (jIs (some (.int r)) (sh, κ)) jNo :=
  r_body (by decide) (Nat.le_of_ble_eq_true rfl) fun F C hl hG hs ho hx => by
    subst hs
    exact w_X6_pairs_0 C ha0 (fin_ok (by rw [ho]; exact ⟨rfl, rfl⟩)) h
theorem x_X6_pairs {l : Launch} {G : jG} {sh : jSh} {κ : jKt} {a0 : Nat} (ha0 : sh a0 = (1, 10, 11)) {x1 : Int32} {E : String} (h : P_X6_pairs κ a0 x1 = some (.error E)) : jM l G yX6_pairs cX6_pairs 2 (some .int) 10 1 6 181 [.ref a0, .int x1] (sh, κ) (fun _ _ => False) (jXs E (sh, κ)) :=
  r_body (by decide) (Nat.le_of_ble_eq_true rfl) fun F C hl hG hs ho hx => by
    subst hs
    exact w_X6_pairs_0 C ha0 (fin_er (by rw [hx]; exact ⟨rfl, rfl⟩)) h
set_option maxRecDepth 20000 in
theorem w_X6_legLength_0 {F : jFm} (C : jB F RX6 cX6_legLength 3 (some .int) 11 2 12 204) {κ : jKt} {a0 : Nat} (ha0 : jSof F a0 = (1, 10, 11)) {x1 : Int32} {x2 : Int32} {r : Except String Int32} (hq : jFinX F (fun x => some (.int x)) r κ) (h : P_X6_legLength κ a0 x1 x2 = some r) : jW F 3 0 0 κ 0 [(0, .ref a0), (1, .int x1), (2, .int x2)] [] := by
  unfold P_X6_legLength at h
  refine r_aload_n C.1 0 1 rfl dX6_legLength_0 rfl ?_
  refine r_iload_n C.1 1 2 rfl dX6_legLength_1 rfl ?_
  refine r_iload_n C.1 2 3 rfl dX6_legLength_2 rfl ?_
  rcases bdx_some h with ⟨b14, e13, h⟩ | ⟨E15, e13, h⟩
  rotate_left
  · cases h
    exact r_xV C.1 (st := []) (x_X6_knownWithLeg ha0 e13) yv_X6_knownWithLeg ml_X6_127 rfl ha0 rfl ⟨Nat.le_of_ble_eq_true rfl, Nat.le_of_ble_eq_true rfl⟩ ⟨Nat.le_of_ble_eq_true rfl, Nat.le_of_ble_eq_true rfl⟩ (Nat.le_of_ble_eq_true rfl) rfl dX6_legLength_3 (r_out C (Nat.le_of_ble_eq_true rfl) (Nat.le_of_ble_eq_true rfl) hq)
  refine r_cVr C.1 (st := []) (c_X6_knownWithLeg ha0 e13) yv_X6_knownWithLeg ml_X6_127 rfl ha0 rfl ⟨Nat.le_of_ble_eq_true rfl, Nat.le_of_ble_eq_true rfl⟩ ⟨Nat.le_of_ble_eq_true rfl, Nat.le_of_ble_eq_true rfl⟩ (Nat.le_of_ble_eq_true rfl) rfl 2 12 rfl rfl 6 rfl dX6_legLength_3 (fun (h16 : jSof F b14 = (1, 4, 2)) => ?_)
  refine r_getR C.1 1 fl_X6_131 rfl h16 9 rfl dX6_legLength_6 (fun (h17 : jSof F (kR κ b14 1) = (2, 0, 16)) => ?_)
  refine r_iload_n C.1 2 10 rfl dX6_legLength_9 rfl ?_
  obtain ⟨i18, h⟩ := ck_some h
  refine r_iald C.1 h17 i18 11 rfl dX6_legLength_10 ?_
  cases h
  exact r_zret C rfl rfl (Nat.le_of_ble_eq_true rfl) (Nat.le_of_ble_eq_true rfl) dX6_legLength_11 hq
theorem c_X6_legLength {l : Launch} {G : jG} {sh : jSh} {κ : jKt} {a0 : Nat} (ha0 : sh a0 = (1, 10, 11)) {x1 : Int32} {x2 : Int32} {r : Int32} (h : P_X6_legLength κ a0 x1 x2 = some (.ok r)) : jM l G yX6_legLength cX6_legLength 3 (some .int) 11 2 12 204 [.ref a0, .int x1, .int x2] (sh, κ) (jIs (some (.int r)) (sh, κ)) jNo :=
  r_body (by decide) (Nat.le_of_ble_eq_true rfl) fun F C hl hG hs ho hx => by
    subst hs
    exact w_X6_legLength_0 C ha0 (fin_ok (by rw [ho]; exact ⟨rfl, rfl⟩)) h
theorem x_X6_legLength {l : Launch} {G : jG} {sh : jSh} {κ : jKt} {a0 : Nat} (ha0 : sh a0 = (1, 10, 11)) {x1 : Int32} {x2 : Int32} {E : String} (h : P_X6_legLength κ a0 x1 x2 = some (.error E)) : jM l G yX6_legLength cX6_legLength 3 (some .int) 11 2 12 204 [.ref a0, .int x1, .int x2] (sh, κ) (fun _ _ => False) (jXs E (sh, κ)) :=
  r_body (by decide) (Nat.le_of_ble_eq_true rfl) fun F C hl hG hs ho hx => by
    subst hs
    exact w_X6_legLength_0 C ha0 (fin_er (by rw [hx]; exact ⟨rfl, rfl⟩)) h
set_option maxRecDepth 20000 in
theorem w_X6_mirrorLeg_0 {F : jFm} (C : jB F RX6 cX6_mirrorLeg 3 (some .int) 11 2 12 204) {κ : jKt} {a0 : Nat} (ha0 : jSof F a0 = (1, 10, 11)) {x1 : Int32} {x2 : Int32} {r : Except String Int32} (hq : jFinX F (fun x => some (.int x)) r κ) (h : P_X6_mirrorLeg κ a0 x1 x2 = some r) : jW F 3 0 0 κ 0 [(0, .ref a0), (1, .int x1), (2, .int x2)] [] := by
  unfold P_X6_mirrorLeg at h
  refine r_aload_n C.1 0 1 rfl dX6_mirrorLeg_0 rfl ?_
  refine r_iload_n C.1 1 2 rfl dX6_mirrorLeg_1 rfl ?_
  refine r_iload_n C.1 2 3 rfl dX6_mirrorLeg_2 rfl ?_
  rcases bdx_some h with ⟨b12, e11, h⟩ | ⟨E13, e11, h⟩
  rotate_left
  · cases h
    exact r_xV C.1 (st := []) (x_X6_knownWithLeg ha0 e11) yv_X6_knownWithLeg ml_X6_127 rfl ha0 rfl ⟨Nat.le_of_ble_eq_true rfl, Nat.le_of_ble_eq_true rfl⟩ ⟨Nat.le_of_ble_eq_true rfl, Nat.le_of_ble_eq_true rfl⟩ (Nat.le_of_ble_eq_true rfl) rfl dX6_mirrorLeg_3 (r_out C (Nat.le_of_ble_eq_true rfl) (Nat.le_of_ble_eq_true rfl) hq)
  refine r_cVr C.1 (st := []) (c_X6_knownWithLeg ha0 e11) yv_X6_knownWithLeg ml_X6_127 rfl ha0 rfl ⟨Nat.le_of_ble_eq_true rfl, Nat.le_of_ble_eq_true rfl⟩ ⟨Nat.le_of_ble_eq_true rfl, Nat.le_of_ble_eq_true rfl⟩ (Nat.le_of_ble_eq_true rfl) rfl 2 12 rfl rfl 6 rfl dX6_mirrorLeg_3 (fun (h14 : jSof F b12 = (1, 4, 2)) => ?_)
  refine r_pop C.1 rfl 7 rfl dX6_mirrorLeg_6 ?_
  refine r_iload_n C.1 2 8 rfl dX6_mirrorLeg_7 rfl ?_
  refine r_iconst C.1 2 rfl 9 rfl dX6_mirrorLeg_8 ?_
  refine r_irem C.1 10 rfl dX6_mirrorLeg_9 (by decide) ?_
  refine r_if_ne C.1 19 13 rfl dX6_mirrorLeg_10 rfl ⟨fun c15 => ?_, fun c15 => ?_⟩
  · have h := if_some_f c15 h
    refine r_iload_n C.1 2 20 rfl dX6_mirrorLeg_19 rfl ?_
    refine r_iconst C.1 1 rfl 21 rfl dX6_mirrorLeg_20 ?_
    refine r_isub C.1 22 rfl dX6_mirrorLeg_21 ?_
    cases h
    exact r_zret C rfl rfl (Nat.le_of_ble_eq_true rfl) (Nat.le_of_ble_eq_true rfl) dX6_mirrorLeg_22 hq
  · have h := if_some_t c15 h
    refine r_iload_n C.1 2 14 rfl dX6_mirrorLeg_13 rfl ?_
    refine r_iconst C.1 1 rfl 15 rfl dX6_mirrorLeg_14 ?_
    refine r_iadd C.1 16 rfl dX6_mirrorLeg_15 ?_
    refine r_goto C.1 22 dX6_mirrorLeg_16 rfl ?_
    cases h
    exact r_zret C rfl rfl (Nat.le_of_ble_eq_true rfl) (Nat.le_of_ble_eq_true rfl) dX6_mirrorLeg_22 hq
theorem c_X6_mirrorLeg {l : Launch} {G : jG} {sh : jSh} {κ : jKt} {a0 : Nat} (ha0 : sh a0 = (1, 10, 11)) {x1 : Int32} {x2 : Int32} {r : Int32} (h : P_X6_mirrorLeg κ a0 x1 x2 = some (.ok r)) : jM l G yX6_mirrorLeg cX6_mirrorLeg 3 (some .int) 11 2 12 204 [.ref a0, .int x1, .int x2] (sh, κ) (jIs (some (.int r)) (sh, κ)) jNo :=
  r_body (by decide) (Nat.le_of_ble_eq_true rfl) fun F C hl hG hs ho hx => by
    subst hs
    exact w_X6_mirrorLeg_0 C ha0 (fin_ok (by rw [ho]; exact ⟨rfl, rfl⟩)) h
theorem x_X6_mirrorLeg {l : Launch} {G : jG} {sh : jSh} {κ : jKt} {a0 : Nat} (ha0 : sh a0 = (1, 10, 11)) {x1 : Int32} {x2 : Int32} {E : String} (h : P_X6_mirrorLeg κ a0 x1 x2 = some (.error E)) : jM l G yX6_mirrorLeg cX6_mirrorLeg 3 (some .int) 11 2 12 204 [.ref a0, .int x1, .int x2] (sh, κ) (fun _ _ => False) (jXs E (sh, κ)) :=
  r_body (by decide) (Nat.le_of_ble_eq_true rfl) fun F C hl hG hs ho hx => by
    subst hs
    exact w_X6_mirrorLeg_0 C ha0 (fin_er (by rw [hx]; exact ⟨rfl, rfl⟩)) h
set_option maxRecDepth 20000 in
theorem w_X6_isMirrored_0 {F : jFm} (C : jB F RX6 cX6_isMirrored 2 (some .boolean) 10 1 6 181) {κ : jKt} {a0 : Nat} (ha0 : jSof F a0 = (1, 10, 11)) {x1 : Int32} {r : Except String Int32} (hq : jFinX F (fun x => some (.int x)) r κ) (h : P_X6_isMirrored κ a0 x1 = some r) : jW F 2 0 0 κ 0 [(0, .ref a0), (1, .int x1)] [] := by
  unfold P_X6_isMirrored at h
  refine r_aload_n C.1 0 1 rfl dX6_isMirrored_0 rfl ?_
  refine r_iload_n C.1 1 2 rfl dX6_isMirrored_1 rfl ?_
  rcases bdx_some h with ⟨b16, e15, h⟩ | ⟨E17, e15, h⟩
  rotate_left
  · cases h
    exact r_xV C.1 (st := []) (x_X6_known ha0 e15) yv_X6_known ml_X6_118 rfl ha0 rfl ⟨Nat.le_of_ble_eq_true rfl, Nat.le_of_ble_eq_true rfl⟩ ⟨Nat.le_of_ble_eq_true rfl, Nat.le_of_ble_eq_true rfl⟩ (Nat.le_of_ble_eq_true rfl) rfl dX6_isMirrored_2 (r_out C (Nat.le_of_ble_eq_true rfl) (Nat.le_of_ble_eq_true rfl) hq)
  refine r_cVr C.1 (st := []) (c_X6_known ha0 e15) yv_X6_known ml_X6_118 rfl ha0 rfl ⟨Nat.le_of_ble_eq_true rfl, Nat.le_of_ble_eq_true rfl⟩ ⟨Nat.le_of_ble_eq_true rfl, Nat.le_of_ble_eq_true rfl⟩ (Nat.le_of_ble_eq_true rfl) rfl 1 6 rfl rfl 5 rfl dX6_isMirrored_2 (fun (h18 : jSof F b16 = (1, 4, 2)) => ?_)
  obtain ⟨y20, e19, h⟩ := bd_some h
  refine r_cVi C.1 (st := []) (c_X0_hasEvenPairs h18 e19) yv_X0_hasEvenPairs ml_X6_134 rfl h18 rfl ⟨Nat.le_of_ble_eq_true rfl, Nat.le_of_ble_eq_true rfl⟩ ⟨Nat.le_of_ble_eq_true rfl, Nat.le_of_ble_eq_true rfl⟩ (Nat.le_of_ble_eq_true rfl) rfl 1 6 rfl rfl 8 rfl dX6_isMirrored_5 ?_
  obtain ⟨z21, h⟩ := ck_some h
  cases h
  exact r_zret C rfl (jz_narrow z21) (Nat.le_of_ble_eq_true rfl) (Nat.le_of_ble_eq_true rfl) dX6_isMirrored_8 hq
theorem c_X6_isMirrored {l : Launch} {G : jG} {sh : jSh} {κ : jKt} {a0 : Nat} (ha0 : sh a0 = (1, 10, 11)) {x1 : Int32} {r : Int32} (h : P_X6_isMirrored κ a0 x1 = some (.ok r)) : jM l G yX6_isMirrored cX6_isMirrored 2 (some .boolean) 10 1 6 181 [.ref a0, .int x1] (sh, κ) (jIs (some (.int r)) (sh, κ)) jNo :=
  r_body (by decide) (Nat.le_of_ble_eq_true rfl) fun F C hl hG hs ho hx => by
    subst hs
    exact w_X6_isMirrored_0 C ha0 (fin_ok (by rw [ho]; exact ⟨rfl, rfl⟩)) h
theorem x_X6_isMirrored {l : Launch} {G : jG} {sh : jSh} {κ : jKt} {a0 : Nat} (ha0 : sh a0 = (1, 10, 11)) {x1 : Int32} {E : String} (h : P_X6_isMirrored κ a0 x1 = some (.error E)) : jM l G yX6_isMirrored cX6_isMirrored 2 (some .boolean) 10 1 6 181 [.ref a0, .int x1] (sh, κ) (fun _ _ => False) (jXs E (sh, κ)) :=
  r_body (by decide) (Nat.le_of_ble_eq_true rfl) fun F C hl hG hs ho hx => by
    subst hs
    exact w_X6_isMirrored_0 C ha0 (fin_er (by rw [hx]; exact ⟨rfl, rfl⟩)) h
set_option maxRecDepth 20000 in
theorem w_X6_customerByLegs_0 {F : jFm} (C : jB F RX6 cX6_customerByLegs 3 (some .int) 9 1 6 160) {κ : jKt} {a0 : Nat} (ha0 : jSof F a0 = (1, 10, 11)) {x1 : Int32} {r : Except String Int32} (hq : jFinX F (fun x => some (.int x)) r κ) (h : P_X6_customerByLegs κ a0 x1 = some r) : jW F 3 0 0 κ 0 [(0, .ref a0), (1, .int x1)] [] := by
  unfold P_X6_customerByLegs at h
  refine r_aload_n C.1 0 1 rfl dX6_customerByLegs_0 rfl ?_
  refine r_getR C.1 0 fl_X6_12 rfl ha0 4 rfl dX6_customerByLegs_1 (fun (h9 : jSof F (kR κ a0 0) = (1, 9, 11)) => ?_)
  refine r_iload_n C.1 1 5 rfl dX6_customerByLegs_4 rfl ?_
  obtain ⟨y11, e10, h⟩ := bd_some h
  refine r_cVi C.1 (st := []) (c_X5_customerAtRank h9 e10) yv_X5_customerAtRank ml_X6_138 rfl h9 rfl ⟨Nat.le_of_ble_eq_true rfl, Nat.le_of_ble_eq_true rfl⟩ ⟨Nat.le_of_ble_eq_true rfl, Nat.le_of_ble_eq_true rfl⟩ (Nat.le_of_ble_eq_true rfl) rfl 0 0 rfl rfl 8 rfl dX6_customerByLegs_5 ?_
  refine r_istore_n C.1 (lv' := [(0, .ref a0), (1, .int x1), (2, .int y11)]) [1, 2, 0] 9 rfl dX6_customerByLegs_8 (Nat.le_of_ble_eq_true rfl) rfl ?_
  refine r_iload_n C.1 2 10 rfl dX6_customerByLegs_9 rfl ?_
  refine r_if_ge C.1 23 13 rfl dX6_customerByLegs_10 rfl ⟨fun c12 => ?_, fun c12 => ?_⟩
  · have h := if_some_t c12 h
    refine r_iload_n C.1 2 24 rfl dX6_customerByLegs_23 rfl ?_
    cases h
    exact r_zret C rfl rfl (Nat.le_of_ble_eq_true rfl) (Nat.le_of_ble_eq_true rfl) dX6_customerByLegs_24 hq
  · have h := if_some_f c12 h
    cases h
    exact r_throx C (Nat.le_of_ble_eq_true rfl) (Nat.le_of_ble_eq_true rfl) (Nat.le_of_ble_eq_true rfl) (Nat.le_of_ble_eq_true rfl) th_X6_79_142_83 dX6_customerByLegs_13 dX6_customerByLegs_16 dX6_customerByLegs_17 dX6_customerByLegs_19 dX6_customerByLegs_22 hq
theorem c_X6_customerByLegs {l : Launch} {G : jG} {sh : jSh} {κ : jKt} {a0 : Nat} (ha0 : sh a0 = (1, 10, 11)) {x1 : Int32} {r : Int32} (h : P_X6_customerByLegs κ a0 x1 = some (.ok r)) : jM l G yX6_customerByLegs cX6_customerByLegs 3 (some .int) 9 1 6 160 [.ref a0, .int x1] (sh, κ) (jIs (some (.int r)) (sh, κ)) jNo :=
  r_body (by decide) (Nat.le_of_ble_eq_true rfl) fun F C hl hG hs ho hx => by
    subst hs
    exact w_X6_customerByLegs_0 C ha0 (fin_ok (by rw [ho]; exact ⟨rfl, rfl⟩)) h
theorem x_X6_customerByLegs {l : Launch} {G : jG} {sh : jSh} {κ : jKt} {a0 : Nat} (ha0 : sh a0 = (1, 10, 11)) {x1 : Int32} {E : String} (h : P_X6_customerByLegs κ a0 x1 = some (.error E)) : jM l G yX6_customerByLegs cX6_customerByLegs 3 (some .int) 9 1 6 160 [.ref a0, .int x1] (sh, κ) (fun _ _ => False) (jXs E (sh, κ)) :=
  r_body (by decide) (Nat.le_of_ble_eq_true rfl) fun F C hl hG hs ho hx => by
    subst hs
    exact w_X6_customerByLegs_0 C ha0 (fin_er (by rw [hx]; exact ⟨rfl, rfl⟩)) h
set_option maxRecDepth 20000 in
theorem w_X6_customerOf_0 {F : jFm} (C : jB F RX6 cX6_customerOf 2 (some .int) 10 1 6 182) {κ : jKt} {a0 : Nat} (ha0 : jSof F a0 = (1, 10, 11)) {x1 : Int32} {r : Except String Int32} (hq : jFinX F (fun x => some (.int x)) r κ) (h : P_X6_customerOf κ a0 x1 = some r) : jW F 2 0 0 κ 0 [(0, .ref a0), (1, .int x1)] [] := by
  unfold P_X6_customerOf at h
  refine r_aload_n C.1 0 1 rfl dX6_customerOf_0 rfl ?_
  refine r_iload_n C.1 1 2 rfl dX6_customerOf_1 rfl ?_
  rcases bdx_some h with ⟨b10, e9, h⟩ | ⟨E11, e9, h⟩
  rotate_left
  · cases h
    exact r_xV C.1 (st := []) (x_X6_existing ha0 e9) yv_X6_existing ml_X6_173 rfl ha0 rfl ⟨Nat.le_of_ble_eq_true rfl, Nat.le_of_ble_eq_true rfl⟩ ⟨Nat.le_of_ble_eq_true rfl, Nat.le_of_ble_eq_true rfl⟩ (Nat.le_of_ble_eq_true rfl) rfl dX6_customerOf_2 (r_out C (Nat.le_of_ble_eq_true rfl) (Nat.le_of_ble_eq_true rfl) hq)
  refine r_cVr C.1 (st := []) (c_X6_existing ha0 e9) yv_X6_existing ml_X6_173 rfl ha0 rfl ⟨Nat.le_of_ble_eq_true rfl, Nat.le_of_ble_eq_true rfl⟩ ⟨Nat.le_of_ble_eq_true rfl, Nat.le_of_ble_eq_true rfl⟩ (Nat.le_of_ble_eq_true rfl) rfl 1 6 rfl rfl 5 rfl dX6_customerOf_2 (fun (h12 : jSof F b10 = (1, 8, 8)) => ?_)
  refine r_getI C.1 1 fl_X6_177 rfl h12 8 rfl dX6_customerOf_5 ?_
  cases h
  exact r_zret C rfl rfl (Nat.le_of_ble_eq_true rfl) (Nat.le_of_ble_eq_true rfl) dX6_customerOf_8 hq
theorem c_X6_customerOf {l : Launch} {G : jG} {sh : jSh} {κ : jKt} {a0 : Nat} (ha0 : sh a0 = (1, 10, 11)) {x1 : Int32} {r : Int32} (h : P_X6_customerOf κ a0 x1 = some (.ok r)) : jM l G yX6_customerOf cX6_customerOf 2 (some .int) 10 1 6 182 [.ref a0, .int x1] (sh, κ) (jIs (some (.int r)) (sh, κ)) jNo :=
  r_body (by decide) (Nat.le_of_ble_eq_true rfl) fun F C hl hG hs ho hx => by
    subst hs
    exact w_X6_customerOf_0 C ha0 (fin_ok (by rw [ho]; exact ⟨rfl, rfl⟩)) h
theorem x_X6_customerOf {l : Launch} {G : jG} {sh : jSh} {κ : jKt} {a0 : Nat} (ha0 : sh a0 = (1, 10, 11)) {x1 : Int32} {E : String} (h : P_X6_customerOf κ a0 x1 = some (.error E)) : jM l G yX6_customerOf cX6_customerOf 2 (some .int) 10 1 6 182 [.ref a0, .int x1] (sh, κ) (fun _ _ => False) (jXs E (sh, κ)) :=
  r_body (by decide) (Nat.le_of_ble_eq_true rfl) fun F C hl hG hs ho hx => by
    subst hs
    exact w_X6_customerOf_0 C ha0 (fin_er (by rw [hx]; exact ⟨rfl, rfl⟩)) h
set_option maxRecDepth 20000 in
theorem w_X6_clothOf_0 {F : jFm} (C : jB F RX6 cX6_clothOf 2 (some .int) 10 1 6 182) {κ : jKt} {a0 : Nat} (ha0 : jSof F a0 = (1, 10, 11)) {x1 : Int32} {r : Except String Int32} (hq : jFinX F (fun x => some (.int x)) r κ) (h : P_X6_clothOf κ a0 x1 = some r) : jW F 2 0 0 κ 0 [(0, .ref a0), (1, .int x1)] [] := by
  unfold P_X6_clothOf at h
  refine r_aload_n C.1 0 1 rfl dX6_clothOf_0 rfl ?_
  refine r_iload_n C.1 1 2 rfl dX6_clothOf_1 rfl ?_
  rcases bdx_some h with ⟨b10, e9, h⟩ | ⟨E11, e9, h⟩
  rotate_left
  · cases h
    exact r_xV C.1 (st := []) (x_X6_existing ha0 e9) yv_X6_existing ml_X6_173 rfl ha0 rfl ⟨Nat.le_of_ble_eq_true rfl, Nat.le_of_ble_eq_true rfl⟩ ⟨Nat.le_of_ble_eq_true rfl, Nat.le_of_ble_eq_true rfl⟩ (Nat.le_of_ble_eq_true rfl) rfl dX6_clothOf_2 (r_out C (Nat.le_of_ble_eq_true rfl) (Nat.le_of_ble_eq_true rfl) hq)
  refine r_cVr C.1 (st := []) (c_X6_existing ha0 e9) yv_X6_existing ml_X6_173 rfl ha0 rfl ⟨Nat.le_of_ble_eq_true rfl, Nat.le_of_ble_eq_true rfl⟩ ⟨Nat.le_of_ble_eq_true rfl, Nat.le_of_ble_eq_true rfl⟩ (Nat.le_of_ble_eq_true rfl) rfl 1 6 rfl rfl 5 rfl dX6_clothOf_2 (fun (h12 : jSof F b10 = (1, 8, 8)) => ?_)
  refine r_getI C.1 2 fl_X6_180 rfl h12 8 rfl dX6_clothOf_5 ?_
  cases h
  exact r_zret C rfl rfl (Nat.le_of_ble_eq_true rfl) (Nat.le_of_ble_eq_true rfl) dX6_clothOf_8 hq
theorem c_X6_clothOf {l : Launch} {G : jG} {sh : jSh} {κ : jKt} {a0 : Nat} (ha0 : sh a0 = (1, 10, 11)) {x1 : Int32} {r : Int32} (h : P_X6_clothOf κ a0 x1 = some (.ok r)) : jM l G yX6_clothOf cX6_clothOf 2 (some .int) 10 1 6 182 [.ref a0, .int x1] (sh, κ) (jIs (some (.int r)) (sh, κ)) jNo :=
  r_body (by decide) (Nat.le_of_ble_eq_true rfl) fun F C hl hG hs ho hx => by
    subst hs
    exact w_X6_clothOf_0 C ha0 (fin_ok (by rw [ho]; exact ⟨rfl, rfl⟩)) h
theorem x_X6_clothOf {l : Launch} {G : jG} {sh : jSh} {κ : jKt} {a0 : Nat} (ha0 : sh a0 = (1, 10, 11)) {x1 : Int32} {E : String} (h : P_X6_clothOf κ a0 x1 = some (.error E)) : jM l G yX6_clothOf cX6_clothOf 2 (some .int) 10 1 6 182 [.ref a0, .int x1] (sh, κ) (fun _ _ => False) (jXs E (sh, κ)) :=
  r_body (by decide) (Nat.le_of_ble_eq_true rfl) fun F C hl hG hs ho hx => by
    subst hs
    exact w_X6_clothOf_0 C ha0 (fin_er (by rw [hx]; exact ⟨rfl, rfl⟩)) h
set_option maxRecDepth 20000 in
theorem w_X6_sleeveState_0 {F : jFm} (C : jB F RX6 cX6_sleeveState 3 (some .char) 11 2 12 205) {κ : jKt} {a0 : Nat} (ha0 : jSof F a0 = (1, 10, 11)) {x1 : Int32} {x2 : Int32} {r : Except String Int32} (hq : jFinX F (fun x => some (.int x)) r κ) (h : P_X6_sleeveState κ a0 x1 x2 = some r) : jW F 3 0 0 κ 0 [(0, .ref a0), (1, .int x1), (2, .int x2)] [] := by
  unfold P_X6_sleeveState at h
  refine r_aload_n C.1 0 1 rfl dX6_sleeveState_0 rfl ?_
  refine r_iload_n C.1 1 2 rfl dX6_sleeveState_1 rfl ?_
  refine r_iload_n C.1 2 3 rfl dX6_sleeveState_2 rfl ?_
  rcases bdx_some h with ⟨b16, e15, h⟩ | ⟨E17, e15, h⟩
  rotate_left
  · cases h
    exact r_xV C.1 (st := []) (x_X6_existingWithSleeve ha0 e15) yv_X6_existingWithSleeve ml_X6_183 rfl ha0 rfl ⟨Nat.le_of_ble_eq_true rfl, Nat.le_of_ble_eq_true rfl⟩ ⟨Nat.le_of_ble_eq_true rfl, Nat.le_of_ble_eq_true rfl⟩ (Nat.le_of_ble_eq_true rfl) rfl dX6_sleeveState_3 (r_out C (Nat.le_of_ble_eq_true rfl) (Nat.le_of_ble_eq_true rfl) hq)
  refine r_cVr C.1 (st := []) (c_X6_existingWithSleeve ha0 e15) yv_X6_existingWithSleeve ml_X6_183 rfl ha0 rfl ⟨Nat.le_of_ble_eq_true rfl, Nat.le_of_ble_eq_true rfl⟩ ⟨Nat.le_of_ble_eq_true rfl, Nat.le_of_ble_eq_true rfl⟩ (Nat.le_of_ble_eq_true rfl) rfl 2 12 rfl rfl 6 rfl dX6_sleeveState_3 (fun (h18 : jSof F b16 = (1, 8, 8)) => ?_)
  refine r_getR C.1 5 fl_X6_187 rfl h18 9 rfl dX6_sleeveState_6 (fun (h19 : jSof F (kR κ b16 5) = (2, 1, 16)) => ?_)
  refine r_iload_n C.1 2 10 rfl dX6_sleeveState_9 rfl ?_
  obtain ⟨i20, h⟩ := ck_some h
  refine r_cald C.1 h19 i20 11 rfl dX6_sleeveState_10 ?_
  obtain ⟨z21, h⟩ := ck_some h
  cases h
  exact r_zret C rfl (jch_narrow z21) (Nat.le_of_ble_eq_true rfl) (Nat.le_of_ble_eq_true rfl) dX6_sleeveState_11 hq
theorem c_X6_sleeveState {l : Launch} {G : jG} {sh : jSh} {κ : jKt} {a0 : Nat} (ha0 : sh a0 = (1, 10, 11)) {x1 : Int32} {x2 : Int32} {r : Int32} (h : P_X6_sleeveState κ a0 x1 x2 = some (.ok r)) : jM l G yX6_sleeveState cX6_sleeveState 3 (some .char) 11 2 12 205 [.ref a0, .int x1, .int x2] (sh, κ) (jIs (some (.int r)) (sh, κ)) jNo :=
  r_body (by decide) (Nat.le_of_ble_eq_true rfl) fun F C hl hG hs ho hx => by
    subst hs
    exact w_X6_sleeveState_0 C ha0 (fin_ok (by rw [ho]; exact ⟨rfl, rfl⟩)) h
theorem x_X6_sleeveState {l : Launch} {G : jG} {sh : jSh} {κ : jKt} {a0 : Nat} (ha0 : sh a0 = (1, 10, 11)) {x1 : Int32} {x2 : Int32} {E : String} (h : P_X6_sleeveState κ a0 x1 x2 = some (.error E)) : jM l G yX6_sleeveState cX6_sleeveState 3 (some .char) 11 2 12 205 [.ref a0, .int x1, .int x2] (sh, κ) (fun _ _ => False) (jXs E (sh, κ)) :=
  r_body (by decide) (Nat.le_of_ble_eq_true rfl) fun F C hl hG hs ho hx => by
    subst hs
    exact w_X6_sleeveState_0 C ha0 (fin_er (by rw [hx]; exact ⟨rfl, rfl⟩)) h
set_option maxRecDepth 20000 in
theorem w_X6_sleeveLength_0 {F : jFm} (C : jB F RX6 cX6_sleeveLength 3 (some .int) 12 3 18 228) {κ : jKt} {a0 : Nat} (ha0 : jSof F a0 = (1, 10, 11)) {x1 : Int32} {x2 : Int32} {r : Except String Int32} (hq : jFinX F (fun x => some (.int x)) r κ) (h : P_X6_sleeveLength κ a0 x1 x2 = some r) : jW F 3 0 0 κ 0 [(0, .ref a0), (1, .int x1), (2, .int x2)] [] := by
  unfold P_X6_sleeveLength at h
  refine r_aload_n C.1 0 1 rfl dX6_sleeveLength_0 rfl ?_
  refine r_iload_n C.1 1 2 rfl dX6_sleeveLength_1 rfl ?_
  refine r_iload_n C.1 2 3 rfl dX6_sleeveLength_2 rfl ?_
  rcases bdx_some h with ⟨b14, e13, h⟩ | ⟨E15, e13, h⟩
  rotate_left
  · cases h
    exact r_xV C.1 (st := []) (x_X6_existingWithPiece ha0 e13) yv_X6_existingWithPiece ml_X6_191 rfl ha0 rfl ⟨Nat.le_of_ble_eq_true rfl, Nat.le_of_ble_eq_true rfl⟩ ⟨Nat.le_of_ble_eq_true rfl, Nat.le_of_ble_eq_true rfl⟩ (Nat.le_of_ble_eq_true rfl) rfl dX6_sleeveLength_3 (r_out C (Nat.le_of_ble_eq_true rfl) (Nat.le_of_ble_eq_true rfl) hq)
  refine r_cVr C.1 (st := []) (c_X6_existingWithPiece ha0 e13) yv_X6_existingWithPiece ml_X6_191 rfl ha0 rfl ⟨Nat.le_of_ble_eq_true rfl, Nat.le_of_ble_eq_true rfl⟩ ⟨Nat.le_of_ble_eq_true rfl, Nat.le_of_ble_eq_true rfl⟩ (Nat.le_of_ble_eq_true rfl) rfl 3 18 rfl rfl 6 rfl dX6_sleeveLength_3 (fun (h16 : jSof F b14 = (1, 8, 8)) => ?_)
  refine r_getR C.1 6 fl_X6_194 rfl h16 9 rfl dX6_sleeveLength_6 (fun (h17 : jSof F (kR κ b14 6) = (2, 0, 16)) => ?_)
  refine r_iload_n C.1 2 10 rfl dX6_sleeveLength_9 rfl ?_
  obtain ⟨i18, h⟩ := ck_some h
  refine r_iald C.1 h17 i18 11 rfl dX6_sleeveLength_10 ?_
  cases h
  exact r_zret C rfl rfl (Nat.le_of_ble_eq_true rfl) (Nat.le_of_ble_eq_true rfl) dX6_sleeveLength_11 hq
theorem c_X6_sleeveLength {l : Launch} {G : jG} {sh : jSh} {κ : jKt} {a0 : Nat} (ha0 : sh a0 = (1, 10, 11)) {x1 : Int32} {x2 : Int32} {r : Int32} (h : P_X6_sleeveLength κ a0 x1 x2 = some (.ok r)) : jM l G yX6_sleeveLength cX6_sleeveLength 3 (some .int) 12 3 18 228 [.ref a0, .int x1, .int x2] (sh, κ) (jIs (some (.int r)) (sh, κ)) jNo :=
  r_body (by decide) (Nat.le_of_ble_eq_true rfl) fun F C hl hG hs ho hx => by
    subst hs
    exact w_X6_sleeveLength_0 C ha0 (fin_ok (by rw [ho]; exact ⟨rfl, rfl⟩)) h
theorem x_X6_sleeveLength {l : Launch} {G : jG} {sh : jSh} {κ : jKt} {a0 : Nat} (ha0 : sh a0 = (1, 10, 11)) {x1 : Int32} {x2 : Int32} {E : String} (h : P_X6_sleeveLength κ a0 x1 x2 = some (.error E)) : jM l G yX6_sleeveLength cX6_sleeveLength 3 (some .int) 12 3 18 228 [.ref a0, .int x1, .int x2] (sh, κ) (fun _ _ => False) (jXs E (sh, κ)) :=
  r_body (by decide) (Nat.le_of_ble_eq_true rfl) fun F C hl hG hs ho hx => by
    subst hs
    exact w_X6_sleeveLength_0 C ha0 (fin_er (by rw [hx]; exact ⟨rfl, rfl⟩)) h
set_option maxRecDepth 20000 in
theorem w_X6_doesFit_0 {F : jFm} (C : jB F RX6 cX6_doesFit 4 (some .boolean) 12 3 18 228) {κ : jKt} {a0 : Nat} (ha0 : jSof F a0 = (1, 10, 11)) {x1 : Int32} {x2 : Int32} {r : Except String Int32} (hq : jFinX F (fun x => some (.int x)) r κ) (h : P_X6_doesFit κ a0 x1 x2 = some r) : jW F 4 0 0 κ 0 [(0, .ref a0), (1, .int x1), (2, .int x2)] [] := by
  unfold P_X6_doesFit at h
  refine r_aload_n C.1 0 1 rfl dX6_doesFit_0 rfl ?_
  refine r_iload_n C.1 1 2 rfl dX6_doesFit_1 rfl ?_
  refine r_iload_n C.1 2 3 rfl dX6_doesFit_2 rfl ?_
  rcases bdx_some h with ⟨b24, e23, h⟩ | ⟨E25, e23, h⟩
  rotate_left
  · cases h
    exact r_xV C.1 (st := []) (x_X6_existingWithPiece ha0 e23) yv_X6_existingWithPiece ml_X6_191 rfl ha0 rfl ⟨Nat.le_of_ble_eq_true rfl, Nat.le_of_ble_eq_true rfl⟩ ⟨Nat.le_of_ble_eq_true rfl, Nat.le_of_ble_eq_true rfl⟩ (Nat.le_of_ble_eq_true rfl) rfl dX6_doesFit_3 (r_out C (Nat.le_of_ble_eq_true rfl) (Nat.le_of_ble_eq_true rfl) hq)
  refine r_cVr C.1 (st := []) (c_X6_existingWithPiece ha0 e23) yv_X6_existingWithPiece ml_X6_191 rfl ha0 rfl ⟨Nat.le_of_ble_eq_true rfl, Nat.le_of_ble_eq_true rfl⟩ ⟨Nat.le_of_ble_eq_true rfl, Nat.le_of_ble_eq_true rfl⟩ (Nat.le_of_ble_eq_true rfl) rfl 3 18 rfl rfl 6 rfl dX6_doesFit_3 (fun (h26 : jSof F b24 = (1, 8, 8)) => ?_)
  refine r_astore_n C.1 (lv' := [(0, .ref a0), (1, .int x1), (2, .int x2), (3, .ref b24)]) [1, 2, 3, 0] 7 rfl dX6_doesFit_6 (Nat.le_of_ble_eq_true rfl) rfl ?_
  refine r_aload_n C.1 3 8 rfl dX6_doesFit_7 rfl ?_
  refine r_iload_n C.1 2 9 rfl dX6_doesFit_8 rfl ?_
  refine r_aload_n C.1 0 10 rfl dX6_doesFit_9 rfl ?_
  refine r_getR C.1 0 fl_X6_12 rfl ha0 13 rfl dX6_doesFit_10 (fun (h27 : jSof F (kR κ a0 0) = (1, 9, 11)) => ?_)
  refine r_aload_n C.1 3 14 rfl dX6_doesFit_13 rfl ?_
  obtain ⟨b29, e28, h⟩ := bd_some h
  refine r_cVr C.1 (st := [.int x2, .ref b24]) (c_X5_wearerOf h27 h26 e28) yv_X5_wearerOf ml_X6_197 rfl h27 rfl ⟨Nat.le_of_ble_eq_true rfl, Nat.le_of_ble_eq_true rfl⟩ ⟨Nat.le_of_ble_eq_true rfl, Nat.le_of_ble_eq_true rfl⟩ (Nat.le_of_ble_eq_true rfl) rfl 3 18 rfl rfl 17 rfl dX6_doesFit_14 (fun (h30 : jSof F b29 = (1, 4, 2)) => ?_)
  obtain ⟨y32, e31, h⟩ := bd_some h
  refine r_cVi C.1 (st := []) (c_X4_fitsAt h26 h30 e31) yv_X4_fitsAt ml_X6_201 rfl h26 rfl ⟨Nat.le_of_ble_eq_true rfl, Nat.le_of_ble_eq_true rfl⟩ ⟨Nat.le_of_ble_eq_true rfl, Nat.le_of_ble_eq_true rfl⟩ (Nat.le_of_ble_eq_true rfl) rfl 3 18 rfl rfl 20 rfl dX6_doesFit_17 ?_
  obtain ⟨z33, h⟩ := ck_some h
  cases h
  exact r_zret C rfl (jz_narrow z33) (Nat.le_of_ble_eq_true rfl) (Nat.le_of_ble_eq_true rfl) dX6_doesFit_20 hq
theorem c_X6_doesFit {l : Launch} {G : jG} {sh : jSh} {κ : jKt} {a0 : Nat} (ha0 : sh a0 = (1, 10, 11)) {x1 : Int32} {x2 : Int32} {r : Int32} (h : P_X6_doesFit κ a0 x1 x2 = some (.ok r)) : jM l G yX6_doesFit cX6_doesFit 4 (some .boolean) 12 3 18 228 [.ref a0, .int x1, .int x2] (sh, κ) (jIs (some (.int r)) (sh, κ)) jNo :=
  r_body (by decide) (Nat.le_of_ble_eq_true rfl) fun F C hl hG hs ho hx => by
    subst hs
    exact w_X6_doesFit_0 C ha0 (fin_ok (by rw [ho]; exact ⟨rfl, rfl⟩)) h
theorem x_X6_doesFit {l : Launch} {G : jG} {sh : jSh} {κ : jKt} {a0 : Nat} (ha0 : sh a0 = (1, 10, 11)) {x1 : Int32} {x2 : Int32} {E : String} (h : P_X6_doesFit κ a0 x1 x2 = some (.error E)) : jM l G yX6_doesFit cX6_doesFit 4 (some .boolean) 12 3 18 228 [.ref a0, .int x1, .int x2] (sh, κ) (fun _ _ => False) (jXs E (sh, κ)) :=
  r_body (by decide) (Nat.le_of_ble_eq_true rfl) fun F C hl hG hs ho hx => by
    subst hs
    exact w_X6_doesFit_0 C ha0 (fin_er (by rw [hx]; exact ⟨rfl, rfl⟩)) h
set_option maxRecDepth 20000 in
theorem w_X6_sewnSleeves_0 {F : jFm} (C : jB F RX6 cX6_sewnSleeves 2 (some .int) 10 1 6 182) {κ : jKt} {a0 : Nat} (ha0 : jSof F a0 = (1, 10, 11)) {x1 : Int32} {r : Except String Int32} (hq : jFinX F (fun x => some (.int x)) r κ) (h : P_X6_sewnSleeves κ a0 x1 = some r) : jW F 2 0 0 κ 0 [(0, .ref a0), (1, .int x1)] [] := by
  unfold P_X6_sewnSleeves at h
  refine r_aload_n C.1 0 1 rfl dX6_sewnSleeves_0 rfl ?_
  refine r_iload_n C.1 1 2 rfl dX6_sewnSleeves_1 rfl ?_
  rcases bdx_some h with ⟨b14, e13, h⟩ | ⟨E15, e13, h⟩
  rotate_left
  · cases h
    exact r_xV C.1 (st := []) (x_X6_existing ha0 e13) yv_X6_existing ml_X6_173 rfl ha0 rfl ⟨Nat.le_of_ble_eq_true rfl, Nat.le_of_ble_eq_true rfl⟩ ⟨Nat.le_of_ble_eq_true rfl, Nat.le_of_ble_eq_true rfl⟩ (Nat.le_of_ble_eq_true rfl) rfl dX6_sewnSleeves_2 (r_out C (Nat.le_of_ble_eq_true rfl) (Nat.le_of_ble_eq_true rfl) hq)
  refine r_cVr C.1 (st := []) (c_X6_existing ha0 e13) yv_X6_existing ml_X6_173 rfl ha0 rfl ⟨Nat.le_of_ble_eq_true rfl, Nat.le_of_ble_eq_true rfl⟩ ⟨Nat.le_of_ble_eq_true rfl, Nat.le_of_ble_eq_true rfl⟩ (Nat.le_of_ble_eq_true rfl) rfl 1 6 rfl rfl 5 rfl dX6_sewnSleeves_2 (fun (h16 : jSof F b14 = (1, 8, 8)) => ?_)
  obtain ⟨y18, e17, h⟩ := bd_some h
  refine r_cVi C.1 (st := []) (c_X4_sewnCount h16 e17) yv_X4_sewnCount ml_X6_205 rfl h16 rfl ⟨Nat.le_of_ble_eq_true rfl, Nat.le_of_ble_eq_true rfl⟩ ⟨Nat.le_of_ble_eq_true rfl, Nat.le_of_ble_eq_true rfl⟩ (Nat.le_of_ble_eq_true rfl) rfl 1 6 rfl rfl 8 rfl dX6_sewnSleeves_5 ?_
  cases h
  exact r_zret C rfl rfl (Nat.le_of_ble_eq_true rfl) (Nat.le_of_ble_eq_true rfl) dX6_sewnSleeves_8 hq
theorem c_X6_sewnSleeves {l : Launch} {G : jG} {sh : jSh} {κ : jKt} {a0 : Nat} (ha0 : sh a0 = (1, 10, 11)) {x1 : Int32} {r : Int32} (h : P_X6_sewnSleeves κ a0 x1 = some (.ok r)) : jM l G yX6_sewnSleeves cX6_sewnSleeves 2 (some .int) 10 1 6 182 [.ref a0, .int x1] (sh, κ) (jIs (some (.int r)) (sh, κ)) jNo :=
  r_body (by decide) (Nat.le_of_ble_eq_true rfl) fun F C hl hG hs ho hx => by
    subst hs
    exact w_X6_sewnSleeves_0 C ha0 (fin_ok (by rw [ho]; exact ⟨rfl, rfl⟩)) h
theorem x_X6_sewnSleeves {l : Launch} {G : jG} {sh : jSh} {κ : jKt} {a0 : Nat} (ha0 : sh a0 = (1, 10, 11)) {x1 : Int32} {E : String} (h : P_X6_sewnSleeves κ a0 x1 = some (.error E)) : jM l G yX6_sewnSleeves cX6_sewnSleeves 2 (some .int) 10 1 6 182 [.ref a0, .int x1] (sh, κ) (fun _ _ => False) (jXs E (sh, κ)) :=
  r_body (by decide) (Nat.le_of_ble_eq_true rfl) fun F C hl hG hs ho hx => by
    subst hs
    exact w_X6_sewnSleeves_0 C ha0 (fin_er (by rw [hx]; exact ⟨rfl, rfl⟩)) h
set_option maxRecDepth 20000 in
theorem w_X6_demandCount_0 {F : jFm} (C : jB F RX6 cX6_demandCount 2 (some .int) 10 1 6 182) {κ : jKt} {a0 : Nat} (ha0 : jSof F a0 = (1, 10, 11)) {x1 : Int32} {r : Except String Int32} (hq : jFinX F (fun x => some (.int x)) r κ) (h : P_X6_demandCount κ a0 x1 = some r) : jW F 2 0 0 κ 0 [(0, .ref a0), (1, .int x1)] [] := by
  unfold P_X6_demandCount at h
  refine r_aload_n C.1 0 1 rfl dX6_demandCount_0 rfl ?_
  refine r_iload_n C.1 1 2 rfl dX6_demandCount_1 rfl ?_
  rcases bdx_some h with ⟨b10, e9, h⟩ | ⟨E11, e9, h⟩
  rotate_left
  · cases h
    exact r_xV C.1 (st := []) (x_X6_existing ha0 e9) yv_X6_existing ml_X6_173 rfl ha0 rfl ⟨Nat.le_of_ble_eq_true rfl, Nat.le_of_ble_eq_true rfl⟩ ⟨Nat.le_of_ble_eq_true rfl, Nat.le_of_ble_eq_true rfl⟩ (Nat.le_of_ble_eq_true rfl) rfl dX6_demandCount_2 (r_out C (Nat.le_of_ble_eq_true rfl) (Nat.le_of_ble_eq_true rfl) hq)
  refine r_cVr C.1 (st := []) (c_X6_existing ha0 e9) yv_X6_existing ml_X6_173 rfl ha0 rfl ⟨Nat.le_of_ble_eq_true rfl, Nat.le_of_ble_eq_true rfl⟩ ⟨Nat.le_of_ble_eq_true rfl, Nat.le_of_ble_eq_true rfl⟩ (Nat.le_of_ble_eq_true rfl) rfl 1 6 rfl rfl 5 rfl dX6_demandCount_2 (fun (h12 : jSof F b10 = (1, 8, 8)) => ?_)
  refine r_getI C.1 4 fl_X6_209 rfl h12 8 rfl dX6_demandCount_5 ?_
  cases h
  exact r_zret C rfl rfl (Nat.le_of_ble_eq_true rfl) (Nat.le_of_ble_eq_true rfl) dX6_demandCount_8 hq
theorem c_X6_demandCount {l : Launch} {G : jG} {sh : jSh} {κ : jKt} {a0 : Nat} (ha0 : sh a0 = (1, 10, 11)) {x1 : Int32} {r : Int32} (h : P_X6_demandCount κ a0 x1 = some (.ok r)) : jM l G yX6_demandCount cX6_demandCount 2 (some .int) 10 1 6 182 [.ref a0, .int x1] (sh, κ) (jIs (some (.int r)) (sh, κ)) jNo :=
  r_body (by decide) (Nat.le_of_ble_eq_true rfl) fun F C hl hG hs ho hx => by
    subst hs
    exact w_X6_demandCount_0 C ha0 (fin_ok (by rw [ho]; exact ⟨rfl, rfl⟩)) h
theorem x_X6_demandCount {l : Launch} {G : jG} {sh : jSh} {κ : jKt} {a0 : Nat} (ha0 : sh a0 = (1, 10, 11)) {x1 : Int32} {E : String} (h : P_X6_demandCount κ a0 x1 = some (.error E)) : jM l G yX6_demandCount cX6_demandCount 2 (some .int) 10 1 6 182 [.ref a0, .int x1] (sh, κ) (fun _ _ => False) (jXs E (sh, κ)) :=
  r_body (by decide) (Nat.le_of_ble_eq_true rfl) fun F C hl hG hs ho hx => by
    subst hs
    exact w_X6_demandCount_0 C ha0 (fin_er (by rw [hx]; exact ⟨rfl, rfl⟩)) h
set_option maxRecDepth 20000 in
theorem w_X6_isBefore_0 {F : jFm} (C : jB F RX6 cX6_isBefore 4 (some .boolean) 11 4 24 205) {κ : jKt} {a0 : Nat} (ha0 : jSof F a0 = (1, 10, 11)) {x1 : Int32} {x2 : Int32} {x3 : Int32} {r : Except String Int32} (hq : jFinX F (fun x => some (.int x)) r κ) (h : P_X6_isBefore κ a0 x1 x2 x3 = some r) : jW F 4 0 0 κ 0 [(0, .ref a0), (1, .int x1), (2, .int x2), (3, .int x3)] [] := by
  unfold P_X6_isBefore at h
  refine r_aload_n C.1 0 1 rfl dX6_isBefore_0 rfl ?_
  refine r_iload_n C.1 1 2 rfl dX6_isBefore_1 rfl ?_
  refine r_iload_n C.1 2 3 rfl dX6_isBefore_2 rfl ?_
  rcases bdx_some h with ⟨b24, e23, h⟩ | ⟨E25, e23, h⟩
  rotate_left
  · cases h
    exact r_xV C.1 (st := []) (x_X6_existingWithSleeve ha0 e23) yv_X6_existingWithSleeve ml_X6_183 rfl ha0 rfl ⟨Nat.le_of_ble_eq_true rfl, Nat.le_of_ble_eq_true rfl⟩ ⟨Nat.le_of_ble_eq_true rfl, Nat.le_of_ble_eq_true rfl⟩ (Nat.le_of_ble_eq_true rfl) rfl dX6_isBefore_3 (r_out C (Nat.le_of_ble_eq_true rfl) (Nat.le_of_ble_eq_true rfl) hq)
  refine r_cVr C.1 (st := []) (c_X6_existingWithSleeve ha0 e23) yv_X6_existingWithSleeve ml_X6_183 rfl ha0 rfl ⟨Nat.le_of_ble_eq_true rfl, Nat.le_of_ble_eq_true rfl⟩ ⟨Nat.le_of_ble_eq_true rfl, Nat.le_of_ble_eq_true rfl⟩ (Nat.le_of_ble_eq_true rfl) rfl 2 12 rfl rfl 6 rfl dX6_isBefore_3 (fun (h26 : jSof F b24 = (1, 8, 8)) => ?_)
  refine r_pop C.1 rfl 7 rfl dX6_isBefore_6 ?_
  refine r_aload_n C.1 0 8 rfl dX6_isBefore_7 rfl ?_
  refine r_iload_n C.1 1 9 rfl dX6_isBefore_8 rfl ?_
  refine r_iload_n C.1 3 10 rfl dX6_isBefore_9 rfl ?_
  rcases bdx_some h with ⟨b28, e27, h⟩ | ⟨E29, e27, h⟩
  rotate_left
  · cases h
    exact r_xV C.1 (st := []) (x_X6_existingWithSleeve ha0 e27) yv_X6_existingWithSleeve ml_X6_183 rfl ha0 rfl ⟨Nat.le_of_ble_eq_true rfl, Nat.le_of_ble_eq_true rfl⟩ ⟨Nat.le_of_ble_eq_true rfl, Nat.le_of_ble_eq_true rfl⟩ (Nat.le_of_ble_eq_true rfl) rfl dX6_isBefore_10 (r_out C (Nat.le_of_ble_eq_true rfl) (Nat.le_of_ble_eq_true rfl) hq)
  refine r_cVr C.1 (st := []) (c_X6_existingWithSleeve ha0 e27) yv_X6_existingWithSleeve ml_X6_183 rfl ha0 rfl ⟨Nat.le_of_ble_eq_true rfl, Nat.le_of_ble_eq_true rfl⟩ ⟨Nat.le_of_ble_eq_true rfl, Nat.le_of_ble_eq_true rfl⟩ (Nat.le_of_ble_eq_true rfl) rfl 4 24 rfl rfl 13 rfl dX6_isBefore_10 (fun (h30 : jSof F b28 = (1, 8, 8)) => ?_)
  refine r_iload_n C.1 2 14 rfl dX6_isBefore_13 rfl ?_
  refine r_iload_n C.1 3 15 rfl dX6_isBefore_14 rfl ?_
  obtain ⟨y32, e31, h⟩ := bd_some h
  refine r_cVi C.1 (st := []) (c_X4_comesBefore h30 e31) yv_X4_comesBefore ml_X6_212 rfl h30 rfl ⟨Nat.le_of_ble_eq_true rfl, Nat.le_of_ble_eq_true rfl⟩ ⟨Nat.le_of_ble_eq_true rfl, Nat.le_of_ble_eq_true rfl⟩ (Nat.le_of_ble_eq_true rfl) rfl 4 24 rfl rfl 18 rfl dX6_isBefore_15 ?_
  obtain ⟨z33, h⟩ := ck_some h
  cases h
  exact r_zret C rfl (jz_narrow z33) (Nat.le_of_ble_eq_true rfl) (Nat.le_of_ble_eq_true rfl) dX6_isBefore_18 hq
theorem c_X6_isBefore {l : Launch} {G : jG} {sh : jSh} {κ : jKt} {a0 : Nat} (ha0 : sh a0 = (1, 10, 11)) {x1 : Int32} {x2 : Int32} {x3 : Int32} {r : Int32} (h : P_X6_isBefore κ a0 x1 x2 x3 = some (.ok r)) : jM l G yX6_isBefore cX6_isBefore 4 (some .boolean) 11 4 24 205 [.ref a0, .int x1, .int x2, .int x3] (sh, κ) (jIs (some (.int r)) (sh, κ)) jNo :=
  r_body (by decide) (Nat.le_of_ble_eq_true rfl) fun F C hl hG hs ho hx => by
    subst hs
    exact w_X6_isBefore_0 C ha0 (fin_ok (by rw [ho]; exact ⟨rfl, rfl⟩)) h
theorem x_X6_isBefore {l : Launch} {G : jG} {sh : jSh} {κ : jKt} {a0 : Nat} (ha0 : sh a0 = (1, 10, 11)) {x1 : Int32} {x2 : Int32} {x3 : Int32} {E : String} (h : P_X6_isBefore κ a0 x1 x2 x3 = some (.error E)) : jM l G yX6_isBefore cX6_isBefore 4 (some .boolean) 11 4 24 205 [.ref a0, .int x1, .int x2, .int x3] (sh, κ) (fun _ _ => False) (jXs E (sh, κ)) :=
  r_body (by decide) (Nat.le_of_ble_eq_true rfl) fun F C hl hG hs ho hx => by
    subst hs
    exact w_X6_isBefore_0 C ha0 (fin_er (by rw [hx]; exact ⟨rfl, rfl⟩)) h
set_option maxRecDepth 20000 in
theorem w_X6_canDeliver_0 {F : jFm} (C : jB F RX6 cX6_canDeliver 3 (some .boolean) 10 1 6 182) {κ : jKt} {a0 : Nat} (ha0 : jSof F a0 = (1, 10, 11)) {x1 : Int32} {r : Except String Int32} (hq : jFinX F (fun x => some (.int x)) r κ) (h : P_X6_canDeliver κ a0 x1 = some r) : jW F 3 0 0 κ 0 [(0, .ref a0), (1, .int x1)] [] := by
  unfold P_X6_canDeliver at h
  refine r_aload_n C.1 0 1 rfl dX6_canDeliver_0 rfl ?_
  refine r_iload_n C.1 1 2 rfl dX6_canDeliver_1 rfl ?_
  rcases bdx_some h with ⟨b24, e23, h⟩ | ⟨E25, e23, h⟩
  rotate_left
  · cases h
    exact r_xV C.1 (st := []) (x_X6_existing ha0 e23) yv_X6_existing ml_X6_173 rfl ha0 rfl ⟨Nat.le_of_ble_eq_true rfl, Nat.le_of_ble_eq_true rfl⟩ ⟨Nat.le_of_ble_eq_true rfl, Nat.le_of_ble_eq_true rfl⟩ (Nat.le_of_ble_eq_true rfl) rfl dX6_canDeliver_2 (r_out C (Nat.le_of_ble_eq_true rfl) (Nat.le_of_ble_eq_true rfl) hq)
  refine r_cVr C.1 (st := []) (c_X6_existing ha0 e23) yv_X6_existing ml_X6_173 rfl ha0 rfl ⟨Nat.le_of_ble_eq_true rfl, Nat.le_of_ble_eq_true rfl⟩ ⟨Nat.le_of_ble_eq_true rfl, Nat.le_of_ble_eq_true rfl⟩ (Nat.le_of_ble_eq_true rfl) rfl 1 6 rfl rfl 5 rfl dX6_canDeliver_2 (fun (h26 : jSof F b24 = (1, 8, 8)) => ?_)
  refine r_astore_n C.1 (lv' := [(0, .ref a0), (1, .int x1), (2, .ref b24)]) [1, 2, 0] 6 rfl dX6_canDeliver_5 (Nat.le_of_ble_eq_true rfl) rfl ?_
  refine r_aload_n C.1 2 7 rfl dX6_canDeliver_6 rfl ?_
  refine r_aload_n C.1 0 8 rfl dX6_canDeliver_7 rfl ?_
  refine r_getR C.1 0 fl_X6_12 rfl ha0 11 rfl dX6_canDeliver_8 (fun (h27 : jSof F (kR κ a0 0) = (1, 9, 11)) => ?_)
  refine r_aload_n C.1 2 12 rfl dX6_canDeliver_11 rfl ?_
  obtain ⟨b29, e28, h⟩ := bd_some h
  refine r_cVr C.1 (st := [.ref b24]) (c_X5_wearerOf h27 h26 e28) yv_X5_wearerOf ml_X6_197 rfl h27 rfl ⟨Nat.le_of_ble_eq_true rfl, Nat.le_of_ble_eq_true rfl⟩ ⟨Nat.le_of_ble_eq_true rfl, Nat.le_of_ble_eq_true rfl⟩ (Nat.le_of_ble_eq_true rfl) rfl 1 6 rfl rfl 15 rfl dX6_canDeliver_12 (fun (h30 : jSof F b29 = (1, 4, 2)) => ?_)
  obtain ⟨y32, e31, h⟩ := bd_some h
  refine r_cVi C.1 (st := []) (c_X4_isReadyFor h26 h30 e31) yv_X4_isReadyFor ml_X6_216 rfl h26 rfl ⟨Nat.le_of_ble_eq_true rfl, Nat.le_of_ble_eq_true rfl⟩ ⟨Nat.le_of_ble_eq_true rfl, Nat.le_of_ble_eq_true rfl⟩ (Nat.le_of_ble_eq_true rfl) rfl 1 6 rfl rfl 18 rfl dX6_canDeliver_15 ?_
  obtain ⟨z33, h⟩ := ck_some h
  cases h
  exact r_zret C rfl (jz_narrow z33) (Nat.le_of_ble_eq_true rfl) (Nat.le_of_ble_eq_true rfl) dX6_canDeliver_18 hq
theorem c_X6_canDeliver {l : Launch} {G : jG} {sh : jSh} {κ : jKt} {a0 : Nat} (ha0 : sh a0 = (1, 10, 11)) {x1 : Int32} {r : Int32} (h : P_X6_canDeliver κ a0 x1 = some (.ok r)) : jM l G yX6_canDeliver cX6_canDeliver 3 (some .boolean) 10 1 6 182 [.ref a0, .int x1] (sh, κ) (jIs (some (.int r)) (sh, κ)) jNo :=
  r_body (by decide) (Nat.le_of_ble_eq_true rfl) fun F C hl hG hs ho hx => by
    subst hs
    exact w_X6_canDeliver_0 C ha0 (fin_ok (by rw [ho]; exact ⟨rfl, rfl⟩)) h
theorem x_X6_canDeliver {l : Launch} {G : jG} {sh : jSh} {κ : jKt} {a0 : Nat} (ha0 : sh a0 = (1, 10, 11)) {x1 : Int32} {E : String} (h : P_X6_canDeliver κ a0 x1 = some (.error E)) : jM l G yX6_canDeliver cX6_canDeliver 3 (some .boolean) 10 1 6 182 [.ref a0, .int x1] (sh, κ) (fun _ _ => False) (jXs E (sh, κ)) :=
  r_body (by decide) (Nat.le_of_ble_eq_true rfl) fun F C hl hG hs ho hx => by
    subst hs
    exact w_X6_canDeliver_0 C ha0 (fin_er (by rw [hx]; exact ⟨rfl, rfl⟩)) h
set_option maxRecDepth 20000 in
theorem w_X6_price_0 {F : jFm} (C : jB F RX6 cX6_price 3 (some .int) 10 1 6 182) {κ : jKt} {a0 : Nat} (ha0 : jSof F a0 = (1, 10, 11)) {x1 : Int32} {r : Except String Int32} (hq : jFinX F (fun x => some (.int x)) r κ) (h : P_X6_price κ a0 x1 = some r) : jW F 3 0 0 κ 0 [(0, .ref a0), (1, .int x1)] [] := by
  unfold P_X6_price at h
  refine r_aload_n C.1 0 1 rfl dX6_price_0 rfl ?_
  refine r_iload_n C.1 1 2 rfl dX6_price_1 rfl ?_
  rcases bdx_some h with ⟨b22, e21, h⟩ | ⟨E23, e21, h⟩
  rotate_left
  · cases h
    exact r_xV C.1 (st := []) (x_X6_existing ha0 e21) yv_X6_existing ml_X6_173 rfl ha0 rfl ⟨Nat.le_of_ble_eq_true rfl, Nat.le_of_ble_eq_true rfl⟩ ⟨Nat.le_of_ble_eq_true rfl, Nat.le_of_ble_eq_true rfl⟩ (Nat.le_of_ble_eq_true rfl) rfl dX6_price_2 (r_out C (Nat.le_of_ble_eq_true rfl) (Nat.le_of_ble_eq_true rfl) hq)
  refine r_cVr C.1 (st := []) (c_X6_existing ha0 e21) yv_X6_existing ml_X6_173 rfl ha0 rfl ⟨Nat.le_of_ble_eq_true rfl, Nat.le_of_ble_eq_true rfl⟩ ⟨Nat.le_of_ble_eq_true rfl, Nat.le_of_ble_eq_true rfl⟩ (Nat.le_of_ble_eq_true rfl) rfl 1 6 rfl rfl 5 rfl dX6_price_2 (fun (h24 : jSof F b22 = (1, 8, 8)) => ?_)
  refine r_astore_n C.1 (lv' := [(0, .ref a0), (1, .int x1), (2, .ref b22)]) [1, 2, 0] 6 rfl dX6_price_5 (Nat.le_of_ble_eq_true rfl) rfl ?_
  refine r_aload_n C.1 2 7 rfl dX6_price_6 rfl ?_
  refine r_aload_n C.1 0 8 rfl dX6_price_7 rfl ?_
  refine r_getR C.1 0 fl_X6_12 rfl ha0 11 rfl dX6_price_8 (fun (h25 : jSof F (kR κ a0 0) = (1, 9, 11)) => ?_)
  refine r_aload_n C.1 2 12 rfl dX6_price_11 rfl ?_
  obtain ⟨b27, e26, h⟩ := bd_some h
  refine r_cVr C.1 (st := [.ref b22]) (c_X5_wearerOf h25 h24 e26) yv_X5_wearerOf ml_X6_197 rfl h25 rfl ⟨Nat.le_of_ble_eq_true rfl, Nat.le_of_ble_eq_true rfl⟩ ⟨Nat.le_of_ble_eq_true rfl, Nat.le_of_ble_eq_true rfl⟩ (Nat.le_of_ble_eq_true rfl) rfl 1 6 rfl rfl 15 rfl dX6_price_12 (fun (h28 : jSof F b27 = (1, 4, 2)) => ?_)
  obtain ⟨y30, e29, h⟩ := bd_some h
  refine r_cVi C.1 (st := []) (c_X4_priceFor h24 h28 e29) yv_X4_priceFor ml_X6_220 rfl h24 rfl ⟨Nat.le_of_ble_eq_true rfl, Nat.le_of_ble_eq_true rfl⟩ ⟨Nat.le_of_ble_eq_true rfl, Nat.le_of_ble_eq_true rfl⟩ (Nat.le_of_ble_eq_true rfl) rfl 1 6 rfl rfl 18 rfl dX6_price_15 ?_
  cases h
  exact r_zret C rfl rfl (Nat.le_of_ble_eq_true rfl) (Nat.le_of_ble_eq_true rfl) dX6_price_18 hq
theorem c_X6_price {l : Launch} {G : jG} {sh : jSh} {κ : jKt} {a0 : Nat} (ha0 : sh a0 = (1, 10, 11)) {x1 : Int32} {r : Int32} (h : P_X6_price κ a0 x1 = some (.ok r)) : jM l G yX6_price cX6_price 3 (some .int) 10 1 6 182 [.ref a0, .int x1] (sh, κ) (jIs (some (.int r)) (sh, κ)) jNo :=
  r_body (by decide) (Nat.le_of_ble_eq_true rfl) fun F C hl hG hs ho hx => by
    subst hs
    exact w_X6_price_0 C ha0 (fin_ok (by rw [ho]; exact ⟨rfl, rfl⟩)) h
theorem x_X6_price {l : Launch} {G : jG} {sh : jSh} {κ : jKt} {a0 : Nat} (ha0 : sh a0 = (1, 10, 11)) {x1 : Int32} {E : String} (h : P_X6_price κ a0 x1 = some (.error E)) : jM l G yX6_price cX6_price 3 (some .int) 10 1 6 182 [.ref a0, .int x1] (sh, κ) (fun _ _ => False) (jXs E (sh, κ)) :=
  r_body (by decide) (Nat.le_of_ble_eq_true rfl) fun F C hl hG hs ho hx => by
    subst hs
    exact w_X6_price_0 C ha0 (fin_er (by rw [hx]; exact ⟨rfl, rfl⟩)) h
set_option maxRecDepth 20000 in
theorem w_X6_sleevesLeft_0 {F : jFm} (C : jB F RX6 cX6_sleevesLeft 2 (some .int) 10 1 6 182) {κ : jKt} {a0 : Nat} (ha0 : jSof F a0 = (1, 10, 11)) {x1 : Int32} {r : Except String Int32} (hq : jFinX F (fun x => some (.int x)) r κ) (h : P_X6_sleevesLeft κ a0 x1 = some r) : jW F 2 0 0 κ 0 [(0, .ref a0), (1, .int x1)] [] := by
  unfold P_X6_sleevesLeft at h
  refine r_aload_n C.1 0 1 rfl dX6_sleevesLeft_0 rfl ?_
  refine r_iload_n C.1 1 2 rfl dX6_sleevesLeft_1 rfl ?_
  rcases bdx_some h with ⟨b14, e13, h⟩ | ⟨E15, e13, h⟩
  rotate_left
  · cases h
    exact r_xV C.1 (st := []) (x_X6_existing ha0 e13) yv_X6_existing ml_X6_173 rfl ha0 rfl ⟨Nat.le_of_ble_eq_true rfl, Nat.le_of_ble_eq_true rfl⟩ ⟨Nat.le_of_ble_eq_true rfl, Nat.le_of_ble_eq_true rfl⟩ (Nat.le_of_ble_eq_true rfl) rfl dX6_sleevesLeft_2 (r_out C (Nat.le_of_ble_eq_true rfl) (Nat.le_of_ble_eq_true rfl) hq)
  refine r_cVr C.1 (st := []) (c_X6_existing ha0 e13) yv_X6_existing ml_X6_173 rfl ha0 rfl ⟨Nat.le_of_ble_eq_true rfl, Nat.le_of_ble_eq_true rfl⟩ ⟨Nat.le_of_ble_eq_true rfl, Nat.le_of_ble_eq_true rfl⟩ (Nat.le_of_ble_eq_true rfl) rfl 1 6 rfl rfl 5 rfl dX6_sleevesLeft_2 (fun (h16 : jSof F b14 = (1, 8, 8)) => ?_)
  obtain ⟨y18, e17, h⟩ := bd_some h
  refine r_cVi C.1 (st := []) (c_X4_unsewnCount h16 e17) yv_X4_unsewnCount ml_X6_224 rfl h16 rfl ⟨Nat.le_of_ble_eq_true rfl, Nat.le_of_ble_eq_true rfl⟩ ⟨Nat.le_of_ble_eq_true rfl, Nat.le_of_ble_eq_true rfl⟩ (Nat.le_of_ble_eq_true rfl) rfl 1 6 rfl rfl 8 rfl dX6_sleevesLeft_5 ?_
  cases h
  exact r_zret C rfl rfl (Nat.le_of_ble_eq_true rfl) (Nat.le_of_ble_eq_true rfl) dX6_sleevesLeft_8 hq
theorem c_X6_sleevesLeft {l : Launch} {G : jG} {sh : jSh} {κ : jKt} {a0 : Nat} (ha0 : sh a0 = (1, 10, 11)) {x1 : Int32} {r : Int32} (h : P_X6_sleevesLeft κ a0 x1 = some (.ok r)) : jM l G yX6_sleevesLeft cX6_sleevesLeft 2 (some .int) 10 1 6 182 [.ref a0, .int x1] (sh, κ) (jIs (some (.int r)) (sh, κ)) jNo :=
  r_body (by decide) (Nat.le_of_ble_eq_true rfl) fun F C hl hG hs ho hx => by
    subst hs
    exact w_X6_sleevesLeft_0 C ha0 (fin_ok (by rw [ho]; exact ⟨rfl, rfl⟩)) h
theorem x_X6_sleevesLeft {l : Launch} {G : jG} {sh : jSh} {κ : jKt} {a0 : Nat} (ha0 : sh a0 = (1, 10, 11)) {x1 : Int32} {E : String} (h : P_X6_sleevesLeft κ a0 x1 = some (.error E)) : jM l G yX6_sleevesLeft cX6_sleevesLeft 2 (some .int) 10 1 6 182 [.ref a0, .int x1] (sh, κ) (fun _ _ => False) (jXs E (sh, κ)) :=
  r_body (by decide) (Nat.le_of_ble_eq_true rfl) fun F C hl hG hs ho hx => by
    subst hs
    exact w_X6_sleevesLeft_0 C ha0 (fin_er (by rw [hx]; exact ⟨rfl, rfl⟩)) h
set_option maxRecDepth 20000 in
theorem w_X6_clothNeeded_0 {F : jFm} (C : jB F RX6 cX6_clothNeeded 3 (some .int) 10 1 6 182) {κ : jKt} {a0 : Nat} (ha0 : jSof F a0 = (1, 10, 11)) {x1 : Int32} {r : Except String Int32} (hq : jFinX F (fun x => some (.int x)) r κ) (h : P_X6_clothNeeded κ a0 x1 = some r) : jW F 3 0 0 κ 0 [(0, .ref a0), (1, .int x1)] [] := by
  unfold P_X6_clothNeeded at h
  refine r_aload_n C.1 0 1 rfl dX6_clothNeeded_0 rfl ?_
  refine r_iload_n C.1 1 2 rfl dX6_clothNeeded_1 rfl ?_
  rcases bdx_some h with ⟨b22, e21, h⟩ | ⟨E23, e21, h⟩
  rotate_left
  · cases h
    exact r_xV C.1 (st := []) (x_X6_existing ha0 e21) yv_X6_existing ml_X6_173 rfl ha0 rfl ⟨Nat.le_of_ble_eq_true rfl, Nat.le_of_ble_eq_true rfl⟩ ⟨Nat.le_of_ble_eq_true rfl, Nat.le_of_ble_eq_true rfl⟩ (Nat.le_of_ble_eq_true rfl) rfl dX6_clothNeeded_2 (r_out C (Nat.le_of_ble_eq_true rfl) (Nat.le_of_ble_eq_true rfl) hq)
  refine r_cVr C.1 (st := []) (c_X6_existing ha0 e21) yv_X6_existing ml_X6_173 rfl ha0 rfl ⟨Nat.le_of_ble_eq_true rfl, Nat.le_of_ble_eq_true rfl⟩ ⟨Nat.le_of_ble_eq_true rfl, Nat.le_of_ble_eq_true rfl⟩ (Nat.le_of_ble_eq_true rfl) rfl 1 6 rfl rfl 5 rfl dX6_clothNeeded_2 (fun (h24 : jSof F b22 = (1, 8, 8)) => ?_)
  refine r_astore_n C.1 (lv' := [(0, .ref a0), (1, .int x1), (2, .ref b22)]) [1, 2, 0] 6 rfl dX6_clothNeeded_5 (Nat.le_of_ble_eq_true rfl) rfl ?_
  refine r_aload_n C.1 2 7 rfl dX6_clothNeeded_6 rfl ?_
  refine r_aload_n C.1 0 8 rfl dX6_clothNeeded_7 rfl ?_
  refine r_getR C.1 0 fl_X6_12 rfl ha0 11 rfl dX6_clothNeeded_8 (fun (h25 : jSof F (kR κ a0 0) = (1, 9, 11)) => ?_)
  refine r_aload_n C.1 2 12 rfl dX6_clothNeeded_11 rfl ?_
  obtain ⟨b27, e26, h⟩ := bd_some h
  refine r_cVr C.1 (st := [.ref b22]) (c_X5_wearerOf h25 h24 e26) yv_X5_wearerOf ml_X6_197 rfl h25 rfl ⟨Nat.le_of_ble_eq_true rfl, Nat.le_of_ble_eq_true rfl⟩ ⟨Nat.le_of_ble_eq_true rfl, Nat.le_of_ble_eq_true rfl⟩ (Nat.le_of_ble_eq_true rfl) rfl 1 6 rfl rfl 15 rfl dX6_clothNeeded_12 (fun (h28 : jSof F b27 = (1, 4, 2)) => ?_)
  obtain ⟨y30, e29, h⟩ := bd_some h
  refine r_cVi C.1 (st := []) (c_X4_neededBySleeve h24 h28 e29) yv_X4_neededBySleeve ml_X6_247 rfl h24 rfl ⟨Nat.le_of_ble_eq_true rfl, Nat.le_of_ble_eq_true rfl⟩ ⟨Nat.le_of_ble_eq_true rfl, Nat.le_of_ble_eq_true rfl⟩ (Nat.le_of_ble_eq_true rfl) rfl 1 6 rfl rfl 18 rfl dX6_clothNeeded_15 ?_
  cases h
  exact r_zret C rfl rfl (Nat.le_of_ble_eq_true rfl) (Nat.le_of_ble_eq_true rfl) dX6_clothNeeded_18 hq
theorem c_X6_clothNeeded {l : Launch} {G : jG} {sh : jSh} {κ : jKt} {a0 : Nat} (ha0 : sh a0 = (1, 10, 11)) {x1 : Int32} {r : Int32} (h : P_X6_clothNeeded κ a0 x1 = some (.ok r)) : jM l G yX6_clothNeeded cX6_clothNeeded 3 (some .int) 10 1 6 182 [.ref a0, .int x1] (sh, κ) (jIs (some (.int r)) (sh, κ)) jNo :=
  r_body (by decide) (Nat.le_of_ble_eq_true rfl) fun F C hl hG hs ho hx => by
    subst hs
    exact w_X6_clothNeeded_0 C ha0 (fin_ok (by rw [ho]; exact ⟨rfl, rfl⟩)) h
theorem x_X6_clothNeeded {l : Launch} {G : jG} {sh : jSh} {κ : jKt} {a0 : Nat} (ha0 : sh a0 = (1, 10, 11)) {x1 : Int32} {E : String} (h : P_X6_clothNeeded κ a0 x1 = some (.error E)) : jM l G yX6_clothNeeded cX6_clothNeeded 3 (some .int) 10 1 6 182 [.ref a0, .int x1] (sh, κ) (fun _ _ => False) (jXs E (sh, κ)) :=
  r_body (by decide) (Nat.le_of_ble_eq_true rfl) fun F C hl hG hs ho hx => by
    subst hs
    exact w_X6_clothNeeded_0 C ha0 (fin_er (by rw [hx]; exact ⟨rfl, rfl⟩)) h
set_option maxRecDepth 20000 in
theorem w_X6_clothNeededByDifference_0 {F : jFm} (C : jB F RX6 cX6_clothNeededByDifference 3 (some .int) 10 1 6 182) {κ : jKt} {a0 : Nat} (ha0 : jSof F a0 = (1, 10, 11)) {x1 : Int32} {r : Except String Int32} (hq : jFinX F (fun x => some (.int x)) r κ) (h : P_X6_clothNeededByDifference κ a0 x1 = some r) : jW F 3 0 0 κ 0 [(0, .ref a0), (1, .int x1)] [] := by
  unfold P_X6_clothNeededByDifference at h
  refine r_aload_n C.1 0 1 rfl dX6_clothNeededByDifference_0 rfl ?_
  refine r_iload_n C.1 1 2 rfl dX6_clothNeededByDifference_1 rfl ?_
  rcases bdx_some h with ⟨b22, e21, h⟩ | ⟨E23, e21, h⟩
  rotate_left
  · cases h
    exact r_xV C.1 (st := []) (x_X6_existing ha0 e21) yv_X6_existing ml_X6_173 rfl ha0 rfl ⟨Nat.le_of_ble_eq_true rfl, Nat.le_of_ble_eq_true rfl⟩ ⟨Nat.le_of_ble_eq_true rfl, Nat.le_of_ble_eq_true rfl⟩ (Nat.le_of_ble_eq_true rfl) rfl dX6_clothNeededByDifference_2 (r_out C (Nat.le_of_ble_eq_true rfl) (Nat.le_of_ble_eq_true rfl) hq)
  refine r_cVr C.1 (st := []) (c_X6_existing ha0 e21) yv_X6_existing ml_X6_173 rfl ha0 rfl ⟨Nat.le_of_ble_eq_true rfl, Nat.le_of_ble_eq_true rfl⟩ ⟨Nat.le_of_ble_eq_true rfl, Nat.le_of_ble_eq_true rfl⟩ (Nat.le_of_ble_eq_true rfl) rfl 1 6 rfl rfl 5 rfl dX6_clothNeededByDifference_2 (fun (h24 : jSof F b22 = (1, 8, 8)) => ?_)
  refine r_astore_n C.1 (lv' := [(0, .ref a0), (1, .int x1), (2, .ref b22)]) [1, 2, 0] 6 rfl dX6_clothNeededByDifference_5 (Nat.le_of_ble_eq_true rfl) rfl ?_
  refine r_aload_n C.1 2 7 rfl dX6_clothNeededByDifference_6 rfl ?_
  refine r_aload_n C.1 0 8 rfl dX6_clothNeededByDifference_7 rfl ?_
  refine r_getR C.1 0 fl_X6_12 rfl ha0 11 rfl dX6_clothNeededByDifference_8 (fun (h25 : jSof F (kR κ a0 0) = (1, 9, 11)) => ?_)
  refine r_aload_n C.1 2 12 rfl dX6_clothNeededByDifference_11 rfl ?_
  obtain ⟨b27, e26, h⟩ := bd_some h
  refine r_cVr C.1 (st := [.ref b22]) (c_X5_wearerOf h25 h24 e26) yv_X5_wearerOf ml_X6_197 rfl h25 rfl ⟨Nat.le_of_ble_eq_true rfl, Nat.le_of_ble_eq_true rfl⟩ ⟨Nat.le_of_ble_eq_true rfl, Nat.le_of_ble_eq_true rfl⟩ (Nat.le_of_ble_eq_true rfl) rfl 1 6 rfl rfl 15 rfl dX6_clothNeededByDifference_12 (fun (h28 : jSof F b27 = (1, 4, 2)) => ?_)
  obtain ⟨y30, e29, h⟩ := bd_some h
  refine r_cVi C.1 (st := []) (c_X4_neededByDifference h24 h28 e29) yv_X4_neededByDifference ml_X6_250 rfl h24 rfl ⟨Nat.le_of_ble_eq_true rfl, Nat.le_of_ble_eq_true rfl⟩ ⟨Nat.le_of_ble_eq_true rfl, Nat.le_of_ble_eq_true rfl⟩ (Nat.le_of_ble_eq_true rfl) rfl 1 6 rfl rfl 18 rfl dX6_clothNeededByDifference_15 ?_
  cases h
  exact r_zret C rfl rfl (Nat.le_of_ble_eq_true rfl) (Nat.le_of_ble_eq_true rfl) dX6_clothNeededByDifference_18 hq
theorem c_X6_clothNeededByDifference {l : Launch} {G : jG} {sh : jSh} {κ : jKt} {a0 : Nat} (ha0 : sh a0 = (1, 10, 11)) {x1 : Int32} {r : Int32} (h : P_X6_clothNeededByDifference κ a0 x1 = some (.ok r)) : jM l G yX6_clothNeededByDifference cX6_clothNeededByDifference 3 (some .int) 10 1 6 182 [.ref a0, .int x1] (sh, κ) (jIs (some (.int r)) (sh, κ)) jNo :=
  r_body (by decide) (Nat.le_of_ble_eq_true rfl) fun F C hl hG hs ho hx => by
    subst hs
    exact w_X6_clothNeededByDifference_0 C ha0 (fin_ok (by rw [ho]; exact ⟨rfl, rfl⟩)) h
theorem x_X6_clothNeededByDifference {l : Launch} {G : jG} {sh : jSh} {κ : jKt} {a0 : Nat} (ha0 : sh a0 = (1, 10, 11)) {x1 : Int32} {E : String} (h : P_X6_clothNeededByDifference κ a0 x1 = some (.error E)) : jM l G yX6_clothNeededByDifference cX6_clothNeededByDifference 3 (some .int) 10 1 6 182 [.ref a0, .int x1] (sh, κ) (fun _ _ => False) (jXs E (sh, κ)) :=
  r_body (by decide) (Nat.le_of_ble_eq_true rfl) fun F C hl hG hs ho hx => by
    subst hs
    exact w_X6_clothNeededByDifference_0 C ha0 (fin_er (by rw [hx]; exact ⟨rfl, rfl⟩)) h
set_option maxRecDepth 20000 in
theorem w_X6_renderSuit_16 {F : jFm} (C : jB F RX6 cX6_renderSuit 4 (some .int) 10 52 7248 343) {a0 : Nat} (ha0 : jSof F a0 = (1, 10, 11)) {a2 : Nat} (ha2 : jSof F a2 = (1, 8, 8)) {r : Except String Int32 × jKt} (hq : jFinX F (fun x => some (.int x)) r.1 r.2) : ∀ (n : Nat) (κ : jKt) (v3 : Int32), P_X6_renderSuit_16 a0 a2 n κ v3 = some r → ∀ k1 k2, k1 + n * 3 ≤ 52 → k2 + n * 426 ≤ 7248 → jW F 4 k1 k2 κ 16 [(0, .ref a0), (2, .ref a2), (3, .int v3)] [] := by
  intro n
  induction n with
  | zero => intro κ v3 h; cases h
  | succ n ih =>
    intro κ v3 h k1 k2 hk1 hk2
    rw [P_X6_renderSuit_16] at h
    refine r_iload_n C.1 2 17 rfl dX6_renderSuit_16 rfl ?_
    refine r_aload_n C.1 1 18 rfl dX6_renderSuit_17 rfl ?_
    refine r_getI C.1 3 fl_X6_308 rfl ha2 21 rfl dX6_renderSuit_18 ?_
    refine r_icmp_ge C.1 61 24 rfl dX6_renderSuit_21 rfl ⟨fun c57 => ?_, fun c57 => ?_⟩
    · have h := if_some_t c57 h
      refine r_aload_n C.1 0 62 rfl dX6_renderSuit_61 rfl ?_
      refine r_getR C.1 10 fl_X6_57 rfl ha0 65 rfl dX6_renderSuit_62 (fun (h58 : jSof F (kR κ a0 10) = (6, 0, 0)) => ?_)
      obtain ⟨y60, e59, h⟩ := bd_some h
      refine r_cGi C.1 (st := []) (c_J4_length_8abf5 h58 e59) yv_J4_length_8abf5 ml_X6_319 (jCell_T C.1 h58) rfl ⟨Nat.le_of_ble_eq_true rfl, Nat.le_of_ble_eq_true rfl⟩ ⟨by omega, by omega⟩ (Nat.le_of_ble_eq_true rfl) rfl k1 k2 rfl rfl 68 rfl dX6_renderSuit_65 ?_
      cases h
      exact r_zret C rfl rfl (by omega) (by omega) dX6_renderSuit_68 hq
    · have h := if_some_f c57 h
      refine r_iload_n C.1 2 25 rfl dX6_renderSuit_24 rfl ?_
      refine r_if_le C.1 49 28 rfl dX6_renderSuit_25 rfl ⟨fun c61 => ?_, fun c61 => ?_⟩
      · have h := if_some_t c61 h
        refine r_aload_n C.1 0 50 rfl dX6_renderSuit_49 rfl ?_
        refine r_aload_n C.1 1 51 rfl dX6_renderSuit_50 rfl ?_
        refine r_iload_n C.1 2 52 rfl dX6_renderSuit_51 rfl ?_
        obtain ⟨κ63, e62, h⟩ := bd_some h
        refine r_cVv C.1 (st := []) (c_X6_renderSleeve ha0 ha2 e62) yv_X6_renderSleeve ml_X6_315 rfl ha0 rfl ⟨Nat.le_of_ble_eq_true rfl, Nat.le_of_ble_eq_true rfl⟩ ⟨by omega, by omega⟩ (Nat.le_of_ble_eq_true rfl) rfl (k1 + 2) (k2 + 284) rfl rfl 55 rfl dX6_renderSuit_52 ?_
        refine r_iinc C.1 (lv' := [(0, .ref a0), (2, .ref a2), (3, .int (v3 + 1))]) 2 [1, 2, 0] 58 rfl dX6_renderSuit_55 rfl (Nat.le_of_ble_eq_true rfl) rfl rfl ?_
        refine r_goto C.1 16 dX6_renderSuit_58 rfl ?_
        exact ih κ63 (v3 + 1) h _ _ (by omega) (by omega)
      · have h := if_some_f c61 h
        refine r_aload_n C.1 0 29 rfl dX6_renderSuit_28 rfl ?_
        refine r_getR C.1 10 fl_X6_57 rfl ha0 32 rfl dX6_renderSuit_29 (fun (h64 : jSof F (kR κ a0 10) = (6, 0, 0)) => ?_)
        refine r_iload_n C.1 2 33 rfl dX6_renderSuit_32 rfl ?_
        refine r_iconst C.1 2 rfl 34 rfl dX6_renderSuit_33 ?_
        refine r_irem C.1 35 rfl dX6_renderSuit_34 (by decide) ?_
        refine r_if_ne C.1 43 38 rfl dX6_renderSuit_35 rfl ⟨fun c65 => ?_, fun c65 => ?_⟩
        · have h := if_some_f c65 h
          refine r_bipush C.1 32 rfl 45 rfl dX6_renderSuit_43 ?_
          obtain ⟨b67, κ68, e66, h⟩ := bd2_some h
          refine r_cGr C.1 (st := []) (c_J4_append_cf468 h64 e66) yv_J4_append_cf468 ml_X6_311 (jCell_T C.1 h64) rfl ⟨Nat.le_of_ble_eq_true rfl, Nat.le_of_ble_eq_true rfl⟩ ⟨by omega, by omega⟩ (Nat.le_of_ble_eq_true rfl) rfl (k1 + 1) (k2 + 142) rfl rfl 48 rfl dX6_renderSuit_45 (fun (h69 : jSof F b67 = (6, 0, 0)) => ?_)
          refine r_pop C.1 rfl 49 rfl dX6_renderSuit_48 ?_
          refine r_aload_n C.1 0 50 rfl dX6_renderSuit_49 rfl ?_
          refine r_aload_n C.1 1 51 rfl dX6_renderSuit_50 rfl ?_
          refine r_iload_n C.1 2 52 rfl dX6_renderSuit_51 rfl ?_
          obtain ⟨κ71, e70, h⟩ := bd_some h
          refine r_cVv C.1 (st := []) (c_X6_renderSleeve ha0 ha2 e70) yv_X6_renderSleeve ml_X6_315 rfl ha0 rfl ⟨Nat.le_of_ble_eq_true rfl, Nat.le_of_ble_eq_true rfl⟩ ⟨by omega, by omega⟩ (Nat.le_of_ble_eq_true rfl) rfl (k1 + 3) (k2 + 426) rfl rfl 55 rfl dX6_renderSuit_52 ?_
          refine r_iinc C.1 (lv' := [(0, .ref a0), (2, .ref a2), (3, .int (v3 + 1))]) 2 [1, 2, 0] 58 rfl dX6_renderSuit_55 rfl (Nat.le_of_ble_eq_true rfl) rfl rfl ?_
          refine r_goto C.1 16 dX6_renderSuit_58 rfl ?_
          exact ih κ71 (v3 + 1) h _ _ (by omega) (by omega)
        · have h := if_some_t c65 h
          refine r_bipush C.1 124 rfl 40 rfl dX6_renderSuit_38 ?_
          refine r_goto C.1 45 dX6_renderSuit_40 rfl ?_
          obtain ⟨b73, κ74, e72, h⟩ := bd2_some h
          refine r_cGr C.1 (st := []) (c_J4_append_cf468 h64 e72) yv_J4_append_cf468 ml_X6_311 (jCell_T C.1 h64) rfl ⟨Nat.le_of_ble_eq_true rfl, Nat.le_of_ble_eq_true rfl⟩ ⟨by omega, by omega⟩ (Nat.le_of_ble_eq_true rfl) rfl (k1 + 1) (k2 + 142) rfl rfl 48 rfl dX6_renderSuit_45 (fun (h75 : jSof F b73 = (6, 0, 0)) => ?_)
          refine r_pop C.1 rfl 49 rfl dX6_renderSuit_48 ?_
          refine r_aload_n C.1 0 50 rfl dX6_renderSuit_49 rfl ?_
          refine r_aload_n C.1 1 51 rfl dX6_renderSuit_50 rfl ?_
          refine r_iload_n C.1 2 52 rfl dX6_renderSuit_51 rfl ?_
          obtain ⟨κ77, e76, h⟩ := bd_some h
          refine r_cVv C.1 (st := []) (c_X6_renderSleeve ha0 ha2 e76) yv_X6_renderSleeve ml_X6_315 rfl ha0 rfl ⟨Nat.le_of_ble_eq_true rfl, Nat.le_of_ble_eq_true rfl⟩ ⟨by omega, by omega⟩ (Nat.le_of_ble_eq_true rfl) rfl (k1 + 3) (k2 + 426) rfl rfl 55 rfl dX6_renderSuit_52 ?_
          refine r_iinc C.1 (lv' := [(0, .ref a0), (2, .ref a2), (3, .int (v3 + 1))]) 2 [1, 2, 0] 58 rfl dX6_renderSuit_55 rfl (Nat.le_of_ble_eq_true rfl) rfl rfl ?_
          refine r_goto C.1 16 dX6_renderSuit_58 rfl ?_
          exact ih κ77 (v3 + 1) h _ _ (by omega) (by omega)
set_option maxRecDepth 20000 in
theorem w_X6_renderSuit_0 {F : jFm} (C : jB F RX6 cX6_renderSuit 4 (some .int) 10 52 7248 343) {κ : jKt} {a0 : Nat} (ha0 : jSof F a0 = (1, 10, 11)) {x1 : Int32} {r : Except String Int32 × jKt} (hq : jFinX F (fun x => some (.int x)) r.1 r.2) (h : P_X6_renderSuit κ a0 x1 = some r) : jW F 4 0 0 κ 0 [(0, .ref a0), (1, .int x1)] [] := by
  unfold P_X6_renderSuit at h
  refine r_aload_n C.1 0 1 rfl dX6_renderSuit_0 rfl ?_
  refine r_iload_n C.1 1 2 rfl dX6_renderSuit_1 rfl ?_
  rcases bdx_some h with ⟨b79, e78, h⟩ | ⟨E80, e78, h⟩
  rotate_left
  · cases h
    exact r_xV C.1 (st := []) (x_X6_existing ha0 e78) yv_X6_existing ml_X6_173 rfl ha0 rfl ⟨Nat.le_of_ble_eq_true rfl, Nat.le_of_ble_eq_true rfl⟩ ⟨Nat.le_of_ble_eq_true rfl, Nat.le_of_ble_eq_true rfl⟩ (Nat.le_of_ble_eq_true rfl) rfl dX6_renderSuit_2 (r_out C (Nat.le_of_ble_eq_true rfl) (Nat.le_of_ble_eq_true rfl) hq)
  refine r_cVr C.1 (st := []) (c_X6_existing ha0 e78) yv_X6_existing ml_X6_173 rfl ha0 rfl ⟨Nat.le_of_ble_eq_true rfl, Nat.le_of_ble_eq_true rfl⟩ ⟨Nat.le_of_ble_eq_true rfl, Nat.le_of_ble_eq_true rfl⟩ (Nat.le_of_ble_eq_true rfl) rfl 1 6 rfl rfl 5 rfl dX6_renderSuit_2 (fun (h81 : jSof F b79 = (1, 8, 8)) => ?_)
  refine r_astore_n C.1 (lv' := [(0, .ref a0), (1, .int x1), (2, .ref b79)]) [1, 2, 0] 6 rfl dX6_renderSuit_5 (Nat.le_of_ble_eq_true rfl) rfl ?_
  refine r_aload_n C.1 0 7 rfl dX6_renderSuit_6 rfl ?_
  refine r_getR C.1 10 fl_X6_57 rfl ha0 10 rfl dX6_renderSuit_7 (fun (h82 : jSof F (kR κ a0 10) = (6, 0, 0)) => ?_)
  refine r_iconst C.1 0 rfl 11 rfl dX6_renderSuit_10 ?_
  obtain ⟨κ84, e83, h⟩ := bd_some h
  refine r_cGv C.1 (st := []) (c_J4_setLength_d00df h82 e83) yv_J4_setLength_d00df ml_X6_305 (jCell_T C.1 h82) rfl ⟨Nat.le_of_ble_eq_true rfl, Nat.le_of_ble_eq_true rfl⟩ ⟨Nat.le_of_ble_eq_true rfl, Nat.le_of_ble_eq_true rfl⟩ (Nat.le_of_ble_eq_true rfl) rfl 1 6 rfl rfl 14 rfl dX6_renderSuit_11 ?_
  refine r_iconst C.1 0 rfl 15 rfl dX6_renderSuit_14 ?_
  refine r_istore_n C.1 (lv' := [(0, .ref a0), (1, .int x1), (2, .ref b79), (3, .int 0)]) [1, 2, 3, 0] 16 rfl dX6_renderSuit_15 (Nat.le_of_ble_eq_true rfl) rfl ?_
  refine r_lv [0, 2, 3] rfl ?_
  exact w_X6_renderSuit_16 C ha0 h81 hq 17 κ84 0 h _ _ (by omega) (by omega)
theorem c_X6_renderSuit {l : Launch} {G : jG} {sh : jSh} {κ : jKt} {a0 : Nat} (ha0 : sh a0 = (1, 10, 11)) {x1 : Int32} {r : Int32} {κr : jKt} (h : P_X6_renderSuit κ a0 x1 = some (.ok r, κr)) : jM l G yX6_renderSuit cX6_renderSuit 4 (some .int) 10 52 7248 343 [.ref a0, .int x1] (sh, κ) (jIs (some (.int r)) (sh, κr)) jNo :=
  r_body (by decide) (Nat.le_of_ble_eq_true rfl) fun F C hl hG hs ho hx => by
    subst hs
    exact w_X6_renderSuit_0 C ha0 (fin_ok (by rw [ho]; exact ⟨rfl, rfl⟩)) h
theorem x_X6_renderSuit {l : Launch} {G : jG} {sh : jSh} {κ : jKt} {a0 : Nat} (ha0 : sh a0 = (1, 10, 11)) {x1 : Int32} {E : String} {κr : jKt} (h : P_X6_renderSuit κ a0 x1 = some (.error E, κr)) : jM l G yX6_renderSuit cX6_renderSuit 4 (some .int) 10 52 7248 343 [.ref a0, .int x1] (sh, κ) (fun _ _ => False) (jXs E (sh, κr)) :=
  r_body (by decide) (Nat.le_of_ble_eq_true rfl) fun F C hl hG hs ho hx => by
    subst hs
    exact w_X6_renderSuit_0 C ha0 (fin_er (by rw [hx]; exact ⟨rfl, rfl⟩)) h
set_option maxRecDepth 20000 in
theorem w_X6_change_0 {F : jFm} (C : jB F RX6 cX6_change 6 (some .int) 10 1 6 180) {κ : jKt} {a0 : Nat} (ha0 : jSof F a0 = (1, 10, 11)) {x1 : Int32} {x2 : Int32} {x3 : Int32} {x4 : Int32} {r : Except String Int32 × jKt} (hq : jFinX F (fun x => some (.int x)) r.1 r.2) (h : P_X6_change κ a0 x1 x2 x3 x4 = some r) : jW F 6 0 0 κ 0 [(0, .ref a0), (1, .int x1), (2, .int x2), (3, .int x3), (4, .int x4)] [] := by
  unfold P_X6_change at h
  refine r_aload_n C.1 0 1 rfl dX6_change_0 rfl ?_
  refine r_getR C.1 1 fl_X6_16 rfl ha0 4 rfl dX6_change_1 (fun (h33 : jSof F (kR κ a0 1) = (1, 9, 11)) => ?_)
  refine r_aload_n C.1 0 5 rfl dX6_change_4 rfl ?_
  refine r_getR C.1 0 fl_X6_12 rfl ha0 8 rfl dX6_change_5 (fun (h34 : jSof F (kR κ a0 0) = (1, 9, 11)) => ?_)
  obtain ⟨κ36, e35, h⟩ := bd_some h
  refine r_cVv C.1 (st := []) (c_X5_takeOver h33 h34 e35) yv_X5_takeOver ml_X6_65 rfl h33 rfl ⟨Nat.le_of_ble_eq_true rfl, Nat.le_of_ble_eq_true rfl⟩ ⟨Nat.le_of_ble_eq_true rfl, Nat.le_of_ble_eq_true rfl⟩ (Nat.le_of_ble_eq_true rfl) rfl 0 0 rfl rfl 11 rfl dX6_change_8 ?_
  refine r_aload_n C.1 0 12 rfl dX6_change_11 rfl ?_
  refine r_getR C.1 1 fl_X6_16 rfl ha0 15 rfl dX6_change_12 (fun (h37 : jSof F (kR κ36 a0 1) = (1, 9, 11)) => ?_)
  refine r_iload_n C.1 1 16 rfl dX6_change_15 rfl ?_
  refine r_iload_n C.1 2 17 rfl dX6_change_16 rfl ?_
  refine r_iload_n C.1 3 18 rfl dX6_change_17 rfl ?_
  refine r_iload C.1 4 20 rfl dX6_change_18 rfl ?_
  obtain ⟨y39, κ40, e38, h⟩ := bd2_some h
  refine r_cVi C.1 (st := []) (c_X5_perform h37 e38) yv_X5_perform ml_X6_69 rfl h37 rfl ⟨Nat.le_of_ble_eq_true rfl, Nat.le_of_ble_eq_true rfl⟩ ⟨Nat.le_of_ble_eq_true rfl, Nat.le_of_ble_eq_true rfl⟩ (Nat.le_of_ble_eq_true rfl) rfl 0 0 rfl rfl 23 rfl dX6_change_20 ?_
  refine r_istore C.1 (lv' := [(0, .ref a0), (1, .int x1), (2, .int x2), (3, .int x3), (4, .int x4), (5, .int y39)]) [1, 2, 3, 4, 5, 0] 25 rfl dX6_change_23 (Nat.le_of_ble_eq_true rfl) rfl ?_
  refine r_iload C.1 5 27 rfl dX6_change_25 rfl ?_
  refine r_if_ge C.1 35 30 rfl dX6_change_27 rfl ⟨fun c41 => ?_, fun c41 => ?_⟩
  · have h := if_some_t c41 h
    refine r_aload_n C.1 0 36 rfl dX6_change_35 rfl ?_
    obtain ⟨κ43, e42, h⟩ := bd_some h
    refine r_cVv C.1 (st := []) (c_X6_adoptTrial ha0 e42) yv_X6_adoptTrial ml_X6_76 rfl ha0 rfl ⟨Nat.le_of_ble_eq_true rfl, Nat.le_of_ble_eq_true rfl⟩ ⟨Nat.le_of_ble_eq_true rfl, Nat.le_of_ble_eq_true rfl⟩ (Nat.le_of_ble_eq_true rfl) rfl 0 0 rfl rfl 39 rfl dX6_change_36 ?_
    refine r_iload C.1 5 41 rfl dX6_change_39 rfl ?_
    cases h
    exact r_zret C rfl rfl (Nat.le_of_ble_eq_true rfl) (Nat.le_of_ble_eq_true rfl) dX6_change_41 hq
  · have h := if_some_f c41 h
    refine r_iload C.1 5 32 rfl dX6_change_30 rfl ?_
    rcases bdx_some h with ⟨y45, e44, h⟩ | ⟨E46, e44, h⟩
    rotate_left
    · cases h
      exact r_xS C.1 (st := []) (x_X6_refuse e44) yv_X6_refuse ml_X6_72 rfl ⟨Nat.le_of_ble_eq_true rfl, Nat.le_of_ble_eq_true rfl⟩ ⟨Nat.le_of_ble_eq_true rfl, Nat.le_of_ble_eq_true rfl⟩ (Nat.le_of_ble_eq_true rfl) rfl dX6_change_32 (r_out C (Nat.le_of_ble_eq_true rfl) (Nat.le_of_ble_eq_true rfl) hq)
    refine r_cSv C.1 (st := []) (c_X6_refuse e44) yv_X6_refuse ml_X6_72 rfl ⟨Nat.le_of_ble_eq_true rfl, Nat.le_of_ble_eq_true rfl⟩ ⟨Nat.le_of_ble_eq_true rfl, Nat.le_of_ble_eq_true rfl⟩ (Nat.le_of_ble_eq_true rfl) rfl 1 6 rfl rfl 35 rfl dX6_change_32 ?_
    refine r_aload_n C.1 0 36 rfl dX6_change_35 rfl ?_
    obtain ⟨κ48, e47, h⟩ := bd_some h
    refine r_cVv C.1 (st := []) (c_X6_adoptTrial ha0 e47) yv_X6_adoptTrial ml_X6_76 rfl ha0 rfl ⟨Nat.le_of_ble_eq_true rfl, Nat.le_of_ble_eq_true rfl⟩ ⟨Nat.le_of_ble_eq_true rfl, Nat.le_of_ble_eq_true rfl⟩ (Nat.le_of_ble_eq_true rfl) rfl 1 6 rfl rfl 39 rfl dX6_change_36 ?_
    refine r_iload C.1 5 41 rfl dX6_change_39 rfl ?_
    cases h
    exact r_zret C rfl rfl (Nat.le_of_ble_eq_true rfl) (Nat.le_of_ble_eq_true rfl) dX6_change_41 hq
theorem c_X6_change {l : Launch} {G : jG} {sh : jSh} {κ : jKt} {a0 : Nat} (ha0 : sh a0 = (1, 10, 11)) {x1 : Int32} {x2 : Int32} {x3 : Int32} {x4 : Int32} {r : Int32} {κr : jKt} (h : P_X6_change κ a0 x1 x2 x3 x4 = some (.ok r, κr)) : jM l G yX6_change cX6_change 6 (some .int) 10 1 6 180 [.ref a0, .int x1, .int x2, .int x3, .int x4] (sh, κ) (jIs (some (.int r)) (sh, κr)) jNo :=
  r_body (by decide) (Nat.le_of_ble_eq_true rfl) fun F C hl hG hs ho hx => by
    subst hs
    exact w_X6_change_0 C ha0 (fin_ok (by rw [ho]; exact ⟨rfl, rfl⟩)) h
theorem x_X6_change {l : Launch} {G : jG} {sh : jSh} {κ : jKt} {a0 : Nat} (ha0 : sh a0 = (1, 10, 11)) {x1 : Int32} {x2 : Int32} {x3 : Int32} {x4 : Int32} {E : String} {κr : jKt} (h : P_X6_change κ a0 x1 x2 x3 x4 = some (.error E, κr)) : jM l G yX6_change cX6_change 6 (some .int) 10 1 6 180 [.ref a0, .int x1, .int x2, .int x3, .int x4] (sh, κ) (fun _ _ => False) (jXs E (sh, κr)) :=
  r_body (by decide) (Nat.le_of_ble_eq_true rfl) fun F C hl hG hs ho hx => by
    subst hs
    exact w_X6_change_0 C ha0 (fin_er (by rw [hx]; exact ⟨rfl, rfl⟩)) h
set_option maxRecDepth 20000 in
theorem w_X6_sewingOrder_0 {F : jFm} (C : jB F RX6 cX6_sewingOrder 4 (some .int) 10 2 12 182) {κ : jKt} {a0 : Nat} (ha0 : jSof F a0 = (1, 10, 11)) {x1 : Int32} {x2 : Int32} {r : Except String Int32 × jKt} (hq : jFinX F (fun x => some (.int x)) r.1 r.2) (h : P_X6_sewingOrder κ a0 x1 x2 = some r) : jW F 4 0 0 κ 0 [(0, .ref a0), (1, .int x1), (2, .int x2)] [] := by
  unfold P_X6_sewingOrder at h
  refine r_aload_n C.1 0 1 rfl dX6_sewingOrder_0 rfl ?_
  refine r_getR C.1 6 fl_X6_37 rfl ha0 4 rfl dX6_sewingOrder_1 (fun (h27 : jSof F (kR κ a0 6) = (1, 5, 4)) => ?_)
  refine r_aload_n C.1 0 5 rfl dX6_sewingOrder_4 rfl ?_
  refine r_iload_n C.1 1 6 rfl dX6_sewingOrder_5 rfl ?_
  rcases bdx_some h with ⟨b29, e28, h⟩ | ⟨E30, e28, h⟩
  rotate_left
  · cases h
    exact r_xV C.1 (st := [.ref (kR κ a0 6)]) (x_X6_existing ha0 e28) yv_X6_existing ml_X6_173 rfl ha0 rfl ⟨Nat.le_of_ble_eq_true rfl, Nat.le_of_ble_eq_true rfl⟩ ⟨Nat.le_of_ble_eq_true rfl, Nat.le_of_ble_eq_true rfl⟩ (Nat.le_of_ble_eq_true rfl) rfl dX6_sewingOrder_6 (r_out C (Nat.le_of_ble_eq_true rfl) (Nat.le_of_ble_eq_true rfl) hq)
  refine r_cVr C.1 (st := [.ref (kR κ a0 6)]) (c_X6_existing ha0 e28) yv_X6_existing ml_X6_173 rfl ha0 rfl ⟨Nat.le_of_ble_eq_true rfl, Nat.le_of_ble_eq_true rfl⟩ ⟨Nat.le_of_ble_eq_true rfl, Nat.le_of_ble_eq_true rfl⟩ (Nat.le_of_ble_eq_true rfl) rfl 1 6 rfl rfl 9 rfl dX6_sewingOrder_6 (fun (h31 : jSof F b29 = (1, 8, 8)) => ?_)
  obtain ⟨y33, κ34, e32, h⟩ := bd2_some h
  refine r_cVi C.1 (st := []) (c_X1_findByScan h27 h31 e32) yv_X1_findByScan ml_X6_227 rfl h27 rfl ⟨Nat.le_of_ble_eq_true rfl, Nat.le_of_ble_eq_true rfl⟩ ⟨Nat.le_of_ble_eq_true rfl, Nat.le_of_ble_eq_true rfl⟩ (Nat.le_of_ble_eq_true rfl) rfl 1 6 rfl rfl 12 rfl dX6_sewingOrder_9 ?_
  refine r_istore_n C.1 (lv' := [(0, .ref a0), (1, .int x1), (2, .int x2), (3, .int y33)]) [1, 2, 3, 0] 13 rfl dX6_sewingOrder_12 (Nat.le_of_ble_eq_true rfl) rfl ?_
  refine r_aload_n C.1 0 14 rfl dX6_sewingOrder_13 rfl ?_
  refine r_getR C.1 6 fl_X6_37 rfl ha0 17 rfl dX6_sewingOrder_14 (fun (h35 : jSof F (kR κ34 a0 6) = (1, 5, 4)) => ?_)
  refine r_getR C.1 0 fl_X6_231 rfl h35 20 rfl dX6_sewingOrder_17 (fun (h36 : jSof F (kR κ34 (kR κ34 a0 6) 0) = (2, 0, 16)) => ?_)
  refine r_iload_n C.1 3 21 rfl dX6_sewingOrder_20 rfl ?_
  refine r_iload_n C.1 2 22 rfl dX6_sewingOrder_21 rfl ?_
  rcases bdx_some h with ⟨y38, e37, h⟩ | ⟨E39, e37, h⟩
  rotate_left
  · cases h
    exact r_xS C.1 (st := []) (x_X6_placeInOrder h36 e37) yv_X6_placeInOrder ml_X6_234 rfl ⟨Nat.le_of_ble_eq_true rfl, Nat.le_of_ble_eq_true rfl⟩ ⟨Nat.le_of_ble_eq_true rfl, Nat.le_of_ble_eq_true rfl⟩ (Nat.le_of_ble_eq_true rfl) rfl dX6_sewingOrder_22 (r_out C (Nat.le_of_ble_eq_true rfl) (Nat.le_of_ble_eq_true rfl) hq)
  refine r_cSi C.1 (st := []) (c_X6_placeInOrder h36 e37) yv_X6_placeInOrder ml_X6_234 rfl ⟨Nat.le_of_ble_eq_true rfl, Nat.le_of_ble_eq_true rfl⟩ ⟨Nat.le_of_ble_eq_true rfl, Nat.le_of_ble_eq_true rfl⟩ (Nat.le_of_ble_eq_true rfl) rfl 2 12 rfl rfl 25 rfl dX6_sewingOrder_22 ?_
  cases h
  exact r_zret C rfl rfl (Nat.le_of_ble_eq_true rfl) (Nat.le_of_ble_eq_true rfl) dX6_sewingOrder_25 hq
theorem c_X6_sewingOrder {l : Launch} {G : jG} {sh : jSh} {κ : jKt} {a0 : Nat} (ha0 : sh a0 = (1, 10, 11)) {x1 : Int32} {x2 : Int32} {r : Int32} {κr : jKt} (h : P_X6_sewingOrder κ a0 x1 x2 = some (.ok r, κr)) : jM l G yX6_sewingOrder cX6_sewingOrder 4 (some .int) 10 2 12 182 [.ref a0, .int x1, .int x2] (sh, κ) (jIs (some (.int r)) (sh, κr)) jNo :=
  r_body (by decide) (Nat.le_of_ble_eq_true rfl) fun F C hl hG hs ho hx => by
    subst hs
    exact w_X6_sewingOrder_0 C ha0 (fin_ok (by rw [ho]; exact ⟨rfl, rfl⟩)) h
theorem x_X6_sewingOrder {l : Launch} {G : jG} {sh : jSh} {κ : jKt} {a0 : Nat} (ha0 : sh a0 = (1, 10, 11)) {x1 : Int32} {x2 : Int32} {E : String} {κr : jKt} (h : P_X6_sewingOrder κ a0 x1 x2 = some (.error E, κr)) : jM l G yX6_sewingOrder cX6_sewingOrder 4 (some .int) 10 2 12 182 [.ref a0, .int x1, .int x2] (sh, κ) (fun _ _ => False) (jXs E (sh, κr)) :=
  r_body (by decide) (Nat.le_of_ble_eq_true rfl) fun F C hl hG hs ho hx => by
    subst hs
    exact w_X6_sewingOrder_0 C ha0 (fin_er (by rw [hx]; exact ⟨rfl, rfl⟩)) h
set_option maxRecDepth 20000 in
theorem w_X6_rounds_0 {F : jFm} (C : jB F RX6 cX6_rounds 2 (some .int) 10 1 6 182) {κ : jKt} {a0 : Nat} (ha0 : jSof F a0 = (1, 10, 11)) {x1 : Int32} {r : Except String Int32} (hq : jFinX F (fun x => some (.int x)) r κ) (h : P_X6_rounds κ a0 x1 = some r) : jW F 2 0 0 κ 0 [(0, .ref a0), (1, .int x1)] [] := by
  unfold P_X6_rounds at h
  refine r_aload_n C.1 0 1 rfl dX6_rounds_0 rfl ?_
  refine r_iload_n C.1 1 2 rfl dX6_rounds_1 rfl ?_
  rcases bdx_some h with ⟨b14, e13, h⟩ | ⟨E15, e13, h⟩
  rotate_left
  · cases h
    exact r_xV C.1 (st := []) (x_X6_existing ha0 e13) yv_X6_existing ml_X6_173 rfl ha0 rfl ⟨Nat.le_of_ble_eq_true rfl, Nat.le_of_ble_eq_true rfl⟩ ⟨Nat.le_of_ble_eq_true rfl, Nat.le_of_ble_eq_true rfl⟩ (Nat.le_of_ble_eq_true rfl) rfl dX6_rounds_2 (r_out C (Nat.le_of_ble_eq_true rfl) (Nat.le_of_ble_eq_true rfl) hq)
  refine r_cVr C.1 (st := []) (c_X6_existing ha0 e13) yv_X6_existing ml_X6_173 rfl ha0 rfl ⟨Nat.le_of_ble_eq_true rfl, Nat.le_of_ble_eq_true rfl⟩ ⟨Nat.le_of_ble_eq_true rfl, Nat.le_of_ble_eq_true rfl⟩ (Nat.le_of_ble_eq_true rfl) rfl 1 6 rfl rfl 5 rfl dX6_rounds_2 (fun (h16 : jSof F b14 = (1, 8, 8)) => ?_)
  obtain ⟨y18, e17, h⟩ := bd_some h
  refine r_cVi C.1 (st := []) (c_X4_roundsLeft h16 e17) yv_X4_roundsLeft ml_X6_244 rfl h16 rfl ⟨Nat.le_of_ble_eq_true rfl, Nat.le_of_ble_eq_true rfl⟩ ⟨Nat.le_of_ble_eq_true rfl, Nat.le_of_ble_eq_true rfl⟩ (Nat.le_of_ble_eq_true rfl) rfl 1 6 rfl rfl 8 rfl dX6_rounds_5 ?_
  cases h
  exact r_zret C rfl rfl (Nat.le_of_ble_eq_true rfl) (Nat.le_of_ble_eq_true rfl) dX6_rounds_8 hq
theorem c_X6_rounds {l : Launch} {G : jG} {sh : jSh} {κ : jKt} {a0 : Nat} (ha0 : sh a0 = (1, 10, 11)) {x1 : Int32} {r : Int32} (h : P_X6_rounds κ a0 x1 = some (.ok r)) : jM l G yX6_rounds cX6_rounds 2 (some .int) 10 1 6 182 [.ref a0, .int x1] (sh, κ) (jIs (some (.int r)) (sh, κ)) jNo :=
  r_body (by decide) (Nat.le_of_ble_eq_true rfl) fun F C hl hG hs ho hx => by
    subst hs
    exact w_X6_rounds_0 C ha0 (fin_ok (by rw [ho]; exact ⟨rfl, rfl⟩)) h
theorem x_X6_rounds {l : Launch} {G : jG} {sh : jSh} {κ : jKt} {a0 : Nat} (ha0 : sh a0 = (1, 10, 11)) {x1 : Int32} {E : String} (h : P_X6_rounds κ a0 x1 = some (.error E)) : jM l G yX6_rounds cX6_rounds 2 (some .int) 10 1 6 182 [.ref a0, .int x1] (sh, κ) (fun _ _ => False) (jXs E (sh, κ)) :=
  r_body (by decide) (Nat.le_of_ble_eq_true rfl) fun F C hl hG hs ho hx => by
    subst hs
    exact w_X6_rounds_0 C ha0 (fin_er (by rw [hx]; exact ⟨rfl, rfl⟩)) h
set_option maxRecDepth 20000 in
theorem w_X6_renderOrder_42 {F : jFm} (C : jB F RX6 cX6_renderOrder 4 (some .int) 10 35 4834 321) {κ : jKt} {a0 : Nat} (ha0 : jSof F a0 = (1, 10, 11)) {v2 : Int32} {v3 : Int32} {r : Except String Int32 × jKt} (hq : jFinX F (fun x => some (.int x)) r.1 r.2) {k1 k2 : Nat} (hk1 : k1 + 2 ≤ 35) (hk2 : k2 + 284 ≤ 4834) {K23 : jKt → Int32 → Option (Except String Int32 × jKt)} (hK23 : ∀ (κ : jKt) (u3 : Int32), K23 κ u3 = some r → ∀ k1a k2a, k1a ≤ k1 + 2 → k2a ≤ k2 + 284 → jW F 4 k1a k2a κ 23 [(0, .ref a0), (2, .int v2), (3, .int u3)] []) (h : P_X6_renderOrder_42 κ a0 v2 v3 K23 = some r) : jW F 4 (k1 + 1) (k2 + 142) κ 42 [(0, .ref a0), (2, .int v2), (3, .int v3)] [] := by
  unfold P_X6_renderOrder_42 at h
  refine r_aload_n C.1 0 43 rfl dX6_renderOrder_42 rfl ?_
  refine r_getR C.1 10 fl_X6_57 rfl ha0 46 rfl dX6_renderOrder_43 (fun (h59 : jSof F (kR κ a0 10) = (6, 0, 0)) => ?_)
  refine r_aload_n C.1 0 47 rfl dX6_renderOrder_46 rfl ?_
  refine r_getR C.1 6 fl_X6_37 rfl ha0 50 rfl dX6_renderOrder_47 (fun (h60 : jSof F (kR κ a0 6) = (1, 5, 4)) => ?_)
  refine r_getR C.1 0 fl_X6_231 rfl h60 53 rfl dX6_renderOrder_50 (fun (h61 : jSof F (kR κ (kR κ a0 6) 0) = (2, 0, 16)) => ?_)
  refine r_iload_n C.1 2 54 rfl dX6_renderOrder_53 rfl ?_
  obtain ⟨i62, h⟩ := ck_some h
  refine r_iald C.1 h61 i62 55 rfl dX6_renderOrder_54 ?_
  obtain ⟨b64, κ65, e63, h⟩ := bd2_some h
  refine r_cGr C.1 (st := []) (c_J4_append_bf812 h59 e63) yv_J4_append_bf812 ml_X6_322 (jCell_T C.1 h59) rfl ⟨Nat.le_of_ble_eq_true rfl, Nat.le_of_ble_eq_true rfl⟩ ⟨by omega, by omega⟩ (Nat.le_of_ble_eq_true rfl) rfl (k1 + 2) (k2 + 284) rfl rfl 58 rfl dX6_renderOrder_55 (fun (h66 : jSof F b64 = (6, 0, 0)) => ?_)
  refine r_pop C.1 rfl 59 rfl dX6_renderOrder_58 ?_
  refine r_iinc C.1 (lv' := [(0, .ref a0), (2, .int v2), (3, .int (v3 + 1))]) 2 [1, 2, 0] 62 rfl dX6_renderOrder_59 rfl (Nat.le_of_ble_eq_true rfl) rfl rfl ?_
  refine r_goto C.1 23 dX6_renderOrder_62 rfl ?_
  exact hK23 κ65 (v3 + 1) h _ _ (by omega) (by omega)
set_option maxRecDepth 20000 in
theorem w_X6_renderOrder_23 {F : jFm} (C : jB F RX6 cX6_renderOrder 4 (some .int) 10 35 4834 321) {a0 : Nat} (ha0 : jSof F a0 = (1, 10, 11)) {v2 : Int32} {r : Except String Int32 × jKt} (hq : jFinX F (fun x => some (.int x)) r.1 r.2) : ∀ (n : Nat) (κ : jKt) (v3 : Int32), P_X6_renderOrder_23 a0 v2 n κ v3 = some r → ∀ k1 k2, k1 + n * 2 ≤ 35 → k2 + n * 284 ≤ 4834 → jW F 4 k1 k2 κ 23 [(0, .ref a0), (2, .int v2), (3, .int v3)] [] := by
  intro n
  induction n with
  | zero => intro κ v3 h; cases h
  | succ n ih =>
    intro κ v3 h k1 k2 hk1 hk2
    rw [P_X6_renderOrder_23] at h
    refine r_iload_n C.1 2 24 rfl dX6_renderOrder_23 rfl ?_
    refine r_iload_n C.1 1 25 rfl dX6_renderOrder_24 rfl ?_
    refine r_icmp_ge C.1 65 28 rfl dX6_renderOrder_25 rfl ⟨fun c67 => ?_, fun c67 => ?_⟩
    · have h := if_some_t c67 h
      refine r_aload_n C.1 0 66 rfl dX6_renderOrder_65 rfl ?_
      refine r_getR C.1 10 fl_X6_57 rfl ha0 69 rfl dX6_renderOrder_66 (fun (h68 : jSof F (kR κ a0 10) = (6, 0, 0)) => ?_)
      obtain ⟨y70, e69, h⟩ := bd_some h
      refine r_cGi C.1 (st := []) (c_J4_length_8abf5 h68 e69) yv_J4_length_8abf5 ml_X6_319 (jCell_T C.1 h68) rfl ⟨Nat.le_of_ble_eq_true rfl, Nat.le_of_ble_eq_true rfl⟩ ⟨by omega, by omega⟩ (Nat.le_of_ble_eq_true rfl) rfl k1 k2 rfl rfl 72 rfl dX6_renderOrder_69 ?_
      cases h
      exact r_zret C rfl rfl (by omega) (by omega) dX6_renderOrder_72 hq
    · have h := if_some_f c67 h
      refine r_iload_n C.1 2 29 rfl dX6_renderOrder_28 rfl ?_
      refine r_if_le C.1 42 32 rfl dX6_renderOrder_29 rfl ⟨fun c71 => ?_, fun c71 => ?_⟩
      · have h := if_some_t c71 h
        refine r_wd (k1' := (k1 + 1)) (k2' := (k2 + 142)) (by omega) (by omega) ?_
        exact w_X6_renderOrder_42 C ha0 hq (k1 := k1) (k2 := k2) (by omega) (by omega) (fun κ u3 h k1a k2a g1 g2 => ih κ u3 h k1a k2a (by omega) (by omega)) h
      · have h := if_some_f c71 h
        refine r_aload_n C.1 0 33 rfl dX6_renderOrder_32 rfl ?_
        refine r_getR C.1 10 fl_X6_57 rfl ha0 36 rfl dX6_renderOrder_33 (fun (h72 : jSof F (kR κ a0 10) = (6, 0, 0)) => ?_)
        refine r_bipush C.1 44 rfl 38 rfl dX6_renderOrder_36 ?_
        obtain ⟨b74, κ75, e73, h⟩ := bd2_some h
        refine r_cGr C.1 (st := []) (c_J4_append_cf468 h72 e73) yv_J4_append_cf468 ml_X6_311 (jCell_T C.1 h72) rfl ⟨Nat.le_of_ble_eq_true rfl, Nat.le_of_ble_eq_true rfl⟩ ⟨by omega, by omega⟩ (Nat.le_of_ble_eq_true rfl) rfl (k1 + 1) (k2 + 142) rfl rfl 41 rfl dX6_renderOrder_38 (fun (h76 : jSof F b74 = (6, 0, 0)) => ?_)
        refine r_pop C.1 rfl 42 rfl dX6_renderOrder_41 ?_
        exact w_X6_renderOrder_42 C ha0 hq (k1 := k1) (k2 := k2) (by omega) (by omega) (fun κ u3 h k1a k2a g1 g2 => ih κ u3 h k1a k2a (by omega) (by omega)) h
set_option maxRecDepth 20000 in
theorem w_X6_renderOrder_0 {F : jFm} (C : jB F RX6 cX6_renderOrder 4 (some .int) 10 35 4834 321) {κ : jKt} {a0 : Nat} (ha0 : jSof F a0 = (1, 10, 11)) {x1 : Int32} {r : Except String Int32 × jKt} (hq : jFinX F (fun x => some (.int x)) r.1 r.2) (h : P_X6_renderOrder κ a0 x1 = some r) : jW F 4 0 0 κ 0 [(0, .ref a0), (1, .int x1)] [] := by
  unfold P_X6_renderOrder at h
  refine r_aload_n C.1 0 1 rfl dX6_renderOrder_0 rfl ?_
  refine r_getR C.1 6 fl_X6_37 rfl ha0 4 rfl dX6_renderOrder_1 (fun (h77 : jSof F (kR κ a0 6) = (1, 5, 4)) => ?_)
  refine r_aload_n C.1 0 5 rfl dX6_renderOrder_4 rfl ?_
  refine r_iload_n C.1 1 6 rfl dX6_renderOrder_5 rfl ?_
  rcases bdx_some h with ⟨b79, e78, h⟩ | ⟨E80, e78, h⟩
  rotate_left
  · cases h
    exact r_xV C.1 (st := [.ref (kR κ a0 6)]) (x_X6_existing ha0 e78) yv_X6_existing ml_X6_173 rfl ha0 rfl ⟨Nat.le_of_ble_eq_true rfl, Nat.le_of_ble_eq_true rfl⟩ ⟨Nat.le_of_ble_eq_true rfl, Nat.le_of_ble_eq_true rfl⟩ (Nat.le_of_ble_eq_true rfl) rfl dX6_renderOrder_6 (r_out C (Nat.le_of_ble_eq_true rfl) (Nat.le_of_ble_eq_true rfl) hq)
  refine r_cVr C.1 (st := [.ref (kR κ a0 6)]) (c_X6_existing ha0 e78) yv_X6_existing ml_X6_173 rfl ha0 rfl ⟨Nat.le_of_ble_eq_true rfl, Nat.le_of_ble_eq_true rfl⟩ ⟨Nat.le_of_ble_eq_true rfl, Nat.le_of_ble_eq_true rfl⟩ (Nat.le_of_ble_eq_true rfl) rfl 1 6 rfl rfl 9 rfl dX6_renderOrder_6 (fun (h81 : jSof F b79 = (1, 8, 8)) => ?_)
  obtain ⟨y83, κ84, e82, h⟩ := bd2_some h
  refine r_cVi C.1 (st := []) (c_X1_findByScan h77 h81 e82) yv_X1_findByScan ml_X6_227 rfl h77 rfl ⟨Nat.le_of_ble_eq_true rfl, Nat.le_of_ble_eq_true rfl⟩ ⟨Nat.le_of_ble_eq_true rfl, Nat.le_of_ble_eq_true rfl⟩ (Nat.le_of_ble_eq_true rfl) rfl 1 6 rfl rfl 12 rfl dX6_renderOrder_9 ?_
  refine r_istore_n C.1 (lv' := [(0, .ref a0), (1, .int x1), (2, .int y83)]) [1, 2, 0] 13 rfl dX6_renderOrder_12 (Nat.le_of_ble_eq_true rfl) rfl ?_
  refine r_aload_n C.1 0 14 rfl dX6_renderOrder_13 rfl ?_
  refine r_getR C.1 10 fl_X6_57 rfl ha0 17 rfl dX6_renderOrder_14 (fun (h85 : jSof F (kR κ84 a0 10) = (6, 0, 0)) => ?_)
  refine r_iconst C.1 0 rfl 18 rfl dX6_renderOrder_17 ?_
  obtain ⟨κ87, e86, h⟩ := bd_some h
  refine r_cGv C.1 (st := []) (c_J4_setLength_d00df h85 e86) yv_J4_setLength_d00df ml_X6_305 (jCell_T C.1 h85) rfl ⟨Nat.le_of_ble_eq_true rfl, Nat.le_of_ble_eq_true rfl⟩ ⟨Nat.le_of_ble_eq_true rfl, Nat.le_of_ble_eq_true rfl⟩ (Nat.le_of_ble_eq_true rfl) rfl 1 6 rfl rfl 21 rfl dX6_renderOrder_18 ?_
  refine r_iconst C.1 0 rfl 22 rfl dX6_renderOrder_21 ?_
  refine r_istore_n C.1 (lv' := [(0, .ref a0), (1, .int x1), (2, .int y83), (3, .int 0)]) [1, 2, 3, 0] 23 rfl dX6_renderOrder_22 (Nat.le_of_ble_eq_true rfl) rfl ?_
  refine r_lv [0, 2, 3] rfl ?_
  exact w_X6_renderOrder_23 C ha0 hq 17 κ87 0 h _ _ (by omega) (by omega)
theorem c_X6_renderOrder {l : Launch} {G : jG} {sh : jSh} {κ : jKt} {a0 : Nat} (ha0 : sh a0 = (1, 10, 11)) {x1 : Int32} {r : Int32} {κr : jKt} (h : P_X6_renderOrder κ a0 x1 = some (.ok r, κr)) : jM l G yX6_renderOrder cX6_renderOrder 4 (some .int) 10 35 4834 321 [.ref a0, .int x1] (sh, κ) (jIs (some (.int r)) (sh, κr)) jNo :=
  r_body (by decide) (Nat.le_of_ble_eq_true rfl) fun F C hl hG hs ho hx => by
    subst hs
    exact w_X6_renderOrder_0 C ha0 (fin_ok (by rw [ho]; exact ⟨rfl, rfl⟩)) h
theorem x_X6_renderOrder {l : Launch} {G : jG} {sh : jSh} {κ : jKt} {a0 : Nat} (ha0 : sh a0 = (1, 10, 11)) {x1 : Int32} {E : String} {κr : jKt} (h : P_X6_renderOrder κ a0 x1 = some (.error E, κr)) : jM l G yX6_renderOrder cX6_renderOrder 4 (some .int) 10 35 4834 321 [.ref a0, .int x1] (sh, κ) (fun _ _ => False) (jXs E (sh, κr)) :=
  r_body (by decide) (Nat.le_of_ble_eq_true rfl) fun F C hl hG hs ho hx => by
    subst hs
    exact w_X6_renderOrder_0 C ha0 (fin_er (by rw [hx]; exact ⟨rfl, rfl⟩)) h
set_option maxRecDepth 20000 in
theorem w_X6_buyCloth_0 {F : jFm} (C : jB F RX6 cX6_buyCloth 3 (some .int) 11 1 6 205) {κ : jKt} {a0 : Nat} (ha0 : jSof F a0 = (1, 10, 11)) {x1 : Int32} {x2 : Int32} {r : Except String Int32 × jKt} (hq : jFinX F (fun x => some (.int x)) r.1 r.2) (h : P_X6_buyCloth κ a0 x1 x2 = some r) : jW F 3 0 0 κ 0 [(0, .ref a0), (1, .int x1), (2, .int x2)] [] := by
  unfold P_X6_buyCloth at h
  refine r_aload_n C.1 0 1 rfl dX6_buyCloth_0 rfl ?_
  refine r_iconst C.1 0 rfl 2 rfl dX6_buyCloth_1 ?_
  refine r_iload_n C.1 1 3 rfl dX6_buyCloth_2 rfl ?_
  refine r_iload_n C.1 2 4 rfl dX6_buyCloth_3 rfl ?_
  refine r_iconst C.1 0 rfl 5 rfl dX6_buyCloth_4 ?_
  rcases bdx2_some h with ⟨y10, κ12, e9, h⟩ | ⟨E11, κ12, e9, h⟩
  rotate_left
  · cases h
    exact r_xV C.1 (st := []) (x_X6_change ha0 e9) yv_X6_change ml_X6_61 rfl ha0 rfl ⟨Nat.le_of_ble_eq_true rfl, Nat.le_of_ble_eq_true rfl⟩ ⟨Nat.le_of_ble_eq_true rfl, Nat.le_of_ble_eq_true rfl⟩ (Nat.le_of_ble_eq_true rfl) rfl dX6_buyCloth_5 (r_out C (Nat.le_of_ble_eq_true rfl) (Nat.le_of_ble_eq_true rfl) hq)
  refine r_cVi C.1 (st := []) (c_X6_change ha0 e9) yv_X6_change ml_X6_61 rfl ha0 rfl ⟨Nat.le_of_ble_eq_true rfl, Nat.le_of_ble_eq_true rfl⟩ ⟨Nat.le_of_ble_eq_true rfl, Nat.le_of_ble_eq_true rfl⟩ (Nat.le_of_ble_eq_true rfl) rfl 1 6 rfl rfl 8 rfl dX6_buyCloth_5 ?_
  cases h
  exact r_zret C rfl rfl (Nat.le_of_ble_eq_true rfl) (Nat.le_of_ble_eq_true rfl) dX6_buyCloth_8 hq
theorem c_X6_buyCloth {l : Launch} {G : jG} {sh : jSh} {κ : jKt} {a0 : Nat} (ha0 : sh a0 = (1, 10, 11)) {x1 : Int32} {x2 : Int32} {r : Int32} {κr : jKt} (h : P_X6_buyCloth κ a0 x1 x2 = some (.ok r, κr)) : jM l G yX6_buyCloth cX6_buyCloth 3 (some .int) 11 1 6 205 [.ref a0, .int x1, .int x2] (sh, κ) (jIs (some (.int r)) (sh, κr)) jNo :=
  r_body (by decide) (Nat.le_of_ble_eq_true rfl) fun F C hl hG hs ho hx => by
    subst hs
    exact w_X6_buyCloth_0 C ha0 (fin_ok (by rw [ho]; exact ⟨rfl, rfl⟩)) h
theorem x_X6_buyCloth {l : Launch} {G : jG} {sh : jSh} {κ : jKt} {a0 : Nat} (ha0 : sh a0 = (1, 10, 11)) {x1 : Int32} {x2 : Int32} {E : String} {κr : jKt} (h : P_X6_buyCloth κ a0 x1 x2 = some (.error E, κr)) : jM l G yX6_buyCloth cX6_buyCloth 3 (some .int) 11 1 6 205 [.ref a0, .int x1, .int x2] (sh, κ) (fun _ _ => False) (jXs E (sh, κr)) :=
  r_body (by decide) (Nat.le_of_ble_eq_true rfl) fun F C hl hG hs ho hx => by
    subst hs
    exact w_X6_buyCloth_0 C ha0 (fin_er (by rw [hx]; exact ⟨rfl, rfl⟩)) h
set_option maxRecDepth 20000 in
theorem w_X6_addCustomer_0 {F : jFm} (C : jB F RX6 cX6_addCustomer 3 (some .int) 11 1 6 205) {κ : jKt} {a0 : Nat} (ha0 : jSof F a0 = (1, 10, 11)) {x1 : Int32} {x2 : Int32} {r : Except String Int32 × jKt} (hq : jFinX F (fun x => some (.int x)) r.1 r.2) (h : P_X6_addCustomer κ a0 x1 x2 = some r) : jW F 3 0 0 κ 0 [(0, .ref a0), (1, .int x1), (2, .int x2)] [] := by
  unfold P_X6_addCustomer at h
  refine r_aload_n C.1 0 1 rfl dX6_addCustomer_0 rfl ?_
  refine r_iconst C.1 1 rfl 2 rfl dX6_addCustomer_1 ?_
  refine r_iload_n C.1 1 3 rfl dX6_addCustomer_2 rfl ?_
  refine r_iload_n C.1 2 4 rfl dX6_addCustomer_3 rfl ?_
  refine r_iconst C.1 0 rfl 5 rfl dX6_addCustomer_4 ?_
  rcases bdx2_some h with ⟨y10, κ12, e9, h⟩ | ⟨E11, κ12, e9, h⟩
  rotate_left
  · cases h
    exact r_xV C.1 (st := []) (x_X6_change ha0 e9) yv_X6_change ml_X6_61 rfl ha0 rfl ⟨Nat.le_of_ble_eq_true rfl, Nat.le_of_ble_eq_true rfl⟩ ⟨Nat.le_of_ble_eq_true rfl, Nat.le_of_ble_eq_true rfl⟩ (Nat.le_of_ble_eq_true rfl) rfl dX6_addCustomer_5 (r_out C (Nat.le_of_ble_eq_true rfl) (Nat.le_of_ble_eq_true rfl) hq)
  refine r_cVi C.1 (st := []) (c_X6_change ha0 e9) yv_X6_change ml_X6_61 rfl ha0 rfl ⟨Nat.le_of_ble_eq_true rfl, Nat.le_of_ble_eq_true rfl⟩ ⟨Nat.le_of_ble_eq_true rfl, Nat.le_of_ble_eq_true rfl⟩ (Nat.le_of_ble_eq_true rfl) rfl 1 6 rfl rfl 8 rfl dX6_addCustomer_5 ?_
  cases h
  exact r_zret C rfl rfl (Nat.le_of_ble_eq_true rfl) (Nat.le_of_ble_eq_true rfl) dX6_addCustomer_8 hq
theorem c_X6_addCustomer {l : Launch} {G : jG} {sh : jSh} {κ : jKt} {a0 : Nat} (ha0 : sh a0 = (1, 10, 11)) {x1 : Int32} {x2 : Int32} {r : Int32} {κr : jKt} (h : P_X6_addCustomer κ a0 x1 x2 = some (.ok r, κr)) : jM l G yX6_addCustomer cX6_addCustomer 3 (some .int) 11 1 6 205 [.ref a0, .int x1, .int x2] (sh, κ) (jIs (some (.int r)) (sh, κr)) jNo :=
  r_body (by decide) (Nat.le_of_ble_eq_true rfl) fun F C hl hG hs ho hx => by
    subst hs
    exact w_X6_addCustomer_0 C ha0 (fin_ok (by rw [ho]; exact ⟨rfl, rfl⟩)) h
theorem x_X6_addCustomer {l : Launch} {G : jG} {sh : jSh} {κ : jKt} {a0 : Nat} (ha0 : sh a0 = (1, 10, 11)) {x1 : Int32} {x2 : Int32} {E : String} {κr : jKt} (h : P_X6_addCustomer κ a0 x1 x2 = some (.error E, κr)) : jM l G yX6_addCustomer cX6_addCustomer 3 (some .int) 11 1 6 205 [.ref a0, .int x1, .int x2] (sh, κ) (fun _ _ => False) (jXs E (sh, κr)) :=
  r_body (by decide) (Nat.le_of_ble_eq_true rfl) fun F C hl hG hs ho hx => by
    subst hs
    exact w_X6_addCustomer_0 C ha0 (fin_er (by rw [hx]; exact ⟨rfl, rfl⟩)) h
set_option maxRecDepth 20000 in
theorem w_X6_fit_0 {F : jFm} (C : jB F RX6 cX6_fit 4 (some .int) 11 1 6 205) {κ : jKt} {a0 : Nat} (ha0 : jSof F a0 = (1, 10, 11)) {x1 : Int32} {x2 : Int32} {x3 : Int32} {r : Except String Int32 × jKt} (hq : jFinX F (fun x => some (.int x)) r.1 r.2) (h : P_X6_fit κ a0 x1 x2 x3 = some r) : jW F 4 0 0 κ 0 [(0, .ref a0), (1, .int x1), (2, .int x2), (3, .int x3)] [] := by
  unfold P_X6_fit at h
  refine r_aload_n C.1 0 1 rfl dX6_fit_0 rfl ?_
  refine r_iconst C.1 2 rfl 2 rfl dX6_fit_1 ?_
  refine r_iload_n C.1 1 3 rfl dX6_fit_2 rfl ?_
  refine r_iload_n C.1 2 4 rfl dX6_fit_3 rfl ?_
  refine r_iload_n C.1 3 5 rfl dX6_fit_4 rfl ?_
  rcases bdx2_some h with ⟨y10, κ12, e9, h⟩ | ⟨E11, κ12, e9, h⟩
  rotate_left
  · cases h
    exact r_xV C.1 (st := []) (x_X6_change ha0 e9) yv_X6_change ml_X6_61 rfl ha0 rfl ⟨Nat.le_of_ble_eq_true rfl, Nat.le_of_ble_eq_true rfl⟩ ⟨Nat.le_of_ble_eq_true rfl, Nat.le_of_ble_eq_true rfl⟩ (Nat.le_of_ble_eq_true rfl) rfl dX6_fit_5 (r_out C (Nat.le_of_ble_eq_true rfl) (Nat.le_of_ble_eq_true rfl) hq)
  refine r_cVi C.1 (st := []) (c_X6_change ha0 e9) yv_X6_change ml_X6_61 rfl ha0 rfl ⟨Nat.le_of_ble_eq_true rfl, Nat.le_of_ble_eq_true rfl⟩ ⟨Nat.le_of_ble_eq_true rfl, Nat.le_of_ble_eq_true rfl⟩ (Nat.le_of_ble_eq_true rfl) rfl 1 6 rfl rfl 8 rfl dX6_fit_5 ?_
  cases h
  exact r_zret C rfl rfl (Nat.le_of_ble_eq_true rfl) (Nat.le_of_ble_eq_true rfl) dX6_fit_8 hq
theorem c_X6_fit {l : Launch} {G : jG} {sh : jSh} {κ : jKt} {a0 : Nat} (ha0 : sh a0 = (1, 10, 11)) {x1 : Int32} {x2 : Int32} {x3 : Int32} {r : Int32} {κr : jKt} (h : P_X6_fit κ a0 x1 x2 x3 = some (.ok r, κr)) : jM l G yX6_fit cX6_fit 4 (some .int) 11 1 6 205 [.ref a0, .int x1, .int x2, .int x3] (sh, κ) (jIs (some (.int r)) (sh, κr)) jNo :=
  r_body (by decide) (Nat.le_of_ble_eq_true rfl) fun F C hl hG hs ho hx => by
    subst hs
    exact w_X6_fit_0 C ha0 (fin_ok (by rw [ho]; exact ⟨rfl, rfl⟩)) h
theorem x_X6_fit {l : Launch} {G : jG} {sh : jSh} {κ : jKt} {a0 : Nat} (ha0 : sh a0 = (1, 10, 11)) {x1 : Int32} {x2 : Int32} {x3 : Int32} {E : String} {κr : jKt} (h : P_X6_fit κ a0 x1 x2 x3 = some (.error E, κr)) : jM l G yX6_fit cX6_fit 4 (some .int) 11 1 6 205 [.ref a0, .int x1, .int x2, .int x3] (sh, κ) (fun _ _ => False) (jXs E (sh, κr)) :=
  r_body (by decide) (Nat.le_of_ble_eq_true rfl) fun F C hl hG hs ho hx => by
    subst hs
    exact w_X6_fit_0 C ha0 (fin_er (by rw [hx]; exact ⟨rfl, rfl⟩)) h
set_option maxRecDepth 20000 in
theorem w_X6_orderSuit_0 {F : jFm} (C : jB F RX6 cX6_orderSuit 3 (some .int) 11 1 6 205) {κ : jKt} {a0 : Nat} (ha0 : jSof F a0 = (1, 10, 11)) {x1 : Int32} {x2 : Int32} {r : Except String Int32 × jKt} (hq : jFinX F (fun x => some (.int x)) r.1 r.2) (h : P_X6_orderSuit κ a0 x1 x2 = some r) : jW F 3 0 0 κ 0 [(0, .ref a0), (1, .int x1), (2, .int x2)] [] := by
  unfold P_X6_orderSuit at h
  refine r_aload_n C.1 0 1 rfl dX6_orderSuit_0 rfl ?_
  refine r_iconst C.1 3 rfl 2 rfl dX6_orderSuit_1 ?_
  refine r_iload_n C.1 1 3 rfl dX6_orderSuit_2 rfl ?_
  refine r_iload_n C.1 2 4 rfl dX6_orderSuit_3 rfl ?_
  refine r_iconst C.1 0 rfl 5 rfl dX6_orderSuit_4 ?_
  rcases bdx2_some h with ⟨y10, κ12, e9, h⟩ | ⟨E11, κ12, e9, h⟩
  rotate_left
  · cases h
    exact r_xV C.1 (st := []) (x_X6_change ha0 e9) yv_X6_change ml_X6_61 rfl ha0 rfl ⟨Nat.le_of_ble_eq_true rfl, Nat.le_of_ble_eq_true rfl⟩ ⟨Nat.le_of_ble_eq_true rfl, Nat.le_of_ble_eq_true rfl⟩ (Nat.le_of_ble_eq_true rfl) rfl dX6_orderSuit_5 (r_out C (Nat.le_of_ble_eq_true rfl) (Nat.le_of_ble_eq_true rfl) hq)
  refine r_cVi C.1 (st := []) (c_X6_change ha0 e9) yv_X6_change ml_X6_61 rfl ha0 rfl ⟨Nat.le_of_ble_eq_true rfl, Nat.le_of_ble_eq_true rfl⟩ ⟨Nat.le_of_ble_eq_true rfl, Nat.le_of_ble_eq_true rfl⟩ (Nat.le_of_ble_eq_true rfl) rfl 1 6 rfl rfl 8 rfl dX6_orderSuit_5 ?_
  cases h
  exact r_zret C rfl rfl (Nat.le_of_ble_eq_true rfl) (Nat.le_of_ble_eq_true rfl) dX6_orderSuit_8 hq
theorem c_X6_orderSuit {l : Launch} {G : jG} {sh : jSh} {κ : jKt} {a0 : Nat} (ha0 : sh a0 = (1, 10, 11)) {x1 : Int32} {x2 : Int32} {r : Int32} {κr : jKt} (h : P_X6_orderSuit κ a0 x1 x2 = some (.ok r, κr)) : jM l G yX6_orderSuit cX6_orderSuit 3 (some .int) 11 1 6 205 [.ref a0, .int x1, .int x2] (sh, κ) (jIs (some (.int r)) (sh, κr)) jNo :=
  r_body (by decide) (Nat.le_of_ble_eq_true rfl) fun F C hl hG hs ho hx => by
    subst hs
    exact w_X6_orderSuit_0 C ha0 (fin_ok (by rw [ho]; exact ⟨rfl, rfl⟩)) h
theorem x_X6_orderSuit {l : Launch} {G : jG} {sh : jSh} {κ : jKt} {a0 : Nat} (ha0 : sh a0 = (1, 10, 11)) {x1 : Int32} {x2 : Int32} {E : String} {κr : jKt} (h : P_X6_orderSuit κ a0 x1 x2 = some (.error E, κr)) : jM l G yX6_orderSuit cX6_orderSuit 3 (some .int) 11 1 6 205 [.ref a0, .int x1, .int x2] (sh, κ) (fun _ _ => False) (jXs E (sh, κr)) :=
  r_body (by decide) (Nat.le_of_ble_eq_true rfl) fun F C hl hG hs ho hx => by
    subst hs
    exact w_X6_orderSuit_0 C ha0 (fin_er (by rw [hx]; exact ⟨rfl, rfl⟩)) h
set_option maxRecDepth 20000 in
theorem w_X6_cut_0 {F : jFm} (C : jB F RX6 cX6_cut 3 (some .int) 11 1 6 205) {κ : jKt} {a0 : Nat} (ha0 : jSof F a0 = (1, 10, 11)) {x1 : Int32} {x2 : Int32} {r : Except String Int32 × jKt} (hq : jFinX F (fun x => some (.int x)) r.1 r.2) (h : P_X6_cut κ a0 x1 x2 = some r) : jW F 3 0 0 κ 0 [(0, .ref a0), (1, .int x1), (2, .int x2)] [] := by
  unfold P_X6_cut at h
  refine r_aload_n C.1 0 1 rfl dX6_cut_0 rfl ?_
  refine r_iconst C.1 4 rfl 2 rfl dX6_cut_1 ?_
  refine r_iload_n C.1 1 3 rfl dX6_cut_2 rfl ?_
  refine r_iload_n C.1 2 4 rfl dX6_cut_3 rfl ?_
  refine r_iconst C.1 0 rfl 5 rfl dX6_cut_4 ?_
  rcases bdx2_some h with ⟨y10, κ12, e9, h⟩ | ⟨E11, κ12, e9, h⟩
  rotate_left
  · cases h
    exact r_xV C.1 (st := []) (x_X6_change ha0 e9) yv_X6_change ml_X6_61 rfl ha0 rfl ⟨Nat.le_of_ble_eq_true rfl, Nat.le_of_ble_eq_true rfl⟩ ⟨Nat.le_of_ble_eq_true rfl, Nat.le_of_ble_eq_true rfl⟩ (Nat.le_of_ble_eq_true rfl) rfl dX6_cut_5 (r_out C (Nat.le_of_ble_eq_true rfl) (Nat.le_of_ble_eq_true rfl) hq)
  refine r_cVi C.1 (st := []) (c_X6_change ha0 e9) yv_X6_change ml_X6_61 rfl ha0 rfl ⟨Nat.le_of_ble_eq_true rfl, Nat.le_of_ble_eq_true rfl⟩ ⟨Nat.le_of_ble_eq_true rfl, Nat.le_of_ble_eq_true rfl⟩ (Nat.le_of_ble_eq_true rfl) rfl 1 6 rfl rfl 8 rfl dX6_cut_5 ?_
  cases h
  exact r_zret C rfl rfl (Nat.le_of_ble_eq_true rfl) (Nat.le_of_ble_eq_true rfl) dX6_cut_8 hq
theorem c_X6_cut {l : Launch} {G : jG} {sh : jSh} {κ : jKt} {a0 : Nat} (ha0 : sh a0 = (1, 10, 11)) {x1 : Int32} {x2 : Int32} {r : Int32} {κr : jKt} (h : P_X6_cut κ a0 x1 x2 = some (.ok r, κr)) : jM l G yX6_cut cX6_cut 3 (some .int) 11 1 6 205 [.ref a0, .int x1, .int x2] (sh, κ) (jIs (some (.int r)) (sh, κr)) jNo :=
  r_body (by decide) (Nat.le_of_ble_eq_true rfl) fun F C hl hG hs ho hx => by
    subst hs
    exact w_X6_cut_0 C ha0 (fin_ok (by rw [ho]; exact ⟨rfl, rfl⟩)) h
theorem x_X6_cut {l : Launch} {G : jG} {sh : jSh} {κ : jKt} {a0 : Nat} (ha0 : sh a0 = (1, 10, 11)) {x1 : Int32} {x2 : Int32} {E : String} {κr : jKt} (h : P_X6_cut κ a0 x1 x2 = some (.error E, κr)) : jM l G yX6_cut cX6_cut 3 (some .int) 11 1 6 205 [.ref a0, .int x1, .int x2] (sh, κ) (fun _ _ => False) (jXs E (sh, κr)) :=
  r_body (by decide) (Nat.le_of_ble_eq_true rfl) fun F C hl hG hs ho hx => by
    subst hs
    exact w_X6_cut_0 C ha0 (fin_er (by rw [hx]; exact ⟨rfl, rfl⟩)) h
set_option maxRecDepth 20000 in
theorem w_X6_sew_0 {F : jFm} (C : jB F RX6 cX6_sew 3 (some .int) 11 1 6 205) {κ : jKt} {a0 : Nat} (ha0 : jSof F a0 = (1, 10, 11)) {x1 : Int32} {x2 : Int32} {r : Except String Int32 × jKt} (hq : jFinX F (fun x => some (.int x)) r.1 r.2) (h : P_X6_sew κ a0 x1 x2 = some r) : jW F 3 0 0 κ 0 [(0, .ref a0), (1, .int x1), (2, .int x2)] [] := by
  unfold P_X6_sew at h
  refine r_aload_n C.1 0 1 rfl dX6_sew_0 rfl ?_
  refine r_iconst C.1 5 rfl 2 rfl dX6_sew_1 ?_
  refine r_iload_n C.1 1 3 rfl dX6_sew_2 rfl ?_
  refine r_iload_n C.1 2 4 rfl dX6_sew_3 rfl ?_
  refine r_iconst C.1 0 rfl 5 rfl dX6_sew_4 ?_
  rcases bdx2_some h with ⟨y10, κ12, e9, h⟩ | ⟨E11, κ12, e9, h⟩
  rotate_left
  · cases h
    exact r_xV C.1 (st := []) (x_X6_change ha0 e9) yv_X6_change ml_X6_61 rfl ha0 rfl ⟨Nat.le_of_ble_eq_true rfl, Nat.le_of_ble_eq_true rfl⟩ ⟨Nat.le_of_ble_eq_true rfl, Nat.le_of_ble_eq_true rfl⟩ (Nat.le_of_ble_eq_true rfl) rfl dX6_sew_5 (r_out C (Nat.le_of_ble_eq_true rfl) (Nat.le_of_ble_eq_true rfl) hq)
  refine r_cVi C.1 (st := []) (c_X6_change ha0 e9) yv_X6_change ml_X6_61 rfl ha0 rfl ⟨Nat.le_of_ble_eq_true rfl, Nat.le_of_ble_eq_true rfl⟩ ⟨Nat.le_of_ble_eq_true rfl, Nat.le_of_ble_eq_true rfl⟩ (Nat.le_of_ble_eq_true rfl) rfl 1 6 rfl rfl 8 rfl dX6_sew_5 ?_
  cases h
  exact r_zret C rfl rfl (Nat.le_of_ble_eq_true rfl) (Nat.le_of_ble_eq_true rfl) dX6_sew_8 hq
theorem c_X6_sew {l : Launch} {G : jG} {sh : jSh} {κ : jKt} {a0 : Nat} (ha0 : sh a0 = (1, 10, 11)) {x1 : Int32} {x2 : Int32} {r : Int32} {κr : jKt} (h : P_X6_sew κ a0 x1 x2 = some (.ok r, κr)) : jM l G yX6_sew cX6_sew 3 (some .int) 11 1 6 205 [.ref a0, .int x1, .int x2] (sh, κ) (jIs (some (.int r)) (sh, κr)) jNo :=
  r_body (by decide) (Nat.le_of_ble_eq_true rfl) fun F C hl hG hs ho hx => by
    subst hs
    exact w_X6_sew_0 C ha0 (fin_ok (by rw [ho]; exact ⟨rfl, rfl⟩)) h
theorem x_X6_sew {l : Launch} {G : jG} {sh : jSh} {κ : jKt} {a0 : Nat} (ha0 : sh a0 = (1, 10, 11)) {x1 : Int32} {x2 : Int32} {E : String} {κr : jKt} (h : P_X6_sew κ a0 x1 x2 = some (.error E, κr)) : jM l G yX6_sew cX6_sew 3 (some .int) 11 1 6 205 [.ref a0, .int x1, .int x2] (sh, κ) (fun _ _ => False) (jXs E (sh, κr)) :=
  r_body (by decide) (Nat.le_of_ble_eq_true rfl) fun F C hl hG hs ho hx => by
    subst hs
    exact w_X6_sew_0 C ha0 (fin_er (by rw [hx]; exact ⟨rfl, rfl⟩)) h
set_option maxRecDepth 20000 in
theorem w_X6_unpick_0 {F : jFm} (C : jB F RX6 cX6_unpick 3 (some .int) 11 1 6 205) {κ : jKt} {a0 : Nat} (ha0 : jSof F a0 = (1, 10, 11)) {x1 : Int32} {x2 : Int32} {r : Except String Int32 × jKt} (hq : jFinX F (fun x => some (.int x)) r.1 r.2) (h : P_X6_unpick κ a0 x1 x2 = some r) : jW F 3 0 0 κ 0 [(0, .ref a0), (1, .int x1), (2, .int x2)] [] := by
  unfold P_X6_unpick at h
  refine r_aload_n C.1 0 1 rfl dX6_unpick_0 rfl ?_
  refine r_bipush C.1 6 rfl 3 rfl dX6_unpick_1 ?_
  refine r_iload_n C.1 1 4 rfl dX6_unpick_3 rfl ?_
  refine r_iload_n C.1 2 5 rfl dX6_unpick_4 rfl ?_
  refine r_iconst C.1 0 rfl 6 rfl dX6_unpick_5 ?_
  rcases bdx2_some h with ⟨y10, κ12, e9, h⟩ | ⟨E11, κ12, e9, h⟩
  rotate_left
  · cases h
    exact r_xV C.1 (st := []) (x_X6_change ha0 e9) yv_X6_change ml_X6_61 rfl ha0 rfl ⟨Nat.le_of_ble_eq_true rfl, Nat.le_of_ble_eq_true rfl⟩ ⟨Nat.le_of_ble_eq_true rfl, Nat.le_of_ble_eq_true rfl⟩ (Nat.le_of_ble_eq_true rfl) rfl dX6_unpick_6 (r_out C (Nat.le_of_ble_eq_true rfl) (Nat.le_of_ble_eq_true rfl) hq)
  refine r_cVi C.1 (st := []) (c_X6_change ha0 e9) yv_X6_change ml_X6_61 rfl ha0 rfl ⟨Nat.le_of_ble_eq_true rfl, Nat.le_of_ble_eq_true rfl⟩ ⟨Nat.le_of_ble_eq_true rfl, Nat.le_of_ble_eq_true rfl⟩ (Nat.le_of_ble_eq_true rfl) rfl 1 6 rfl rfl 9 rfl dX6_unpick_6 ?_
  cases h
  exact r_zret C rfl rfl (Nat.le_of_ble_eq_true rfl) (Nat.le_of_ble_eq_true rfl) dX6_unpick_9 hq
theorem c_X6_unpick {l : Launch} {G : jG} {sh : jSh} {κ : jKt} {a0 : Nat} (ha0 : sh a0 = (1, 10, 11)) {x1 : Int32} {x2 : Int32} {r : Int32} {κr : jKt} (h : P_X6_unpick κ a0 x1 x2 = some (.ok r, κr)) : jM l G yX6_unpick cX6_unpick 3 (some .int) 11 1 6 205 [.ref a0, .int x1, .int x2] (sh, κ) (jIs (some (.int r)) (sh, κr)) jNo :=
  r_body (by decide) (Nat.le_of_ble_eq_true rfl) fun F C hl hG hs ho hx => by
    subst hs
    exact w_X6_unpick_0 C ha0 (fin_ok (by rw [ho]; exact ⟨rfl, rfl⟩)) h
theorem x_X6_unpick {l : Launch} {G : jG} {sh : jSh} {κ : jKt} {a0 : Nat} (ha0 : sh a0 = (1, 10, 11)) {x1 : Int32} {x2 : Int32} {E : String} {κr : jKt} (h : P_X6_unpick κ a0 x1 x2 = some (.error E, κr)) : jM l G yX6_unpick cX6_unpick 3 (some .int) 11 1 6 205 [.ref a0, .int x1, .int x2] (sh, κ) (fun _ _ => False) (jXs E (sh, κr)) :=
  r_body (by decide) (Nat.le_of_ble_eq_true rfl) fun F C hl hG hs ho hx => by
    subst hs
    exact w_X6_unpick_0 C ha0 (fin_er (by rw [hx]; exact ⟨rfl, rfl⟩)) h
set_option maxRecDepth 20000 in
theorem w_X6_demand_0 {F : jFm} (C : jB F RX6 cX6_demand 4 (some .int) 11 1 6 205) {κ : jKt} {a0 : Nat} (ha0 : jSof F a0 = (1, 10, 11)) {x1 : Int32} {x2 : Int32} {x3 : Int32} {r : Except String Int32 × jKt} (hq : jFinX F (fun x => some (.int x)) r.1 r.2) (h : P_X6_demand κ a0 x1 x2 x3 = some r) : jW F 4 0 0 κ 0 [(0, .ref a0), (1, .int x1), (2, .int x2), (3, .int x3)] [] := by
  unfold P_X6_demand at h
  refine r_aload_n C.1 0 1 rfl dX6_demand_0 rfl ?_
  refine r_bipush C.1 7 rfl 3 rfl dX6_demand_1 ?_
  refine r_iload_n C.1 1 4 rfl dX6_demand_3 rfl ?_
  refine r_iload_n C.1 2 5 rfl dX6_demand_4 rfl ?_
  refine r_iload_n C.1 3 6 rfl dX6_demand_5 rfl ?_
  rcases bdx2_some h with ⟨y10, κ12, e9, h⟩ | ⟨E11, κ12, e9, h⟩
  rotate_left
  · cases h
    exact r_xV C.1 (st := []) (x_X6_change ha0 e9) yv_X6_change ml_X6_61 rfl ha0 rfl ⟨Nat.le_of_ble_eq_true rfl, Nat.le_of_ble_eq_true rfl⟩ ⟨Nat.le_of_ble_eq_true rfl, Nat.le_of_ble_eq_true rfl⟩ (Nat.le_of_ble_eq_true rfl) rfl dX6_demand_6 (r_out C (Nat.le_of_ble_eq_true rfl) (Nat.le_of_ble_eq_true rfl) hq)
  refine r_cVi C.1 (st := []) (c_X6_change ha0 e9) yv_X6_change ml_X6_61 rfl ha0 rfl ⟨Nat.le_of_ble_eq_true rfl, Nat.le_of_ble_eq_true rfl⟩ ⟨Nat.le_of_ble_eq_true rfl, Nat.le_of_ble_eq_true rfl⟩ (Nat.le_of_ble_eq_true rfl) rfl 1 6 rfl rfl 9 rfl dX6_demand_6 ?_
  cases h
  exact r_zret C rfl rfl (Nat.le_of_ble_eq_true rfl) (Nat.le_of_ble_eq_true rfl) dX6_demand_9 hq
theorem c_X6_demand {l : Launch} {G : jG} {sh : jSh} {κ : jKt} {a0 : Nat} (ha0 : sh a0 = (1, 10, 11)) {x1 : Int32} {x2 : Int32} {x3 : Int32} {r : Int32} {κr : jKt} (h : P_X6_demand κ a0 x1 x2 x3 = some (.ok r, κr)) : jM l G yX6_demand cX6_demand 4 (some .int) 11 1 6 205 [.ref a0, .int x1, .int x2, .int x3] (sh, κ) (jIs (some (.int r)) (sh, κr)) jNo :=
  r_body (by decide) (Nat.le_of_ble_eq_true rfl) fun F C hl hG hs ho hx => by
    subst hs
    exact w_X6_demand_0 C ha0 (fin_ok (by rw [ho]; exact ⟨rfl, rfl⟩)) h
theorem x_X6_demand {l : Launch} {G : jG} {sh : jSh} {κ : jKt} {a0 : Nat} (ha0 : sh a0 = (1, 10, 11)) {x1 : Int32} {x2 : Int32} {x3 : Int32} {E : String} {κr : jKt} (h : P_X6_demand κ a0 x1 x2 x3 = some (.error E, κr)) : jM l G yX6_demand cX6_demand 4 (some .int) 11 1 6 205 [.ref a0, .int x1, .int x2, .int x3] (sh, κ) (fun _ _ => False) (jXs E (sh, κr)) :=
  r_body (by decide) (Nat.le_of_ble_eq_true rfl) fun F C hl hG hs ho hx => by
    subst hs
    exact w_X6_demand_0 C ha0 (fin_er (by rw [hx]; exact ⟨rfl, rfl⟩)) h
set_option maxRecDepth 20000 in
theorem w_X6_deliver_0 {F : jFm} (C : jB F RX6 cX6_deliver 2 (some .int) 11 1 6 205) {κ : jKt} {a0 : Nat} (ha0 : jSof F a0 = (1, 10, 11)) {x1 : Int32} {r : Except String Int32 × jKt} (hq : jFinX F (fun x => some (.int x)) r.1 r.2) (h : P_X6_deliver κ a0 x1 = some r) : jW F 2 0 0 κ 0 [(0, .ref a0), (1, .int x1)] [] := by
  unfold P_X6_deliver at h
  refine r_aload_n C.1 0 1 rfl dX6_deliver_0 rfl ?_
  refine r_bipush C.1 8 rfl 3 rfl dX6_deliver_1 ?_
  refine r_iload_n C.1 1 4 rfl dX6_deliver_3 rfl ?_
  refine r_iconst C.1 0 rfl 5 rfl dX6_deliver_4 ?_
  refine r_iconst C.1 0 rfl 6 rfl dX6_deliver_5 ?_
  rcases bdx2_some h with ⟨y10, κ12, e9, h⟩ | ⟨E11, κ12, e9, h⟩
  rotate_left
  · cases h
    exact r_xV C.1 (st := []) (x_X6_change ha0 e9) yv_X6_change ml_X6_61 rfl ha0 rfl ⟨Nat.le_of_ble_eq_true rfl, Nat.le_of_ble_eq_true rfl⟩ ⟨Nat.le_of_ble_eq_true rfl, Nat.le_of_ble_eq_true rfl⟩ (Nat.le_of_ble_eq_true rfl) rfl dX6_deliver_6 (r_out C (Nat.le_of_ble_eq_true rfl) (Nat.le_of_ble_eq_true rfl) hq)
  refine r_cVi C.1 (st := []) (c_X6_change ha0 e9) yv_X6_change ml_X6_61 rfl ha0 rfl ⟨Nat.le_of_ble_eq_true rfl, Nat.le_of_ble_eq_true rfl⟩ ⟨Nat.le_of_ble_eq_true rfl, Nat.le_of_ble_eq_true rfl⟩ (Nat.le_of_ble_eq_true rfl) rfl 1 6 rfl rfl 9 rfl dX6_deliver_6 ?_
  cases h
  exact r_zret C rfl rfl (Nat.le_of_ble_eq_true rfl) (Nat.le_of_ble_eq_true rfl) dX6_deliver_9 hq
theorem c_X6_deliver {l : Launch} {G : jG} {sh : jSh} {κ : jKt} {a0 : Nat} (ha0 : sh a0 = (1, 10, 11)) {x1 : Int32} {r : Int32} {κr : jKt} (h : P_X6_deliver κ a0 x1 = some (.ok r, κr)) : jM l G yX6_deliver cX6_deliver 2 (some .int) 11 1 6 205 [.ref a0, .int x1] (sh, κ) (jIs (some (.int r)) (sh, κr)) jNo :=
  r_body (by decide) (Nat.le_of_ble_eq_true rfl) fun F C hl hG hs ho hx => by
    subst hs
    exact w_X6_deliver_0 C ha0 (fin_ok (by rw [ho]; exact ⟨rfl, rfl⟩)) h
theorem x_X6_deliver {l : Launch} {G : jG} {sh : jSh} {κ : jKt} {a0 : Nat} (ha0 : sh a0 = (1, 10, 11)) {x1 : Int32} {E : String} {κr : jKt} (h : P_X6_deliver κ a0 x1 = some (.error E, κr)) : jM l G yX6_deliver cX6_deliver 2 (some .int) 11 1 6 205 [.ref a0, .int x1] (sh, κ) (fun _ _ => False) (jXs E (sh, κr)) :=
  r_body (by decide) (Nat.le_of_ble_eq_true rfl) fun F C hl hG hs ho hx => by
    subst hs
    exact w_X6_deliver_0 C ha0 (fin_er (by rw [hx]; exact ⟨rfl, rfl⟩)) h
set_option maxRecDepth 20000 in
theorem w_X6_scrap_0 {F : jFm} (C : jB F RX6 cX6_scrap 2 (some .int) 11 1 6 205) {κ : jKt} {a0 : Nat} (ha0 : jSof F a0 = (1, 10, 11)) {x1 : Int32} {r : Except String Int32 × jKt} (hq : jFinX F (fun x => some (.int x)) r.1 r.2) (h : P_X6_scrap κ a0 x1 = some r) : jW F 2 0 0 κ 0 [(0, .ref a0), (1, .int x1)] [] := by
  unfold P_X6_scrap at h
  refine r_aload_n C.1 0 1 rfl dX6_scrap_0 rfl ?_
  refine r_bipush C.1 9 rfl 3 rfl dX6_scrap_1 ?_
  refine r_iload_n C.1 1 4 rfl dX6_scrap_3 rfl ?_
  refine r_iconst C.1 0 rfl 5 rfl dX6_scrap_4 ?_
  refine r_iconst C.1 0 rfl 6 rfl dX6_scrap_5 ?_
  rcases bdx2_some h with ⟨y10, κ12, e9, h⟩ | ⟨E11, κ12, e9, h⟩
  rotate_left
  · cases h
    exact r_xV C.1 (st := []) (x_X6_change ha0 e9) yv_X6_change ml_X6_61 rfl ha0 rfl ⟨Nat.le_of_ble_eq_true rfl, Nat.le_of_ble_eq_true rfl⟩ ⟨Nat.le_of_ble_eq_true rfl, Nat.le_of_ble_eq_true rfl⟩ (Nat.le_of_ble_eq_true rfl) rfl dX6_scrap_6 (r_out C (Nat.le_of_ble_eq_true rfl) (Nat.le_of_ble_eq_true rfl) hq)
  refine r_cVi C.1 (st := []) (c_X6_change ha0 e9) yv_X6_change ml_X6_61 rfl ha0 rfl ⟨Nat.le_of_ble_eq_true rfl, Nat.le_of_ble_eq_true rfl⟩ ⟨Nat.le_of_ble_eq_true rfl, Nat.le_of_ble_eq_true rfl⟩ (Nat.le_of_ble_eq_true rfl) rfl 1 6 rfl rfl 9 rfl dX6_scrap_6 ?_
  cases h
  exact r_zret C rfl rfl (Nat.le_of_ble_eq_true rfl) (Nat.le_of_ble_eq_true rfl) dX6_scrap_9 hq
theorem c_X6_scrap {l : Launch} {G : jG} {sh : jSh} {κ : jKt} {a0 : Nat} (ha0 : sh a0 = (1, 10, 11)) {x1 : Int32} {r : Int32} {κr : jKt} (h : P_X6_scrap κ a0 x1 = some (.ok r, κr)) : jM l G yX6_scrap cX6_scrap 2 (some .int) 11 1 6 205 [.ref a0, .int x1] (sh, κ) (jIs (some (.int r)) (sh, κr)) jNo :=
  r_body (by decide) (Nat.le_of_ble_eq_true rfl) fun F C hl hG hs ho hx => by
    subst hs
    exact w_X6_scrap_0 C ha0 (fin_ok (by rw [ho]; exact ⟨rfl, rfl⟩)) h
theorem x_X6_scrap {l : Launch} {G : jG} {sh : jSh} {κ : jKt} {a0 : Nat} (ha0 : sh a0 = (1, 10, 11)) {x1 : Int32} {E : String} {κr : jKt} (h : P_X6_scrap κ a0 x1 = some (.error E, κr)) : jM l G yX6_scrap cX6_scrap 2 (some .int) 11 1 6 205 [.ref a0, .int x1] (sh, κ) (fun _ _ => False) (jXs E (sh, κr)) :=
  r_body (by decide) (Nat.le_of_ble_eq_true rfl) fun F C hl hG hs ho hx => by
    subst hs
    exact w_X6_scrap_0 C ha0 (fin_er (by rw [hx]; exact ⟨rfl, rfl⟩)) h
set_option maxRecDepth 20000 in
theorem w_X6_sewingOrderByQueue_0 {F : jFm} (C : jB F RX6 cX6_sewingOrderByQueue 4 (some .int) 10 2 12 182) {κ : jKt} {a0 : Nat} (ha0 : jSof F a0 = (1, 10, 11)) {x1 : Int32} {x2 : Int32} {r : Except String Int32 × jKt} (hq : jFinX F (fun x => some (.int x)) r.1 r.2) (h : P_X6_sewingOrderByQueue κ a0 x1 x2 = some r) : jW F 4 0 0 κ 0 [(0, .ref a0), (1, .int x1), (2, .int x2)] [] := by
  unfold P_X6_sewingOrderByQueue at h
  refine r_aload_n C.1 0 1 rfl dX6_sewingOrderByQueue_0 rfl ?_
  refine r_getR C.1 6 fl_X6_37 rfl ha0 4 rfl dX6_sewingOrderByQueue_1 (fun (h27 : jSof F (kR κ a0 6) = (1, 5, 4)) => ?_)
  refine r_aload_n C.1 0 5 rfl dX6_sewingOrderByQueue_4 rfl ?_
  refine r_iload_n C.1 1 6 rfl dX6_sewingOrderByQueue_5 rfl ?_
  rcases bdx_some h with ⟨b29, e28, h⟩ | ⟨E30, e28, h⟩
  rotate_left
  · cases h
    exact r_xV C.1 (st := [.ref (kR κ a0 6)]) (x_X6_existing ha0 e28) yv_X6_existing ml_X6_173 rfl ha0 rfl ⟨Nat.le_of_ble_eq_true rfl, Nat.le_of_ble_eq_true rfl⟩ ⟨Nat.le_of_ble_eq_true rfl, Nat.le_of_ble_eq_true rfl⟩ (Nat.le_of_ble_eq_true rfl) rfl dX6_sewingOrderByQueue_6 (r_out C (Nat.le_of_ble_eq_true rfl) (Nat.le_of_ble_eq_true rfl) hq)
  refine r_cVr C.1 (st := [.ref (kR κ a0 6)]) (c_X6_existing ha0 e28) yv_X6_existing ml_X6_173 rfl ha0 rfl ⟨Nat.le_of_ble_eq_true rfl, Nat.le_of_ble_eq_true rfl⟩ ⟨Nat.le_of_ble_eq_true rfl, Nat.le_of_ble_eq_true rfl⟩ (Nat.le_of_ble_eq_true rfl) rfl 1 6 rfl rfl 9 rfl dX6_sewingOrderByQueue_6 (fun (h31 : jSof F b29 = (1, 8, 8)) => ?_)
  obtain ⟨y33, κ34, e32, h⟩ := bd2_some h
  refine r_cVi C.1 (st := []) (c_X1_findByQueue h27 h31 e32) yv_X1_findByQueue ml_X6_238 rfl h27 rfl ⟨Nat.le_of_ble_eq_true rfl, Nat.le_of_ble_eq_true rfl⟩ ⟨Nat.le_of_ble_eq_true rfl, Nat.le_of_ble_eq_true rfl⟩ (Nat.le_of_ble_eq_true rfl) rfl 1 6 rfl rfl 12 rfl dX6_sewingOrderByQueue_9 ?_
  refine r_istore_n C.1 (lv' := [(0, .ref a0), (1, .int x1), (2, .int x2), (3, .int y33)]) [1, 2, 3, 0] 13 rfl dX6_sewingOrderByQueue_12 (Nat.le_of_ble_eq_true rfl) rfl ?_
  refine r_aload_n C.1 0 14 rfl dX6_sewingOrderByQueue_13 rfl ?_
  refine r_getR C.1 6 fl_X6_37 rfl ha0 17 rfl dX6_sewingOrderByQueue_14 (fun (h35 : jSof F (kR κ34 a0 6) = (1, 5, 4)) => ?_)
  refine r_getR C.1 1 fl_X6_241 rfl h35 20 rfl dX6_sewingOrderByQueue_17 (fun (h36 : jSof F (kR κ34 (kR κ34 a0 6) 1) = (2, 0, 16)) => ?_)
  refine r_iload_n C.1 3 21 rfl dX6_sewingOrderByQueue_20 rfl ?_
  refine r_iload_n C.1 2 22 rfl dX6_sewingOrderByQueue_21 rfl ?_
  rcases bdx_some h with ⟨y38, e37, h⟩ | ⟨E39, e37, h⟩
  rotate_left
  · cases h
    exact r_xS C.1 (st := []) (x_X6_placeInOrder h36 e37) yv_X6_placeInOrder ml_X6_234 rfl ⟨Nat.le_of_ble_eq_true rfl, Nat.le_of_ble_eq_true rfl⟩ ⟨Nat.le_of_ble_eq_true rfl, Nat.le_of_ble_eq_true rfl⟩ (Nat.le_of_ble_eq_true rfl) rfl dX6_sewingOrderByQueue_22 (r_out C (Nat.le_of_ble_eq_true rfl) (Nat.le_of_ble_eq_true rfl) hq)
  refine r_cSi C.1 (st := []) (c_X6_placeInOrder h36 e37) yv_X6_placeInOrder ml_X6_234 rfl ⟨Nat.le_of_ble_eq_true rfl, Nat.le_of_ble_eq_true rfl⟩ ⟨Nat.le_of_ble_eq_true rfl, Nat.le_of_ble_eq_true rfl⟩ (Nat.le_of_ble_eq_true rfl) rfl 2 12 rfl rfl 25 rfl dX6_sewingOrderByQueue_22 ?_
  cases h
  exact r_zret C rfl rfl (Nat.le_of_ble_eq_true rfl) (Nat.le_of_ble_eq_true rfl) dX6_sewingOrderByQueue_25 hq
theorem c_X6_sewingOrderByQueue {l : Launch} {G : jG} {sh : jSh} {κ : jKt} {a0 : Nat} (ha0 : sh a0 = (1, 10, 11)) {x1 : Int32} {x2 : Int32} {r : Int32} {κr : jKt} (h : P_X6_sewingOrderByQueue κ a0 x1 x2 = some (.ok r, κr)) : jM l G yX6_sewingOrderByQueue cX6_sewingOrderByQueue 4 (some .int) 10 2 12 182 [.ref a0, .int x1, .int x2] (sh, κ) (jIs (some (.int r)) (sh, κr)) jNo :=
  r_body (by decide) (Nat.le_of_ble_eq_true rfl) fun F C hl hG hs ho hx => by
    subst hs
    exact w_X6_sewingOrderByQueue_0 C ha0 (fin_ok (by rw [ho]; exact ⟨rfl, rfl⟩)) h
theorem x_X6_sewingOrderByQueue {l : Launch} {G : jG} {sh : jSh} {κ : jKt} {a0 : Nat} (ha0 : sh a0 = (1, 10, 11)) {x1 : Int32} {x2 : Int32} {E : String} {κr : jKt} (h : P_X6_sewingOrderByQueue κ a0 x1 x2 = some (.error E, κr)) : jM l G yX6_sewingOrderByQueue cX6_sewingOrderByQueue 4 (some .int) 10 2 12 182 [.ref a0, .int x1, .int x2] (sh, κ) (fun _ _ => False) (jXs E (sh, κr)) :=
  r_body (by decide) (Nat.le_of_ble_eq_true rfl) fun F C hl hG hs ho hx => by
    subst hs
    exact w_X6_sewingOrderByQueue_0 C ha0 (fin_er (by rw [hx]; exact ⟨rfl, rfl⟩)) h
set_option maxRecDepth 20000 in
theorem w_X6_isSuitConsistent_0 {F : jFm} (C : jB F RX6 cX6_isSuitConsistent 3 (some .boolean) 5 0 0 116) {κ : jKt} {a0 : Nat} (ha0 : jSof F a0 = (1, 10, 11)) {a1 : Nat} (ha1 : jSof F a1 = (1, 8, 8)) {r : Int32 × jKt} (hq : jOut F (some (.int r.1)) r.2) (h : P_X6_isSuitConsistent κ a0 a1 = some r) : jW F 3 0 0 κ 0 [(0, .ref a0), (1, .ref a1)] [] := by
  unfold P_X6_isSuitConsistent at h
  refine r_aload_n C.1 0 1 rfl dX6_isSuitConsistent_0 rfl ?_
  refine r_getR C.1 0 fl_X6_12 rfl ha0 4 rfl dX6_isSuitConsistent_1 (fun (h41 : jSof F (kR κ a0 0) = (1, 9, 11)) => ?_)
  refine r_aload_n C.1 1 5 rfl dX6_isSuitConsistent_4 rfl ?_
  obtain ⟨b43, e42, h⟩ := bd_some h
  refine r_cVr C.1 (st := []) (c_X5_wearerOf h41 ha1 e42) yv_X5_wearerOf ml_X6_197 rfl h41 rfl ⟨Nat.le_of_ble_eq_true rfl, Nat.le_of_ble_eq_true rfl⟩ ⟨Nat.le_of_ble_eq_true rfl, Nat.le_of_ble_eq_true rfl⟩ (Nat.le_of_ble_eq_true rfl) rfl 0 0 rfl rfl 8 rfl dX6_isSuitConsistent_5 (fun (h44 : jSof F b43 = (1, 4, 2)) => ?_)
  refine r_astore_n C.1 (lv' := [(0, .ref a0), (1, .ref a1), (2, .ref b43)]) [1, 2, 0] 9 rfl dX6_isSuitConsistent_8 (Nat.le_of_ble_eq_true rfl) rfl ?_
  refine r_aload_n C.1 0 10 rfl dX6_isSuitConsistent_9 rfl ?_
  refine r_getR C.1 6 fl_X6_37 rfl ha0 13 rfl dX6_isSuitConsistent_10 (fun (h45 : jSof F (kR κ a0 6) = (1, 5, 4)) => ?_)
  refine r_aload_n C.1 1 14 rfl dX6_isSuitConsistent_13 rfl ?_
  obtain ⟨y47, κ48, e46, h⟩ := bd2_some h
  refine r_cVi C.1 (st := []) (c_X1_bothWaysAgree h45 ha1 e46) yv_X1_bothWaysAgree ml_X6_296 rfl h45 rfl ⟨Nat.le_of_ble_eq_true rfl, Nat.le_of_ble_eq_true rfl⟩ ⟨Nat.le_of_ble_eq_true rfl, Nat.le_of_ble_eq_true rfl⟩ (Nat.le_of_ble_eq_true rfl) rfl 0 0 rfl rfl 17 rfl dX6_isSuitConsistent_14 ?_
  refine r_if_eq C.1 51 20 rfl dX6_isSuitConsistent_17 rfl ⟨fun c49 => ?_, fun c49 => ?_⟩
  · have h := if_some_t c49 h
    refine r_iconst C.1 0 rfl 52 rfl dX6_isSuitConsistent_51 ?_
    cases h
    exact r_zret C rfl rfl (Nat.le_of_ble_eq_true rfl) (Nat.le_of_ble_eq_true rfl) dX6_isSuitConsistent_52 hq
  · have h := if_some_f c49 h
    refine r_aload_n C.1 1 21 rfl dX6_isSuitConsistent_20 rfl ?_
    refine r_aload_n C.1 2 22 rfl dX6_isSuitConsistent_21 rfl ?_
    obtain ⟨y51, e50, h⟩ := bd_some h
    refine r_cVi C.1 (st := []) (c_X4_neededBySleeve ha1 h44 e50) yv_X4_neededBySleeve ml_X6_247 rfl ha1 rfl ⟨Nat.le_of_ble_eq_true rfl, Nat.le_of_ble_eq_true rfl⟩ ⟨Nat.le_of_ble_eq_true rfl, Nat.le_of_ble_eq_true rfl⟩ (Nat.le_of_ble_eq_true rfl) rfl 0 0 rfl rfl 25 rfl dX6_isSuitConsistent_22 ?_
    refine r_aload_n C.1 1 26 rfl dX6_isSuitConsistent_25 rfl ?_
    refine r_aload_n C.1 2 27 rfl dX6_isSuitConsistent_26 rfl ?_
    obtain ⟨y53, e52, h⟩ := bd_some h
    refine r_cVi C.1 (st := [.int y51]) (c_X4_neededByDifference ha1 h44 e52) yv_X4_neededByDifference ml_X6_250 rfl ha1 rfl ⟨Nat.le_of_ble_eq_true rfl, Nat.le_of_ble_eq_true rfl⟩ ⟨Nat.le_of_ble_eq_true rfl, Nat.le_of_ble_eq_true rfl⟩ (Nat.le_of_ble_eq_true rfl) rfl 0 0 rfl rfl 30 rfl dX6_isSuitConsistent_27 ?_
    refine r_icmp_ne C.1 51 33 rfl dX6_isSuitConsistent_30 rfl ⟨fun c54 => ?_, fun c54 => ?_⟩
    · have h := if_some_f c54 h
      refine r_iconst C.1 0 rfl 52 rfl dX6_isSuitConsistent_51 ?_
      cases h
      exact r_zret C rfl rfl (Nat.le_of_ble_eq_true rfl) (Nat.le_of_ble_eq_true rfl) dX6_isSuitConsistent_52 hq
    · have h := if_some_t c54 h
      refine r_aload_n C.1 1 34 rfl dX6_isSuitConsistent_33 rfl ?_
      obtain ⟨y56, e55, h⟩ := bd_some h
      refine r_cVi C.1 (st := []) (c_X4_hasCycle ha1 e55) yv_X4_hasCycle ml_X6_299 rfl ha1 rfl ⟨Nat.le_of_ble_eq_true rfl, Nat.le_of_ble_eq_true rfl⟩ ⟨Nat.le_of_ble_eq_true rfl, Nat.le_of_ble_eq_true rfl⟩ (Nat.le_of_ble_eq_true rfl) rfl 0 0 rfl rfl 37 rfl dX6_isSuitConsistent_34 ?_
      refine r_if_ne C.1 51 40 rfl dX6_isSuitConsistent_37 rfl ⟨fun c57 => ?_, fun c57 => ?_⟩
      · have h := if_some_f c57 h
        refine r_iconst C.1 0 rfl 52 rfl dX6_isSuitConsistent_51 ?_
        cases h
        exact r_zret C rfl rfl (Nat.le_of_ble_eq_true rfl) (Nat.le_of_ble_eq_true rfl) dX6_isSuitConsistent_52 hq
      · have h := if_some_t c57 h
        refine r_aload_n C.1 1 41 rfl dX6_isSuitConsistent_40 rfl ?_
        obtain ⟨y59, e58, h⟩ := bd_some h
        refine r_cVi C.1 (st := []) (c_X4_isSewnInOrder ha1 e58) yv_X4_isSewnInOrder ml_X6_302 rfl ha1 rfl ⟨Nat.le_of_ble_eq_true rfl, Nat.le_of_ble_eq_true rfl⟩ ⟨Nat.le_of_ble_eq_true rfl, Nat.le_of_ble_eq_true rfl⟩ (Nat.le_of_ble_eq_true rfl) rfl 0 0 rfl rfl 44 rfl dX6_isSuitConsistent_41 ?_
        refine r_if_eq C.1 51 47 rfl dX6_isSuitConsistent_44 rfl ⟨fun c60 => ?_, fun c60 => ?_⟩
        · have h := if_some_t c60 h
          refine r_iconst C.1 0 rfl 52 rfl dX6_isSuitConsistent_51 ?_
          cases h
          exact r_zret C rfl rfl (Nat.le_of_ble_eq_true rfl) (Nat.le_of_ble_eq_true rfl) dX6_isSuitConsistent_52 hq
        · have h := if_some_f c60 h
          refine r_iconst C.1 1 rfl 48 rfl dX6_isSuitConsistent_47 ?_
          refine r_goto C.1 52 dX6_isSuitConsistent_48 rfl ?_
          cases h
          exact r_zret C rfl rfl (Nat.le_of_ble_eq_true rfl) (Nat.le_of_ble_eq_true rfl) dX6_isSuitConsistent_52 hq
theorem c_X6_isSuitConsistent {l : Launch} {G : jG} {sh : jSh} {κ : jKt} {a0 : Nat} (ha0 : sh a0 = (1, 10, 11)) {a1 : Nat} (ha1 : sh a1 = (1, 8, 8)) {r : Int32} {κr : jKt} (h : P_X6_isSuitConsistent κ a0 a1 = some (r, κr)) : jM l G yX6_isSuitConsistent cX6_isSuitConsistent 3 (some .boolean) 5 0 0 116 [.ref a0, .ref a1] (sh, κ) (jIs (some (.int r)) (sh, κr)) jNo :=
  r_body (by decide) (Nat.le_of_ble_eq_true rfl) fun F C hl hG hs ho hx => by
    subst hs
    exact w_X6_isSuitConsistent_0 C ha0 ha1 (by rw [ho]; exact ⟨rfl, rfl⟩) h
set_option maxRecDepth 20000 in
theorem w_X6_isConsistent_2 {F : jFm} (C : jB F RX6 cX6_isConsistent 2 (some .boolean) 6 0 0 138) {a0 : Nat} (ha0 : jSof F a0 = (1, 10, 11)) {r : Int32 × jKt} (hq : jOut F (some (.int r.1)) r.2) : ∀ (n : Nat) (κ : jKt) (v1 : Int32), P_X6_isConsistent_2 a0 n κ v1 = some r → jW F 2 0 0 κ 2 [(0, .ref a0), (1, .int v1)] [] := by
  intro n
  induction n with
  | zero => intro κ v1 h; cases h
  | succ n ih =>
    intro κ v1 h
    rw [P_X6_isConsistent_2] at h
    refine r_iload_n C.1 1 3 rfl dX6_isConsistent_2 rfl ?_
    refine r_aload_n C.1 0 4 rfl dX6_isConsistent_3 rfl ?_
    refine r_getR C.1 0 fl_X6_12 rfl ha0 7 rfl dX6_isConsistent_4 (fun (h29 : jSof F (kR κ a0 0) = (1, 9, 11)) => ?_)
    refine r_getI C.1 4 fl_X6_159 rfl h29 10 rfl dX6_isConsistent_7 ?_
    refine r_icmp_ge C.1 37 13 rfl dX6_isConsistent_10 rfl ⟨fun c30 => ?_, fun c30 => ?_⟩
    · have h := if_some_t c30 h
      refine r_aload_n C.1 0 38 rfl dX6_isConsistent_37 rfl ?_
      refine r_getR C.1 0 fl_X6_12 rfl ha0 41 rfl dX6_isConsistent_38 (fun (h31 : jSof F (kR κ a0 0) = (1, 9, 11)) => ?_)
      obtain ⟨y33, e32, h⟩ := bd_some h
      refine r_cVi C.1 (st := []) (c_X5_accountsForCloth h31 e32) yv_X5_accountsForCloth ml_X6_293 rfl h31 rfl ⟨Nat.le_of_ble_eq_true rfl, Nat.le_of_ble_eq_true rfl⟩ ⟨Nat.le_of_ble_eq_true rfl, Nat.le_of_ble_eq_true rfl⟩ (Nat.le_of_ble_eq_true rfl) rfl 0 0 rfl rfl 44 rfl dX6_isConsistent_41 ?_
      obtain ⟨z34, h⟩ := ck_some h
      cases h
      exact r_zret C rfl (jz_narrow z34) (Nat.le_of_ble_eq_true rfl) (Nat.le_of_ble_eq_true rfl) dX6_isConsistent_44 hq
    · have h := if_some_f c30 h
      refine r_aload_n C.1 0 14 rfl dX6_isConsistent_13 rfl ?_
      refine r_aload_n C.1 0 15 rfl dX6_isConsistent_14 rfl ?_
      refine r_getR C.1 0 fl_X6_12 rfl ha0 18 rfl dX6_isConsistent_15 (fun (h35 : jSof F (kR κ a0 0) = (1, 9, 11)) => ?_)
      refine r_getR C.1 3 fl_X6_164 rfl h35 21 rfl dX6_isConsistent_18 (fun (h36 : jSof F (kR κ (kR κ a0 0) 3) = (2, 6, 6)) => ?_)
      refine r_iload_n C.1 1 22 rfl dX6_isConsistent_21 rfl ?_
      obtain ⟨i37, h⟩ := ck_some h
      refine r_aald C.1 rfl rfl h36 i37 23 rfl dX6_isConsistent_22 (fun (h38 : jSof F (kR κ (kR κ (kR κ a0 0) 3) (ix v1)) = (1, 8, 8)) => ?_)
      obtain ⟨y40, κ41, e39, h⟩ := bd2_some h
      refine r_cVi C.1 (st := []) (c_X6_isSuitConsistent ha0 h38 e39) yv_X6_isSuitConsistent ml_X6_289 rfl ha0 rfl ⟨Nat.le_of_ble_eq_true rfl, Nat.le_of_ble_eq_true rfl⟩ ⟨Nat.le_of_ble_eq_true rfl, Nat.le_of_ble_eq_true rfl⟩ (Nat.le_of_ble_eq_true rfl) rfl 0 0 rfl rfl 26 rfl dX6_isConsistent_23 ?_
      refine r_if_ne C.1 31 29 rfl dX6_isConsistent_26 rfl ⟨fun c42 => ?_, fun c42 => ?_⟩
      · have h := if_some_f c42 h
        refine r_iinc C.1 (lv' := [(0, .ref a0), (1, .int (v1 + 1))]) 1 [1, 0] 34 rfl dX6_isConsistent_31 rfl (Nat.le_of_ble_eq_true rfl) rfl rfl ?_
        refine r_goto C.1 2 dX6_isConsistent_34 rfl ?_
        exact ih κ41 (v1 + 1) h
      · have h := if_some_t c42 h
        refine r_iconst C.1 0 rfl 30 rfl dX6_isConsistent_29 ?_
        cases h
        exact r_zret C rfl rfl (Nat.le_of_ble_eq_true rfl) (Nat.le_of_ble_eq_true rfl) dX6_isConsistent_30 hq
set_option maxRecDepth 20000 in
theorem w_X6_isConsistent_0 {F : jFm} (C : jB F RX6 cX6_isConsistent 2 (some .boolean) 6 0 0 138) {κ : jKt} {a0 : Nat} (ha0 : jSof F a0 = (1, 10, 11)) {r : Int32 × jKt} (hq : jOut F (some (.int r.1)) r.2) (h : P_X6_isConsistent κ a0 = some r) : jW F 2 0 0 κ 0 [(0, .ref a0)] [] := by
  unfold P_X6_isConsistent at h
  refine r_iconst C.1 0 rfl 1 rfl dX6_isConsistent_0 ?_
  refine r_istore_n C.1 (lv' := [(0, .ref a0), (1, .int 0)]) [1, 0] 2 rfl dX6_isConsistent_1 (Nat.le_of_ble_eq_true rfl) rfl ?_
  exact w_X6_isConsistent_2 C ha0 hq 4000 κ 0 h
theorem c_X6_isConsistent {l : Launch} {G : jG} {sh : jSh} {κ : jKt} {a0 : Nat} (ha0 : sh a0 = (1, 10, 11)) {r : Int32} {κr : jKt} (h : P_X6_isConsistent κ a0 = some (r, κr)) : jM l G yX6_isConsistent cX6_isConsistent 2 (some .boolean) 6 0 0 138 [.ref a0] (sh, κ) (jIs (some (.int r)) (sh, κr)) jNo :=
  r_body (by decide) (Nat.le_of_ble_eq_true rfl) fun F C hl hG hs ho hx => by
    subst hs
    exact w_X6_isConsistent_0 C ha0 (by rw [ho]; exact ⟨rfl, rfl⟩) h
set_option maxRecDepth 20000 in
theorem w_X6_runScript_0 {F : jFm} (C : jB F RX6 cX6_runScript 3 (some .int) 9 1 6 160) {κ : jKt} {a0 : Nat} (ha0 : jSof F a0 = (1, 10, 11)) {r : Except String Int32 × jKt} (hq : jFinX F (fun x => some (.int x)) r.1 r.2) (h : P_X6_runScript κ a0 = some r) : jW F 3 0 0 κ 0 [(0, .ref a0)] [] := by
  unfold P_X6_runScript at h
  refine r_aload_n C.1 0 1 rfl dX6_runScript_0 rfl ?_
  refine r_getR C.1 7 fl_X6_44 rfl ha0 4 rfl dX6_runScript_1 (fun (h51 : jSof F (kR κ a0 7) = (1, 6, 5)) => ?_)
  obtain ⟨y53, κ54, e52, h⟩ := bd2_some h
  refine r_cVi C.1 (st := []) (c_X2_read h51 e52) yv_X2_read ml_X6_340 rfl h51 rfl ⟨Nat.le_of_ble_eq_true rfl, Nat.le_of_ble_eq_true rfl⟩ ⟨Nat.le_of_ble_eq_true rfl, Nat.le_of_ble_eq_true rfl⟩ (Nat.le_of_ble_eq_true rfl) rfl 0 0 rfl rfl 7 rfl dX6_runScript_4 ?_
  refine r_istore_n C.1 (lv' := [(0, .ref a0), (1, .int y53)]) [1, 0] 8 rfl dX6_runScript_7 (Nat.le_of_ble_eq_true rfl) rfl ?_
  refine r_aload_n C.1 0 9 rfl dX6_runScript_8 rfl ?_
  refine r_getR C.1 7 fl_X6_44 rfl ha0 12 rfl dX6_runScript_9 (fun (h55 : jSof F (kR κ54 a0 7) = (1, 6, 5)) => ?_)
  refine r_iconst C.1 0 rfl 13 rfl dX6_runScript_12 ?_
  obtain ⟨κ56, e57, h⟩ := bnd_some h
  refine r_putI C.1 1 fw_X6_333 rfl rfl rfl h55 e57 16 rfl dX6_runScript_13 ?_
  refine r_iload_n C.1 1 17 rfl dX6_runScript_16 rfl ?_
  refine r_iconst C.1 (-1) rfl 18 rfl dX6_runScript_17 ?_
  refine r_icmp_eq C.1 37 21 rfl dX6_runScript_18 rfl ⟨fun c58 => ?_, fun c58 => ?_⟩
  · have h := if_some_t c58 h
    refine r_aload_n C.1 0 38 rfl dX6_runScript_37 rfl ?_
    refine r_getR C.1 1 fl_X6_16 rfl ha0 41 rfl dX6_runScript_38 (fun (h59 : jSof F (kR κ56 a0 1) = (1, 9, 11)) => ?_)
    refine r_aload_n C.1 0 42 rfl dX6_runScript_41 rfl ?_
    refine r_getR C.1 0 fl_X6_12 rfl ha0 45 rfl dX6_runScript_42 (fun (h60 : jSof F (kR κ56 a0 0) = (1, 9, 11)) => ?_)
    obtain ⟨κ62, e61, h⟩ := bd_some h
    refine r_cVv C.1 (st := []) (c_X5_takeOver h59 h60 e61) yv_X5_takeOver ml_X6_65 rfl h59 rfl ⟨Nat.le_of_ble_eq_true rfl, Nat.le_of_ble_eq_true rfl⟩ ⟨Nat.le_of_ble_eq_true rfl, Nat.le_of_ble_eq_true rfl⟩ (Nat.le_of_ble_eq_true rfl) rfl 0 0 rfl rfl 48 rfl dX6_runScript_45 ?_
    refine r_aload_n C.1 0 49 rfl dX6_runScript_48 rfl ?_
    refine r_getR C.1 7 fl_X6_44 rfl ha0 52 rfl dX6_runScript_49 (fun (h63 : jSof F (kR κ62 a0 7) = (1, 6, 5)) => ?_)
    refine r_aload_n C.1 0 53 rfl dX6_runScript_52 rfl ?_
    refine r_getR C.1 1 fl_X6_16 rfl ha0 56 rfl dX6_runScript_53 (fun (h64 : jSof F (kR κ62 a0 1) = (1, 9, 11)) => ?_)
    obtain ⟨y66, κ67, e65, h⟩ := bd2_some h
    refine r_cVi C.1 (st := []) (c_X2_performIn h63 h64 e65) yv_X2_performIn ml_X6_345 rfl h63 rfl ⟨Nat.le_of_ble_eq_true rfl, Nat.le_of_ble_eq_true rfl⟩ ⟨Nat.le_of_ble_eq_true rfl, Nat.le_of_ble_eq_true rfl⟩ (Nat.le_of_ble_eq_true rfl) rfl 0 0 rfl rfl 59 rfl dX6_runScript_56 ?_
    refine r_istore_n C.1 (lv' := [(0, .ref a0), (1, .int y53), (2, .int y66)]) [1, 2, 0] 60 rfl dX6_runScript_59 (Nat.le_of_ble_eq_true rfl) rfl ?_
    refine r_iload_n C.1 2 61 rfl dX6_runScript_60 rfl ?_
    refine r_iconst C.1 (-1) rfl 62 rfl dX6_runScript_61 ?_
    refine r_icmp_eq C.1 81 65 rfl dX6_runScript_62 rfl ⟨fun c68 => ?_, fun c68 => ?_⟩
    · have h := if_some_t c68 h
      refine r_aload_n C.1 0 82 rfl dX6_runScript_81 rfl ?_
      obtain ⟨κ70, e69, h⟩ := bd_some h
      refine r_cVv C.1 (st := []) (c_X6_adoptTrial ha0 e69) yv_X6_adoptTrial ml_X6_76 rfl ha0 rfl ⟨Nat.le_of_ble_eq_true rfl, Nat.le_of_ble_eq_true rfl⟩ ⟨Nat.le_of_ble_eq_true rfl, Nat.le_of_ble_eq_true rfl⟩ (Nat.le_of_ble_eq_true rfl) rfl 0 0 rfl rfl 85 rfl dX6_runScript_82 ?_
      refine r_aload_n C.1 0 86 rfl dX6_runScript_85 rfl ?_
      refine r_getR C.1 7 fl_X6_44 rfl ha0 89 rfl dX6_runScript_86 (fun (h71 : jSof F (kR κ70 a0 7) = (1, 6, 5)) => ?_)
      refine r_getI C.1 4 fl_X6_351 rfl h71 92 rfl dX6_runScript_89 ?_
      cases h
      exact r_zret C rfl rfl (Nat.le_of_ble_eq_true rfl) (Nat.le_of_ble_eq_true rfl) dX6_runScript_92 hq
    · have h := if_some_f c68 h
      refine r_aload_n C.1 0 66 rfl dX6_runScript_65 rfl ?_
      refine r_iload_n C.1 2 67 rfl dX6_runScript_66 rfl ?_
      obtain ⟨κ72, e73, h⟩ := bnd_some h
      refine r_putI C.1 9 fw_X6_51 rfl rfl rfl ha0 e73 70 rfl dX6_runScript_67 ?_
      cases h
      exact r_throwW C (Nat.le_of_ble_eq_true rfl) (Nat.le_of_ble_eq_true rfl) (Nat.le_of_ble_eq_true rfl) (Nat.le_of_ble_eq_true rfl) th_X6_96_349_100 dX6_runScript_70 dX6_runScript_73 dX6_runScript_74 dX6_runScript_77 dX6_runScript_80 hq
  · have h := if_some_f c58 h
    refine r_aload_n C.1 0 22 rfl dX6_runScript_21 rfl ?_
    refine r_iload_n C.1 1 23 rfl dX6_runScript_22 rfl ?_
    obtain ⟨κ74, e75, h⟩ := bnd_some h
    refine r_putI C.1 8 fw_X6_48 rfl rfl rfl ha0 e75 26 rfl dX6_runScript_23 ?_
    cases h
    exact r_throwW C (Nat.le_of_ble_eq_true rfl) (Nat.le_of_ble_eq_true rfl) (Nat.le_of_ble_eq_true rfl) (Nat.le_of_ble_eq_true rfl) th_X6_91_343_95 dX6_runScript_26 dX6_runScript_29 dX6_runScript_30 dX6_runScript_33 dX6_runScript_36 hq
theorem c_X6_runScript {l : Launch} {G : jG} {sh : jSh} {κ : jKt} {a0 : Nat} (ha0 : sh a0 = (1, 10, 11)) {r : Int32} {κr : jKt} (h : P_X6_runScript κ a0 = some (.ok r, κr)) : jM l G yX6_runScript cX6_runScript 3 (some .int) 9 1 6 160 [.ref a0] (sh, κ) (jIs (some (.int r)) (sh, κr)) jNo :=
  r_body (by decide) (Nat.le_of_ble_eq_true rfl) fun F C hl hG hs ho hx => by
    subst hs
    exact w_X6_runScript_0 C ha0 (fin_ok (by rw [ho]; exact ⟨rfl, rfl⟩)) h
theorem x_X6_runScript {l : Launch} {G : jG} {sh : jSh} {κ : jKt} {a0 : Nat} (ha0 : sh a0 = (1, 10, 11)) {E : String} {κr : jKt} (h : P_X6_runScript κ a0 = some (.error E, κr)) : jM l G yX6_runScript cX6_runScript 3 (some .int) 9 1 6 160 [.ref a0] (sh, κ) (fun _ _ => False) (jXs E (sh, κr)) :=
  r_body (by decide) (Nat.le_of_ble_eq_true rfl) fun F C hl hG hs ho hx => by
    subst hs
    exact w_X6_runScript_0 C ha0 (fin_er (by rw [hx]; exact ⟨rfl, rfl⟩)) h
