/-! pure methods and walks: ['TailorWorkshopLaw'] -/
def P_L_buyCloth (κ : jKt) (a0 : Nat) (x1 : Int32) (x2 : Int32) (a3 : Nat) : Option (Int32 × jKt) :=
  bdx2 (P_X6_buyCloth κ a0 x1 x2) (fun E21 κ22 => if E21 = "java/lang/IndexOutOfBoundsException" then
  some (1, κ22)
  else if E21 = "java/lang/IllegalArgumentException" then
  some (2, κ22)
  else if E21 = "java/lang/UnsupportedOperationException" then
  some (3, κ22)
  else none) fun y20 κ22 =>
  bnd (kU κ22 a3 (ix 0) (.long y20.toInt64)) fun κ26 =>
  some (0, κ26)
def P_L_addCustomer (κ : jKt) (a0 : Nat) (x1 : Int32) (x2 : Int32) (a3 : Nat) : Option (Int32 × jKt) :=
  bdx2 (P_X6_addCustomer κ a0 x1 x2) (fun E19 κ20 => if E19 = "java/lang/IllegalArgumentException" then
  some (1, κ20)
  else if E19 = "java/lang/IllegalStateException" then
  some (2, κ20)
  else none) fun y18 κ20 =>
  bnd (kU κ20 a3 (ix 0) (.long y18.toInt64)) fun κ23 =>
  some (0, κ23)
def P_L_fit (κ : jKt) (a0 : Nat) (x1 : Int32) (x2 : Int32) (x3 : Int32) (a4 : Nat) : Option (Int32 × jKt) :=
  bdx2 (P_X6_fit κ a0 x1 x2 x3) (fun E19 κ20 => if E19 = "java/lang/IndexOutOfBoundsException" then
  some (1, κ20)
  else if E19 = "java/lang/IllegalArgumentException" then
  some (2, κ20)
  else none) fun y18 κ20 =>
  bnd (kU κ20 a4 (ix 0) (.long y18.toInt64)) fun κ23 =>
  some (0, κ23)
def P_L_orderSuit (κ : jKt) (a0 : Nat) (x1 : Int32) (x2 : Int32) (a3 : Nat) : Option (Int32 × jKt) :=
  bdx2 (P_X6_orderSuit κ a0 x1 x2) (fun E19 κ20 => if E19 = "java/lang/IndexOutOfBoundsException" then
  some (1, κ20)
  else if E19 = "java/lang/IllegalStateException" then
  some (2, κ20)
  else none) fun y18 κ20 =>
  bnd (kU κ20 a3 (ix 0) (.long y18.toInt64)) fun κ23 =>
  some (0, κ23)
def P_L_cut (κ : jKt) (a0 : Nat) (x1 : Int32) (x2 : Int32) (a3 : Nat) : Option (Int32 × jKt) :=
  bdx2 (P_X6_cut κ a0 x1 x2) (fun E23 κ24 => if E23 = "java/util/NoSuchElementException" then
  some (1, κ24)
  else if E23 = "java/lang/IndexOutOfBoundsException" then
  some (2, κ24)
  else if E23 = "java/lang/IllegalStateException" then
  some (3, κ24)
  else if E23 = "java/lang/UnsupportedOperationException" then
  some (4, κ24)
  else none) fun y22 κ24 =>
  bnd (kU κ24 a3 (ix 0) (.long y22.toInt64)) fun κ29 =>
  some (0, κ29)
def P_L_sew (κ : jKt) (a0 : Nat) (x1 : Int32) (x2 : Int32) (a3 : Nat) : Option (Int32 × jKt) :=
  bdx2 (P_X6_sew κ a0 x1 x2) (fun E23 κ24 => if E23 = "java/util/NoSuchElementException" then
  some (1, κ24)
  else if E23 = "java/lang/IndexOutOfBoundsException" then
  some (2, κ24)
  else if E23 = "java/lang/IllegalStateException" then
  some (3, κ24)
  else if E23 = "java/lang/UnsupportedOperationException" then
  some (4, κ24)
  else none) fun y22 κ24 =>
  bnd (kU κ24 a3 (ix 0) (.long y22.toInt64)) fun κ29 =>
  some (0, κ29)
def P_L_unpick (κ : jKt) (a0 : Nat) (x1 : Int32) (x2 : Int32) (a3 : Nat) : Option (Int32 × jKt) :=
  bdx2 (P_X6_unpick κ a0 x1 x2) (fun E23 κ24 => if E23 = "java/util/NoSuchElementException" then
  some (1, κ24)
  else if E23 = "java/lang/IndexOutOfBoundsException" then
  some (2, κ24)
  else if E23 = "java/lang/IllegalStateException" then
  some (3, κ24)
  else if E23 = "java/lang/UnsupportedOperationException" then
  some (4, κ24)
  else none) fun y22 κ24 =>
  bnd (kU κ24 a3 (ix 0) (.long y22.toInt64)) fun κ29 =>
  some (0, κ29)
def P_L_demand (κ : jKt) (a0 : Nat) (x1 : Int32) (x2 : Int32) (x3 : Int32) (a4 : Nat) : Option (Int32 × jKt) :=
  bdx2 (P_X6_demand κ a0 x1 x2 x3) (fun E25 κ26 => if E25 = "java/util/NoSuchElementException" then
  some (1, κ26)
  else if E25 = "java/lang/IndexOutOfBoundsException" then
  some (2, κ26)
  else if E25 = "java/lang/IllegalArgumentException" then
  some (3, κ26)
  else if E25 = "java/lang/IllegalStateException" then
  some (4, κ26)
  else if E25 = "java/lang/UnsupportedOperationException" then
  some (5, κ26)
  else none) fun y24 κ26 =>
  bnd (kU κ26 a4 (ix 0) (.long y24.toInt64)) fun κ32 =>
  some (0, κ32)
def P_L_deliver (κ : jKt) (a0 : Nat) (x1 : Int32) (a2 : Nat) : Option (Int32 × jKt) :=
  bdx2 (P_X6_deliver κ a0 x1) (fun E19 κ20 => if E19 = "java/util/NoSuchElementException" then
  some (1, κ20)
  else if E19 = "java/lang/IllegalStateException" then
  some (2, κ20)
  else none) fun y18 κ20 =>
  bnd (kU κ20 a2 (ix 0) (.long y18.toInt64)) fun κ23 =>
  some (0, κ23)
def P_L_scrap (κ : jKt) (a0 : Nat) (x1 : Int32) (a2 : Nat) : Option (Int32 × jKt) :=
  bdx2 (P_X6_scrap κ a0 x1) (fun E17 κ18 => if E17 = "java/util/NoSuchElementException" then
  some (1, κ18)
  else none) fun y16 κ18 =>
  bnd (kU κ18 a2 (ix 0) (.long y16.toInt64)) fun κ20 =>
  some (0, κ20)
def P_L_stock (κ : jKt) (a0 : Nat) (x1 : Int32) (a2 : Nat) : Option (Int32 × jKt) :=
  bdx (P_X6_stock κ a0 x1) (fun E15 => if E15 = "java/lang/IndexOutOfBoundsException" then
  some (1, κ)
  else none) fun y14 =>
  bnd (kU κ a2 (ix 0) (.long y14.toInt64)) fun κ17 =>
  some (0, κ17)
def P_L_pairs (κ : jKt) (a0 : Nat) (x1 : Int32) (a2 : Nat) : Option (Int32 × jKt) :=
  bdx (P_X6_pairs κ a0 x1) (fun E15 => if E15 = "java/lang/IndexOutOfBoundsException" then
  some (1, κ)
  else none) fun y14 =>
  bnd (kU κ a2 (ix 0) (.long y14.toInt64)) fun κ17 =>
  some (0, κ17)
def P_L_legLength (κ : jKt) (a0 : Nat) (x1 : Int32) (x2 : Int32) (a3 : Nat) : Option (Int32 × jKt) :=
  bdx (P_X6_legLength κ a0 x1 x2) (fun E15 => if E15 = "java/lang/IndexOutOfBoundsException" then
  some (1, κ)
  else none) fun y14 =>
  bnd (kU κ a3 (ix 0) (.long y14.toInt64)) fun κ17 =>
  some (0, κ17)
def P_L_mirrorLeg (κ : jKt) (a0 : Nat) (x1 : Int32) (x2 : Int32) (a3 : Nat) : Option (Int32 × jKt) :=
  bdx (P_X6_mirrorLeg κ a0 x1 x2) (fun E15 => if E15 = "java/lang/IndexOutOfBoundsException" then
  some (1, κ)
  else none) fun y14 =>
  bnd (kU κ a3 (ix 0) (.long y14.toInt64)) fun κ17 =>
  some (0, κ17)
def P_L_isMirrored (κ : jKt) (a0 : Nat) (x1 : Int32) (a2 : Nat) : Option (Int32 × jKt) :=
  bdx (P_X6_isMirrored κ a0 x1) (fun E21 => if E21 = "java/lang/IndexOutOfBoundsException" then
  some (1, κ)
  else none) fun y20 =>
  if y20 = 0 then
  bnd (kU κ a2 (ix 0) (.long 0)) fun κ24 =>
  some (0, κ24)
  else
  bnd (kU κ a2 (ix 0) (.long 1)) fun κ26 =>
  some (0, κ26)
def P_L_customerByLegs (κ : jKt) (a0 : Nat) (x1 : Int32) (a2 : Nat) : Option (Int32 × jKt) :=
  bdx (P_X6_customerByLegs κ a0 x1) (fun E15 => if E15 = "java/util/NoSuchElementException" then
  some (1, κ)
  else none) fun y14 =>
  bnd (kU κ a2 (ix 0) (.long y14.toInt64)) fun κ17 =>
  some (0, κ17)
def P_L_suitAt (κ : jKt) (a0 : Nat) (x1 : Int32) (a2 : Nat) : Option (Int32 × jKt) :=
  bdx (P_X6_suitAt κ a0 x1) (fun E15 => if E15 = "java/util/NoSuchElementException" then
  some (1, κ)
  else none) fun y14 =>
  bnd (kU κ a2 (ix 0) (.long y14.toInt64)) fun κ17 =>
  some (0, κ17)
def P_L_customerOf (κ : jKt) (a0 : Nat) (x1 : Int32) (a2 : Nat) : Option (Int32 × jKt) :=
  bdx (P_X6_customerOf κ a0 x1) (fun E15 => if E15 = "java/util/NoSuchElementException" then
  some (1, κ)
  else none) fun y14 =>
  bnd (kU κ a2 (ix 0) (.long y14.toInt64)) fun κ17 =>
  some (0, κ17)
def P_L_clothOf (κ : jKt) (a0 : Nat) (x1 : Int32) (a2 : Nat) : Option (Int32 × jKt) :=
  bdx (P_X6_clothOf κ a0 x1) (fun E15 => if E15 = "java/util/NoSuchElementException" then
  some (1, κ)
  else none) fun y14 =>
  bnd (kU κ a2 (ix 0) (.long y14.toInt64)) fun κ17 =>
  some (0, κ17)
def P_L_sleeveState (κ : jKt) (a0 : Nat) (x1 : Int32) (x2 : Int32) (a3 : Nat) : Option (Int32 × jKt) :=
  bdx (P_X6_sleeveState κ a0 x1 x2) (fun E17 => if E17 = "java/util/NoSuchElementException" then
  some (1, κ)
  else if E17 = "java/lang/IndexOutOfBoundsException" then
  some (2, κ)
  else none) fun y16 =>
  bnd (kU κ a3 (ix 0) (.long y16.toInt64)) fun κ20 =>
  some (0, κ20)
def P_L_sleeveLength (κ : jKt) (a0 : Nat) (x1 : Int32) (x2 : Int32) (a3 : Nat) : Option (Int32 × jKt) :=
  bdx (P_X6_sleeveLength κ a0 x1 x2) (fun E19 => if E19 = "java/util/NoSuchElementException" then
  some (1, κ)
  else if E19 = "java/lang/IndexOutOfBoundsException" then
  some (2, κ)
  else if E19 = "java/lang/IllegalStateException" then
  some (3, κ)
  else none) fun y18 =>
  bnd (kU κ a3 (ix 0) (.long y18.toInt64)) fun κ23 =>
  some (0, κ23)
def P_L_doesFit (κ : jKt) (a0 : Nat) (x1 : Int32) (x2 : Int32) (a3 : Nat) : Option (Int32 × jKt) :=
  bdx (P_X6_doesFit κ a0 x1 x2) (fun E25 => if E25 = "java/util/NoSuchElementException" then
  some (1, κ)
  else if E25 = "java/lang/IndexOutOfBoundsException" then
  some (2, κ)
  else if E25 = "java/lang/IllegalStateException" then
  some (3, κ)
  else none) fun y24 =>
  if y24 = 0 then
  bnd (kU κ a3 (ix 0) (.long 0)) fun κ30 =>
  some (0, κ30)
  else
  bnd (kU κ a3 (ix 0) (.long 1)) fun κ32 =>
  some (0, κ32)
def P_L_sewnSleeves (κ : jKt) (a0 : Nat) (x1 : Int32) (a2 : Nat) : Option (Int32 × jKt) :=
  bdx (P_X6_sewnSleeves κ a0 x1) (fun E15 => if E15 = "java/util/NoSuchElementException" then
  some (1, κ)
  else none) fun y14 =>
  bnd (kU κ a2 (ix 0) (.long y14.toInt64)) fun κ17 =>
  some (0, κ17)
def P_L_demandCount (κ : jKt) (a0 : Nat) (x1 : Int32) (a2 : Nat) : Option (Int32 × jKt) :=
  bdx (P_X6_demandCount κ a0 x1) (fun E15 => if E15 = "java/util/NoSuchElementException" then
  some (1, κ)
  else none) fun y14 =>
  bnd (kU κ a2 (ix 0) (.long y14.toInt64)) fun κ17 =>
  some (0, κ17)
def P_L_isBefore (κ : jKt) (a0 : Nat) (x1 : Int32) (x2 : Int32) (x3 : Int32) (a4 : Nat) : Option (Int32 × jKt) :=
  bdx (P_X6_isBefore κ a0 x1 x2 x3) (fun E23 => if E23 = "java/util/NoSuchElementException" then
  some (1, κ)
  else if E23 = "java/lang/IndexOutOfBoundsException" then
  some (2, κ)
  else none) fun y22 =>
  if y22 = 0 then
  bnd (kU κ a4 (ix 0) (.long 0)) fun κ27 =>
  some (0, κ27)
  else
  bnd (kU κ a4 (ix 0) (.long 1)) fun κ29 =>
  some (0, κ29)
def P_L_canDeliver (κ : jKt) (a0 : Nat) (x1 : Int32) (a2 : Nat) : Option (Int32 × jKt) :=
  bdx (P_X6_canDeliver κ a0 x1) (fun E21 => if E21 = "java/util/NoSuchElementException" then
  some (1, κ)
  else none) fun y20 =>
  if y20 = 0 then
  bnd (kU κ a2 (ix 0) (.long 0)) fun κ24 =>
  some (0, κ24)
  else
  bnd (kU κ a2 (ix 0) (.long 1)) fun κ26 =>
  some (0, κ26)
def P_L_price (κ : jKt) (a0 : Nat) (x1 : Int32) (a2 : Nat) : Option (Int32 × jKt) :=
  bdx (P_X6_price κ a0 x1) (fun E15 => if E15 = "java/util/NoSuchElementException" then
  some (1, κ)
  else none) fun y14 =>
  bnd (kU κ a2 (ix 0) (.long y14.toInt64)) fun κ17 =>
  some (0, κ17)
def P_L_sleevesLeft (κ : jKt) (a0 : Nat) (x1 : Int32) (a2 : Nat) : Option (Int32 × jKt) :=
  bdx (P_X6_sleevesLeft κ a0 x1) (fun E15 => if E15 = "java/util/NoSuchElementException" then
  some (1, κ)
  else none) fun y14 =>
  bnd (kU κ a2 (ix 0) (.long y14.toInt64)) fun κ17 =>
  some (0, κ17)
def P_L_sewingOrder (κ : jKt) (a0 : Nat) (x1 : Int32) (x2 : Int32) (a3 : Nat) : Option (Int32 × jKt) :=
  bdx2 (P_X6_sewingOrder κ a0 x1 x2) (fun E19 κ20 => if E19 = "java/util/NoSuchElementException" then
  some (1, κ20)
  else if E19 = "java/lang/IndexOutOfBoundsException" then
  some (2, κ20)
  else none) fun y18 κ20 =>
  bnd (kU κ20 a3 (ix 0) (.long y18.toInt64)) fun κ23 =>
  some (0, κ23)
def P_L_sewingOrderByQueue (κ : jKt) (a0 : Nat) (x1 : Int32) (x2 : Int32) (a3 : Nat) : Option (Int32 × jKt) :=
  bdx2 (P_X6_sewingOrderByQueue κ a0 x1 x2) (fun E19 κ20 => if E19 = "java/util/NoSuchElementException" then
  some (1, κ20)
  else if E19 = "java/lang/IndexOutOfBoundsException" then
  some (2, κ20)
  else none) fun y18 κ20 =>
  bnd (kU κ20 a3 (ix 0) (.long y18.toInt64)) fun κ23 =>
  some (0, κ23)
def P_L_rounds (κ : jKt) (a0 : Nat) (x1 : Int32) (a2 : Nat) : Option (Int32 × jKt) :=
  bdx (P_X6_rounds κ a0 x1) (fun E15 => if E15 = "java/util/NoSuchElementException" then
  some (1, κ)
  else none) fun y14 =>
  bnd (kU κ a2 (ix 0) (.long y14.toInt64)) fun κ17 =>
  some (0, κ17)
def P_L_clothNeeded (κ : jKt) (a0 : Nat) (x1 : Int32) (a2 : Nat) : Option (Int32 × jKt) :=
  bdx (P_X6_clothNeeded κ a0 x1) (fun E15 => if E15 = "java/util/NoSuchElementException" then
  some (1, κ)
  else none) fun y14 =>
  bnd (kU κ a2 (ix 0) (.long y14.toInt64)) fun κ17 =>
  some (0, κ17)
def P_L_clothNeededByDifference (κ : jKt) (a0 : Nat) (x1 : Int32) (a2 : Nat) : Option (Int32 × jKt) :=
  bdx (P_X6_clothNeededByDifference κ a0 x1) (fun E15 => if E15 = "java/util/NoSuchElementException" then
  some (1, κ)
  else none) fun y14 =>
  bnd (kU κ a2 (ix 0) (.long y14.toInt64)) fun κ17 =>
  some (0, κ17)
def P_L_meanLeg (κ : jKt) (a0 : Nat) (x1 : Int32) (a2 : Nat) : Option (Int32 × jKt) :=
  bdx (P_X6_meanLeg κ a0 x1) (fun E15 => if E15 = "java/lang/IndexOutOfBoundsException" then
  some (1, κ)
  else none) fun y14 =>
  bnd (kU κ a2 (ix 0) (.double y14)) fun κ17 =>
  some (0, κ17)
def P_L_wasteShare (κ : jKt) (a0 : Nat) (a1 : Nat) : Option (Int32 × jKt) :=
  bdx (P_X6_wasteShare κ a0) (fun E17 => if E17 = "java/lang/ArithmeticException" then
  some (1, κ)
  else none) fun y16 =>
  ck ((FP.f2d y16) &&& 0x7fffffffffffffff ≤ 0x7ff0000000000000) <|
  bnd (kU κ a1 (ix 0) (.double (FP.f2d y16))) fun κ20 =>
  some (0, κ20)
def P_L_renderSuit (κ : jKt) (a0 : Nat) (x1 : Int32) (a2 : Nat) : Option (Int32 × jKt) :=
  bdx2 (P_X6_renderSuit κ a0 x1) (fun E17 κ18 => if E17 = "java/util/NoSuchElementException" then
  some (1, κ18)
  else none) fun y16 κ18 =>
  bnd (kU κ18 a2 (ix 0) (.long y16.toInt64)) fun κ20 =>
  some (0, κ20)
def P_L_renderOrder (κ : jKt) (a0 : Nat) (x1 : Int32) (a2 : Nat) : Option (Int32 × jKt) :=
  bdx2 (P_X6_renderOrder κ a0 x1) (fun E17 κ18 => if E17 = "java/util/NoSuchElementException" then
  some (1, κ18)
  else none) fun y16 κ18 =>
  bnd (kU κ18 a2 (ix 0) (.long y16.toInt64)) fun κ20 =>
  some (0, κ20)
def P_L_outputAt (κ : jKt) (a0 : Nat) (x1 : Int32) (a2 : Nat) : Option (Int32 × jKt) :=
  bdx (P_X6_outputAt κ a0 x1) (fun E15 => if E15 = "java/lang/IndexOutOfBoundsException" then
  some (1, κ)
  else none) fun y14 =>
  bnd (kU κ a2 (ix 0) (.long y14.toInt64)) fun κ17 =>
  some (0, κ17)
def P_L_type (κ : jKt) (a0 : Nat) (x1 : Int32) (a2 : Nat) : Option (Int32 × jKt) :=
  bdx2 (P_X6_type κ a0 x1) (fun E19 κ20 => if E19 = "java/lang/IllegalArgumentException" then
  some (1, κ20)
  else if E19 = "java/lang/IllegalStateException" then
  some (2, κ20)
  else none) fun y18 κ20 =>
  bnd (kU κ20 a2 (ix 0) (.long y18.toInt64)) fun κ23 =>
  some (0, κ23)
def P_L_runScript (κ : jKt) (a0 : Nat) (a1 : Nat) : Option (Int32 × jKt) :=
  bdx2 (P_X6_runScript κ a0) (fun E19 κ20 => if E19 = "java/lang/IllegalArgumentException" then
  some (1, κ20)
  else if E19 = "java/lang/IllegalStateException" then
  some (2, κ20)
  else none) fun y18 κ20 =>
  bnd (kU κ20 a1 (ix 0) (.long y18.toInt64)) fun κ23 =>
  some (0, κ23)
def P_L_errorPosition (κ : jKt) (a0 : Nat) (a1 : Nat) : Option (Int32 × jKt) :=
  bdx (P_X6_errorPosition κ a0) (fun E15 => if E15 = "java/util/NoSuchElementException" then
  some (1, κ)
  else none) fun y14 =>
  bnd (kU κ a1 (ix 0) (.long y14.toInt64)) fun κ17 =>
  some (0, κ17)
def P_L_failedCommand (κ : jKt) (a0 : Nat) (a1 : Nat) : Option (Int32 × jKt) :=
  bdx (P_X6_failedCommand κ a0) (fun E15 => if E15 = "java/util/NoSuchElementException" then
  some (1, κ)
  else none) fun y14 =>
  bnd (kU κ a1 (ix 0) (.long y14.toInt64)) fun κ17 =>
  some (0, κ17)
def P_L_undo (κ : jKt) (a0 : Nat) (a1 : Nat) : Option (Int32 × jKt) :=
  bdx2 (P_X6_undo κ a0) (fun E17 κ18 => if E17 = "java/util/NoSuchElementException" then
  some (1, κ18)
  else none) fun y16 κ18 =>
  bnd (kU κ18 a1 (ix 0) (.long y16.toInt64)) fun κ20 =>
  some (0, κ20)
def P_L_restore (κ : jKt) (a0 : Nat) (a1 : Nat) : Option (Int32 × jKt) :=
  bdx2 (P_X6_restore κ a0) (fun E17 κ18 => if E17 = "java/lang/IllegalStateException" then
  some (1, κ18)
  else none) fun y16 κ18 =>
  bnd (kU κ18 a1 (ix 0) (.long y16.toInt64)) fun κ20 =>
  some (0, κ20)
set_option maxRecDepth 20000 in
theorem w_L_buyCloth_0 {F : jFm} (C : jBh F RL cL_buyCloth 5 (some .int) [(0, 10, 13, 13), (0, 10, 17, 15), (0, 10, 21, 17)] 12 1 6 227) {κ : jKt} {a0 : Nat} (ha0 : jSof F a0 = (1, 10, 11)) {x1 : Int32} {x2 : Int32} {a3 : Nat} (ha3 : jSof F a3 = (2, 3, 1)) {r : Int32 × jKt} (hq : jOut F (some (.int r.1)) r.2) (h : P_L_buyCloth κ a0 x1 x2 a3 = some r) : jW F 5 0 0 κ 0 [(0, .ref a0), (1, .int x1), (2, .int x2), (3, .ref a3)] [] := by
  unfold P_L_buyCloth at h
  refine r_aload_n C.1 3 1 rfl dL_buyCloth_0 rfl ?_
  refine r_iconst C.1 0 rfl 2 rfl dL_buyCloth_1 ?_
  refine r_aload_n C.1 0 3 rfl dL_buyCloth_2 rfl ?_
  refine r_iload_n C.1 1 4 rfl dL_buyCloth_3 rfl ?_
  refine r_iload_n C.1 2 5 rfl dL_buyCloth_4 rfl ?_
  rcases bdx2_some h with ⟨y20, κ22, e19, h⟩ | ⟨E21, κ22, e19, h⟩
  rotate_left
  · by_cases c23 : E21 = "java/lang/IndexOutOfBoundsException"
    · have h := if_some_t c23 h
      subst c23
      refine r_xV C.1 (st := [.int 0, .ref a3]) (x_X6_buyCloth ha0 e19) yv_X6_buyCloth ml_L_7 rfl ha0 rfl ⟨Nat.le_of_ble_eq_true rfl, Nat.le_of_ble_eq_true rfl⟩ ⟨Nat.le_of_ble_eq_true rfl, Nat.le_of_ble_eq_true rfl⟩ (Nat.le_of_ble_eq_true rfl) rfl dL_buyCloth_5 (r_catch C [] [(0, 10, 17, 15), (0, 10, 21, 17)] 0 10 13 13 rfl (fun _ h9 => nomatch h9) (by decide) ⟨Nat.le_of_ble_eq_true rfl, Nat.le_of_ble_eq_true rfl⟩ (by decide) cl_L_13 ct_IndexOutOfBoundsException (fun q9 => ?_))
      refine r_astore C.1 (lv' := [(0, .ref a0), (1, .int x1), (2, .int x2), (3, .ref a3), (4, .ref q9)]) [1, 2, 3, 4, 0] 15 rfl dL_buyCloth_13 (Nat.le_of_ble_eq_true rfl) rfl ?_
      refine r_iconst C.1 1 rfl 16 rfl dL_buyCloth_15 ?_
      cases h
      exact r_zretH C rfl rfl (Nat.le_of_ble_eq_true rfl) (Nat.le_of_ble_eq_true rfl) dL_buyCloth_16 hq
    replace h := if_some_f c23 h
    by_cases c24 : E21 = "java/lang/IllegalArgumentException"
    · have h := if_some_t c24 h
      subst c24
      refine r_xV C.1 (st := [.int 0, .ref a3]) (x_X6_buyCloth ha0 e19) yv_X6_buyCloth ml_L_7 rfl ha0 rfl ⟨Nat.le_of_ble_eq_true rfl, Nat.le_of_ble_eq_true rfl⟩ ⟨Nat.le_of_ble_eq_true rfl, Nat.le_of_ble_eq_true rfl⟩ (Nat.le_of_ble_eq_true rfl) rfl dL_buyCloth_5 (r_catch C [(0, 10, 13, 13)] [(0, 10, 21, 17)] 0 10 17 15 rfl (fun z9 h9 => by simp only [List.mem_cons, List.mem_nil_iff, or_false] at h9; rcases h9 with rfl <;> first | exact ⟨by decide, "java/lang/IndexOutOfBoundsException", cl_L_13, by decide, by decide⟩) (by decide) ⟨Nat.le_of_ble_eq_true rfl, Nat.le_of_ble_eq_true rfl⟩ (by decide) cl_L_15 ct_IllegalArgumentException (fun q9 => ?_))
      refine r_astore C.1 (lv' := [(0, .ref a0), (1, .int x1), (2, .int x2), (3, .ref a3), (4, .ref q9)]) [1, 2, 3, 4, 0] 19 rfl dL_buyCloth_17 (Nat.le_of_ble_eq_true rfl) rfl ?_
      refine r_iconst C.1 2 rfl 20 rfl dL_buyCloth_19 ?_
      cases h
      exact r_zretH C rfl rfl (Nat.le_of_ble_eq_true rfl) (Nat.le_of_ble_eq_true rfl) dL_buyCloth_20 hq
    replace h := if_some_f c24 h
    by_cases c25 : E21 = "java/lang/UnsupportedOperationException"
    · have h := if_some_t c25 h
      subst c25
      refine r_xV C.1 (st := [.int 0, .ref a3]) (x_X6_buyCloth ha0 e19) yv_X6_buyCloth ml_L_7 rfl ha0 rfl ⟨Nat.le_of_ble_eq_true rfl, Nat.le_of_ble_eq_true rfl⟩ ⟨Nat.le_of_ble_eq_true rfl, Nat.le_of_ble_eq_true rfl⟩ (Nat.le_of_ble_eq_true rfl) rfl dL_buyCloth_5 (r_catch C [(0, 10, 13, 13), (0, 10, 17, 15)] [] 0 10 21 17 rfl (fun z9 h9 => by simp only [List.mem_cons, List.mem_nil_iff, or_false] at h9; rcases h9 with rfl | rfl <;> first | exact ⟨by decide, "java/lang/IndexOutOfBoundsException", cl_L_13, by decide, by decide⟩ | exact ⟨by decide, "java/lang/IllegalArgumentException", cl_L_15, by decide, by decide⟩) (by decide) ⟨Nat.le_of_ble_eq_true rfl, Nat.le_of_ble_eq_true rfl⟩ (by decide) cl_L_17 ct_UnsupportedOperationException (fun q9 => ?_))
      refine r_astore C.1 (lv' := [(0, .ref a0), (1, .int x1), (2, .int x2), (3, .ref a3), (4, .ref q9)]) [1, 2, 3, 4, 0] 23 rfl dL_buyCloth_21 (Nat.le_of_ble_eq_true rfl) rfl ?_
      refine r_iconst C.1 3 rfl 24 rfl dL_buyCloth_23 ?_
      cases h
      exact r_zretH C rfl rfl (Nat.le_of_ble_eq_true rfl) (Nat.le_of_ble_eq_true rfl) dL_buyCloth_24 hq
    replace h := if_some_f c25 h
    cases h
  refine r_cVi C.1 (st := [.int 0, .ref a3]) (c_X6_buyCloth ha0 e19) yv_X6_buyCloth ml_L_7 rfl ha0 rfl ⟨Nat.le_of_ble_eq_true rfl, Nat.le_of_ble_eq_true rfl⟩ ⟨Nat.le_of_ble_eq_true rfl, Nat.le_of_ble_eq_true rfl⟩ (Nat.le_of_ble_eq_true rfl) rfl 1 6 rfl rfl 8 rfl dL_buyCloth_5 ?_
  refine r_i2l C.1 9 rfl dL_buyCloth_8 ?_
  obtain ⟨κ26, e27, h⟩ := bnd_some h
  refine r_last C.1 ha3 (by decide) e27 10 rfl dL_buyCloth_9 ?_
  refine r_goto C.1 25 dL_buyCloth_10 rfl ?_
  refine r_iconst C.1 0 rfl 26 rfl dL_buyCloth_25 ?_
  cases h
  exact r_zretH C rfl rfl (Nat.le_of_ble_eq_true rfl) (Nat.le_of_ble_eq_true rfl) dL_buyCloth_26 hq
theorem c_L_buyCloth {l : Launch} {G : jG} {sh : jSh} {κ : jKt} {a0 : Nat} (ha0 : sh a0 = (1, 10, 11)) {x1 : Int32} {x2 : Int32} {a3 : Nat} (ha3 : sh a3 = (2, 3, 1)) {r : Int32} {κr : jKt} (h : P_L_buyCloth κ a0 x1 x2 a3 = some (r, κr)) : jMh l G yL_buyCloth cL_buyCloth 5 (some .int) [(0, 10, 13, 13), (0, 10, 17, 15), (0, 10, 21, 17)] 12 1 6 227 [.ref a0, .int x1, .int x2, .ref a3] (sh, κ) (jIs (some (.int r)) (sh, κr)) jNo :=
  r_bodyH (by decide) (Nat.le_of_ble_eq_true rfl) fun F C hl hG hs ho hx => by
    subst hs
    exact w_L_buyCloth_0 C ha0 ha3 (by rw [ho]; exact ⟨rfl, rfl⟩) h
set_option maxRecDepth 20000 in
theorem w_L_addCustomer_0 {F : jFm} (C : jBh F RL cL_addCustomer 5 (some .int) [(0, 10, 13, 15), (0, 10, 17, 22)] 12 1 6 227) {κ : jKt} {a0 : Nat} (ha0 : jSof F a0 = (1, 10, 11)) {x1 : Int32} {x2 : Int32} {a3 : Nat} (ha3 : jSof F a3 = (2, 3, 1)) {r : Int32 × jKt} (hq : jOut F (some (.int r.1)) r.2) (h : P_L_addCustomer κ a0 x1 x2 a3 = some r) : jW F 5 0 0 κ 0 [(0, .ref a0), (1, .int x1), (2, .int x2), (3, .ref a3)] [] := by
  unfold P_L_addCustomer at h
  refine r_aload_n C.1 3 1 rfl dL_addCustomer_0 rfl ?_
  refine r_iconst C.1 0 rfl 2 rfl dL_addCustomer_1 ?_
  refine r_aload_n C.1 0 3 rfl dL_addCustomer_2 rfl ?_
  refine r_iload_n C.1 1 4 rfl dL_addCustomer_3 rfl ?_
  refine r_iload_n C.1 2 5 rfl dL_addCustomer_4 rfl ?_
  rcases bdx2_some h with ⟨y18, κ20, e17, h⟩ | ⟨E19, κ20, e17, h⟩
  rotate_left
  · by_cases c21 : E19 = "java/lang/IllegalArgumentException"
    · have h := if_some_t c21 h
      subst c21
      refine r_xV C.1 (st := [.int 0, .ref a3]) (x_X6_addCustomer ha0 e17) yv_X6_addCustomer ml_L_19 rfl ha0 rfl ⟨Nat.le_of_ble_eq_true rfl, Nat.le_of_ble_eq_true rfl⟩ ⟨Nat.le_of_ble_eq_true rfl, Nat.le_of_ble_eq_true rfl⟩ (Nat.le_of_ble_eq_true rfl) rfl dL_addCustomer_5 (r_catch C [] [(0, 10, 17, 22)] 0 10 13 15 rfl (fun _ h9 => nomatch h9) (by decide) ⟨Nat.le_of_ble_eq_true rfl, Nat.le_of_ble_eq_true rfl⟩ (by decide) cl_L_15 ct_IllegalArgumentException (fun q9 => ?_))
      refine r_astore C.1 (lv' := [(0, .ref a0), (1, .int x1), (2, .int x2), (3, .ref a3), (4, .ref q9)]) [1, 2, 3, 4, 0] 15 rfl dL_addCustomer_13 (Nat.le_of_ble_eq_true rfl) rfl ?_
      refine r_iconst C.1 1 rfl 16 rfl dL_addCustomer_15 ?_
      cases h
      exact r_zretH C rfl rfl (Nat.le_of_ble_eq_true rfl) (Nat.le_of_ble_eq_true rfl) dL_addCustomer_16 hq
    replace h := if_some_f c21 h
    by_cases c22 : E19 = "java/lang/IllegalStateException"
    · have h := if_some_t c22 h
      subst c22
      refine r_xV C.1 (st := [.int 0, .ref a3]) (x_X6_addCustomer ha0 e17) yv_X6_addCustomer ml_L_19 rfl ha0 rfl ⟨Nat.le_of_ble_eq_true rfl, Nat.le_of_ble_eq_true rfl⟩ ⟨Nat.le_of_ble_eq_true rfl, Nat.le_of_ble_eq_true rfl⟩ (Nat.le_of_ble_eq_true rfl) rfl dL_addCustomer_5 (r_catch C [(0, 10, 13, 15)] [] 0 10 17 22 rfl (fun z9 h9 => by simp only [List.mem_cons, List.mem_nil_iff, or_false] at h9; rcases h9 with rfl <;> first | exact ⟨by decide, "java/lang/IllegalArgumentException", cl_L_15, by decide, by decide⟩) (by decide) ⟨Nat.le_of_ble_eq_true rfl, Nat.le_of_ble_eq_true rfl⟩ (by decide) cl_L_22 ct_IllegalStateException (fun q9 => ?_))
      refine r_astore C.1 (lv' := [(0, .ref a0), (1, .int x1), (2, .int x2), (3, .ref a3), (4, .ref q9)]) [1, 2, 3, 4, 0] 19 rfl dL_addCustomer_17 (Nat.le_of_ble_eq_true rfl) rfl ?_
      refine r_iconst C.1 2 rfl 20 rfl dL_addCustomer_19 ?_
      cases h
      exact r_zretH C rfl rfl (Nat.le_of_ble_eq_true rfl) (Nat.le_of_ble_eq_true rfl) dL_addCustomer_20 hq
    replace h := if_some_f c22 h
    cases h
  refine r_cVi C.1 (st := [.int 0, .ref a3]) (c_X6_addCustomer ha0 e17) yv_X6_addCustomer ml_L_19 rfl ha0 rfl ⟨Nat.le_of_ble_eq_true rfl, Nat.le_of_ble_eq_true rfl⟩ ⟨Nat.le_of_ble_eq_true rfl, Nat.le_of_ble_eq_true rfl⟩ (Nat.le_of_ble_eq_true rfl) rfl 1 6 rfl rfl 8 rfl dL_addCustomer_5 ?_
  refine r_i2l C.1 9 rfl dL_addCustomer_8 ?_
  obtain ⟨κ23, e24, h⟩ := bnd_some h
  refine r_last C.1 ha3 (by decide) e24 10 rfl dL_addCustomer_9 ?_
  refine r_goto C.1 21 dL_addCustomer_10 rfl ?_
  refine r_iconst C.1 0 rfl 22 rfl dL_addCustomer_21 ?_
  cases h
  exact r_zretH C rfl rfl (Nat.le_of_ble_eq_true rfl) (Nat.le_of_ble_eq_true rfl) dL_addCustomer_22 hq
theorem c_L_addCustomer {l : Launch} {G : jG} {sh : jSh} {κ : jKt} {a0 : Nat} (ha0 : sh a0 = (1, 10, 11)) {x1 : Int32} {x2 : Int32} {a3 : Nat} (ha3 : sh a3 = (2, 3, 1)) {r : Int32} {κr : jKt} (h : P_L_addCustomer κ a0 x1 x2 a3 = some (r, κr)) : jMh l G yL_addCustomer cL_addCustomer 5 (some .int) [(0, 10, 13, 15), (0, 10, 17, 22)] 12 1 6 227 [.ref a0, .int x1, .int x2, .ref a3] (sh, κ) (jIs (some (.int r)) (sh, κr)) jNo :=
  r_bodyH (by decide) (Nat.le_of_ble_eq_true rfl) fun F C hl hG hs ho hx => by
    subst hs
    exact w_L_addCustomer_0 C ha0 ha3 (by rw [ho]; exact ⟨rfl, rfl⟩) h
set_option maxRecDepth 20000 in
theorem w_L_fit_0 {F : jFm} (C : jBh F RL cL_fit 6 (some .int) [(0, 12, 15, 13), (0, 12, 19, 15)] 12 1 6 228) {κ : jKt} {a0 : Nat} (ha0 : jSof F a0 = (1, 10, 11)) {x1 : Int32} {x2 : Int32} {x3 : Int32} {a4 : Nat} (ha4 : jSof F a4 = (2, 3, 1)) {r : Int32 × jKt} (hq : jOut F (some (.int r.1)) r.2) (h : P_L_fit κ a0 x1 x2 x3 a4 = some r) : jW F 6 0 0 κ 0 [(0, .ref a0), (1, .int x1), (2, .int x2), (3, .int x3), (4, .ref a4)] [] := by
  unfold P_L_fit at h
  refine r_aload C.1 4 2 rfl dL_fit_0 rfl ?_
  refine r_iconst C.1 0 rfl 3 rfl dL_fit_2 ?_
  refine r_aload_n C.1 0 4 rfl dL_fit_3 rfl ?_
  refine r_iload_n C.1 1 5 rfl dL_fit_4 rfl ?_
  refine r_iload_n C.1 2 6 rfl dL_fit_5 rfl ?_
  refine r_iload_n C.1 3 7 rfl dL_fit_6 rfl ?_
  rcases bdx2_some h with ⟨y18, κ20, e17, h⟩ | ⟨E19, κ20, e17, h⟩
  rotate_left
  · by_cases c21 : E19 = "java/lang/IndexOutOfBoundsException"
    · have h := if_some_t c21 h
      subst c21
      refine r_xV C.1 (st := [.int 0, .ref a4]) (x_X6_fit ha0 e17) yv_X6_fit ml_L_24 rfl ha0 rfl ⟨Nat.le_of_ble_eq_true rfl, Nat.le_of_ble_eq_true rfl⟩ ⟨Nat.le_of_ble_eq_true rfl, Nat.le_of_ble_eq_true rfl⟩ (Nat.le_of_ble_eq_true rfl) rfl dL_fit_7 (r_catch C [] [(0, 12, 19, 15)] 0 12 15 13 rfl (fun _ h9 => nomatch h9) (by decide) ⟨Nat.le_of_ble_eq_true rfl, Nat.le_of_ble_eq_true rfl⟩ (by decide) cl_L_13 ct_IndexOutOfBoundsException (fun q9 => ?_))
      refine r_astore C.1 (lv' := [(0, .ref a0), (1, .int x1), (2, .int x2), (3, .int x3), (4, .ref a4), (5, .ref q9)]) [1, 2, 3, 4, 5, 0] 17 rfl dL_fit_15 (Nat.le_of_ble_eq_true rfl) rfl ?_
      refine r_iconst C.1 1 rfl 18 rfl dL_fit_17 ?_
      cases h
      exact r_zretH C rfl rfl (Nat.le_of_ble_eq_true rfl) (Nat.le_of_ble_eq_true rfl) dL_fit_18 hq
    replace h := if_some_f c21 h
    by_cases c22 : E19 = "java/lang/IllegalArgumentException"
    · have h := if_some_t c22 h
      subst c22
      refine r_xV C.1 (st := [.int 0, .ref a4]) (x_X6_fit ha0 e17) yv_X6_fit ml_L_24 rfl ha0 rfl ⟨Nat.le_of_ble_eq_true rfl, Nat.le_of_ble_eq_true rfl⟩ ⟨Nat.le_of_ble_eq_true rfl, Nat.le_of_ble_eq_true rfl⟩ (Nat.le_of_ble_eq_true rfl) rfl dL_fit_7 (r_catch C [(0, 12, 15, 13)] [] 0 12 19 15 rfl (fun z9 h9 => by simp only [List.mem_cons, List.mem_nil_iff, or_false] at h9; rcases h9 with rfl <;> first | exact ⟨by decide, "java/lang/IndexOutOfBoundsException", cl_L_13, by decide, by decide⟩) (by decide) ⟨Nat.le_of_ble_eq_true rfl, Nat.le_of_ble_eq_true rfl⟩ (by decide) cl_L_15 ct_IllegalArgumentException (fun q9 => ?_))
      refine r_astore C.1 (lv' := [(0, .ref a0), (1, .int x1), (2, .int x2), (3, .int x3), (4, .ref a4), (5, .ref q9)]) [1, 2, 3, 4, 5, 0] 21 rfl dL_fit_19 (Nat.le_of_ble_eq_true rfl) rfl ?_
      refine r_iconst C.1 2 rfl 22 rfl dL_fit_21 ?_
      cases h
      exact r_zretH C rfl rfl (Nat.le_of_ble_eq_true rfl) (Nat.le_of_ble_eq_true rfl) dL_fit_22 hq
    replace h := if_some_f c22 h
    cases h
  refine r_cVi C.1 (st := [.int 0, .ref a4]) (c_X6_fit ha0 e17) yv_X6_fit ml_L_24 rfl ha0 rfl ⟨Nat.le_of_ble_eq_true rfl, Nat.le_of_ble_eq_true rfl⟩ ⟨Nat.le_of_ble_eq_true rfl, Nat.le_of_ble_eq_true rfl⟩ (Nat.le_of_ble_eq_true rfl) rfl 1 6 rfl rfl 10 rfl dL_fit_7 ?_
  refine r_i2l C.1 11 rfl dL_fit_10 ?_
  obtain ⟨κ23, e24, h⟩ := bnd_some h
  refine r_last C.1 ha4 (by decide) e24 12 rfl dL_fit_11 ?_
  refine r_goto C.1 23 dL_fit_12 rfl ?_
  refine r_iconst C.1 0 rfl 24 rfl dL_fit_23 ?_
  cases h
  exact r_zretH C rfl rfl (Nat.le_of_ble_eq_true rfl) (Nat.le_of_ble_eq_true rfl) dL_fit_24 hq
theorem c_L_fit {l : Launch} {G : jG} {sh : jSh} {κ : jKt} {a0 : Nat} (ha0 : sh a0 = (1, 10, 11)) {x1 : Int32} {x2 : Int32} {x3 : Int32} {a4 : Nat} (ha4 : sh a4 = (2, 3, 1)) {r : Int32} {κr : jKt} (h : P_L_fit κ a0 x1 x2 x3 a4 = some (r, κr)) : jMh l G yL_fit cL_fit 6 (some .int) [(0, 12, 15, 13), (0, 12, 19, 15)] 12 1 6 228 [.ref a0, .int x1, .int x2, .int x3, .ref a4] (sh, κ) (jIs (some (.int r)) (sh, κr)) jNo :=
  r_bodyH (by decide) (Nat.le_of_ble_eq_true rfl) fun F C hl hG hs ho hx => by
    subst hs
    exact w_L_fit_0 C ha0 ha4 (by rw [ho]; exact ⟨rfl, rfl⟩) h
set_option maxRecDepth 20000 in
theorem w_L_orderSuit_0 {F : jFm} (C : jBh F RL cL_orderSuit 5 (some .int) [(0, 10, 13, 13), (0, 10, 17, 22)] 12 1 6 227) {κ : jKt} {a0 : Nat} (ha0 : jSof F a0 = (1, 10, 11)) {x1 : Int32} {x2 : Int32} {a3 : Nat} (ha3 : jSof F a3 = (2, 3, 1)) {r : Int32 × jKt} (hq : jOut F (some (.int r.1)) r.2) (h : P_L_orderSuit κ a0 x1 x2 a3 = some r) : jW F 5 0 0 κ 0 [(0, .ref a0), (1, .int x1), (2, .int x2), (3, .ref a3)] [] := by
  unfold P_L_orderSuit at h
  refine r_aload_n C.1 3 1 rfl dL_orderSuit_0 rfl ?_
  refine r_iconst C.1 0 rfl 2 rfl dL_orderSuit_1 ?_
  refine r_aload_n C.1 0 3 rfl dL_orderSuit_2 rfl ?_
  refine r_iload_n C.1 1 4 rfl dL_orderSuit_3 rfl ?_
  refine r_iload_n C.1 2 5 rfl dL_orderSuit_4 rfl ?_
  rcases bdx2_some h with ⟨y18, κ20, e17, h⟩ | ⟨E19, κ20, e17, h⟩
  rotate_left
  · by_cases c21 : E19 = "java/lang/IndexOutOfBoundsException"
    · have h := if_some_t c21 h
      subst c21
      refine r_xV C.1 (st := [.int 0, .ref a3]) (x_X6_orderSuit ha0 e17) yv_X6_orderSuit ml_L_28 rfl ha0 rfl ⟨Nat.le_of_ble_eq_true rfl, Nat.le_of_ble_eq_true rfl⟩ ⟨Nat.le_of_ble_eq_true rfl, Nat.le_of_ble_eq_true rfl⟩ (Nat.le_of_ble_eq_true rfl) rfl dL_orderSuit_5 (r_catch C [] [(0, 10, 17, 22)] 0 10 13 13 rfl (fun _ h9 => nomatch h9) (by decide) ⟨Nat.le_of_ble_eq_true rfl, Nat.le_of_ble_eq_true rfl⟩ (by decide) cl_L_13 ct_IndexOutOfBoundsException (fun q9 => ?_))
      refine r_astore C.1 (lv' := [(0, .ref a0), (1, .int x1), (2, .int x2), (3, .ref a3), (4, .ref q9)]) [1, 2, 3, 4, 0] 15 rfl dL_orderSuit_13 (Nat.le_of_ble_eq_true rfl) rfl ?_
      refine r_iconst C.1 1 rfl 16 rfl dL_orderSuit_15 ?_
      cases h
      exact r_zretH C rfl rfl (Nat.le_of_ble_eq_true rfl) (Nat.le_of_ble_eq_true rfl) dL_orderSuit_16 hq
    replace h := if_some_f c21 h
    by_cases c22 : E19 = "java/lang/IllegalStateException"
    · have h := if_some_t c22 h
      subst c22
      refine r_xV C.1 (st := [.int 0, .ref a3]) (x_X6_orderSuit ha0 e17) yv_X6_orderSuit ml_L_28 rfl ha0 rfl ⟨Nat.le_of_ble_eq_true rfl, Nat.le_of_ble_eq_true rfl⟩ ⟨Nat.le_of_ble_eq_true rfl, Nat.le_of_ble_eq_true rfl⟩ (Nat.le_of_ble_eq_true rfl) rfl dL_orderSuit_5 (r_catch C [(0, 10, 13, 13)] [] 0 10 17 22 rfl (fun z9 h9 => by simp only [List.mem_cons, List.mem_nil_iff, or_false] at h9; rcases h9 with rfl <;> first | exact ⟨by decide, "java/lang/IndexOutOfBoundsException", cl_L_13, by decide, by decide⟩) (by decide) ⟨Nat.le_of_ble_eq_true rfl, Nat.le_of_ble_eq_true rfl⟩ (by decide) cl_L_22 ct_IllegalStateException (fun q9 => ?_))
      refine r_astore C.1 (lv' := [(0, .ref a0), (1, .int x1), (2, .int x2), (3, .ref a3), (4, .ref q9)]) [1, 2, 3, 4, 0] 19 rfl dL_orderSuit_17 (Nat.le_of_ble_eq_true rfl) rfl ?_
      refine r_iconst C.1 2 rfl 20 rfl dL_orderSuit_19 ?_
      cases h
      exact r_zretH C rfl rfl (Nat.le_of_ble_eq_true rfl) (Nat.le_of_ble_eq_true rfl) dL_orderSuit_20 hq
    replace h := if_some_f c22 h
    cases h
  refine r_cVi C.1 (st := [.int 0, .ref a3]) (c_X6_orderSuit ha0 e17) yv_X6_orderSuit ml_L_28 rfl ha0 rfl ⟨Nat.le_of_ble_eq_true rfl, Nat.le_of_ble_eq_true rfl⟩ ⟨Nat.le_of_ble_eq_true rfl, Nat.le_of_ble_eq_true rfl⟩ (Nat.le_of_ble_eq_true rfl) rfl 1 6 rfl rfl 8 rfl dL_orderSuit_5 ?_
  refine r_i2l C.1 9 rfl dL_orderSuit_8 ?_
  obtain ⟨κ23, e24, h⟩ := bnd_some h
  refine r_last C.1 ha3 (by decide) e24 10 rfl dL_orderSuit_9 ?_
  refine r_goto C.1 21 dL_orderSuit_10 rfl ?_
  refine r_iconst C.1 0 rfl 22 rfl dL_orderSuit_21 ?_
  cases h
  exact r_zretH C rfl rfl (Nat.le_of_ble_eq_true rfl) (Nat.le_of_ble_eq_true rfl) dL_orderSuit_22 hq
theorem c_L_orderSuit {l : Launch} {G : jG} {sh : jSh} {κ : jKt} {a0 : Nat} (ha0 : sh a0 = (1, 10, 11)) {x1 : Int32} {x2 : Int32} {a3 : Nat} (ha3 : sh a3 = (2, 3, 1)) {r : Int32} {κr : jKt} (h : P_L_orderSuit κ a0 x1 x2 a3 = some (r, κr)) : jMh l G yL_orderSuit cL_orderSuit 5 (some .int) [(0, 10, 13, 13), (0, 10, 17, 22)] 12 1 6 227 [.ref a0, .int x1, .int x2, .ref a3] (sh, κ) (jIs (some (.int r)) (sh, κr)) jNo :=
  r_bodyH (by decide) (Nat.le_of_ble_eq_true rfl) fun F C hl hG hs ho hx => by
    subst hs
    exact w_L_orderSuit_0 C ha0 ha3 (by rw [ho]; exact ⟨rfl, rfl⟩) h
set_option maxRecDepth 20000 in
theorem w_L_cut_0 {F : jFm} (C : jBh F RL cL_cut 5 (some .int) [(0, 10, 13, 34), (0, 10, 17, 13), (0, 10, 21, 22), (0, 10, 25, 17)] 12 1 6 227) {κ : jKt} {a0 : Nat} (ha0 : jSof F a0 = (1, 10, 11)) {x1 : Int32} {x2 : Int32} {a3 : Nat} (ha3 : jSof F a3 = (2, 3, 1)) {r : Int32 × jKt} (hq : jOut F (some (.int r.1)) r.2) (h : P_L_cut κ a0 x1 x2 a3 = some r) : jW F 5 0 0 κ 0 [(0, .ref a0), (1, .int x1), (2, .int x2), (3, .ref a3)] [] := by
  unfold P_L_cut at h
  refine r_aload_n C.1 3 1 rfl dL_cut_0 rfl ?_
  refine r_iconst C.1 0 rfl 2 rfl dL_cut_1 ?_
  refine r_aload_n C.1 0 3 rfl dL_cut_2 rfl ?_
  refine r_iload_n C.1 1 4 rfl dL_cut_3 rfl ?_
  refine r_iload_n C.1 2 5 rfl dL_cut_4 rfl ?_
  rcases bdx2_some h with ⟨y22, κ24, e21, h⟩ | ⟨E23, κ24, e21, h⟩
  rotate_left
  · by_cases c25 : E23 = "java/util/NoSuchElementException"
    · have h := if_some_t c25 h
      subst c25
      refine r_xV C.1 (st := [.int 0, .ref a3]) (x_X6_cut ha0 e21) yv_X6_cut ml_L_31 rfl ha0 rfl ⟨Nat.le_of_ble_eq_true rfl, Nat.le_of_ble_eq_true rfl⟩ ⟨Nat.le_of_ble_eq_true rfl, Nat.le_of_ble_eq_true rfl⟩ (Nat.le_of_ble_eq_true rfl) rfl dL_cut_5 (r_catch C [] [(0, 10, 17, 13), (0, 10, 21, 22), (0, 10, 25, 17)] 0 10 13 34 rfl (fun _ h9 => nomatch h9) (by decide) ⟨Nat.le_of_ble_eq_true rfl, Nat.le_of_ble_eq_true rfl⟩ (by decide) cl_L_34 ct_NoSuchElementException (fun q9 => ?_))
      refine r_astore C.1 (lv' := [(0, .ref a0), (1, .int x1), (2, .int x2), (3, .ref a3), (4, .ref q9)]) [1, 2, 3, 4, 0] 15 rfl dL_cut_13 (Nat.le_of_ble_eq_true rfl) rfl ?_
      refine r_iconst C.1 1 rfl 16 rfl dL_cut_15 ?_
      cases h
      exact r_zretH C rfl rfl (Nat.le_of_ble_eq_true rfl) (Nat.le_of_ble_eq_true rfl) dL_cut_16 hq
    replace h := if_some_f c25 h
    by_cases c26 : E23 = "java/lang/IndexOutOfBoundsException"
    · have h := if_some_t c26 h
      subst c26
      refine r_xV C.1 (st := [.int 0, .ref a3]) (x_X6_cut ha0 e21) yv_X6_cut ml_L_31 rfl ha0 rfl ⟨Nat.le_of_ble_eq_true rfl, Nat.le_of_ble_eq_true rfl⟩ ⟨Nat.le_of_ble_eq_true rfl, Nat.le_of_ble_eq_true rfl⟩ (Nat.le_of_ble_eq_true rfl) rfl dL_cut_5 (r_catch C [(0, 10, 13, 34)] [(0, 10, 21, 22), (0, 10, 25, 17)] 0 10 17 13 rfl (fun z9 h9 => by simp only [List.mem_cons, List.mem_nil_iff, or_false] at h9; rcases h9 with rfl <;> first | exact ⟨by decide, "java/util/NoSuchElementException", cl_L_34, by decide, by decide⟩) (by decide) ⟨Nat.le_of_ble_eq_true rfl, Nat.le_of_ble_eq_true rfl⟩ (by decide) cl_L_13 ct_IndexOutOfBoundsException (fun q9 => ?_))
      refine r_astore C.1 (lv' := [(0, .ref a0), (1, .int x1), (2, .int x2), (3, .ref a3), (4, .ref q9)]) [1, 2, 3, 4, 0] 19 rfl dL_cut_17 (Nat.le_of_ble_eq_true rfl) rfl ?_
      refine r_iconst C.1 2 rfl 20 rfl dL_cut_19 ?_
      cases h
      exact r_zretH C rfl rfl (Nat.le_of_ble_eq_true rfl) (Nat.le_of_ble_eq_true rfl) dL_cut_20 hq
    replace h := if_some_f c26 h
    by_cases c27 : E23 = "java/lang/IllegalStateException"
    · have h := if_some_t c27 h
      subst c27
      refine r_xV C.1 (st := [.int 0, .ref a3]) (x_X6_cut ha0 e21) yv_X6_cut ml_L_31 rfl ha0 rfl ⟨Nat.le_of_ble_eq_true rfl, Nat.le_of_ble_eq_true rfl⟩ ⟨Nat.le_of_ble_eq_true rfl, Nat.le_of_ble_eq_true rfl⟩ (Nat.le_of_ble_eq_true rfl) rfl dL_cut_5 (r_catch C [(0, 10, 13, 34), (0, 10, 17, 13)] [(0, 10, 25, 17)] 0 10 21 22 rfl (fun z9 h9 => by simp only [List.mem_cons, List.mem_nil_iff, or_false] at h9; rcases h9 with rfl | rfl <;> first | exact ⟨by decide, "java/util/NoSuchElementException", cl_L_34, by decide, by decide⟩ | exact ⟨by decide, "java/lang/IndexOutOfBoundsException", cl_L_13, by decide, by decide⟩) (by decide) ⟨Nat.le_of_ble_eq_true rfl, Nat.le_of_ble_eq_true rfl⟩ (by decide) cl_L_22 ct_IllegalStateException (fun q9 => ?_))
      refine r_astore C.1 (lv' := [(0, .ref a0), (1, .int x1), (2, .int x2), (3, .ref a3), (4, .ref q9)]) [1, 2, 3, 4, 0] 23 rfl dL_cut_21 (Nat.le_of_ble_eq_true rfl) rfl ?_
      refine r_iconst C.1 3 rfl 24 rfl dL_cut_23 ?_
      cases h
      exact r_zretH C rfl rfl (Nat.le_of_ble_eq_true rfl) (Nat.le_of_ble_eq_true rfl) dL_cut_24 hq
    replace h := if_some_f c27 h
    by_cases c28 : E23 = "java/lang/UnsupportedOperationException"
    · have h := if_some_t c28 h
      subst c28
      refine r_xV C.1 (st := [.int 0, .ref a3]) (x_X6_cut ha0 e21) yv_X6_cut ml_L_31 rfl ha0 rfl ⟨Nat.le_of_ble_eq_true rfl, Nat.le_of_ble_eq_true rfl⟩ ⟨Nat.le_of_ble_eq_true rfl, Nat.le_of_ble_eq_true rfl⟩ (Nat.le_of_ble_eq_true rfl) rfl dL_cut_5 (r_catch C [(0, 10, 13, 34), (0, 10, 17, 13), (0, 10, 21, 22)] [] 0 10 25 17 rfl (fun z9 h9 => by simp only [List.mem_cons, List.mem_nil_iff, or_false] at h9; rcases h9 with rfl | rfl | rfl <;> first | exact ⟨by decide, "java/util/NoSuchElementException", cl_L_34, by decide, by decide⟩ | exact ⟨by decide, "java/lang/IndexOutOfBoundsException", cl_L_13, by decide, by decide⟩ | exact ⟨by decide, "java/lang/IllegalStateException", cl_L_22, by decide, by decide⟩) (by decide) ⟨Nat.le_of_ble_eq_true rfl, Nat.le_of_ble_eq_true rfl⟩ (by decide) cl_L_17 ct_UnsupportedOperationException (fun q9 => ?_))
      refine r_astore C.1 (lv' := [(0, .ref a0), (1, .int x1), (2, .int x2), (3, .ref a3), (4, .ref q9)]) [1, 2, 3, 4, 0] 27 rfl dL_cut_25 (Nat.le_of_ble_eq_true rfl) rfl ?_
      refine r_iconst C.1 4 rfl 28 rfl dL_cut_27 ?_
      cases h
      exact r_zretH C rfl rfl (Nat.le_of_ble_eq_true rfl) (Nat.le_of_ble_eq_true rfl) dL_cut_28 hq
    replace h := if_some_f c28 h
    cases h
  refine r_cVi C.1 (st := [.int 0, .ref a3]) (c_X6_cut ha0 e21) yv_X6_cut ml_L_31 rfl ha0 rfl ⟨Nat.le_of_ble_eq_true rfl, Nat.le_of_ble_eq_true rfl⟩ ⟨Nat.le_of_ble_eq_true rfl, Nat.le_of_ble_eq_true rfl⟩ (Nat.le_of_ble_eq_true rfl) rfl 1 6 rfl rfl 8 rfl dL_cut_5 ?_
  refine r_i2l C.1 9 rfl dL_cut_8 ?_
  obtain ⟨κ29, e30, h⟩ := bnd_some h
  refine r_last C.1 ha3 (by decide) e30 10 rfl dL_cut_9 ?_
  refine r_goto C.1 29 dL_cut_10 rfl ?_
  refine r_iconst C.1 0 rfl 30 rfl dL_cut_29 ?_
  cases h
  exact r_zretH C rfl rfl (Nat.le_of_ble_eq_true rfl) (Nat.le_of_ble_eq_true rfl) dL_cut_30 hq
theorem c_L_cut {l : Launch} {G : jG} {sh : jSh} {κ : jKt} {a0 : Nat} (ha0 : sh a0 = (1, 10, 11)) {x1 : Int32} {x2 : Int32} {a3 : Nat} (ha3 : sh a3 = (2, 3, 1)) {r : Int32} {κr : jKt} (h : P_L_cut κ a0 x1 x2 a3 = some (r, κr)) : jMh l G yL_cut cL_cut 5 (some .int) [(0, 10, 13, 34), (0, 10, 17, 13), (0, 10, 21, 22), (0, 10, 25, 17)] 12 1 6 227 [.ref a0, .int x1, .int x2, .ref a3] (sh, κ) (jIs (some (.int r)) (sh, κr)) jNo :=
  r_bodyH (by decide) (Nat.le_of_ble_eq_true rfl) fun F C hl hG hs ho hx => by
    subst hs
    exact w_L_cut_0 C ha0 ha3 (by rw [ho]; exact ⟨rfl, rfl⟩) h
set_option maxRecDepth 20000 in
theorem w_L_sew_0 {F : jFm} (C : jBh F RL cL_sew 5 (some .int) [(0, 10, 13, 34), (0, 10, 17, 13), (0, 10, 21, 22), (0, 10, 25, 17)] 12 1 6 227) {κ : jKt} {a0 : Nat} (ha0 : jSof F a0 = (1, 10, 11)) {x1 : Int32} {x2 : Int32} {a3 : Nat} (ha3 : jSof F a3 = (2, 3, 1)) {r : Int32 × jKt} (hq : jOut F (some (.int r.1)) r.2) (h : P_L_sew κ a0 x1 x2 a3 = some r) : jW F 5 0 0 κ 0 [(0, .ref a0), (1, .int x1), (2, .int x2), (3, .ref a3)] [] := by
  unfold P_L_sew at h
  refine r_aload_n C.1 3 1 rfl dL_sew_0 rfl ?_
  refine r_iconst C.1 0 rfl 2 rfl dL_sew_1 ?_
  refine r_aload_n C.1 0 3 rfl dL_sew_2 rfl ?_
  refine r_iload_n C.1 1 4 rfl dL_sew_3 rfl ?_
  refine r_iload_n C.1 2 5 rfl dL_sew_4 rfl ?_
  rcases bdx2_some h with ⟨y22, κ24, e21, h⟩ | ⟨E23, κ24, e21, h⟩
  rotate_left
  · by_cases c25 : E23 = "java/util/NoSuchElementException"
    · have h := if_some_t c25 h
      subst c25
      refine r_xV C.1 (st := [.int 0, .ref a3]) (x_X6_sew ha0 e21) yv_X6_sew ml_L_36 rfl ha0 rfl ⟨Nat.le_of_ble_eq_true rfl, Nat.le_of_ble_eq_true rfl⟩ ⟨Nat.le_of_ble_eq_true rfl, Nat.le_of_ble_eq_true rfl⟩ (Nat.le_of_ble_eq_true rfl) rfl dL_sew_5 (r_catch C [] [(0, 10, 17, 13), (0, 10, 21, 22), (0, 10, 25, 17)] 0 10 13 34 rfl (fun _ h9 => nomatch h9) (by decide) ⟨Nat.le_of_ble_eq_true rfl, Nat.le_of_ble_eq_true rfl⟩ (by decide) cl_L_34 ct_NoSuchElementException (fun q9 => ?_))
      refine r_astore C.1 (lv' := [(0, .ref a0), (1, .int x1), (2, .int x2), (3, .ref a3), (4, .ref q9)]) [1, 2, 3, 4, 0] 15 rfl dL_sew_13 (Nat.le_of_ble_eq_true rfl) rfl ?_
      refine r_iconst C.1 1 rfl 16 rfl dL_sew_15 ?_
      cases h
      exact r_zretH C rfl rfl (Nat.le_of_ble_eq_true rfl) (Nat.le_of_ble_eq_true rfl) dL_sew_16 hq
    replace h := if_some_f c25 h
    by_cases c26 : E23 = "java/lang/IndexOutOfBoundsException"
    · have h := if_some_t c26 h
      subst c26
      refine r_xV C.1 (st := [.int 0, .ref a3]) (x_X6_sew ha0 e21) yv_X6_sew ml_L_36 rfl ha0 rfl ⟨Nat.le_of_ble_eq_true rfl, Nat.le_of_ble_eq_true rfl⟩ ⟨Nat.le_of_ble_eq_true rfl, Nat.le_of_ble_eq_true rfl⟩ (Nat.le_of_ble_eq_true rfl) rfl dL_sew_5 (r_catch C [(0, 10, 13, 34)] [(0, 10, 21, 22), (0, 10, 25, 17)] 0 10 17 13 rfl (fun z9 h9 => by simp only [List.mem_cons, List.mem_nil_iff, or_false] at h9; rcases h9 with rfl <;> first | exact ⟨by decide, "java/util/NoSuchElementException", cl_L_34, by decide, by decide⟩) (by decide) ⟨Nat.le_of_ble_eq_true rfl, Nat.le_of_ble_eq_true rfl⟩ (by decide) cl_L_13 ct_IndexOutOfBoundsException (fun q9 => ?_))
      refine r_astore C.1 (lv' := [(0, .ref a0), (1, .int x1), (2, .int x2), (3, .ref a3), (4, .ref q9)]) [1, 2, 3, 4, 0] 19 rfl dL_sew_17 (Nat.le_of_ble_eq_true rfl) rfl ?_
      refine r_iconst C.1 2 rfl 20 rfl dL_sew_19 ?_
      cases h
      exact r_zretH C rfl rfl (Nat.le_of_ble_eq_true rfl) (Nat.le_of_ble_eq_true rfl) dL_sew_20 hq
    replace h := if_some_f c26 h
    by_cases c27 : E23 = "java/lang/IllegalStateException"
    · have h := if_some_t c27 h
      subst c27
      refine r_xV C.1 (st := [.int 0, .ref a3]) (x_X6_sew ha0 e21) yv_X6_sew ml_L_36 rfl ha0 rfl ⟨Nat.le_of_ble_eq_true rfl, Nat.le_of_ble_eq_true rfl⟩ ⟨Nat.le_of_ble_eq_true rfl, Nat.le_of_ble_eq_true rfl⟩ (Nat.le_of_ble_eq_true rfl) rfl dL_sew_5 (r_catch C [(0, 10, 13, 34), (0, 10, 17, 13)] [(0, 10, 25, 17)] 0 10 21 22 rfl (fun z9 h9 => by simp only [List.mem_cons, List.mem_nil_iff, or_false] at h9; rcases h9 with rfl | rfl <;> first | exact ⟨by decide, "java/util/NoSuchElementException", cl_L_34, by decide, by decide⟩ | exact ⟨by decide, "java/lang/IndexOutOfBoundsException", cl_L_13, by decide, by decide⟩) (by decide) ⟨Nat.le_of_ble_eq_true rfl, Nat.le_of_ble_eq_true rfl⟩ (by decide) cl_L_22 ct_IllegalStateException (fun q9 => ?_))
      refine r_astore C.1 (lv' := [(0, .ref a0), (1, .int x1), (2, .int x2), (3, .ref a3), (4, .ref q9)]) [1, 2, 3, 4, 0] 23 rfl dL_sew_21 (Nat.le_of_ble_eq_true rfl) rfl ?_
      refine r_iconst C.1 3 rfl 24 rfl dL_sew_23 ?_
      cases h
      exact r_zretH C rfl rfl (Nat.le_of_ble_eq_true rfl) (Nat.le_of_ble_eq_true rfl) dL_sew_24 hq
    replace h := if_some_f c27 h
    by_cases c28 : E23 = "java/lang/UnsupportedOperationException"
    · have h := if_some_t c28 h
      subst c28
      refine r_xV C.1 (st := [.int 0, .ref a3]) (x_X6_sew ha0 e21) yv_X6_sew ml_L_36 rfl ha0 rfl ⟨Nat.le_of_ble_eq_true rfl, Nat.le_of_ble_eq_true rfl⟩ ⟨Nat.le_of_ble_eq_true rfl, Nat.le_of_ble_eq_true rfl⟩ (Nat.le_of_ble_eq_true rfl) rfl dL_sew_5 (r_catch C [(0, 10, 13, 34), (0, 10, 17, 13), (0, 10, 21, 22)] [] 0 10 25 17 rfl (fun z9 h9 => by simp only [List.mem_cons, List.mem_nil_iff, or_false] at h9; rcases h9 with rfl | rfl | rfl <;> first | exact ⟨by decide, "java/util/NoSuchElementException", cl_L_34, by decide, by decide⟩ | exact ⟨by decide, "java/lang/IndexOutOfBoundsException", cl_L_13, by decide, by decide⟩ | exact ⟨by decide, "java/lang/IllegalStateException", cl_L_22, by decide, by decide⟩) (by decide) ⟨Nat.le_of_ble_eq_true rfl, Nat.le_of_ble_eq_true rfl⟩ (by decide) cl_L_17 ct_UnsupportedOperationException (fun q9 => ?_))
      refine r_astore C.1 (lv' := [(0, .ref a0), (1, .int x1), (2, .int x2), (3, .ref a3), (4, .ref q9)]) [1, 2, 3, 4, 0] 27 rfl dL_sew_25 (Nat.le_of_ble_eq_true rfl) rfl ?_
      refine r_iconst C.1 4 rfl 28 rfl dL_sew_27 ?_
      cases h
      exact r_zretH C rfl rfl (Nat.le_of_ble_eq_true rfl) (Nat.le_of_ble_eq_true rfl) dL_sew_28 hq
    replace h := if_some_f c28 h
    cases h
  refine r_cVi C.1 (st := [.int 0, .ref a3]) (c_X6_sew ha0 e21) yv_X6_sew ml_L_36 rfl ha0 rfl ⟨Nat.le_of_ble_eq_true rfl, Nat.le_of_ble_eq_true rfl⟩ ⟨Nat.le_of_ble_eq_true rfl, Nat.le_of_ble_eq_true rfl⟩ (Nat.le_of_ble_eq_true rfl) rfl 1 6 rfl rfl 8 rfl dL_sew_5 ?_
  refine r_i2l C.1 9 rfl dL_sew_8 ?_
  obtain ⟨κ29, e30, h⟩ := bnd_some h
  refine r_last C.1 ha3 (by decide) e30 10 rfl dL_sew_9 ?_
  refine r_goto C.1 29 dL_sew_10 rfl ?_
  refine r_iconst C.1 0 rfl 30 rfl dL_sew_29 ?_
  cases h
  exact r_zretH C rfl rfl (Nat.le_of_ble_eq_true rfl) (Nat.le_of_ble_eq_true rfl) dL_sew_30 hq
theorem c_L_sew {l : Launch} {G : jG} {sh : jSh} {κ : jKt} {a0 : Nat} (ha0 : sh a0 = (1, 10, 11)) {x1 : Int32} {x2 : Int32} {a3 : Nat} (ha3 : sh a3 = (2, 3, 1)) {r : Int32} {κr : jKt} (h : P_L_sew κ a0 x1 x2 a3 = some (r, κr)) : jMh l G yL_sew cL_sew 5 (some .int) [(0, 10, 13, 34), (0, 10, 17, 13), (0, 10, 21, 22), (0, 10, 25, 17)] 12 1 6 227 [.ref a0, .int x1, .int x2, .ref a3] (sh, κ) (jIs (some (.int r)) (sh, κr)) jNo :=
  r_bodyH (by decide) (Nat.le_of_ble_eq_true rfl) fun F C hl hG hs ho hx => by
    subst hs
    exact w_L_sew_0 C ha0 ha3 (by rw [ho]; exact ⟨rfl, rfl⟩) h
set_option maxRecDepth 20000 in
theorem w_L_unpick_0 {F : jFm} (C : jBh F RL cL_unpick 5 (some .int) [(0, 10, 13, 34), (0, 10, 17, 13), (0, 10, 21, 22), (0, 10, 25, 17)] 12 1 6 227) {κ : jKt} {a0 : Nat} (ha0 : jSof F a0 = (1, 10, 11)) {x1 : Int32} {x2 : Int32} {a3 : Nat} (ha3 : jSof F a3 = (2, 3, 1)) {r : Int32 × jKt} (hq : jOut F (some (.int r.1)) r.2) (h : P_L_unpick κ a0 x1 x2 a3 = some r) : jW F 5 0 0 κ 0 [(0, .ref a0), (1, .int x1), (2, .int x2), (3, .ref a3)] [] := by
  unfold P_L_unpick at h
  refine r_aload_n C.1 3 1 rfl dL_unpick_0 rfl ?_
  refine r_iconst C.1 0 rfl 2 rfl dL_unpick_1 ?_
  refine r_aload_n C.1 0 3 rfl dL_unpick_2 rfl ?_
  refine r_iload_n C.1 1 4 rfl dL_unpick_3 rfl ?_
  refine r_iload_n C.1 2 5 rfl dL_unpick_4 rfl ?_
  rcases bdx2_some h with ⟨y22, κ24, e21, h⟩ | ⟨E23, κ24, e21, h⟩
  rotate_left
  · by_cases c25 : E23 = "java/util/NoSuchElementException"
    · have h := if_some_t c25 h
      subst c25
      refine r_xV C.1 (st := [.int 0, .ref a3]) (x_X6_unpick ha0 e21) yv_X6_unpick ml_L_39 rfl ha0 rfl ⟨Nat.le_of_ble_eq_true rfl, Nat.le_of_ble_eq_true rfl⟩ ⟨Nat.le_of_ble_eq_true rfl, Nat.le_of_ble_eq_true rfl⟩ (Nat.le_of_ble_eq_true rfl) rfl dL_unpick_5 (r_catch C [] [(0, 10, 17, 13), (0, 10, 21, 22), (0, 10, 25, 17)] 0 10 13 34 rfl (fun _ h9 => nomatch h9) (by decide) ⟨Nat.le_of_ble_eq_true rfl, Nat.le_of_ble_eq_true rfl⟩ (by decide) cl_L_34 ct_NoSuchElementException (fun q9 => ?_))
      refine r_astore C.1 (lv' := [(0, .ref a0), (1, .int x1), (2, .int x2), (3, .ref a3), (4, .ref q9)]) [1, 2, 3, 4, 0] 15 rfl dL_unpick_13 (Nat.le_of_ble_eq_true rfl) rfl ?_
      refine r_iconst C.1 1 rfl 16 rfl dL_unpick_15 ?_
      cases h
      exact r_zretH C rfl rfl (Nat.le_of_ble_eq_true rfl) (Nat.le_of_ble_eq_true rfl) dL_unpick_16 hq
    replace h := if_some_f c25 h
    by_cases c26 : E23 = "java/lang/IndexOutOfBoundsException"
    · have h := if_some_t c26 h
      subst c26
      refine r_xV C.1 (st := [.int 0, .ref a3]) (x_X6_unpick ha0 e21) yv_X6_unpick ml_L_39 rfl ha0 rfl ⟨Nat.le_of_ble_eq_true rfl, Nat.le_of_ble_eq_true rfl⟩ ⟨Nat.le_of_ble_eq_true rfl, Nat.le_of_ble_eq_true rfl⟩ (Nat.le_of_ble_eq_true rfl) rfl dL_unpick_5 (r_catch C [(0, 10, 13, 34)] [(0, 10, 21, 22), (0, 10, 25, 17)] 0 10 17 13 rfl (fun z9 h9 => by simp only [List.mem_cons, List.mem_nil_iff, or_false] at h9; rcases h9 with rfl <;> first | exact ⟨by decide, "java/util/NoSuchElementException", cl_L_34, by decide, by decide⟩) (by decide) ⟨Nat.le_of_ble_eq_true rfl, Nat.le_of_ble_eq_true rfl⟩ (by decide) cl_L_13 ct_IndexOutOfBoundsException (fun q9 => ?_))
      refine r_astore C.1 (lv' := [(0, .ref a0), (1, .int x1), (2, .int x2), (3, .ref a3), (4, .ref q9)]) [1, 2, 3, 4, 0] 19 rfl dL_unpick_17 (Nat.le_of_ble_eq_true rfl) rfl ?_
      refine r_iconst C.1 2 rfl 20 rfl dL_unpick_19 ?_
      cases h
      exact r_zretH C rfl rfl (Nat.le_of_ble_eq_true rfl) (Nat.le_of_ble_eq_true rfl) dL_unpick_20 hq
    replace h := if_some_f c26 h
    by_cases c27 : E23 = "java/lang/IllegalStateException"
    · have h := if_some_t c27 h
      subst c27
      refine r_xV C.1 (st := [.int 0, .ref a3]) (x_X6_unpick ha0 e21) yv_X6_unpick ml_L_39 rfl ha0 rfl ⟨Nat.le_of_ble_eq_true rfl, Nat.le_of_ble_eq_true rfl⟩ ⟨Nat.le_of_ble_eq_true rfl, Nat.le_of_ble_eq_true rfl⟩ (Nat.le_of_ble_eq_true rfl) rfl dL_unpick_5 (r_catch C [(0, 10, 13, 34), (0, 10, 17, 13)] [(0, 10, 25, 17)] 0 10 21 22 rfl (fun z9 h9 => by simp only [List.mem_cons, List.mem_nil_iff, or_false] at h9; rcases h9 with rfl | rfl <;> first | exact ⟨by decide, "java/util/NoSuchElementException", cl_L_34, by decide, by decide⟩ | exact ⟨by decide, "java/lang/IndexOutOfBoundsException", cl_L_13, by decide, by decide⟩) (by decide) ⟨Nat.le_of_ble_eq_true rfl, Nat.le_of_ble_eq_true rfl⟩ (by decide) cl_L_22 ct_IllegalStateException (fun q9 => ?_))
      refine r_astore C.1 (lv' := [(0, .ref a0), (1, .int x1), (2, .int x2), (3, .ref a3), (4, .ref q9)]) [1, 2, 3, 4, 0] 23 rfl dL_unpick_21 (Nat.le_of_ble_eq_true rfl) rfl ?_
      refine r_iconst C.1 3 rfl 24 rfl dL_unpick_23 ?_
      cases h
      exact r_zretH C rfl rfl (Nat.le_of_ble_eq_true rfl) (Nat.le_of_ble_eq_true rfl) dL_unpick_24 hq
    replace h := if_some_f c27 h
    by_cases c28 : E23 = "java/lang/UnsupportedOperationException"
    · have h := if_some_t c28 h
      subst c28
      refine r_xV C.1 (st := [.int 0, .ref a3]) (x_X6_unpick ha0 e21) yv_X6_unpick ml_L_39 rfl ha0 rfl ⟨Nat.le_of_ble_eq_true rfl, Nat.le_of_ble_eq_true rfl⟩ ⟨Nat.le_of_ble_eq_true rfl, Nat.le_of_ble_eq_true rfl⟩ (Nat.le_of_ble_eq_true rfl) rfl dL_unpick_5 (r_catch C [(0, 10, 13, 34), (0, 10, 17, 13), (0, 10, 21, 22)] [] 0 10 25 17 rfl (fun z9 h9 => by simp only [List.mem_cons, List.mem_nil_iff, or_false] at h9; rcases h9 with rfl | rfl | rfl <;> first | exact ⟨by decide, "java/util/NoSuchElementException", cl_L_34, by decide, by decide⟩ | exact ⟨by decide, "java/lang/IndexOutOfBoundsException", cl_L_13, by decide, by decide⟩ | exact ⟨by decide, "java/lang/IllegalStateException", cl_L_22, by decide, by decide⟩) (by decide) ⟨Nat.le_of_ble_eq_true rfl, Nat.le_of_ble_eq_true rfl⟩ (by decide) cl_L_17 ct_UnsupportedOperationException (fun q9 => ?_))
      refine r_astore C.1 (lv' := [(0, .ref a0), (1, .int x1), (2, .int x2), (3, .ref a3), (4, .ref q9)]) [1, 2, 3, 4, 0] 27 rfl dL_unpick_25 (Nat.le_of_ble_eq_true rfl) rfl ?_
      refine r_iconst C.1 4 rfl 28 rfl dL_unpick_27 ?_
      cases h
      exact r_zretH C rfl rfl (Nat.le_of_ble_eq_true rfl) (Nat.le_of_ble_eq_true rfl) dL_unpick_28 hq
    replace h := if_some_f c28 h
    cases h
  refine r_cVi C.1 (st := [.int 0, .ref a3]) (c_X6_unpick ha0 e21) yv_X6_unpick ml_L_39 rfl ha0 rfl ⟨Nat.le_of_ble_eq_true rfl, Nat.le_of_ble_eq_true rfl⟩ ⟨Nat.le_of_ble_eq_true rfl, Nat.le_of_ble_eq_true rfl⟩ (Nat.le_of_ble_eq_true rfl) rfl 1 6 rfl rfl 8 rfl dL_unpick_5 ?_
  refine r_i2l C.1 9 rfl dL_unpick_8 ?_
  obtain ⟨κ29, e30, h⟩ := bnd_some h
  refine r_last C.1 ha3 (by decide) e30 10 rfl dL_unpick_9 ?_
  refine r_goto C.1 29 dL_unpick_10 rfl ?_
  refine r_iconst C.1 0 rfl 30 rfl dL_unpick_29 ?_
  cases h
  exact r_zretH C rfl rfl (Nat.le_of_ble_eq_true rfl) (Nat.le_of_ble_eq_true rfl) dL_unpick_30 hq
theorem c_L_unpick {l : Launch} {G : jG} {sh : jSh} {κ : jKt} {a0 : Nat} (ha0 : sh a0 = (1, 10, 11)) {x1 : Int32} {x2 : Int32} {a3 : Nat} (ha3 : sh a3 = (2, 3, 1)) {r : Int32} {κr : jKt} (h : P_L_unpick κ a0 x1 x2 a3 = some (r, κr)) : jMh l G yL_unpick cL_unpick 5 (some .int) [(0, 10, 13, 34), (0, 10, 17, 13), (0, 10, 21, 22), (0, 10, 25, 17)] 12 1 6 227 [.ref a0, .int x1, .int x2, .ref a3] (sh, κ) (jIs (some (.int r)) (sh, κr)) jNo :=
  r_bodyH (by decide) (Nat.le_of_ble_eq_true rfl) fun F C hl hG hs ho hx => by
    subst hs
    exact w_L_unpick_0 C ha0 ha3 (by rw [ho]; exact ⟨rfl, rfl⟩) h
set_option maxRecDepth 20000 in
theorem w_L_demand_0 {F : jFm} (C : jBh F RL cL_demand 6 (some .int) [(0, 12, 15, 34), (0, 12, 19, 13), (0, 12, 23, 15), (0, 12, 27, 22), (0, 12, 31, 17)] 12 1 6 228) {κ : jKt} {a0 : Nat} (ha0 : jSof F a0 = (1, 10, 11)) {x1 : Int32} {x2 : Int32} {x3 : Int32} {a4 : Nat} (ha4 : jSof F a4 = (2, 3, 1)) {r : Int32 × jKt} (hq : jOut F (some (.int r.1)) r.2) (h : P_L_demand κ a0 x1 x2 x3 a4 = some r) : jW F 6 0 0 κ 0 [(0, .ref a0), (1, .int x1), (2, .int x2), (3, .int x3), (4, .ref a4)] [] := by
  unfold P_L_demand at h
  refine r_aload C.1 4 2 rfl dL_demand_0 rfl ?_
  refine r_iconst C.1 0 rfl 3 rfl dL_demand_2 ?_
  refine r_aload_n C.1 0 4 rfl dL_demand_3 rfl ?_
  refine r_iload_n C.1 1 5 rfl dL_demand_4 rfl ?_
  refine r_iload_n C.1 2 6 rfl dL_demand_5 rfl ?_
  refine r_iload_n C.1 3 7 rfl dL_demand_6 rfl ?_
  rcases bdx2_some h with ⟨y24, κ26, e23, h⟩ | ⟨E25, κ26, e23, h⟩
  rotate_left
  · by_cases c27 : E25 = "java/util/NoSuchElementException"
    · have h := if_some_t c27 h
      subst c27
      refine r_xV C.1 (st := [.int 0, .ref a4]) (x_X6_demand ha0 e23) yv_X6_demand ml_L_42 rfl ha0 rfl ⟨Nat.le_of_ble_eq_true rfl, Nat.le_of_ble_eq_true rfl⟩ ⟨Nat.le_of_ble_eq_true rfl, Nat.le_of_ble_eq_true rfl⟩ (Nat.le_of_ble_eq_true rfl) rfl dL_demand_7 (r_catch C [] [(0, 12, 19, 13), (0, 12, 23, 15), (0, 12, 27, 22), (0, 12, 31, 17)] 0 12 15 34 rfl (fun _ h9 => nomatch h9) (by decide) ⟨Nat.le_of_ble_eq_true rfl, Nat.le_of_ble_eq_true rfl⟩ (by decide) cl_L_34 ct_NoSuchElementException (fun q9 => ?_))
      refine r_astore C.1 (lv' := [(0, .ref a0), (1, .int x1), (2, .int x2), (3, .int x3), (4, .ref a4), (5, .ref q9)]) [1, 2, 3, 4, 5, 0] 17 rfl dL_demand_15 (Nat.le_of_ble_eq_true rfl) rfl ?_
      refine r_iconst C.1 1 rfl 18 rfl dL_demand_17 ?_
      cases h
      exact r_zretH C rfl rfl (Nat.le_of_ble_eq_true rfl) (Nat.le_of_ble_eq_true rfl) dL_demand_18 hq
    replace h := if_some_f c27 h
    by_cases c28 : E25 = "java/lang/IndexOutOfBoundsException"
    · have h := if_some_t c28 h
      subst c28
      refine r_xV C.1 (st := [.int 0, .ref a4]) (x_X6_demand ha0 e23) yv_X6_demand ml_L_42 rfl ha0 rfl ⟨Nat.le_of_ble_eq_true rfl, Nat.le_of_ble_eq_true rfl⟩ ⟨Nat.le_of_ble_eq_true rfl, Nat.le_of_ble_eq_true rfl⟩ (Nat.le_of_ble_eq_true rfl) rfl dL_demand_7 (r_catch C [(0, 12, 15, 34)] [(0, 12, 23, 15), (0, 12, 27, 22), (0, 12, 31, 17)] 0 12 19 13 rfl (fun z9 h9 => by simp only [List.mem_cons, List.mem_nil_iff, or_false] at h9; rcases h9 with rfl <;> first | exact ⟨by decide, "java/util/NoSuchElementException", cl_L_34, by decide, by decide⟩) (by decide) ⟨Nat.le_of_ble_eq_true rfl, Nat.le_of_ble_eq_true rfl⟩ (by decide) cl_L_13 ct_IndexOutOfBoundsException (fun q9 => ?_))
      refine r_astore C.1 (lv' := [(0, .ref a0), (1, .int x1), (2, .int x2), (3, .int x3), (4, .ref a4), (5, .ref q9)]) [1, 2, 3, 4, 5, 0] 21 rfl dL_demand_19 (Nat.le_of_ble_eq_true rfl) rfl ?_
      refine r_iconst C.1 2 rfl 22 rfl dL_demand_21 ?_
      cases h
      exact r_zretH C rfl rfl (Nat.le_of_ble_eq_true rfl) (Nat.le_of_ble_eq_true rfl) dL_demand_22 hq
    replace h := if_some_f c28 h
    by_cases c29 : E25 = "java/lang/IllegalArgumentException"
    · have h := if_some_t c29 h
      subst c29
      refine r_xV C.1 (st := [.int 0, .ref a4]) (x_X6_demand ha0 e23) yv_X6_demand ml_L_42 rfl ha0 rfl ⟨Nat.le_of_ble_eq_true rfl, Nat.le_of_ble_eq_true rfl⟩ ⟨Nat.le_of_ble_eq_true rfl, Nat.le_of_ble_eq_true rfl⟩ (Nat.le_of_ble_eq_true rfl) rfl dL_demand_7 (r_catch C [(0, 12, 15, 34), (0, 12, 19, 13)] [(0, 12, 27, 22), (0, 12, 31, 17)] 0 12 23 15 rfl (fun z9 h9 => by simp only [List.mem_cons, List.mem_nil_iff, or_false] at h9; rcases h9 with rfl | rfl <;> first | exact ⟨by decide, "java/util/NoSuchElementException", cl_L_34, by decide, by decide⟩ | exact ⟨by decide, "java/lang/IndexOutOfBoundsException", cl_L_13, by decide, by decide⟩) (by decide) ⟨Nat.le_of_ble_eq_true rfl, Nat.le_of_ble_eq_true rfl⟩ (by decide) cl_L_15 ct_IllegalArgumentException (fun q9 => ?_))
      refine r_astore C.1 (lv' := [(0, .ref a0), (1, .int x1), (2, .int x2), (3, .int x3), (4, .ref a4), (5, .ref q9)]) [1, 2, 3, 4, 5, 0] 25 rfl dL_demand_23 (Nat.le_of_ble_eq_true rfl) rfl ?_
      refine r_iconst C.1 3 rfl 26 rfl dL_demand_25 ?_
      cases h
      exact r_zretH C rfl rfl (Nat.le_of_ble_eq_true rfl) (Nat.le_of_ble_eq_true rfl) dL_demand_26 hq
    replace h := if_some_f c29 h
    by_cases c30 : E25 = "java/lang/IllegalStateException"
    · have h := if_some_t c30 h
      subst c30
      refine r_xV C.1 (st := [.int 0, .ref a4]) (x_X6_demand ha0 e23) yv_X6_demand ml_L_42 rfl ha0 rfl ⟨Nat.le_of_ble_eq_true rfl, Nat.le_of_ble_eq_true rfl⟩ ⟨Nat.le_of_ble_eq_true rfl, Nat.le_of_ble_eq_true rfl⟩ (Nat.le_of_ble_eq_true rfl) rfl dL_demand_7 (r_catch C [(0, 12, 15, 34), (0, 12, 19, 13), (0, 12, 23, 15)] [(0, 12, 31, 17)] 0 12 27 22 rfl (fun z9 h9 => by simp only [List.mem_cons, List.mem_nil_iff, or_false] at h9; rcases h9 with rfl | rfl | rfl <;> first | exact ⟨by decide, "java/util/NoSuchElementException", cl_L_34, by decide, by decide⟩ | exact ⟨by decide, "java/lang/IndexOutOfBoundsException", cl_L_13, by decide, by decide⟩ | exact ⟨by decide, "java/lang/IllegalArgumentException", cl_L_15, by decide, by decide⟩) (by decide) ⟨Nat.le_of_ble_eq_true rfl, Nat.le_of_ble_eq_true rfl⟩ (by decide) cl_L_22 ct_IllegalStateException (fun q9 => ?_))
      refine r_astore C.1 (lv' := [(0, .ref a0), (1, .int x1), (2, .int x2), (3, .int x3), (4, .ref a4), (5, .ref q9)]) [1, 2, 3, 4, 5, 0] 29 rfl dL_demand_27 (Nat.le_of_ble_eq_true rfl) rfl ?_
      refine r_iconst C.1 4 rfl 30 rfl dL_demand_29 ?_
      cases h
      exact r_zretH C rfl rfl (Nat.le_of_ble_eq_true rfl) (Nat.le_of_ble_eq_true rfl) dL_demand_30 hq
    replace h := if_some_f c30 h
    by_cases c31 : E25 = "java/lang/UnsupportedOperationException"
    · have h := if_some_t c31 h
      subst c31
      refine r_xV C.1 (st := [.int 0, .ref a4]) (x_X6_demand ha0 e23) yv_X6_demand ml_L_42 rfl ha0 rfl ⟨Nat.le_of_ble_eq_true rfl, Nat.le_of_ble_eq_true rfl⟩ ⟨Nat.le_of_ble_eq_true rfl, Nat.le_of_ble_eq_true rfl⟩ (Nat.le_of_ble_eq_true rfl) rfl dL_demand_7 (r_catch C [(0, 12, 15, 34), (0, 12, 19, 13), (0, 12, 23, 15), (0, 12, 27, 22)] [] 0 12 31 17 rfl (fun z9 h9 => by simp only [List.mem_cons, List.mem_nil_iff, or_false] at h9; rcases h9 with rfl | rfl | rfl | rfl <;> first | exact ⟨by decide, "java/util/NoSuchElementException", cl_L_34, by decide, by decide⟩ | exact ⟨by decide, "java/lang/IndexOutOfBoundsException", cl_L_13, by decide, by decide⟩ | exact ⟨by decide, "java/lang/IllegalArgumentException", cl_L_15, by decide, by decide⟩ | exact ⟨by decide, "java/lang/IllegalStateException", cl_L_22, by decide, by decide⟩) (by decide) ⟨Nat.le_of_ble_eq_true rfl, Nat.le_of_ble_eq_true rfl⟩ (by decide) cl_L_17 ct_UnsupportedOperationException (fun q9 => ?_))
      refine r_astore C.1 (lv' := [(0, .ref a0), (1, .int x1), (2, .int x2), (3, .int x3), (4, .ref a4), (5, .ref q9)]) [1, 2, 3, 4, 5, 0] 33 rfl dL_demand_31 (Nat.le_of_ble_eq_true rfl) rfl ?_
      refine r_iconst C.1 5 rfl 34 rfl dL_demand_33 ?_
      cases h
      exact r_zretH C rfl rfl (Nat.le_of_ble_eq_true rfl) (Nat.le_of_ble_eq_true rfl) dL_demand_34 hq
    replace h := if_some_f c31 h
    cases h
  refine r_cVi C.1 (st := [.int 0, .ref a4]) (c_X6_demand ha0 e23) yv_X6_demand ml_L_42 rfl ha0 rfl ⟨Nat.le_of_ble_eq_true rfl, Nat.le_of_ble_eq_true rfl⟩ ⟨Nat.le_of_ble_eq_true rfl, Nat.le_of_ble_eq_true rfl⟩ (Nat.le_of_ble_eq_true rfl) rfl 1 6 rfl rfl 10 rfl dL_demand_7 ?_
  refine r_i2l C.1 11 rfl dL_demand_10 ?_
  obtain ⟨κ32, e33, h⟩ := bnd_some h
  refine r_last C.1 ha4 (by decide) e33 12 rfl dL_demand_11 ?_
  refine r_goto C.1 35 dL_demand_12 rfl ?_
  refine r_iconst C.1 0 rfl 36 rfl dL_demand_35 ?_
  cases h
  exact r_zretH C rfl rfl (Nat.le_of_ble_eq_true rfl) (Nat.le_of_ble_eq_true rfl) dL_demand_36 hq
theorem c_L_demand {l : Launch} {G : jG} {sh : jSh} {κ : jKt} {a0 : Nat} (ha0 : sh a0 = (1, 10, 11)) {x1 : Int32} {x2 : Int32} {x3 : Int32} {a4 : Nat} (ha4 : sh a4 = (2, 3, 1)) {r : Int32} {κr : jKt} (h : P_L_demand κ a0 x1 x2 x3 a4 = some (r, κr)) : jMh l G yL_demand cL_demand 6 (some .int) [(0, 12, 15, 34), (0, 12, 19, 13), (0, 12, 23, 15), (0, 12, 27, 22), (0, 12, 31, 17)] 12 1 6 228 [.ref a0, .int x1, .int x2, .int x3, .ref a4] (sh, κ) (jIs (some (.int r)) (sh, κr)) jNo :=
  r_bodyH (by decide) (Nat.le_of_ble_eq_true rfl) fun F C hl hG hs ho hx => by
    subst hs
    exact w_L_demand_0 C ha0 ha4 (by rw [ho]; exact ⟨rfl, rfl⟩) h
set_option maxRecDepth 20000 in
theorem w_L_deliver_0 {F : jFm} (C : jBh F RL cL_deliver 4 (some .int) [(0, 9, 12, 34), (0, 9, 15, 22)] 12 1 6 226) {κ : jKt} {a0 : Nat} (ha0 : jSof F a0 = (1, 10, 11)) {x1 : Int32} {a2 : Nat} (ha2 : jSof F a2 = (2, 3, 1)) {r : Int32 × jKt} (hq : jOut F (some (.int r.1)) r.2) (h : P_L_deliver κ a0 x1 a2 = some r) : jW F 4 0 0 κ 0 [(0, .ref a0), (1, .int x1), (2, .ref a2)] [] := by
  unfold P_L_deliver at h
  refine r_aload_n C.1 2 1 rfl dL_deliver_0 rfl ?_
  refine r_iconst C.1 0 rfl 2 rfl dL_deliver_1 ?_
  refine r_aload_n C.1 0 3 rfl dL_deliver_2 rfl ?_
  refine r_iload_n C.1 1 4 rfl dL_deliver_3 rfl ?_
  rcases bdx2_some h with ⟨y18, κ20, e17, h⟩ | ⟨E19, κ20, e17, h⟩
  rotate_left
  · by_cases c21 : E19 = "java/util/NoSuchElementException"
    · have h := if_some_t c21 h
      subst c21
      refine r_xV C.1 (st := [.int 0, .ref a2]) (x_X6_deliver ha0 e17) yv_X6_deliver ml_L_45 rfl ha0 rfl ⟨Nat.le_of_ble_eq_true rfl, Nat.le_of_ble_eq_true rfl⟩ ⟨Nat.le_of_ble_eq_true rfl, Nat.le_of_ble_eq_true rfl⟩ (Nat.le_of_ble_eq_true rfl) rfl dL_deliver_4 (r_catch C [] [(0, 9, 15, 22)] 0 9 12 34 rfl (fun _ h9 => nomatch h9) (by decide) ⟨Nat.le_of_ble_eq_true rfl, Nat.le_of_ble_eq_true rfl⟩ (by decide) cl_L_34 ct_NoSuchElementException (fun q9 => ?_))
      refine r_astore_n C.1 (lv' := [(0, .ref a0), (1, .int x1), (2, .ref a2), (3, .ref q9)]) [1, 2, 3, 0] 13 rfl dL_deliver_12 (Nat.le_of_ble_eq_true rfl) rfl ?_
      refine r_iconst C.1 1 rfl 14 rfl dL_deliver_13 ?_
      cases h
      exact r_zretH C rfl rfl (Nat.le_of_ble_eq_true rfl) (Nat.le_of_ble_eq_true rfl) dL_deliver_14 hq
    replace h := if_some_f c21 h
    by_cases c22 : E19 = "java/lang/IllegalStateException"
    · have h := if_some_t c22 h
      subst c22
      refine r_xV C.1 (st := [.int 0, .ref a2]) (x_X6_deliver ha0 e17) yv_X6_deliver ml_L_45 rfl ha0 rfl ⟨Nat.le_of_ble_eq_true rfl, Nat.le_of_ble_eq_true rfl⟩ ⟨Nat.le_of_ble_eq_true rfl, Nat.le_of_ble_eq_true rfl⟩ (Nat.le_of_ble_eq_true rfl) rfl dL_deliver_4 (r_catch C [(0, 9, 12, 34)] [] 0 9 15 22 rfl (fun z9 h9 => by simp only [List.mem_cons, List.mem_nil_iff, or_false] at h9; rcases h9 with rfl <;> first | exact ⟨by decide, "java/util/NoSuchElementException", cl_L_34, by decide, by decide⟩) (by decide) ⟨Nat.le_of_ble_eq_true rfl, Nat.le_of_ble_eq_true rfl⟩ (by decide) cl_L_22 ct_IllegalStateException (fun q9 => ?_))
      refine r_astore_n C.1 (lv' := [(0, .ref a0), (1, .int x1), (2, .ref a2), (3, .ref q9)]) [1, 2, 3, 0] 16 rfl dL_deliver_15 (Nat.le_of_ble_eq_true rfl) rfl ?_
      refine r_iconst C.1 2 rfl 17 rfl dL_deliver_16 ?_
      cases h
      exact r_zretH C rfl rfl (Nat.le_of_ble_eq_true rfl) (Nat.le_of_ble_eq_true rfl) dL_deliver_17 hq
    replace h := if_some_f c22 h
    cases h
  refine r_cVi C.1 (st := [.int 0, .ref a2]) (c_X6_deliver ha0 e17) yv_X6_deliver ml_L_45 rfl ha0 rfl ⟨Nat.le_of_ble_eq_true rfl, Nat.le_of_ble_eq_true rfl⟩ ⟨Nat.le_of_ble_eq_true rfl, Nat.le_of_ble_eq_true rfl⟩ (Nat.le_of_ble_eq_true rfl) rfl 1 6 rfl rfl 7 rfl dL_deliver_4 ?_
  refine r_i2l C.1 8 rfl dL_deliver_7 ?_
  obtain ⟨κ23, e24, h⟩ := bnd_some h
  refine r_last C.1 ha2 (by decide) e24 9 rfl dL_deliver_8 ?_
  refine r_goto C.1 18 dL_deliver_9 rfl ?_
  refine r_iconst C.1 0 rfl 19 rfl dL_deliver_18 ?_
  cases h
  exact r_zretH C rfl rfl (Nat.le_of_ble_eq_true rfl) (Nat.le_of_ble_eq_true rfl) dL_deliver_19 hq
theorem c_L_deliver {l : Launch} {G : jG} {sh : jSh} {κ : jKt} {a0 : Nat} (ha0 : sh a0 = (1, 10, 11)) {x1 : Int32} {a2 : Nat} (ha2 : sh a2 = (2, 3, 1)) {r : Int32} {κr : jKt} (h : P_L_deliver κ a0 x1 a2 = some (r, κr)) : jMh l G yL_deliver cL_deliver 4 (some .int) [(0, 9, 12, 34), (0, 9, 15, 22)] 12 1 6 226 [.ref a0, .int x1, .ref a2] (sh, κ) (jIs (some (.int r)) (sh, κr)) jNo :=
  r_bodyH (by decide) (Nat.le_of_ble_eq_true rfl) fun F C hl hG hs ho hx => by
    subst hs
    exact w_L_deliver_0 C ha0 ha2 (by rw [ho]; exact ⟨rfl, rfl⟩) h
set_option maxRecDepth 20000 in
theorem w_L_scrap_0 {F : jFm} (C : jBh F RL cL_scrap 4 (some .int) [(0, 9, 12, 34)] 12 1 6 226) {κ : jKt} {a0 : Nat} (ha0 : jSof F a0 = (1, 10, 11)) {x1 : Int32} {a2 : Nat} (ha2 : jSof F a2 = (2, 3, 1)) {r : Int32 × jKt} (hq : jOut F (some (.int r.1)) r.2) (h : P_L_scrap κ a0 x1 a2 = some r) : jW F 4 0 0 κ 0 [(0, .ref a0), (1, .int x1), (2, .ref a2)] [] := by
  unfold P_L_scrap at h
  refine r_aload_n C.1 2 1 rfl dL_scrap_0 rfl ?_
  refine r_iconst C.1 0 rfl 2 rfl dL_scrap_1 ?_
  refine r_aload_n C.1 0 3 rfl dL_scrap_2 rfl ?_
  refine r_iload_n C.1 1 4 rfl dL_scrap_3 rfl ?_
  rcases bdx2_some h with ⟨y16, κ18, e15, h⟩ | ⟨E17, κ18, e15, h⟩
  rotate_left
  · by_cases c19 : E17 = "java/util/NoSuchElementException"
    · have h := if_some_t c19 h
      subst c19
      refine r_xV C.1 (st := [.int 0, .ref a2]) (x_X6_scrap ha0 e15) yv_X6_scrap ml_L_49 rfl ha0 rfl ⟨Nat.le_of_ble_eq_true rfl, Nat.le_of_ble_eq_true rfl⟩ ⟨Nat.le_of_ble_eq_true rfl, Nat.le_of_ble_eq_true rfl⟩ (Nat.le_of_ble_eq_true rfl) rfl dL_scrap_4 (r_catch C [] [] 0 9 12 34 rfl (fun _ h9 => nomatch h9) (by decide) ⟨Nat.le_of_ble_eq_true rfl, Nat.le_of_ble_eq_true rfl⟩ (by decide) cl_L_34 ct_NoSuchElementException (fun q9 => ?_))
      refine r_astore_n C.1 (lv' := [(0, .ref a0), (1, .int x1), (2, .ref a2), (3, .ref q9)]) [1, 2, 3, 0] 13 rfl dL_scrap_12 (Nat.le_of_ble_eq_true rfl) rfl ?_
      refine r_iconst C.1 1 rfl 14 rfl dL_scrap_13 ?_
      cases h
      exact r_zretH C rfl rfl (Nat.le_of_ble_eq_true rfl) (Nat.le_of_ble_eq_true rfl) dL_scrap_14 hq
    replace h := if_some_f c19 h
    cases h
  refine r_cVi C.1 (st := [.int 0, .ref a2]) (c_X6_scrap ha0 e15) yv_X6_scrap ml_L_49 rfl ha0 rfl ⟨Nat.le_of_ble_eq_true rfl, Nat.le_of_ble_eq_true rfl⟩ ⟨Nat.le_of_ble_eq_true rfl, Nat.le_of_ble_eq_true rfl⟩ (Nat.le_of_ble_eq_true rfl) rfl 1 6 rfl rfl 7 rfl dL_scrap_4 ?_
  refine r_i2l C.1 8 rfl dL_scrap_7 ?_
  obtain ⟨κ20, e21, h⟩ := bnd_some h
  refine r_last C.1 ha2 (by decide) e21 9 rfl dL_scrap_8 ?_
  refine r_goto C.1 15 dL_scrap_9 rfl ?_
  refine r_iconst C.1 0 rfl 16 rfl dL_scrap_15 ?_
  cases h
  exact r_zretH C rfl rfl (Nat.le_of_ble_eq_true rfl) (Nat.le_of_ble_eq_true rfl) dL_scrap_16 hq
theorem c_L_scrap {l : Launch} {G : jG} {sh : jSh} {κ : jKt} {a0 : Nat} (ha0 : sh a0 = (1, 10, 11)) {x1 : Int32} {a2 : Nat} (ha2 : sh a2 = (2, 3, 1)) {r : Int32} {κr : jKt} (h : P_L_scrap κ a0 x1 a2 = some (r, κr)) : jMh l G yL_scrap cL_scrap 4 (some .int) [(0, 9, 12, 34)] 12 1 6 226 [.ref a0, .int x1, .ref a2] (sh, κ) (jIs (some (.int r)) (sh, κr)) jNo :=
  r_bodyH (by decide) (Nat.le_of_ble_eq_true rfl) fun F C hl hG hs ho hx => by
    subst hs
    exact w_L_scrap_0 C ha0 ha2 (by rw [ho]; exact ⟨rfl, rfl⟩) h
set_option maxRecDepth 20000 in
theorem w_L_stock_0 {F : jFm} (C : jBh F RL cL_stock 4 (some .int) [(0, 9, 12, 13)] 10 1 6 181) {κ : jKt} {a0 : Nat} (ha0 : jSof F a0 = (1, 10, 11)) {x1 : Int32} {a2 : Nat} (ha2 : jSof F a2 = (2, 3, 1)) {r : Int32 × jKt} (hq : jOut F (some (.int r.1)) r.2) (h : P_L_stock κ a0 x1 a2 = some r) : jW F 4 0 0 κ 0 [(0, .ref a0), (1, .int x1), (2, .ref a2)] [] := by
  unfold P_L_stock at h
  refine r_aload_n C.1 2 1 rfl dL_stock_0 rfl ?_
  refine r_iconst C.1 0 rfl 2 rfl dL_stock_1 ?_
  refine r_aload_n C.1 0 3 rfl dL_stock_2 rfl ?_
  refine r_iload_n C.1 1 4 rfl dL_stock_3 rfl ?_
  rcases bdx_some h with ⟨y14, e13, h⟩ | ⟨E15, e13, h⟩
  rotate_left
  · by_cases c16 : E15 = "java/lang/IndexOutOfBoundsException"
    · have h := if_some_t c16 h
      subst c16
      refine r_xV C.1 (st := [.int 0, .ref a2]) (x_X6_stock ha0 e13) yv_X6_stock ml_L_52 rfl ha0 rfl ⟨Nat.le_of_ble_eq_true rfl, Nat.le_of_ble_eq_true rfl⟩ ⟨Nat.le_of_ble_eq_true rfl, Nat.le_of_ble_eq_true rfl⟩ (Nat.le_of_ble_eq_true rfl) rfl dL_stock_4 (r_catch C [] [] 0 9 12 13 rfl (fun _ h9 => nomatch h9) (by decide) ⟨Nat.le_of_ble_eq_true rfl, Nat.le_of_ble_eq_true rfl⟩ (by decide) cl_L_13 ct_IndexOutOfBoundsException (fun q9 => ?_))
      refine r_astore_n C.1 (lv' := [(0, .ref a0), (1, .int x1), (2, .ref a2), (3, .ref q9)]) [1, 2, 3, 0] 13 rfl dL_stock_12 (Nat.le_of_ble_eq_true rfl) rfl ?_
      refine r_iconst C.1 1 rfl 14 rfl dL_stock_13 ?_
      cases h
      exact r_zretH C rfl rfl (Nat.le_of_ble_eq_true rfl) (Nat.le_of_ble_eq_true rfl) dL_stock_14 hq
    replace h := if_some_f c16 h
    cases h
  refine r_cVi C.1 (st := [.int 0, .ref a2]) (c_X6_stock ha0 e13) yv_X6_stock ml_L_52 rfl ha0 rfl ⟨Nat.le_of_ble_eq_true rfl, Nat.le_of_ble_eq_true rfl⟩ ⟨Nat.le_of_ble_eq_true rfl, Nat.le_of_ble_eq_true rfl⟩ (Nat.le_of_ble_eq_true rfl) rfl 1 6 rfl rfl 7 rfl dL_stock_4 ?_
  refine r_i2l C.1 8 rfl dL_stock_7 ?_
  obtain ⟨κ17, e18, h⟩ := bnd_some h
  refine r_last C.1 ha2 (by decide) e18 9 rfl dL_stock_8 ?_
  refine r_goto C.1 15 dL_stock_9 rfl ?_
  refine r_iconst C.1 0 rfl 16 rfl dL_stock_15 ?_
  cases h
  exact r_zretH C rfl rfl (Nat.le_of_ble_eq_true rfl) (Nat.le_of_ble_eq_true rfl) dL_stock_16 hq
theorem c_L_stock {l : Launch} {G : jG} {sh : jSh} {κ : jKt} {a0 : Nat} (ha0 : sh a0 = (1, 10, 11)) {x1 : Int32} {a2 : Nat} (ha2 : sh a2 = (2, 3, 1)) {r : Int32} {κr : jKt} (h : P_L_stock κ a0 x1 a2 = some (r, κr)) : jMh l G yL_stock cL_stock 4 (some .int) [(0, 9, 12, 13)] 10 1 6 181 [.ref a0, .int x1, .ref a2] (sh, κ) (jIs (some (.int r)) (sh, κr)) jNo :=
  r_bodyH (by decide) (Nat.le_of_ble_eq_true rfl) fun F C hl hG hs ho hx => by
    subst hs
    exact w_L_stock_0 C ha0 ha2 (by rw [ho]; exact ⟨rfl, rfl⟩) h
set_option maxRecDepth 20000 in
theorem w_L_pairs_0 {F : jFm} (C : jBh F RL cL_pairs 4 (some .int) [(0, 9, 12, 13)] 11 1 6 202) {κ : jKt} {a0 : Nat} (ha0 : jSof F a0 = (1, 10, 11)) {x1 : Int32} {a2 : Nat} (ha2 : jSof F a2 = (2, 3, 1)) {r : Int32 × jKt} (hq : jOut F (some (.int r.1)) r.2) (h : P_L_pairs κ a0 x1 a2 = some r) : jW F 4 0 0 κ 0 [(0, .ref a0), (1, .int x1), (2, .ref a2)] [] := by
  unfold P_L_pairs at h
  refine r_aload_n C.1 2 1 rfl dL_pairs_0 rfl ?_
  refine r_iconst C.1 0 rfl 2 rfl dL_pairs_1 ?_
  refine r_aload_n C.1 0 3 rfl dL_pairs_2 rfl ?_
  refine r_iload_n C.1 1 4 rfl dL_pairs_3 rfl ?_
  rcases bdx_some h with ⟨y14, e13, h⟩ | ⟨E15, e13, h⟩
  rotate_left
  · by_cases c16 : E15 = "java/lang/IndexOutOfBoundsException"
    · have h := if_some_t c16 h
      subst c16
      refine r_xV C.1 (st := [.int 0, .ref a2]) (x_X6_pairs ha0 e13) yv_X6_pairs ml_L_55 rfl ha0 rfl ⟨Nat.le_of_ble_eq_true rfl, Nat.le_of_ble_eq_true rfl⟩ ⟨Nat.le_of_ble_eq_true rfl, Nat.le_of_ble_eq_true rfl⟩ (Nat.le_of_ble_eq_true rfl) rfl dL_pairs_4 (r_catch C [] [] 0 9 12 13 rfl (fun _ h9 => nomatch h9) (by decide) ⟨Nat.le_of_ble_eq_true rfl, Nat.le_of_ble_eq_true rfl⟩ (by decide) cl_L_13 ct_IndexOutOfBoundsException (fun q9 => ?_))
      refine r_astore_n C.1 (lv' := [(0, .ref a0), (1, .int x1), (2, .ref a2), (3, .ref q9)]) [1, 2, 3, 0] 13 rfl dL_pairs_12 (Nat.le_of_ble_eq_true rfl) rfl ?_
      refine r_iconst C.1 1 rfl 14 rfl dL_pairs_13 ?_
      cases h
      exact r_zretH C rfl rfl (Nat.le_of_ble_eq_true rfl) (Nat.le_of_ble_eq_true rfl) dL_pairs_14 hq
    replace h := if_some_f c16 h
    cases h
  refine r_cVi C.1 (st := [.int 0, .ref a2]) (c_X6_pairs ha0 e13) yv_X6_pairs ml_L_55 rfl ha0 rfl ⟨Nat.le_of_ble_eq_true rfl, Nat.le_of_ble_eq_true rfl⟩ ⟨Nat.le_of_ble_eq_true rfl, Nat.le_of_ble_eq_true rfl⟩ (Nat.le_of_ble_eq_true rfl) rfl 1 6 rfl rfl 7 rfl dL_pairs_4 ?_
  refine r_i2l C.1 8 rfl dL_pairs_7 ?_
  obtain ⟨κ17, e18, h⟩ := bnd_some h
  refine r_last C.1 ha2 (by decide) e18 9 rfl dL_pairs_8 ?_
  refine r_goto C.1 15 dL_pairs_9 rfl ?_
  refine r_iconst C.1 0 rfl 16 rfl dL_pairs_15 ?_
  cases h
  exact r_zretH C rfl rfl (Nat.le_of_ble_eq_true rfl) (Nat.le_of_ble_eq_true rfl) dL_pairs_16 hq
theorem c_L_pairs {l : Launch} {G : jG} {sh : jSh} {κ : jKt} {a0 : Nat} (ha0 : sh a0 = (1, 10, 11)) {x1 : Int32} {a2 : Nat} (ha2 : sh a2 = (2, 3, 1)) {r : Int32} {κr : jKt} (h : P_L_pairs κ a0 x1 a2 = some (r, κr)) : jMh l G yL_pairs cL_pairs 4 (some .int) [(0, 9, 12, 13)] 11 1 6 202 [.ref a0, .int x1, .ref a2] (sh, κ) (jIs (some (.int r)) (sh, κr)) jNo :=
  r_bodyH (by decide) (Nat.le_of_ble_eq_true rfl) fun F C hl hG hs ho hx => by
    subst hs
    exact w_L_pairs_0 C ha0 ha2 (by rw [ho]; exact ⟨rfl, rfl⟩) h
set_option maxRecDepth 20000 in
theorem w_L_legLength_0 {F : jFm} (C : jBh F RL cL_legLength 5 (some .int) [(0, 10, 13, 13)] 12 2 12 226) {κ : jKt} {a0 : Nat} (ha0 : jSof F a0 = (1, 10, 11)) {x1 : Int32} {x2 : Int32} {a3 : Nat} (ha3 : jSof F a3 = (2, 3, 1)) {r : Int32 × jKt} (hq : jOut F (some (.int r.1)) r.2) (h : P_L_legLength κ a0 x1 x2 a3 = some r) : jW F 5 0 0 κ 0 [(0, .ref a0), (1, .int x1), (2, .int x2), (3, .ref a3)] [] := by
  unfold P_L_legLength at h
  refine r_aload_n C.1 3 1 rfl dL_legLength_0 rfl ?_
  refine r_iconst C.1 0 rfl 2 rfl dL_legLength_1 ?_
  refine r_aload_n C.1 0 3 rfl dL_legLength_2 rfl ?_
  refine r_iload_n C.1 1 4 rfl dL_legLength_3 rfl ?_
  refine r_iload_n C.1 2 5 rfl dL_legLength_4 rfl ?_
  rcases bdx_some h with ⟨y14, e13, h⟩ | ⟨E15, e13, h⟩
  rotate_left
  · by_cases c16 : E15 = "java/lang/IndexOutOfBoundsException"
    · have h := if_some_t c16 h
      subst c16
      refine r_xV C.1 (st := [.int 0, .ref a3]) (x_X6_legLength ha0 e13) yv_X6_legLength ml_L_58 rfl ha0 rfl ⟨Nat.le_of_ble_eq_true rfl, Nat.le_of_ble_eq_true rfl⟩ ⟨Nat.le_of_ble_eq_true rfl, Nat.le_of_ble_eq_true rfl⟩ (Nat.le_of_ble_eq_true rfl) rfl dL_legLength_5 (r_catch C [] [] 0 10 13 13 rfl (fun _ h9 => nomatch h9) (by decide) ⟨Nat.le_of_ble_eq_true rfl, Nat.le_of_ble_eq_true rfl⟩ (by decide) cl_L_13 ct_IndexOutOfBoundsException (fun q9 => ?_))
      refine r_astore C.1 (lv' := [(0, .ref a0), (1, .int x1), (2, .int x2), (3, .ref a3), (4, .ref q9)]) [1, 2, 3, 4, 0] 15 rfl dL_legLength_13 (Nat.le_of_ble_eq_true rfl) rfl ?_
      refine r_iconst C.1 1 rfl 16 rfl dL_legLength_15 ?_
      cases h
      exact r_zretH C rfl rfl (Nat.le_of_ble_eq_true rfl) (Nat.le_of_ble_eq_true rfl) dL_legLength_16 hq
    replace h := if_some_f c16 h
    cases h
  refine r_cVi C.1 (st := [.int 0, .ref a3]) (c_X6_legLength ha0 e13) yv_X6_legLength ml_L_58 rfl ha0 rfl ⟨Nat.le_of_ble_eq_true rfl, Nat.le_of_ble_eq_true rfl⟩ ⟨Nat.le_of_ble_eq_true rfl, Nat.le_of_ble_eq_true rfl⟩ (Nat.le_of_ble_eq_true rfl) rfl 2 12 rfl rfl 8 rfl dL_legLength_5 ?_
  refine r_i2l C.1 9 rfl dL_legLength_8 ?_
  obtain ⟨κ17, e18, h⟩ := bnd_some h
  refine r_last C.1 ha3 (by decide) e18 10 rfl dL_legLength_9 ?_
  refine r_goto C.1 17 dL_legLength_10 rfl ?_
  refine r_iconst C.1 0 rfl 18 rfl dL_legLength_17 ?_
  cases h
  exact r_zretH C rfl rfl (Nat.le_of_ble_eq_true rfl) (Nat.le_of_ble_eq_true rfl) dL_legLength_18 hq
theorem c_L_legLength {l : Launch} {G : jG} {sh : jSh} {κ : jKt} {a0 : Nat} (ha0 : sh a0 = (1, 10, 11)) {x1 : Int32} {x2 : Int32} {a3 : Nat} (ha3 : sh a3 = (2, 3, 1)) {r : Int32} {κr : jKt} (h : P_L_legLength κ a0 x1 x2 a3 = some (r, κr)) : jMh l G yL_legLength cL_legLength 5 (some .int) [(0, 10, 13, 13)] 12 2 12 226 [.ref a0, .int x1, .int x2, .ref a3] (sh, κ) (jIs (some (.int r)) (sh, κr)) jNo :=
  r_bodyH (by decide) (Nat.le_of_ble_eq_true rfl) fun F C hl hG hs ho hx => by
    subst hs
    exact w_L_legLength_0 C ha0 ha3 (by rw [ho]; exact ⟨rfl, rfl⟩) h
set_option maxRecDepth 20000 in
theorem w_L_mirrorLeg_0 {F : jFm} (C : jBh F RL cL_mirrorLeg 5 (some .int) [(0, 10, 13, 13)] 12 2 12 226) {κ : jKt} {a0 : Nat} (ha0 : jSof F a0 = (1, 10, 11)) {x1 : Int32} {x2 : Int32} {a3 : Nat} (ha3 : jSof F a3 = (2, 3, 1)) {r : Int32 × jKt} (hq : jOut F (some (.int r.1)) r.2) (h : P_L_mirrorLeg κ a0 x1 x2 a3 = some r) : jW F 5 0 0 κ 0 [(0, .ref a0), (1, .int x1), (2, .int x2), (3, .ref a3)] [] := by
  unfold P_L_mirrorLeg at h
  refine r_aload_n C.1 3 1 rfl dL_mirrorLeg_0 rfl ?_
  refine r_iconst C.1 0 rfl 2 rfl dL_mirrorLeg_1 ?_
  refine r_aload_n C.1 0 3 rfl dL_mirrorLeg_2 rfl ?_
  refine r_iload_n C.1 1 4 rfl dL_mirrorLeg_3 rfl ?_
  refine r_iload_n C.1 2 5 rfl dL_mirrorLeg_4 rfl ?_
  rcases bdx_some h with ⟨y14, e13, h⟩ | ⟨E15, e13, h⟩
  rotate_left
  · by_cases c16 : E15 = "java/lang/IndexOutOfBoundsException"
    · have h := if_some_t c16 h
      subst c16
      refine r_xV C.1 (st := [.int 0, .ref a3]) (x_X6_mirrorLeg ha0 e13) yv_X6_mirrorLeg ml_L_61 rfl ha0 rfl ⟨Nat.le_of_ble_eq_true rfl, Nat.le_of_ble_eq_true rfl⟩ ⟨Nat.le_of_ble_eq_true rfl, Nat.le_of_ble_eq_true rfl⟩ (Nat.le_of_ble_eq_true rfl) rfl dL_mirrorLeg_5 (r_catch C [] [] 0 10 13 13 rfl (fun _ h9 => nomatch h9) (by decide) ⟨Nat.le_of_ble_eq_true rfl, Nat.le_of_ble_eq_true rfl⟩ (by decide) cl_L_13 ct_IndexOutOfBoundsException (fun q9 => ?_))
      refine r_astore C.1 (lv' := [(0, .ref a0), (1, .int x1), (2, .int x2), (3, .ref a3), (4, .ref q9)]) [1, 2, 3, 4, 0] 15 rfl dL_mirrorLeg_13 (Nat.le_of_ble_eq_true rfl) rfl ?_
      refine r_iconst C.1 1 rfl 16 rfl dL_mirrorLeg_15 ?_
      cases h
      exact r_zretH C rfl rfl (Nat.le_of_ble_eq_true rfl) (Nat.le_of_ble_eq_true rfl) dL_mirrorLeg_16 hq
    replace h := if_some_f c16 h
    cases h
  refine r_cVi C.1 (st := [.int 0, .ref a3]) (c_X6_mirrorLeg ha0 e13) yv_X6_mirrorLeg ml_L_61 rfl ha0 rfl ⟨Nat.le_of_ble_eq_true rfl, Nat.le_of_ble_eq_true rfl⟩ ⟨Nat.le_of_ble_eq_true rfl, Nat.le_of_ble_eq_true rfl⟩ (Nat.le_of_ble_eq_true rfl) rfl 2 12 rfl rfl 8 rfl dL_mirrorLeg_5 ?_
  refine r_i2l C.1 9 rfl dL_mirrorLeg_8 ?_
  obtain ⟨κ17, e18, h⟩ := bnd_some h
  refine r_last C.1 ha3 (by decide) e18 10 rfl dL_mirrorLeg_9 ?_
  refine r_goto C.1 17 dL_mirrorLeg_10 rfl ?_
  refine r_iconst C.1 0 rfl 18 rfl dL_mirrorLeg_17 ?_
  cases h
  exact r_zretH C rfl rfl (Nat.le_of_ble_eq_true rfl) (Nat.le_of_ble_eq_true rfl) dL_mirrorLeg_18 hq
theorem c_L_mirrorLeg {l : Launch} {G : jG} {sh : jSh} {κ : jKt} {a0 : Nat} (ha0 : sh a0 = (1, 10, 11)) {x1 : Int32} {x2 : Int32} {a3 : Nat} (ha3 : sh a3 = (2, 3, 1)) {r : Int32} {κr : jKt} (h : P_L_mirrorLeg κ a0 x1 x2 a3 = some (r, κr)) : jMh l G yL_mirrorLeg cL_mirrorLeg 5 (some .int) [(0, 10, 13, 13)] 12 2 12 226 [.ref a0, .int x1, .int x2, .ref a3] (sh, κ) (jIs (some (.int r)) (sh, κr)) jNo :=
  r_bodyH (by decide) (Nat.le_of_ble_eq_true rfl) fun F C hl hG hs ho hx => by
    subst hs
    exact w_L_mirrorLeg_0 C ha0 ha3 (by rw [ho]; exact ⟨rfl, rfl⟩) h
set_option maxRecDepth 20000 in
theorem w_L_isMirrored_0 {F : jFm} (C : jBh F RL cL_isMirrored 4 (some .int) [(0, 16, 19, 13)] 11 1 6 202) {κ : jKt} {a0 : Nat} (ha0 : jSof F a0 = (1, 10, 11)) {x1 : Int32} {a2 : Nat} (ha2 : jSof F a2 = (2, 3, 1)) {r : Int32 × jKt} (hq : jOut F (some (.int r.1)) r.2) (h : P_L_isMirrored κ a0 x1 a2 = some r) : jW F 4 0 0 κ 0 [(0, .ref a0), (1, .int x1), (2, .ref a2)] [] := by
  unfold P_L_isMirrored at h
  refine r_aload_n C.1 2 1 rfl dL_isMirrored_0 rfl ?_
  refine r_iconst C.1 0 rfl 2 rfl dL_isMirrored_1 ?_
  refine r_aload_n C.1 0 3 rfl dL_isMirrored_2 rfl ?_
  refine r_iload_n C.1 1 4 rfl dL_isMirrored_3 rfl ?_
  rcases bdx_some h with ⟨y20, e19, h⟩ | ⟨E21, e19, h⟩
  rotate_left
  · by_cases c22 : E21 = "java/lang/IndexOutOfBoundsException"
    · have h := if_some_t c22 h
      subst c22
      refine r_xV C.1 (st := [.int 0, .ref a2]) (x_X6_isMirrored ha0 e19) yv_X6_isMirrored ml_L_64 rfl ha0 rfl ⟨Nat.le_of_ble_eq_true rfl, Nat.le_of_ble_eq_true rfl⟩ ⟨Nat.le_of_ble_eq_true rfl, Nat.le_of_ble_eq_true rfl⟩ (Nat.le_of_ble_eq_true rfl) rfl dL_isMirrored_4 (r_catch C [] [] 0 16 19 13 rfl (fun _ h9 => nomatch h9) (by decide) ⟨Nat.le_of_ble_eq_true rfl, Nat.le_of_ble_eq_true rfl⟩ (by decide) cl_L_13 ct_IndexOutOfBoundsException (fun q9 => ?_))
      refine r_astore_n C.1 (lv' := [(0, .ref a0), (1, .int x1), (2, .ref a2), (3, .ref q9)]) [1, 2, 3, 0] 20 rfl dL_isMirrored_19 (Nat.le_of_ble_eq_true rfl) rfl ?_
      refine r_iconst C.1 1 rfl 21 rfl dL_isMirrored_20 ?_
      cases h
      exact r_zretH C rfl rfl (Nat.le_of_ble_eq_true rfl) (Nat.le_of_ble_eq_true rfl) dL_isMirrored_21 hq
    replace h := if_some_f c22 h
    cases h
  refine r_cVi C.1 (st := [.int 0, .ref a2]) (c_X6_isMirrored ha0 e19) yv_X6_isMirrored ml_L_64 rfl ha0 rfl ⟨Nat.le_of_ble_eq_true rfl, Nat.le_of_ble_eq_true rfl⟩ ⟨Nat.le_of_ble_eq_true rfl, Nat.le_of_ble_eq_true rfl⟩ (Nat.le_of_ble_eq_true rfl) rfl 1 6 rfl rfl 7 rfl dL_isMirrored_4 ?_
  refine r_if_eq C.1 14 10 rfl dL_isMirrored_7 rfl ⟨fun c23 => ?_, fun c23 => ?_⟩
  · have h := if_some_t c23 h
    refine r_lconst C.1 0 rfl 15 rfl dL_isMirrored_14 ?_
    obtain ⟨κ24, e25, h⟩ := bnd_some h
    refine r_last C.1 ha2 (by decide) e25 16 rfl dL_isMirrored_15 ?_
    refine r_goto C.1 22 dL_isMirrored_16 rfl ?_
    refine r_iconst C.1 0 rfl 23 rfl dL_isMirrored_22 ?_
    cases h
    exact r_zretH C rfl rfl (Nat.le_of_ble_eq_true rfl) (Nat.le_of_ble_eq_true rfl) dL_isMirrored_23 hq
  · have h := if_some_f c23 h
    refine r_lconst C.1 1 rfl 11 rfl dL_isMirrored_10 ?_
    refine r_goto C.1 15 dL_isMirrored_11 rfl ?_
    obtain ⟨κ26, e27, h⟩ := bnd_some h
    refine r_last C.1 ha2 (by decide) e27 16 rfl dL_isMirrored_15 ?_
    refine r_goto C.1 22 dL_isMirrored_16 rfl ?_
    refine r_iconst C.1 0 rfl 23 rfl dL_isMirrored_22 ?_
    cases h
    exact r_zretH C rfl rfl (Nat.le_of_ble_eq_true rfl) (Nat.le_of_ble_eq_true rfl) dL_isMirrored_23 hq
theorem c_L_isMirrored {l : Launch} {G : jG} {sh : jSh} {κ : jKt} {a0 : Nat} (ha0 : sh a0 = (1, 10, 11)) {x1 : Int32} {a2 : Nat} (ha2 : sh a2 = (2, 3, 1)) {r : Int32} {κr : jKt} (h : P_L_isMirrored κ a0 x1 a2 = some (r, κr)) : jMh l G yL_isMirrored cL_isMirrored 4 (some .int) [(0, 16, 19, 13)] 11 1 6 202 [.ref a0, .int x1, .ref a2] (sh, κ) (jIs (some (.int r)) (sh, κr)) jNo :=
  r_bodyH (by decide) (Nat.le_of_ble_eq_true rfl) fun F C hl hG hs ho hx => by
    subst hs
    exact w_L_isMirrored_0 C ha0 ha2 (by rw [ho]; exact ⟨rfl, rfl⟩) h
set_option maxRecDepth 20000 in
theorem w_L_customerByLegs_0 {F : jFm} (C : jBh F RL cL_customerByLegs 4 (some .int) [(0, 9, 12, 34)] 10 1 6 182) {κ : jKt} {a0 : Nat} (ha0 : jSof F a0 = (1, 10, 11)) {x1 : Int32} {a2 : Nat} (ha2 : jSof F a2 = (2, 3, 1)) {r : Int32 × jKt} (hq : jOut F (some (.int r.1)) r.2) (h : P_L_customerByLegs κ a0 x1 a2 = some r) : jW F 4 0 0 κ 0 [(0, .ref a0), (1, .int x1), (2, .ref a2)] [] := by
  unfold P_L_customerByLegs at h
  refine r_aload_n C.1 2 1 rfl dL_customerByLegs_0 rfl ?_
  refine r_iconst C.1 0 rfl 2 rfl dL_customerByLegs_1 ?_
  refine r_aload_n C.1 0 3 rfl dL_customerByLegs_2 rfl ?_
  refine r_iload_n C.1 1 4 rfl dL_customerByLegs_3 rfl ?_
  rcases bdx_some h with ⟨y14, e13, h⟩ | ⟨E15, e13, h⟩
  rotate_left
  · by_cases c16 : E15 = "java/util/NoSuchElementException"
    · have h := if_some_t c16 h
      subst c16
      refine r_xV C.1 (st := [.int 0, .ref a2]) (x_X6_customerByLegs ha0 e13) yv_X6_customerByLegs ml_L_68 rfl ha0 rfl ⟨Nat.le_of_ble_eq_true rfl, Nat.le_of_ble_eq_true rfl⟩ ⟨Nat.le_of_ble_eq_true rfl, Nat.le_of_ble_eq_true rfl⟩ (Nat.le_of_ble_eq_true rfl) rfl dL_customerByLegs_4 (r_catch C [] [] 0 9 12 34 rfl (fun _ h9 => nomatch h9) (by decide) ⟨Nat.le_of_ble_eq_true rfl, Nat.le_of_ble_eq_true rfl⟩ (by decide) cl_L_34 ct_NoSuchElementException (fun q9 => ?_))
      refine r_astore_n C.1 (lv' := [(0, .ref a0), (1, .int x1), (2, .ref a2), (3, .ref q9)]) [1, 2, 3, 0] 13 rfl dL_customerByLegs_12 (Nat.le_of_ble_eq_true rfl) rfl ?_
      refine r_iconst C.1 1 rfl 14 rfl dL_customerByLegs_13 ?_
      cases h
      exact r_zretH C rfl rfl (Nat.le_of_ble_eq_true rfl) (Nat.le_of_ble_eq_true rfl) dL_customerByLegs_14 hq
    replace h := if_some_f c16 h
    cases h
  refine r_cVi C.1 (st := [.int 0, .ref a2]) (c_X6_customerByLegs ha0 e13) yv_X6_customerByLegs ml_L_68 rfl ha0 rfl ⟨Nat.le_of_ble_eq_true rfl, Nat.le_of_ble_eq_true rfl⟩ ⟨Nat.le_of_ble_eq_true rfl, Nat.le_of_ble_eq_true rfl⟩ (Nat.le_of_ble_eq_true rfl) rfl 1 6 rfl rfl 7 rfl dL_customerByLegs_4 ?_
  refine r_i2l C.1 8 rfl dL_customerByLegs_7 ?_
  obtain ⟨κ17, e18, h⟩ := bnd_some h
  refine r_last C.1 ha2 (by decide) e18 9 rfl dL_customerByLegs_8 ?_
  refine r_goto C.1 15 dL_customerByLegs_9 rfl ?_
  refine r_iconst C.1 0 rfl 16 rfl dL_customerByLegs_15 ?_
  cases h
  exact r_zretH C rfl rfl (Nat.le_of_ble_eq_true rfl) (Nat.le_of_ble_eq_true rfl) dL_customerByLegs_16 hq
theorem c_L_customerByLegs {l : Launch} {G : jG} {sh : jSh} {κ : jKt} {a0 : Nat} (ha0 : sh a0 = (1, 10, 11)) {x1 : Int32} {a2 : Nat} (ha2 : sh a2 = (2, 3, 1)) {r : Int32} {κr : jKt} (h : P_L_customerByLegs κ a0 x1 a2 = some (r, κr)) : jMh l G yL_customerByLegs cL_customerByLegs 4 (some .int) [(0, 9, 12, 34)] 10 1 6 182 [.ref a0, .int x1, .ref a2] (sh, κ) (jIs (some (.int r)) (sh, κr)) jNo :=
  r_bodyH (by decide) (Nat.le_of_ble_eq_true rfl) fun F C hl hG hs ho hx => by
    subst hs
    exact w_L_customerByLegs_0 C ha0 ha2 (by rw [ho]; exact ⟨rfl, rfl⟩) h
set_option maxRecDepth 20000 in
theorem w_L_suitAt_0 {F : jFm} (C : jBh F RL cL_suitAt 4 (some .int) [(0, 9, 12, 34)] 10 1 6 181) {κ : jKt} {a0 : Nat} (ha0 : jSof F a0 = (1, 10, 11)) {x1 : Int32} {a2 : Nat} (ha2 : jSof F a2 = (2, 3, 1)) {r : Int32 × jKt} (hq : jOut F (some (.int r.1)) r.2) (h : P_L_suitAt κ a0 x1 a2 = some r) : jW F 4 0 0 κ 0 [(0, .ref a0), (1, .int x1), (2, .ref a2)] [] := by
  unfold P_L_suitAt at h
  refine r_aload_n C.1 2 1 rfl dL_suitAt_0 rfl ?_
  refine r_iconst C.1 0 rfl 2 rfl dL_suitAt_1 ?_
  refine r_aload_n C.1 0 3 rfl dL_suitAt_2 rfl ?_
  refine r_iload_n C.1 1 4 rfl dL_suitAt_3 rfl ?_
  rcases bdx_some h with ⟨y14, e13, h⟩ | ⟨E15, e13, h⟩
  rotate_left
  · by_cases c16 : E15 = "java/util/NoSuchElementException"
    · have h := if_some_t c16 h
      subst c16
      refine r_xV C.1 (st := [.int 0, .ref a2]) (x_X6_suitAt ha0 e13) yv_X6_suitAt ml_L_71 rfl ha0 rfl ⟨Nat.le_of_ble_eq_true rfl, Nat.le_of_ble_eq_true rfl⟩ ⟨Nat.le_of_ble_eq_true rfl, Nat.le_of_ble_eq_true rfl⟩ (Nat.le_of_ble_eq_true rfl) rfl dL_suitAt_4 (r_catch C [] [] 0 9 12 34 rfl (fun _ h9 => nomatch h9) (by decide) ⟨Nat.le_of_ble_eq_true rfl, Nat.le_of_ble_eq_true rfl⟩ (by decide) cl_L_34 ct_NoSuchElementException (fun q9 => ?_))
      refine r_astore_n C.1 (lv' := [(0, .ref a0), (1, .int x1), (2, .ref a2), (3, .ref q9)]) [1, 2, 3, 0] 13 rfl dL_suitAt_12 (Nat.le_of_ble_eq_true rfl) rfl ?_
      refine r_iconst C.1 1 rfl 14 rfl dL_suitAt_13 ?_
      cases h
      exact r_zretH C rfl rfl (Nat.le_of_ble_eq_true rfl) (Nat.le_of_ble_eq_true rfl) dL_suitAt_14 hq
    replace h := if_some_f c16 h
    cases h
  refine r_cVi C.1 (st := [.int 0, .ref a2]) (c_X6_suitAt ha0 e13) yv_X6_suitAt ml_L_71 rfl ha0 rfl ⟨Nat.le_of_ble_eq_true rfl, Nat.le_of_ble_eq_true rfl⟩ ⟨Nat.le_of_ble_eq_true rfl, Nat.le_of_ble_eq_true rfl⟩ (Nat.le_of_ble_eq_true rfl) rfl 1 6 rfl rfl 7 rfl dL_suitAt_4 ?_
  refine r_i2l C.1 8 rfl dL_suitAt_7 ?_
  obtain ⟨κ17, e18, h⟩ := bnd_some h
  refine r_last C.1 ha2 (by decide) e18 9 rfl dL_suitAt_8 ?_
  refine r_goto C.1 15 dL_suitAt_9 rfl ?_
  refine r_iconst C.1 0 rfl 16 rfl dL_suitAt_15 ?_
  cases h
  exact r_zretH C rfl rfl (Nat.le_of_ble_eq_true rfl) (Nat.le_of_ble_eq_true rfl) dL_suitAt_16 hq
theorem c_L_suitAt {l : Launch} {G : jG} {sh : jSh} {κ : jKt} {a0 : Nat} (ha0 : sh a0 = (1, 10, 11)) {x1 : Int32} {a2 : Nat} (ha2 : sh a2 = (2, 3, 1)) {r : Int32} {κr : jKt} (h : P_L_suitAt κ a0 x1 a2 = some (r, κr)) : jMh l G yL_suitAt cL_suitAt 4 (some .int) [(0, 9, 12, 34)] 10 1 6 181 [.ref a0, .int x1, .ref a2] (sh, κ) (jIs (some (.int r)) (sh, κr)) jNo :=
  r_bodyH (by decide) (Nat.le_of_ble_eq_true rfl) fun F C hl hG hs ho hx => by
    subst hs
    exact w_L_suitAt_0 C ha0 ha2 (by rw [ho]; exact ⟨rfl, rfl⟩) h
set_option maxRecDepth 20000 in
theorem w_L_customerOf_0 {F : jFm} (C : jBh F RL cL_customerOf 4 (some .int) [(0, 9, 12, 34)] 11 1 6 203) {κ : jKt} {a0 : Nat} (ha0 : jSof F a0 = (1, 10, 11)) {x1 : Int32} {a2 : Nat} (ha2 : jSof F a2 = (2, 3, 1)) {r : Int32 × jKt} (hq : jOut F (some (.int r.1)) r.2) (h : P_L_customerOf κ a0 x1 a2 = some r) : jW F 4 0 0 κ 0 [(0, .ref a0), (1, .int x1), (2, .ref a2)] [] := by
  unfold P_L_customerOf at h
  refine r_aload_n C.1 2 1 rfl dL_customerOf_0 rfl ?_
  refine r_iconst C.1 0 rfl 2 rfl dL_customerOf_1 ?_
  refine r_aload_n C.1 0 3 rfl dL_customerOf_2 rfl ?_
  refine r_iload_n C.1 1 4 rfl dL_customerOf_3 rfl ?_
  rcases bdx_some h with ⟨y14, e13, h⟩ | ⟨E15, e13, h⟩
  rotate_left
  · by_cases c16 : E15 = "java/util/NoSuchElementException"
    · have h := if_some_t c16 h
      subst c16
      refine r_xV C.1 (st := [.int 0, .ref a2]) (x_X6_customerOf ha0 e13) yv_X6_customerOf ml_L_74 rfl ha0 rfl ⟨Nat.le_of_ble_eq_true rfl, Nat.le_of_ble_eq_true rfl⟩ ⟨Nat.le_of_ble_eq_true rfl, Nat.le_of_ble_eq_true rfl⟩ (Nat.le_of_ble_eq_true rfl) rfl dL_customerOf_4 (r_catch C [] [] 0 9 12 34 rfl (fun _ h9 => nomatch h9) (by decide) ⟨Nat.le_of_ble_eq_true rfl, Nat.le_of_ble_eq_true rfl⟩ (by decide) cl_L_34 ct_NoSuchElementException (fun q9 => ?_))
      refine r_astore_n C.1 (lv' := [(0, .ref a0), (1, .int x1), (2, .ref a2), (3, .ref q9)]) [1, 2, 3, 0] 13 rfl dL_customerOf_12 (Nat.le_of_ble_eq_true rfl) rfl ?_
      refine r_iconst C.1 1 rfl 14 rfl dL_customerOf_13 ?_
      cases h
      exact r_zretH C rfl rfl (Nat.le_of_ble_eq_true rfl) (Nat.le_of_ble_eq_true rfl) dL_customerOf_14 hq
    replace h := if_some_f c16 h
    cases h
  refine r_cVi C.1 (st := [.int 0, .ref a2]) (c_X6_customerOf ha0 e13) yv_X6_customerOf ml_L_74 rfl ha0 rfl ⟨Nat.le_of_ble_eq_true rfl, Nat.le_of_ble_eq_true rfl⟩ ⟨Nat.le_of_ble_eq_true rfl, Nat.le_of_ble_eq_true rfl⟩ (Nat.le_of_ble_eq_true rfl) rfl 1 6 rfl rfl 7 rfl dL_customerOf_4 ?_
  refine r_i2l C.1 8 rfl dL_customerOf_7 ?_
  obtain ⟨κ17, e18, h⟩ := bnd_some h
  refine r_last C.1 ha2 (by decide) e18 9 rfl dL_customerOf_8 ?_
  refine r_goto C.1 15 dL_customerOf_9 rfl ?_
  refine r_iconst C.1 0 rfl 16 rfl dL_customerOf_15 ?_
  cases h
  exact r_zretH C rfl rfl (Nat.le_of_ble_eq_true rfl) (Nat.le_of_ble_eq_true rfl) dL_customerOf_16 hq
theorem c_L_customerOf {l : Launch} {G : jG} {sh : jSh} {κ : jKt} {a0 : Nat} (ha0 : sh a0 = (1, 10, 11)) {x1 : Int32} {a2 : Nat} (ha2 : sh a2 = (2, 3, 1)) {r : Int32} {κr : jKt} (h : P_L_customerOf κ a0 x1 a2 = some (r, κr)) : jMh l G yL_customerOf cL_customerOf 4 (some .int) [(0, 9, 12, 34)] 11 1 6 203 [.ref a0, .int x1, .ref a2] (sh, κ) (jIs (some (.int r)) (sh, κr)) jNo :=
  r_bodyH (by decide) (Nat.le_of_ble_eq_true rfl) fun F C hl hG hs ho hx => by
    subst hs
    exact w_L_customerOf_0 C ha0 ha2 (by rw [ho]; exact ⟨rfl, rfl⟩) h
set_option maxRecDepth 20000 in
theorem w_L_clothOf_0 {F : jFm} (C : jBh F RL cL_clothOf 4 (some .int) [(0, 9, 12, 34)] 11 1 6 203) {κ : jKt} {a0 : Nat} (ha0 : jSof F a0 = (1, 10, 11)) {x1 : Int32} {a2 : Nat} (ha2 : jSof F a2 = (2, 3, 1)) {r : Int32 × jKt} (hq : jOut F (some (.int r.1)) r.2) (h : P_L_clothOf κ a0 x1 a2 = some r) : jW F 4 0 0 κ 0 [(0, .ref a0), (1, .int x1), (2, .ref a2)] [] := by
  unfold P_L_clothOf at h
  refine r_aload_n C.1 2 1 rfl dL_clothOf_0 rfl ?_
  refine r_iconst C.1 0 rfl 2 rfl dL_clothOf_1 ?_
  refine r_aload_n C.1 0 3 rfl dL_clothOf_2 rfl ?_
  refine r_iload_n C.1 1 4 rfl dL_clothOf_3 rfl ?_
  rcases bdx_some h with ⟨y14, e13, h⟩ | ⟨E15, e13, h⟩
  rotate_left
  · by_cases c16 : E15 = "java/util/NoSuchElementException"
    · have h := if_some_t c16 h
      subst c16
      refine r_xV C.1 (st := [.int 0, .ref a2]) (x_X6_clothOf ha0 e13) yv_X6_clothOf ml_L_77 rfl ha0 rfl ⟨Nat.le_of_ble_eq_true rfl, Nat.le_of_ble_eq_true rfl⟩ ⟨Nat.le_of_ble_eq_true rfl, Nat.le_of_ble_eq_true rfl⟩ (Nat.le_of_ble_eq_true rfl) rfl dL_clothOf_4 (r_catch C [] [] 0 9 12 34 rfl (fun _ h9 => nomatch h9) (by decide) ⟨Nat.le_of_ble_eq_true rfl, Nat.le_of_ble_eq_true rfl⟩ (by decide) cl_L_34 ct_NoSuchElementException (fun q9 => ?_))
      refine r_astore_n C.1 (lv' := [(0, .ref a0), (1, .int x1), (2, .ref a2), (3, .ref q9)]) [1, 2, 3, 0] 13 rfl dL_clothOf_12 (Nat.le_of_ble_eq_true rfl) rfl ?_
      refine r_iconst C.1 1 rfl 14 rfl dL_clothOf_13 ?_
      cases h
      exact r_zretH C rfl rfl (Nat.le_of_ble_eq_true rfl) (Nat.le_of_ble_eq_true rfl) dL_clothOf_14 hq
    replace h := if_some_f c16 h
    cases h
  refine r_cVi C.1 (st := [.int 0, .ref a2]) (c_X6_clothOf ha0 e13) yv_X6_clothOf ml_L_77 rfl ha0 rfl ⟨Nat.le_of_ble_eq_true rfl, Nat.le_of_ble_eq_true rfl⟩ ⟨Nat.le_of_ble_eq_true rfl, Nat.le_of_ble_eq_true rfl⟩ (Nat.le_of_ble_eq_true rfl) rfl 1 6 rfl rfl 7 rfl dL_clothOf_4 ?_
  refine r_i2l C.1 8 rfl dL_clothOf_7 ?_
  obtain ⟨κ17, e18, h⟩ := bnd_some h
  refine r_last C.1 ha2 (by decide) e18 9 rfl dL_clothOf_8 ?_
  refine r_goto C.1 15 dL_clothOf_9 rfl ?_
  refine r_iconst C.1 0 rfl 16 rfl dL_clothOf_15 ?_
  cases h
  exact r_zretH C rfl rfl (Nat.le_of_ble_eq_true rfl) (Nat.le_of_ble_eq_true rfl) dL_clothOf_16 hq
theorem c_L_clothOf {l : Launch} {G : jG} {sh : jSh} {κ : jKt} {a0 : Nat} (ha0 : sh a0 = (1, 10, 11)) {x1 : Int32} {a2 : Nat} (ha2 : sh a2 = (2, 3, 1)) {r : Int32} {κr : jKt} (h : P_L_clothOf κ a0 x1 a2 = some (r, κr)) : jMh l G yL_clothOf cL_clothOf 4 (some .int) [(0, 9, 12, 34)] 11 1 6 203 [.ref a0, .int x1, .ref a2] (sh, κ) (jIs (some (.int r)) (sh, κr)) jNo :=
  r_bodyH (by decide) (Nat.le_of_ble_eq_true rfl) fun F C hl hG hs ho hx => by
    subst hs
    exact w_L_clothOf_0 C ha0 ha2 (by rw [ho]; exact ⟨rfl, rfl⟩) h
set_option maxRecDepth 20000 in
theorem w_L_sleeveState_0 {F : jFm} (C : jBh F RL cL_sleeveState 5 (some .int) [(0, 10, 13, 34), (0, 10, 17, 13)] 12 2 12 227) {κ : jKt} {a0 : Nat} (ha0 : jSof F a0 = (1, 10, 11)) {x1 : Int32} {x2 : Int32} {a3 : Nat} (ha3 : jSof F a3 = (2, 3, 1)) {r : Int32 × jKt} (hq : jOut F (some (.int r.1)) r.2) (h : P_L_sleeveState κ a0 x1 x2 a3 = some r) : jW F 5 0 0 κ 0 [(0, .ref a0), (1, .int x1), (2, .int x2), (3, .ref a3)] [] := by
  unfold P_L_sleeveState at h
  refine r_aload_n C.1 3 1 rfl dL_sleeveState_0 rfl ?_
  refine r_iconst C.1 0 rfl 2 rfl dL_sleeveState_1 ?_
  refine r_aload_n C.1 0 3 rfl dL_sleeveState_2 rfl ?_
  refine r_iload_n C.1 1 4 rfl dL_sleeveState_3 rfl ?_
  refine r_iload_n C.1 2 5 rfl dL_sleeveState_4 rfl ?_
  rcases bdx_some h with ⟨y16, e15, h⟩ | ⟨E17, e15, h⟩
  rotate_left
  · by_cases c18 : E17 = "java/util/NoSuchElementException"
    · have h := if_some_t c18 h
      subst c18
      refine r_xV C.1 (st := [.int 0, .ref a3]) (x_X6_sleeveState ha0 e15) yv_X6_sleeveState ml_L_80 rfl ha0 rfl ⟨Nat.le_of_ble_eq_true rfl, Nat.le_of_ble_eq_true rfl⟩ ⟨Nat.le_of_ble_eq_true rfl, Nat.le_of_ble_eq_true rfl⟩ (Nat.le_of_ble_eq_true rfl) rfl dL_sleeveState_5 (r_catch C [] [(0, 10, 17, 13)] 0 10 13 34 rfl (fun _ h9 => nomatch h9) (by decide) ⟨Nat.le_of_ble_eq_true rfl, Nat.le_of_ble_eq_true rfl⟩ (by decide) cl_L_34 ct_NoSuchElementException (fun q9 => ?_))
      refine r_astore C.1 (lv' := [(0, .ref a0), (1, .int x1), (2, .int x2), (3, .ref a3), (4, .ref q9)]) [1, 2, 3, 4, 0] 15 rfl dL_sleeveState_13 (Nat.le_of_ble_eq_true rfl) rfl ?_
      refine r_iconst C.1 1 rfl 16 rfl dL_sleeveState_15 ?_
      cases h
      exact r_zretH C rfl rfl (Nat.le_of_ble_eq_true rfl) (Nat.le_of_ble_eq_true rfl) dL_sleeveState_16 hq
    replace h := if_some_f c18 h
    by_cases c19 : E17 = "java/lang/IndexOutOfBoundsException"
    · have h := if_some_t c19 h
      subst c19
      refine r_xV C.1 (st := [.int 0, .ref a3]) (x_X6_sleeveState ha0 e15) yv_X6_sleeveState ml_L_80 rfl ha0 rfl ⟨Nat.le_of_ble_eq_true rfl, Nat.le_of_ble_eq_true rfl⟩ ⟨Nat.le_of_ble_eq_true rfl, Nat.le_of_ble_eq_true rfl⟩ (Nat.le_of_ble_eq_true rfl) rfl dL_sleeveState_5 (r_catch C [(0, 10, 13, 34)] [] 0 10 17 13 rfl (fun z9 h9 => by simp only [List.mem_cons, List.mem_nil_iff, or_false] at h9; rcases h9 with rfl <;> first | exact ⟨by decide, "java/util/NoSuchElementException", cl_L_34, by decide, by decide⟩) (by decide) ⟨Nat.le_of_ble_eq_true rfl, Nat.le_of_ble_eq_true rfl⟩ (by decide) cl_L_13 ct_IndexOutOfBoundsException (fun q9 => ?_))
      refine r_astore C.1 (lv' := [(0, .ref a0), (1, .int x1), (2, .int x2), (3, .ref a3), (4, .ref q9)]) [1, 2, 3, 4, 0] 19 rfl dL_sleeveState_17 (Nat.le_of_ble_eq_true rfl) rfl ?_
      refine r_iconst C.1 2 rfl 20 rfl dL_sleeveState_19 ?_
      cases h
      exact r_zretH C rfl rfl (Nat.le_of_ble_eq_true rfl) (Nat.le_of_ble_eq_true rfl) dL_sleeveState_20 hq
    replace h := if_some_f c19 h
    cases h
  refine r_cVi C.1 (st := [.int 0, .ref a3]) (c_X6_sleeveState ha0 e15) yv_X6_sleeveState ml_L_80 rfl ha0 rfl ⟨Nat.le_of_ble_eq_true rfl, Nat.le_of_ble_eq_true rfl⟩ ⟨Nat.le_of_ble_eq_true rfl, Nat.le_of_ble_eq_true rfl⟩ (Nat.le_of_ble_eq_true rfl) rfl 2 12 rfl rfl 8 rfl dL_sleeveState_5 ?_
  refine r_i2l C.1 9 rfl dL_sleeveState_8 ?_
  obtain ⟨κ20, e21, h⟩ := bnd_some h
  refine r_last C.1 ha3 (by decide) e21 10 rfl dL_sleeveState_9 ?_
  refine r_goto C.1 21 dL_sleeveState_10 rfl ?_
  refine r_iconst C.1 0 rfl 22 rfl dL_sleeveState_21 ?_
  cases h
  exact r_zretH C rfl rfl (Nat.le_of_ble_eq_true rfl) (Nat.le_of_ble_eq_true rfl) dL_sleeveState_22 hq
theorem c_L_sleeveState {l : Launch} {G : jG} {sh : jSh} {κ : jKt} {a0 : Nat} (ha0 : sh a0 = (1, 10, 11)) {x1 : Int32} {x2 : Int32} {a3 : Nat} (ha3 : sh a3 = (2, 3, 1)) {r : Int32} {κr : jKt} (h : P_L_sleeveState κ a0 x1 x2 a3 = some (r, κr)) : jMh l G yL_sleeveState cL_sleeveState 5 (some .int) [(0, 10, 13, 34), (0, 10, 17, 13)] 12 2 12 227 [.ref a0, .int x1, .int x2, .ref a3] (sh, κ) (jIs (some (.int r)) (sh, κr)) jNo :=
  r_bodyH (by decide) (Nat.le_of_ble_eq_true rfl) fun F C hl hG hs ho hx => by
    subst hs
    exact w_L_sleeveState_0 C ha0 ha3 (by rw [ho]; exact ⟨rfl, rfl⟩) h
set_option maxRecDepth 20000 in
theorem w_L_sleeveLength_0 {F : jFm} (C : jBh F RL cL_sleeveLength 5 (some .int) [(0, 10, 13, 34), (0, 10, 17, 13), (0, 10, 21, 22)] 13 3 18 250) {κ : jKt} {a0 : Nat} (ha0 : jSof F a0 = (1, 10, 11)) {x1 : Int32} {x2 : Int32} {a3 : Nat} (ha3 : jSof F a3 = (2, 3, 1)) {r : Int32 × jKt} (hq : jOut F (some (.int r.1)) r.2) (h : P_L_sleeveLength κ a0 x1 x2 a3 = some r) : jW F 5 0 0 κ 0 [(0, .ref a0), (1, .int x1), (2, .int x2), (3, .ref a3)] [] := by
  unfold P_L_sleeveLength at h
  refine r_aload_n C.1 3 1 rfl dL_sleeveLength_0 rfl ?_
  refine r_iconst C.1 0 rfl 2 rfl dL_sleeveLength_1 ?_
  refine r_aload_n C.1 0 3 rfl dL_sleeveLength_2 rfl ?_
  refine r_iload_n C.1 1 4 rfl dL_sleeveLength_3 rfl ?_
  refine r_iload_n C.1 2 5 rfl dL_sleeveLength_4 rfl ?_
  rcases bdx_some h with ⟨y18, e17, h⟩ | ⟨E19, e17, h⟩
  rotate_left
  · by_cases c20 : E19 = "java/util/NoSuchElementException"
    · have h := if_some_t c20 h
      subst c20
      refine r_xV C.1 (st := [.int 0, .ref a3]) (x_X6_sleeveLength ha0 e17) yv_X6_sleeveLength ml_L_84 rfl ha0 rfl ⟨Nat.le_of_ble_eq_true rfl, Nat.le_of_ble_eq_true rfl⟩ ⟨Nat.le_of_ble_eq_true rfl, Nat.le_of_ble_eq_true rfl⟩ (Nat.le_of_ble_eq_true rfl) rfl dL_sleeveLength_5 (r_catch C [] [(0, 10, 17, 13), (0, 10, 21, 22)] 0 10 13 34 rfl (fun _ h9 => nomatch h9) (by decide) ⟨Nat.le_of_ble_eq_true rfl, Nat.le_of_ble_eq_true rfl⟩ (by decide) cl_L_34 ct_NoSuchElementException (fun q9 => ?_))
      refine r_astore C.1 (lv' := [(0, .ref a0), (1, .int x1), (2, .int x2), (3, .ref a3), (4, .ref q9)]) [1, 2, 3, 4, 0] 15 rfl dL_sleeveLength_13 (Nat.le_of_ble_eq_true rfl) rfl ?_
      refine r_iconst C.1 1 rfl 16 rfl dL_sleeveLength_15 ?_
      cases h
      exact r_zretH C rfl rfl (Nat.le_of_ble_eq_true rfl) (Nat.le_of_ble_eq_true rfl) dL_sleeveLength_16 hq
    replace h := if_some_f c20 h
    by_cases c21 : E19 = "java/lang/IndexOutOfBoundsException"
    · have h := if_some_t c21 h
      subst c21
      refine r_xV C.1 (st := [.int 0, .ref a3]) (x_X6_sleeveLength ha0 e17) yv_X6_sleeveLength ml_L_84 rfl ha0 rfl ⟨Nat.le_of_ble_eq_true rfl, Nat.le_of_ble_eq_true rfl⟩ ⟨Nat.le_of_ble_eq_true rfl, Nat.le_of_ble_eq_true rfl⟩ (Nat.le_of_ble_eq_true rfl) rfl dL_sleeveLength_5 (r_catch C [(0, 10, 13, 34)] [(0, 10, 21, 22)] 0 10 17 13 rfl (fun z9 h9 => by simp only [List.mem_cons, List.mem_nil_iff, or_false] at h9; rcases h9 with rfl <;> first | exact ⟨by decide, "java/util/NoSuchElementException", cl_L_34, by decide, by decide⟩) (by decide) ⟨Nat.le_of_ble_eq_true rfl, Nat.le_of_ble_eq_true rfl⟩ (by decide) cl_L_13 ct_IndexOutOfBoundsException (fun q9 => ?_))
      refine r_astore C.1 (lv' := [(0, .ref a0), (1, .int x1), (2, .int x2), (3, .ref a3), (4, .ref q9)]) [1, 2, 3, 4, 0] 19 rfl dL_sleeveLength_17 (Nat.le_of_ble_eq_true rfl) rfl ?_
      refine r_iconst C.1 2 rfl 20 rfl dL_sleeveLength_19 ?_
      cases h
      exact r_zretH C rfl rfl (Nat.le_of_ble_eq_true rfl) (Nat.le_of_ble_eq_true rfl) dL_sleeveLength_20 hq
    replace h := if_some_f c21 h
    by_cases c22 : E19 = "java/lang/IllegalStateException"
    · have h := if_some_t c22 h
      subst c22
      refine r_xV C.1 (st := [.int 0, .ref a3]) (x_X6_sleeveLength ha0 e17) yv_X6_sleeveLength ml_L_84 rfl ha0 rfl ⟨Nat.le_of_ble_eq_true rfl, Nat.le_of_ble_eq_true rfl⟩ ⟨Nat.le_of_ble_eq_true rfl, Nat.le_of_ble_eq_true rfl⟩ (Nat.le_of_ble_eq_true rfl) rfl dL_sleeveLength_5 (r_catch C [(0, 10, 13, 34), (0, 10, 17, 13)] [] 0 10 21 22 rfl (fun z9 h9 => by simp only [List.mem_cons, List.mem_nil_iff, or_false] at h9; rcases h9 with rfl | rfl <;> first | exact ⟨by decide, "java/util/NoSuchElementException", cl_L_34, by decide, by decide⟩ | exact ⟨by decide, "java/lang/IndexOutOfBoundsException", cl_L_13, by decide, by decide⟩) (by decide) ⟨Nat.le_of_ble_eq_true rfl, Nat.le_of_ble_eq_true rfl⟩ (by decide) cl_L_22 ct_IllegalStateException (fun q9 => ?_))
      refine r_astore C.1 (lv' := [(0, .ref a0), (1, .int x1), (2, .int x2), (3, .ref a3), (4, .ref q9)]) [1, 2, 3, 4, 0] 23 rfl dL_sleeveLength_21 (Nat.le_of_ble_eq_true rfl) rfl ?_
      refine r_iconst C.1 3 rfl 24 rfl dL_sleeveLength_23 ?_
      cases h
      exact r_zretH C rfl rfl (Nat.le_of_ble_eq_true rfl) (Nat.le_of_ble_eq_true rfl) dL_sleeveLength_24 hq
    replace h := if_some_f c22 h
    cases h
  refine r_cVi C.1 (st := [.int 0, .ref a3]) (c_X6_sleeveLength ha0 e17) yv_X6_sleeveLength ml_L_84 rfl ha0 rfl ⟨Nat.le_of_ble_eq_true rfl, Nat.le_of_ble_eq_true rfl⟩ ⟨Nat.le_of_ble_eq_true rfl, Nat.le_of_ble_eq_true rfl⟩ (Nat.le_of_ble_eq_true rfl) rfl 3 18 rfl rfl 8 rfl dL_sleeveLength_5 ?_
  refine r_i2l C.1 9 rfl dL_sleeveLength_8 ?_
  obtain ⟨κ23, e24, h⟩ := bnd_some h
  refine r_last C.1 ha3 (by decide) e24 10 rfl dL_sleeveLength_9 ?_
  refine r_goto C.1 25 dL_sleeveLength_10 rfl ?_
  refine r_iconst C.1 0 rfl 26 rfl dL_sleeveLength_25 ?_
  cases h
  exact r_zretH C rfl rfl (Nat.le_of_ble_eq_true rfl) (Nat.le_of_ble_eq_true rfl) dL_sleeveLength_26 hq
theorem c_L_sleeveLength {l : Launch} {G : jG} {sh : jSh} {κ : jKt} {a0 : Nat} (ha0 : sh a0 = (1, 10, 11)) {x1 : Int32} {x2 : Int32} {a3 : Nat} (ha3 : sh a3 = (2, 3, 1)) {r : Int32} {κr : jKt} (h : P_L_sleeveLength κ a0 x1 x2 a3 = some (r, κr)) : jMh l G yL_sleeveLength cL_sleeveLength 5 (some .int) [(0, 10, 13, 34), (0, 10, 17, 13), (0, 10, 21, 22)] 13 3 18 250 [.ref a0, .int x1, .int x2, .ref a3] (sh, κ) (jIs (some (.int r)) (sh, κr)) jNo :=
  r_bodyH (by decide) (Nat.le_of_ble_eq_true rfl) fun F C hl hG hs ho hx => by
    subst hs
    exact w_L_sleeveLength_0 C ha0 ha3 (by rw [ho]; exact ⟨rfl, rfl⟩) h
set_option maxRecDepth 20000 in
theorem w_L_doesFit_0 {F : jFm} (C : jBh F RL cL_doesFit 5 (some .int) [(0, 17, 20, 34), (0, 17, 24, 13), (0, 17, 28, 22)] 13 3 18 251) {κ : jKt} {a0 : Nat} (ha0 : jSof F a0 = (1, 10, 11)) {x1 : Int32} {x2 : Int32} {a3 : Nat} (ha3 : jSof F a3 = (2, 3, 1)) {r : Int32 × jKt} (hq : jOut F (some (.int r.1)) r.2) (h : P_L_doesFit κ a0 x1 x2 a3 = some r) : jW F 5 0 0 κ 0 [(0, .ref a0), (1, .int x1), (2, .int x2), (3, .ref a3)] [] := by
  unfold P_L_doesFit at h
  refine r_aload_n C.1 3 1 rfl dL_doesFit_0 rfl ?_
  refine r_iconst C.1 0 rfl 2 rfl dL_doesFit_1 ?_
  refine r_aload_n C.1 0 3 rfl dL_doesFit_2 rfl ?_
  refine r_iload_n C.1 1 4 rfl dL_doesFit_3 rfl ?_
  refine r_iload_n C.1 2 5 rfl dL_doesFit_4 rfl ?_
  rcases bdx_some h with ⟨y24, e23, h⟩ | ⟨E25, e23, h⟩
  rotate_left
  · by_cases c26 : E25 = "java/util/NoSuchElementException"
    · have h := if_some_t c26 h
      subst c26
      refine r_xV C.1 (st := [.int 0, .ref a3]) (x_X6_doesFit ha0 e23) yv_X6_doesFit ml_L_87 rfl ha0 rfl ⟨Nat.le_of_ble_eq_true rfl, Nat.le_of_ble_eq_true rfl⟩ ⟨Nat.le_of_ble_eq_true rfl, Nat.le_of_ble_eq_true rfl⟩ (Nat.le_of_ble_eq_true rfl) rfl dL_doesFit_5 (r_catch C [] [(0, 17, 24, 13), (0, 17, 28, 22)] 0 17 20 34 rfl (fun _ h9 => nomatch h9) (by decide) ⟨Nat.le_of_ble_eq_true rfl, Nat.le_of_ble_eq_true rfl⟩ (by decide) cl_L_34 ct_NoSuchElementException (fun q9 => ?_))
      refine r_astore C.1 (lv' := [(0, .ref a0), (1, .int x1), (2, .int x2), (3, .ref a3), (4, .ref q9)]) [1, 2, 3, 4, 0] 22 rfl dL_doesFit_20 (Nat.le_of_ble_eq_true rfl) rfl ?_
      refine r_iconst C.1 1 rfl 23 rfl dL_doesFit_22 ?_
      cases h
      exact r_zretH C rfl rfl (Nat.le_of_ble_eq_true rfl) (Nat.le_of_ble_eq_true rfl) dL_doesFit_23 hq
    replace h := if_some_f c26 h
    by_cases c27 : E25 = "java/lang/IndexOutOfBoundsException"
    · have h := if_some_t c27 h
      subst c27
      refine r_xV C.1 (st := [.int 0, .ref a3]) (x_X6_doesFit ha0 e23) yv_X6_doesFit ml_L_87 rfl ha0 rfl ⟨Nat.le_of_ble_eq_true rfl, Nat.le_of_ble_eq_true rfl⟩ ⟨Nat.le_of_ble_eq_true rfl, Nat.le_of_ble_eq_true rfl⟩ (Nat.le_of_ble_eq_true rfl) rfl dL_doesFit_5 (r_catch C [(0, 17, 20, 34)] [(0, 17, 28, 22)] 0 17 24 13 rfl (fun z9 h9 => by simp only [List.mem_cons, List.mem_nil_iff, or_false] at h9; rcases h9 with rfl <;> first | exact ⟨by decide, "java/util/NoSuchElementException", cl_L_34, by decide, by decide⟩) (by decide) ⟨Nat.le_of_ble_eq_true rfl, Nat.le_of_ble_eq_true rfl⟩ (by decide) cl_L_13 ct_IndexOutOfBoundsException (fun q9 => ?_))
      refine r_astore C.1 (lv' := [(0, .ref a0), (1, .int x1), (2, .int x2), (3, .ref a3), (4, .ref q9)]) [1, 2, 3, 4, 0] 26 rfl dL_doesFit_24 (Nat.le_of_ble_eq_true rfl) rfl ?_
      refine r_iconst C.1 2 rfl 27 rfl dL_doesFit_26 ?_
      cases h
      exact r_zretH C rfl rfl (Nat.le_of_ble_eq_true rfl) (Nat.le_of_ble_eq_true rfl) dL_doesFit_27 hq
    replace h := if_some_f c27 h
    by_cases c28 : E25 = "java/lang/IllegalStateException"
    · have h := if_some_t c28 h
      subst c28
      refine r_xV C.1 (st := [.int 0, .ref a3]) (x_X6_doesFit ha0 e23) yv_X6_doesFit ml_L_87 rfl ha0 rfl ⟨Nat.le_of_ble_eq_true rfl, Nat.le_of_ble_eq_true rfl⟩ ⟨Nat.le_of_ble_eq_true rfl, Nat.le_of_ble_eq_true rfl⟩ (Nat.le_of_ble_eq_true rfl) rfl dL_doesFit_5 (r_catch C [(0, 17, 20, 34), (0, 17, 24, 13)] [] 0 17 28 22 rfl (fun z9 h9 => by simp only [List.mem_cons, List.mem_nil_iff, or_false] at h9; rcases h9 with rfl | rfl <;> first | exact ⟨by decide, "java/util/NoSuchElementException", cl_L_34, by decide, by decide⟩ | exact ⟨by decide, "java/lang/IndexOutOfBoundsException", cl_L_13, by decide, by decide⟩) (by decide) ⟨Nat.le_of_ble_eq_true rfl, Nat.le_of_ble_eq_true rfl⟩ (by decide) cl_L_22 ct_IllegalStateException (fun q9 => ?_))
      refine r_astore C.1 (lv' := [(0, .ref a0), (1, .int x1), (2, .int x2), (3, .ref a3), (4, .ref q9)]) [1, 2, 3, 4, 0] 30 rfl dL_doesFit_28 (Nat.le_of_ble_eq_true rfl) rfl ?_
      refine r_iconst C.1 3 rfl 31 rfl dL_doesFit_30 ?_
      cases h
      exact r_zretH C rfl rfl (Nat.le_of_ble_eq_true rfl) (Nat.le_of_ble_eq_true rfl) dL_doesFit_31 hq
    replace h := if_some_f c28 h
    cases h
  refine r_cVi C.1 (st := [.int 0, .ref a3]) (c_X6_doesFit ha0 e23) yv_X6_doesFit ml_L_87 rfl ha0 rfl ⟨Nat.le_of_ble_eq_true rfl, Nat.le_of_ble_eq_true rfl⟩ ⟨Nat.le_of_ble_eq_true rfl, Nat.le_of_ble_eq_true rfl⟩ (Nat.le_of_ble_eq_true rfl) rfl 3 18 rfl rfl 8 rfl dL_doesFit_5 ?_
  refine r_if_eq C.1 15 11 rfl dL_doesFit_8 rfl ⟨fun c29 => ?_, fun c29 => ?_⟩
  · have h := if_some_t c29 h
    refine r_lconst C.1 0 rfl 16 rfl dL_doesFit_15 ?_
    obtain ⟨κ30, e31, h⟩ := bnd_some h
    refine r_last C.1 ha3 (by decide) e31 17 rfl dL_doesFit_16 ?_
    refine r_goto C.1 32 dL_doesFit_17 rfl ?_
    refine r_iconst C.1 0 rfl 33 rfl dL_doesFit_32 ?_
    cases h
    exact r_zretH C rfl rfl (Nat.le_of_ble_eq_true rfl) (Nat.le_of_ble_eq_true rfl) dL_doesFit_33 hq
  · have h := if_some_f c29 h
    refine r_lconst C.1 1 rfl 12 rfl dL_doesFit_11 ?_
    refine r_goto C.1 16 dL_doesFit_12 rfl ?_
    obtain ⟨κ32, e33, h⟩ := bnd_some h
    refine r_last C.1 ha3 (by decide) e33 17 rfl dL_doesFit_16 ?_
    refine r_goto C.1 32 dL_doesFit_17 rfl ?_
    refine r_iconst C.1 0 rfl 33 rfl dL_doesFit_32 ?_
    cases h
    exact r_zretH C rfl rfl (Nat.le_of_ble_eq_true rfl) (Nat.le_of_ble_eq_true rfl) dL_doesFit_33 hq
theorem c_L_doesFit {l : Launch} {G : jG} {sh : jSh} {κ : jKt} {a0 : Nat} (ha0 : sh a0 = (1, 10, 11)) {x1 : Int32} {x2 : Int32} {a3 : Nat} (ha3 : sh a3 = (2, 3, 1)) {r : Int32} {κr : jKt} (h : P_L_doesFit κ a0 x1 x2 a3 = some (r, κr)) : jMh l G yL_doesFit cL_doesFit 5 (some .int) [(0, 17, 20, 34), (0, 17, 24, 13), (0, 17, 28, 22)] 13 3 18 251 [.ref a0, .int x1, .int x2, .ref a3] (sh, κ) (jIs (some (.int r)) (sh, κr)) jNo :=
  r_bodyH (by decide) (Nat.le_of_ble_eq_true rfl) fun F C hl hG hs ho hx => by
    subst hs
    exact w_L_doesFit_0 C ha0 ha3 (by rw [ho]; exact ⟨rfl, rfl⟩) h
set_option maxRecDepth 20000 in
theorem w_L_sewnSleeves_0 {F : jFm} (C : jBh F RL cL_sewnSleeves 4 (some .int) [(0, 9, 12, 34)] 11 1 6 203) {κ : jKt} {a0 : Nat} (ha0 : jSof F a0 = (1, 10, 11)) {x1 : Int32} {a2 : Nat} (ha2 : jSof F a2 = (2, 3, 1)) {r : Int32 × jKt} (hq : jOut F (some (.int r.1)) r.2) (h : P_L_sewnSleeves κ a0 x1 a2 = some r) : jW F 4 0 0 κ 0 [(0, .ref a0), (1, .int x1), (2, .ref a2)] [] := by
  unfold P_L_sewnSleeves at h
  refine r_aload_n C.1 2 1 rfl dL_sewnSleeves_0 rfl ?_
  refine r_iconst C.1 0 rfl 2 rfl dL_sewnSleeves_1 ?_
  refine r_aload_n C.1 0 3 rfl dL_sewnSleeves_2 rfl ?_
  refine r_iload_n C.1 1 4 rfl dL_sewnSleeves_3 rfl ?_
  rcases bdx_some h with ⟨y14, e13, h⟩ | ⟨E15, e13, h⟩
  rotate_left
  · by_cases c16 : E15 = "java/util/NoSuchElementException"
    · have h := if_some_t c16 h
      subst c16
      refine r_xV C.1 (st := [.int 0, .ref a2]) (x_X6_sewnSleeves ha0 e13) yv_X6_sewnSleeves ml_L_91 rfl ha0 rfl ⟨Nat.le_of_ble_eq_true rfl, Nat.le_of_ble_eq_true rfl⟩ ⟨Nat.le_of_ble_eq_true rfl, Nat.le_of_ble_eq_true rfl⟩ (Nat.le_of_ble_eq_true rfl) rfl dL_sewnSleeves_4 (r_catch C [] [] 0 9 12 34 rfl (fun _ h9 => nomatch h9) (by decide) ⟨Nat.le_of_ble_eq_true rfl, Nat.le_of_ble_eq_true rfl⟩ (by decide) cl_L_34 ct_NoSuchElementException (fun q9 => ?_))
      refine r_astore_n C.1 (lv' := [(0, .ref a0), (1, .int x1), (2, .ref a2), (3, .ref q9)]) [1, 2, 3, 0] 13 rfl dL_sewnSleeves_12 (Nat.le_of_ble_eq_true rfl) rfl ?_
      refine r_iconst C.1 1 rfl 14 rfl dL_sewnSleeves_13 ?_
      cases h
      exact r_zretH C rfl rfl (Nat.le_of_ble_eq_true rfl) (Nat.le_of_ble_eq_true rfl) dL_sewnSleeves_14 hq
    replace h := if_some_f c16 h
    cases h
  refine r_cVi C.1 (st := [.int 0, .ref a2]) (c_X6_sewnSleeves ha0 e13) yv_X6_sewnSleeves ml_L_91 rfl ha0 rfl ⟨Nat.le_of_ble_eq_true rfl, Nat.le_of_ble_eq_true rfl⟩ ⟨Nat.le_of_ble_eq_true rfl, Nat.le_of_ble_eq_true rfl⟩ (Nat.le_of_ble_eq_true rfl) rfl 1 6 rfl rfl 7 rfl dL_sewnSleeves_4 ?_
  refine r_i2l C.1 8 rfl dL_sewnSleeves_7 ?_
  obtain ⟨κ17, e18, h⟩ := bnd_some h
  refine r_last C.1 ha2 (by decide) e18 9 rfl dL_sewnSleeves_8 ?_
  refine r_goto C.1 15 dL_sewnSleeves_9 rfl ?_
  refine r_iconst C.1 0 rfl 16 rfl dL_sewnSleeves_15 ?_
  cases h
  exact r_zretH C rfl rfl (Nat.le_of_ble_eq_true rfl) (Nat.le_of_ble_eq_true rfl) dL_sewnSleeves_16 hq
theorem c_L_sewnSleeves {l : Launch} {G : jG} {sh : jSh} {κ : jKt} {a0 : Nat} (ha0 : sh a0 = (1, 10, 11)) {x1 : Int32} {a2 : Nat} (ha2 : sh a2 = (2, 3, 1)) {r : Int32} {κr : jKt} (h : P_L_sewnSleeves κ a0 x1 a2 = some (r, κr)) : jMh l G yL_sewnSleeves cL_sewnSleeves 4 (some .int) [(0, 9, 12, 34)] 11 1 6 203 [.ref a0, .int x1, .ref a2] (sh, κ) (jIs (some (.int r)) (sh, κr)) jNo :=
  r_bodyH (by decide) (Nat.le_of_ble_eq_true rfl) fun F C hl hG hs ho hx => by
    subst hs
    exact w_L_sewnSleeves_0 C ha0 ha2 (by rw [ho]; exact ⟨rfl, rfl⟩) h
set_option maxRecDepth 20000 in
theorem w_L_demandCount_0 {F : jFm} (C : jBh F RL cL_demandCount 4 (some .int) [(0, 9, 12, 34)] 11 1 6 203) {κ : jKt} {a0 : Nat} (ha0 : jSof F a0 = (1, 10, 11)) {x1 : Int32} {a2 : Nat} (ha2 : jSof F a2 = (2, 3, 1)) {r : Int32 × jKt} (hq : jOut F (some (.int r.1)) r.2) (h : P_L_demandCount κ a0 x1 a2 = some r) : jW F 4 0 0 κ 0 [(0, .ref a0), (1, .int x1), (2, .ref a2)] [] := by
  unfold P_L_demandCount at h
  refine r_aload_n C.1 2 1 rfl dL_demandCount_0 rfl ?_
  refine r_iconst C.1 0 rfl 2 rfl dL_demandCount_1 ?_
  refine r_aload_n C.1 0 3 rfl dL_demandCount_2 rfl ?_
  refine r_iload_n C.1 1 4 rfl dL_demandCount_3 rfl ?_
  rcases bdx_some h with ⟨y14, e13, h⟩ | ⟨E15, e13, h⟩
  rotate_left
  · by_cases c16 : E15 = "java/util/NoSuchElementException"
    · have h := if_some_t c16 h
      subst c16
      refine r_xV C.1 (st := [.int 0, .ref a2]) (x_X6_demandCount ha0 e13) yv_X6_demandCount ml_L_94 rfl ha0 rfl ⟨Nat.le_of_ble_eq_true rfl, Nat.le_of_ble_eq_true rfl⟩ ⟨Nat.le_of_ble_eq_true rfl, Nat.le_of_ble_eq_true rfl⟩ (Nat.le_of_ble_eq_true rfl) rfl dL_demandCount_4 (r_catch C [] [] 0 9 12 34 rfl (fun _ h9 => nomatch h9) (by decide) ⟨Nat.le_of_ble_eq_true rfl, Nat.le_of_ble_eq_true rfl⟩ (by decide) cl_L_34 ct_NoSuchElementException (fun q9 => ?_))
      refine r_astore_n C.1 (lv' := [(0, .ref a0), (1, .int x1), (2, .ref a2), (3, .ref q9)]) [1, 2, 3, 0] 13 rfl dL_demandCount_12 (Nat.le_of_ble_eq_true rfl) rfl ?_
      refine r_iconst C.1 1 rfl 14 rfl dL_demandCount_13 ?_
      cases h
      exact r_zretH C rfl rfl (Nat.le_of_ble_eq_true rfl) (Nat.le_of_ble_eq_true rfl) dL_demandCount_14 hq
    replace h := if_some_f c16 h
    cases h
  refine r_cVi C.1 (st := [.int 0, .ref a2]) (c_X6_demandCount ha0 e13) yv_X6_demandCount ml_L_94 rfl ha0 rfl ⟨Nat.le_of_ble_eq_true rfl, Nat.le_of_ble_eq_true rfl⟩ ⟨Nat.le_of_ble_eq_true rfl, Nat.le_of_ble_eq_true rfl⟩ (Nat.le_of_ble_eq_true rfl) rfl 1 6 rfl rfl 7 rfl dL_demandCount_4 ?_
  refine r_i2l C.1 8 rfl dL_demandCount_7 ?_
  obtain ⟨κ17, e18, h⟩ := bnd_some h
  refine r_last C.1 ha2 (by decide) e18 9 rfl dL_demandCount_8 ?_
  refine r_goto C.1 15 dL_demandCount_9 rfl ?_
  refine r_iconst C.1 0 rfl 16 rfl dL_demandCount_15 ?_
  cases h
  exact r_zretH C rfl rfl (Nat.le_of_ble_eq_true rfl) (Nat.le_of_ble_eq_true rfl) dL_demandCount_16 hq
theorem c_L_demandCount {l : Launch} {G : jG} {sh : jSh} {κ : jKt} {a0 : Nat} (ha0 : sh a0 = (1, 10, 11)) {x1 : Int32} {a2 : Nat} (ha2 : sh a2 = (2, 3, 1)) {r : Int32} {κr : jKt} (h : P_L_demandCount κ a0 x1 a2 = some (r, κr)) : jMh l G yL_demandCount cL_demandCount 4 (some .int) [(0, 9, 12, 34)] 11 1 6 203 [.ref a0, .int x1, .ref a2] (sh, κ) (jIs (some (.int r)) (sh, κr)) jNo :=
  r_bodyH (by decide) (Nat.le_of_ble_eq_true rfl) fun F C hl hG hs ho hx => by
    subst hs
    exact w_L_demandCount_0 C ha0 ha2 (by rw [ho]; exact ⟨rfl, rfl⟩) h
set_option maxRecDepth 20000 in
theorem w_L_isBefore_0 {F : jFm} (C : jBh F RL cL_isBefore 6 (some .int) [(0, 19, 22, 34), (0, 19, 26, 13)] 12 4 24 228) {κ : jKt} {a0 : Nat} (ha0 : jSof F a0 = (1, 10, 11)) {x1 : Int32} {x2 : Int32} {x3 : Int32} {a4 : Nat} (ha4 : jSof F a4 = (2, 3, 1)) {r : Int32 × jKt} (hq : jOut F (some (.int r.1)) r.2) (h : P_L_isBefore κ a0 x1 x2 x3 a4 = some r) : jW F 6 0 0 κ 0 [(0, .ref a0), (1, .int x1), (2, .int x2), (3, .int x3), (4, .ref a4)] [] := by
  unfold P_L_isBefore at h
  refine r_aload C.1 4 2 rfl dL_isBefore_0 rfl ?_
  refine r_iconst C.1 0 rfl 3 rfl dL_isBefore_2 ?_
  refine r_aload_n C.1 0 4 rfl dL_isBefore_3 rfl ?_
  refine r_iload_n C.1 1 5 rfl dL_isBefore_4 rfl ?_
  refine r_iload_n C.1 2 6 rfl dL_isBefore_5 rfl ?_
  refine r_iload_n C.1 3 7 rfl dL_isBefore_6 rfl ?_
  rcases bdx_some h with ⟨y22, e21, h⟩ | ⟨E23, e21, h⟩
  rotate_left
  · by_cases c24 : E23 = "java/util/NoSuchElementException"
    · have h := if_some_t c24 h
      subst c24
      refine r_xV C.1 (st := [.int 0, .ref a4]) (x_X6_isBefore ha0 e21) yv_X6_isBefore ml_L_97 rfl ha0 rfl ⟨Nat.le_of_ble_eq_true rfl, Nat.le_of_ble_eq_true rfl⟩ ⟨Nat.le_of_ble_eq_true rfl, Nat.le_of_ble_eq_true rfl⟩ (Nat.le_of_ble_eq_true rfl) rfl dL_isBefore_7 (r_catch C [] [(0, 19, 26, 13)] 0 19 22 34 rfl (fun _ h9 => nomatch h9) (by decide) ⟨Nat.le_of_ble_eq_true rfl, Nat.le_of_ble_eq_true rfl⟩ (by decide) cl_L_34 ct_NoSuchElementException (fun q9 => ?_))
      refine r_astore C.1 (lv' := [(0, .ref a0), (1, .int x1), (2, .int x2), (3, .int x3), (4, .ref a4), (5, .ref q9)]) [1, 2, 3, 4, 5, 0] 24 rfl dL_isBefore_22 (Nat.le_of_ble_eq_true rfl) rfl ?_
      refine r_iconst C.1 1 rfl 25 rfl dL_isBefore_24 ?_
      cases h
      exact r_zretH C rfl rfl (Nat.le_of_ble_eq_true rfl) (Nat.le_of_ble_eq_true rfl) dL_isBefore_25 hq
    replace h := if_some_f c24 h
    by_cases c25 : E23 = "java/lang/IndexOutOfBoundsException"
    · have h := if_some_t c25 h
      subst c25
      refine r_xV C.1 (st := [.int 0, .ref a4]) (x_X6_isBefore ha0 e21) yv_X6_isBefore ml_L_97 rfl ha0 rfl ⟨Nat.le_of_ble_eq_true rfl, Nat.le_of_ble_eq_true rfl⟩ ⟨Nat.le_of_ble_eq_true rfl, Nat.le_of_ble_eq_true rfl⟩ (Nat.le_of_ble_eq_true rfl) rfl dL_isBefore_7 (r_catch C [(0, 19, 22, 34)] [] 0 19 26 13 rfl (fun z9 h9 => by simp only [List.mem_cons, List.mem_nil_iff, or_false] at h9; rcases h9 with rfl <;> first | exact ⟨by decide, "java/util/NoSuchElementException", cl_L_34, by decide, by decide⟩) (by decide) ⟨Nat.le_of_ble_eq_true rfl, Nat.le_of_ble_eq_true rfl⟩ (by decide) cl_L_13 ct_IndexOutOfBoundsException (fun q9 => ?_))
      refine r_astore C.1 (lv' := [(0, .ref a0), (1, .int x1), (2, .int x2), (3, .int x3), (4, .ref a4), (5, .ref q9)]) [1, 2, 3, 4, 5, 0] 28 rfl dL_isBefore_26 (Nat.le_of_ble_eq_true rfl) rfl ?_
      refine r_iconst C.1 2 rfl 29 rfl dL_isBefore_28 ?_
      cases h
      exact r_zretH C rfl rfl (Nat.le_of_ble_eq_true rfl) (Nat.le_of_ble_eq_true rfl) dL_isBefore_29 hq
    replace h := if_some_f c25 h
    cases h
  refine r_cVi C.1 (st := [.int 0, .ref a4]) (c_X6_isBefore ha0 e21) yv_X6_isBefore ml_L_97 rfl ha0 rfl ⟨Nat.le_of_ble_eq_true rfl, Nat.le_of_ble_eq_true rfl⟩ ⟨Nat.le_of_ble_eq_true rfl, Nat.le_of_ble_eq_true rfl⟩ (Nat.le_of_ble_eq_true rfl) rfl 4 24 rfl rfl 10 rfl dL_isBefore_7 ?_
  refine r_if_eq C.1 17 13 rfl dL_isBefore_10 rfl ⟨fun c26 => ?_, fun c26 => ?_⟩
  · have h := if_some_t c26 h
    refine r_lconst C.1 0 rfl 18 rfl dL_isBefore_17 ?_
    obtain ⟨κ27, e28, h⟩ := bnd_some h
    refine r_last C.1 ha4 (by decide) e28 19 rfl dL_isBefore_18 ?_
    refine r_goto C.1 30 dL_isBefore_19 rfl ?_
    refine r_iconst C.1 0 rfl 31 rfl dL_isBefore_30 ?_
    cases h
    exact r_zretH C rfl rfl (Nat.le_of_ble_eq_true rfl) (Nat.le_of_ble_eq_true rfl) dL_isBefore_31 hq
  · have h := if_some_f c26 h
    refine r_lconst C.1 1 rfl 14 rfl dL_isBefore_13 ?_
    refine r_goto C.1 18 dL_isBefore_14 rfl ?_
    obtain ⟨κ29, e30, h⟩ := bnd_some h
    refine r_last C.1 ha4 (by decide) e30 19 rfl dL_isBefore_18 ?_
    refine r_goto C.1 30 dL_isBefore_19 rfl ?_
    refine r_iconst C.1 0 rfl 31 rfl dL_isBefore_30 ?_
    cases h
    exact r_zretH C rfl rfl (Nat.le_of_ble_eq_true rfl) (Nat.le_of_ble_eq_true rfl) dL_isBefore_31 hq
theorem c_L_isBefore {l : Launch} {G : jG} {sh : jSh} {κ : jKt} {a0 : Nat} (ha0 : sh a0 = (1, 10, 11)) {x1 : Int32} {x2 : Int32} {x3 : Int32} {a4 : Nat} (ha4 : sh a4 = (2, 3, 1)) {r : Int32} {κr : jKt} (h : P_L_isBefore κ a0 x1 x2 x3 a4 = some (r, κr)) : jMh l G yL_isBefore cL_isBefore 6 (some .int) [(0, 19, 22, 34), (0, 19, 26, 13)] 12 4 24 228 [.ref a0, .int x1, .int x2, .int x3, .ref a4] (sh, κ) (jIs (some (.int r)) (sh, κr)) jNo :=
  r_bodyH (by decide) (Nat.le_of_ble_eq_true rfl) fun F C hl hG hs ho hx => by
    subst hs
    exact w_L_isBefore_0 C ha0 ha4 (by rw [ho]; exact ⟨rfl, rfl⟩) h
set_option maxRecDepth 20000 in
theorem w_L_canDeliver_0 {F : jFm} (C : jBh F RL cL_canDeliver 4 (some .int) [(0, 16, 19, 34)] 11 1 6 204) {κ : jKt} {a0 : Nat} (ha0 : jSof F a0 = (1, 10, 11)) {x1 : Int32} {a2 : Nat} (ha2 : jSof F a2 = (2, 3, 1)) {r : Int32 × jKt} (hq : jOut F (some (.int r.1)) r.2) (h : P_L_canDeliver κ a0 x1 a2 = some r) : jW F 4 0 0 κ 0 [(0, .ref a0), (1, .int x1), (2, .ref a2)] [] := by
  unfold P_L_canDeliver at h
  refine r_aload_n C.1 2 1 rfl dL_canDeliver_0 rfl ?_
  refine r_iconst C.1 0 rfl 2 rfl dL_canDeliver_1 ?_
  refine r_aload_n C.1 0 3 rfl dL_canDeliver_2 rfl ?_
  refine r_iload_n C.1 1 4 rfl dL_canDeliver_3 rfl ?_
  rcases bdx_some h with ⟨y20, e19, h⟩ | ⟨E21, e19, h⟩
  rotate_left
  · by_cases c22 : E21 = "java/util/NoSuchElementException"
    · have h := if_some_t c22 h
      subst c22
      refine r_xV C.1 (st := [.int 0, .ref a2]) (x_X6_canDeliver ha0 e19) yv_X6_canDeliver ml_L_101 rfl ha0 rfl ⟨Nat.le_of_ble_eq_true rfl, Nat.le_of_ble_eq_true rfl⟩ ⟨Nat.le_of_ble_eq_true rfl, Nat.le_of_ble_eq_true rfl⟩ (Nat.le_of_ble_eq_true rfl) rfl dL_canDeliver_4 (r_catch C [] [] 0 16 19 34 rfl (fun _ h9 => nomatch h9) (by decide) ⟨Nat.le_of_ble_eq_true rfl, Nat.le_of_ble_eq_true rfl⟩ (by decide) cl_L_34 ct_NoSuchElementException (fun q9 => ?_))
      refine r_astore_n C.1 (lv' := [(0, .ref a0), (1, .int x1), (2, .ref a2), (3, .ref q9)]) [1, 2, 3, 0] 20 rfl dL_canDeliver_19 (Nat.le_of_ble_eq_true rfl) rfl ?_
      refine r_iconst C.1 1 rfl 21 rfl dL_canDeliver_20 ?_
      cases h
      exact r_zretH C rfl rfl (Nat.le_of_ble_eq_true rfl) (Nat.le_of_ble_eq_true rfl) dL_canDeliver_21 hq
    replace h := if_some_f c22 h
    cases h
  refine r_cVi C.1 (st := [.int 0, .ref a2]) (c_X6_canDeliver ha0 e19) yv_X6_canDeliver ml_L_101 rfl ha0 rfl ⟨Nat.le_of_ble_eq_true rfl, Nat.le_of_ble_eq_true rfl⟩ ⟨Nat.le_of_ble_eq_true rfl, Nat.le_of_ble_eq_true rfl⟩ (Nat.le_of_ble_eq_true rfl) rfl 1 6 rfl rfl 7 rfl dL_canDeliver_4 ?_
  refine r_if_eq C.1 14 10 rfl dL_canDeliver_7 rfl ⟨fun c23 => ?_, fun c23 => ?_⟩
  · have h := if_some_t c23 h
    refine r_lconst C.1 0 rfl 15 rfl dL_canDeliver_14 ?_
    obtain ⟨κ24, e25, h⟩ := bnd_some h
    refine r_last C.1 ha2 (by decide) e25 16 rfl dL_canDeliver_15 ?_
    refine r_goto C.1 22 dL_canDeliver_16 rfl ?_
    refine r_iconst C.1 0 rfl 23 rfl dL_canDeliver_22 ?_
    cases h
    exact r_zretH C rfl rfl (Nat.le_of_ble_eq_true rfl) (Nat.le_of_ble_eq_true rfl) dL_canDeliver_23 hq
  · have h := if_some_f c23 h
    refine r_lconst C.1 1 rfl 11 rfl dL_canDeliver_10 ?_
    refine r_goto C.1 15 dL_canDeliver_11 rfl ?_
    obtain ⟨κ26, e27, h⟩ := bnd_some h
    refine r_last C.1 ha2 (by decide) e27 16 rfl dL_canDeliver_15 ?_
    refine r_goto C.1 22 dL_canDeliver_16 rfl ?_
    refine r_iconst C.1 0 rfl 23 rfl dL_canDeliver_22 ?_
    cases h
    exact r_zretH C rfl rfl (Nat.le_of_ble_eq_true rfl) (Nat.le_of_ble_eq_true rfl) dL_canDeliver_23 hq
theorem c_L_canDeliver {l : Launch} {G : jG} {sh : jSh} {κ : jKt} {a0 : Nat} (ha0 : sh a0 = (1, 10, 11)) {x1 : Int32} {a2 : Nat} (ha2 : sh a2 = (2, 3, 1)) {r : Int32} {κr : jKt} (h : P_L_canDeliver κ a0 x1 a2 = some (r, κr)) : jMh l G yL_canDeliver cL_canDeliver 4 (some .int) [(0, 16, 19, 34)] 11 1 6 204 [.ref a0, .int x1, .ref a2] (sh, κ) (jIs (some (.int r)) (sh, κr)) jNo :=
  r_bodyH (by decide) (Nat.le_of_ble_eq_true rfl) fun F C hl hG hs ho hx => by
    subst hs
    exact w_L_canDeliver_0 C ha0 ha2 (by rw [ho]; exact ⟨rfl, rfl⟩) h
set_option maxRecDepth 20000 in
theorem w_L_price_0 {F : jFm} (C : jBh F RL cL_price 4 (some .int) [(0, 9, 12, 34)] 11 1 6 204) {κ : jKt} {a0 : Nat} (ha0 : jSof F a0 = (1, 10, 11)) {x1 : Int32} {a2 : Nat} (ha2 : jSof F a2 = (2, 3, 1)) {r : Int32 × jKt} (hq : jOut F (some (.int r.1)) r.2) (h : P_L_price κ a0 x1 a2 = some r) : jW F 4 0 0 κ 0 [(0, .ref a0), (1, .int x1), (2, .ref a2)] [] := by
  unfold P_L_price at h
  refine r_aload_n C.1 2 1 rfl dL_price_0 rfl ?_
  refine r_iconst C.1 0 rfl 2 rfl dL_price_1 ?_
  refine r_aload_n C.1 0 3 rfl dL_price_2 rfl ?_
  refine r_iload_n C.1 1 4 rfl dL_price_3 rfl ?_
  rcases bdx_some h with ⟨y14, e13, h⟩ | ⟨E15, e13, h⟩
  rotate_left
  · by_cases c16 : E15 = "java/util/NoSuchElementException"
    · have h := if_some_t c16 h
      subst c16
      refine r_xV C.1 (st := [.int 0, .ref a2]) (x_X6_price ha0 e13) yv_X6_price ml_L_104 rfl ha0 rfl ⟨Nat.le_of_ble_eq_true rfl, Nat.le_of_ble_eq_true rfl⟩ ⟨Nat.le_of_ble_eq_true rfl, Nat.le_of_ble_eq_true rfl⟩ (Nat.le_of_ble_eq_true rfl) rfl dL_price_4 (r_catch C [] [] 0 9 12 34 rfl (fun _ h9 => nomatch h9) (by decide) ⟨Nat.le_of_ble_eq_true rfl, Nat.le_of_ble_eq_true rfl⟩ (by decide) cl_L_34 ct_NoSuchElementException (fun q9 => ?_))
      refine r_astore_n C.1 (lv' := [(0, .ref a0), (1, .int x1), (2, .ref a2), (3, .ref q9)]) [1, 2, 3, 0] 13 rfl dL_price_12 (Nat.le_of_ble_eq_true rfl) rfl ?_
      refine r_iconst C.1 1 rfl 14 rfl dL_price_13 ?_
      cases h
      exact r_zretH C rfl rfl (Nat.le_of_ble_eq_true rfl) (Nat.le_of_ble_eq_true rfl) dL_price_14 hq
    replace h := if_some_f c16 h
    cases h
  refine r_cVi C.1 (st := [.int 0, .ref a2]) (c_X6_price ha0 e13) yv_X6_price ml_L_104 rfl ha0 rfl ⟨Nat.le_of_ble_eq_true rfl, Nat.le_of_ble_eq_true rfl⟩ ⟨Nat.le_of_ble_eq_true rfl, Nat.le_of_ble_eq_true rfl⟩ (Nat.le_of_ble_eq_true rfl) rfl 1 6 rfl rfl 7 rfl dL_price_4 ?_
  refine r_i2l C.1 8 rfl dL_price_7 ?_
  obtain ⟨κ17, e18, h⟩ := bnd_some h
  refine r_last C.1 ha2 (by decide) e18 9 rfl dL_price_8 ?_
  refine r_goto C.1 15 dL_price_9 rfl ?_
  refine r_iconst C.1 0 rfl 16 rfl dL_price_15 ?_
  cases h
  exact r_zretH C rfl rfl (Nat.le_of_ble_eq_true rfl) (Nat.le_of_ble_eq_true rfl) dL_price_16 hq
theorem c_L_price {l : Launch} {G : jG} {sh : jSh} {κ : jKt} {a0 : Nat} (ha0 : sh a0 = (1, 10, 11)) {x1 : Int32} {a2 : Nat} (ha2 : sh a2 = (2, 3, 1)) {r : Int32} {κr : jKt} (h : P_L_price κ a0 x1 a2 = some (r, κr)) : jMh l G yL_price cL_price 4 (some .int) [(0, 9, 12, 34)] 11 1 6 204 [.ref a0, .int x1, .ref a2] (sh, κ) (jIs (some (.int r)) (sh, κr)) jNo :=
  r_bodyH (by decide) (Nat.le_of_ble_eq_true rfl) fun F C hl hG hs ho hx => by
    subst hs
    exact w_L_price_0 C ha0 ha2 (by rw [ho]; exact ⟨rfl, rfl⟩) h
set_option maxRecDepth 20000 in
theorem w_L_sleevesLeft_0 {F : jFm} (C : jBh F RL cL_sleevesLeft 4 (some .int) [(0, 9, 12, 34)] 11 1 6 203) {κ : jKt} {a0 : Nat} (ha0 : jSof F a0 = (1, 10, 11)) {x1 : Int32} {a2 : Nat} (ha2 : jSof F a2 = (2, 3, 1)) {r : Int32 × jKt} (hq : jOut F (some (.int r.1)) r.2) (h : P_L_sleevesLeft κ a0 x1 a2 = some r) : jW F 4 0 0 κ 0 [(0, .ref a0), (1, .int x1), (2, .ref a2)] [] := by
  unfold P_L_sleevesLeft at h
  refine r_aload_n C.1 2 1 rfl dL_sleevesLeft_0 rfl ?_
  refine r_iconst C.1 0 rfl 2 rfl dL_sleevesLeft_1 ?_
  refine r_aload_n C.1 0 3 rfl dL_sleevesLeft_2 rfl ?_
  refine r_iload_n C.1 1 4 rfl dL_sleevesLeft_3 rfl ?_
  rcases bdx_some h with ⟨y14, e13, h⟩ | ⟨E15, e13, h⟩
  rotate_left
  · by_cases c16 : E15 = "java/util/NoSuchElementException"
    · have h := if_some_t c16 h
      subst c16
      refine r_xV C.1 (st := [.int 0, .ref a2]) (x_X6_sleevesLeft ha0 e13) yv_X6_sleevesLeft ml_L_107 rfl ha0 rfl ⟨Nat.le_of_ble_eq_true rfl, Nat.le_of_ble_eq_true rfl⟩ ⟨Nat.le_of_ble_eq_true rfl, Nat.le_of_ble_eq_true rfl⟩ (Nat.le_of_ble_eq_true rfl) rfl dL_sleevesLeft_4 (r_catch C [] [] 0 9 12 34 rfl (fun _ h9 => nomatch h9) (by decide) ⟨Nat.le_of_ble_eq_true rfl, Nat.le_of_ble_eq_true rfl⟩ (by decide) cl_L_34 ct_NoSuchElementException (fun q9 => ?_))
      refine r_astore_n C.1 (lv' := [(0, .ref a0), (1, .int x1), (2, .ref a2), (3, .ref q9)]) [1, 2, 3, 0] 13 rfl dL_sleevesLeft_12 (Nat.le_of_ble_eq_true rfl) rfl ?_
      refine r_iconst C.1 1 rfl 14 rfl dL_sleevesLeft_13 ?_
      cases h
      exact r_zretH C rfl rfl (Nat.le_of_ble_eq_true rfl) (Nat.le_of_ble_eq_true rfl) dL_sleevesLeft_14 hq
    replace h := if_some_f c16 h
    cases h
  refine r_cVi C.1 (st := [.int 0, .ref a2]) (c_X6_sleevesLeft ha0 e13) yv_X6_sleevesLeft ml_L_107 rfl ha0 rfl ⟨Nat.le_of_ble_eq_true rfl, Nat.le_of_ble_eq_true rfl⟩ ⟨Nat.le_of_ble_eq_true rfl, Nat.le_of_ble_eq_true rfl⟩ (Nat.le_of_ble_eq_true rfl) rfl 1 6 rfl rfl 7 rfl dL_sleevesLeft_4 ?_
  refine r_i2l C.1 8 rfl dL_sleevesLeft_7 ?_
  obtain ⟨κ17, e18, h⟩ := bnd_some h
  refine r_last C.1 ha2 (by decide) e18 9 rfl dL_sleevesLeft_8 ?_
  refine r_goto C.1 15 dL_sleevesLeft_9 rfl ?_
  refine r_iconst C.1 0 rfl 16 rfl dL_sleevesLeft_15 ?_
  cases h
  exact r_zretH C rfl rfl (Nat.le_of_ble_eq_true rfl) (Nat.le_of_ble_eq_true rfl) dL_sleevesLeft_16 hq
theorem c_L_sleevesLeft {l : Launch} {G : jG} {sh : jSh} {κ : jKt} {a0 : Nat} (ha0 : sh a0 = (1, 10, 11)) {x1 : Int32} {a2 : Nat} (ha2 : sh a2 = (2, 3, 1)) {r : Int32} {κr : jKt} (h : P_L_sleevesLeft κ a0 x1 a2 = some (r, κr)) : jMh l G yL_sleevesLeft cL_sleevesLeft 4 (some .int) [(0, 9, 12, 34)] 11 1 6 203 [.ref a0, .int x1, .ref a2] (sh, κ) (jIs (some (.int r)) (sh, κr)) jNo :=
  r_bodyH (by decide) (Nat.le_of_ble_eq_true rfl) fun F C hl hG hs ho hx => by
    subst hs
    exact w_L_sleevesLeft_0 C ha0 ha2 (by rw [ho]; exact ⟨rfl, rfl⟩) h
set_option maxRecDepth 20000 in
theorem w_L_sewingOrder_0 {F : jFm} (C : jBh F RL cL_sewingOrder 5 (some .int) [(0, 10, 13, 34), (0, 10, 17, 13)] 11 2 12 205) {κ : jKt} {a0 : Nat} (ha0 : jSof F a0 = (1, 10, 11)) {x1 : Int32} {x2 : Int32} {a3 : Nat} (ha3 : jSof F a3 = (2, 3, 1)) {r : Int32 × jKt} (hq : jOut F (some (.int r.1)) r.2) (h : P_L_sewingOrder κ a0 x1 x2 a3 = some r) : jW F 5 0 0 κ 0 [(0, .ref a0), (1, .int x1), (2, .int x2), (3, .ref a3)] [] := by
  unfold P_L_sewingOrder at h
  refine r_aload_n C.1 3 1 rfl dL_sewingOrder_0 rfl ?_
  refine r_iconst C.1 0 rfl 2 rfl dL_sewingOrder_1 ?_
  refine r_aload_n C.1 0 3 rfl dL_sewingOrder_2 rfl ?_
  refine r_iload_n C.1 1 4 rfl dL_sewingOrder_3 rfl ?_
  refine r_iload_n C.1 2 5 rfl dL_sewingOrder_4 rfl ?_
  rcases bdx2_some h with ⟨y18, κ20, e17, h⟩ | ⟨E19, κ20, e17, h⟩
  rotate_left
  · by_cases c21 : E19 = "java/util/NoSuchElementException"
    · have h := if_some_t c21 h
      subst c21
      refine r_xV C.1 (st := [.int 0, .ref a3]) (x_X6_sewingOrder ha0 e17) yv_X6_sewingOrder ml_L_110 rfl ha0 rfl ⟨Nat.le_of_ble_eq_true rfl, Nat.le_of_ble_eq_true rfl⟩ ⟨Nat.le_of_ble_eq_true rfl, Nat.le_of_ble_eq_true rfl⟩ (Nat.le_of_ble_eq_true rfl) rfl dL_sewingOrder_5 (r_catch C [] [(0, 10, 17, 13)] 0 10 13 34 rfl (fun _ h9 => nomatch h9) (by decide) ⟨Nat.le_of_ble_eq_true rfl, Nat.le_of_ble_eq_true rfl⟩ (by decide) cl_L_34 ct_NoSuchElementException (fun q9 => ?_))
      refine r_astore C.1 (lv' := [(0, .ref a0), (1, .int x1), (2, .int x2), (3, .ref a3), (4, .ref q9)]) [1, 2, 3, 4, 0] 15 rfl dL_sewingOrder_13 (Nat.le_of_ble_eq_true rfl) rfl ?_
      refine r_iconst C.1 1 rfl 16 rfl dL_sewingOrder_15 ?_
      cases h
      exact r_zretH C rfl rfl (Nat.le_of_ble_eq_true rfl) (Nat.le_of_ble_eq_true rfl) dL_sewingOrder_16 hq
    replace h := if_some_f c21 h
    by_cases c22 : E19 = "java/lang/IndexOutOfBoundsException"
    · have h := if_some_t c22 h
      subst c22
      refine r_xV C.1 (st := [.int 0, .ref a3]) (x_X6_sewingOrder ha0 e17) yv_X6_sewingOrder ml_L_110 rfl ha0 rfl ⟨Nat.le_of_ble_eq_true rfl, Nat.le_of_ble_eq_true rfl⟩ ⟨Nat.le_of_ble_eq_true rfl, Nat.le_of_ble_eq_true rfl⟩ (Nat.le_of_ble_eq_true rfl) rfl dL_sewingOrder_5 (r_catch C [(0, 10, 13, 34)] [] 0 10 17 13 rfl (fun z9 h9 => by simp only [List.mem_cons, List.mem_nil_iff, or_false] at h9; rcases h9 with rfl <;> first | exact ⟨by decide, "java/util/NoSuchElementException", cl_L_34, by decide, by decide⟩) (by decide) ⟨Nat.le_of_ble_eq_true rfl, Nat.le_of_ble_eq_true rfl⟩ (by decide) cl_L_13 ct_IndexOutOfBoundsException (fun q9 => ?_))
      refine r_astore C.1 (lv' := [(0, .ref a0), (1, .int x1), (2, .int x2), (3, .ref a3), (4, .ref q9)]) [1, 2, 3, 4, 0] 19 rfl dL_sewingOrder_17 (Nat.le_of_ble_eq_true rfl) rfl ?_
      refine r_iconst C.1 2 rfl 20 rfl dL_sewingOrder_19 ?_
      cases h
      exact r_zretH C rfl rfl (Nat.le_of_ble_eq_true rfl) (Nat.le_of_ble_eq_true rfl) dL_sewingOrder_20 hq
    replace h := if_some_f c22 h
    cases h
  refine r_cVi C.1 (st := [.int 0, .ref a3]) (c_X6_sewingOrder ha0 e17) yv_X6_sewingOrder ml_L_110 rfl ha0 rfl ⟨Nat.le_of_ble_eq_true rfl, Nat.le_of_ble_eq_true rfl⟩ ⟨Nat.le_of_ble_eq_true rfl, Nat.le_of_ble_eq_true rfl⟩ (Nat.le_of_ble_eq_true rfl) rfl 2 12 rfl rfl 8 rfl dL_sewingOrder_5 ?_
  refine r_i2l C.1 9 rfl dL_sewingOrder_8 ?_
  obtain ⟨κ23, e24, h⟩ := bnd_some h
  refine r_last C.1 ha3 (by decide) e24 10 rfl dL_sewingOrder_9 ?_
  refine r_goto C.1 21 dL_sewingOrder_10 rfl ?_
  refine r_iconst C.1 0 rfl 22 rfl dL_sewingOrder_21 ?_
  cases h
  exact r_zretH C rfl rfl (Nat.le_of_ble_eq_true rfl) (Nat.le_of_ble_eq_true rfl) dL_sewingOrder_22 hq
theorem c_L_sewingOrder {l : Launch} {G : jG} {sh : jSh} {κ : jKt} {a0 : Nat} (ha0 : sh a0 = (1, 10, 11)) {x1 : Int32} {x2 : Int32} {a3 : Nat} (ha3 : sh a3 = (2, 3, 1)) {r : Int32} {κr : jKt} (h : P_L_sewingOrder κ a0 x1 x2 a3 = some (r, κr)) : jMh l G yL_sewingOrder cL_sewingOrder 5 (some .int) [(0, 10, 13, 34), (0, 10, 17, 13)] 11 2 12 205 [.ref a0, .int x1, .int x2, .ref a3] (sh, κ) (jIs (some (.int r)) (sh, κr)) jNo :=
  r_bodyH (by decide) (Nat.le_of_ble_eq_true rfl) fun F C hl hG hs ho hx => by
    subst hs
    exact w_L_sewingOrder_0 C ha0 ha3 (by rw [ho]; exact ⟨rfl, rfl⟩) h
set_option maxRecDepth 20000 in
theorem w_L_sewingOrderByQueue_0 {F : jFm} (C : jBh F RL cL_sewingOrderByQueue 5 (some .int) [(0, 10, 13, 34), (0, 10, 17, 13)] 11 2 12 205) {κ : jKt} {a0 : Nat} (ha0 : jSof F a0 = (1, 10, 11)) {x1 : Int32} {x2 : Int32} {a3 : Nat} (ha3 : jSof F a3 = (2, 3, 1)) {r : Int32 × jKt} (hq : jOut F (some (.int r.1)) r.2) (h : P_L_sewingOrderByQueue κ a0 x1 x2 a3 = some r) : jW F 5 0 0 κ 0 [(0, .ref a0), (1, .int x1), (2, .int x2), (3, .ref a3)] [] := by
  unfold P_L_sewingOrderByQueue at h
  refine r_aload_n C.1 3 1 rfl dL_sewingOrderByQueue_0 rfl ?_
  refine r_iconst C.1 0 rfl 2 rfl dL_sewingOrderByQueue_1 ?_
  refine r_aload_n C.1 0 3 rfl dL_sewingOrderByQueue_2 rfl ?_
  refine r_iload_n C.1 1 4 rfl dL_sewingOrderByQueue_3 rfl ?_
  refine r_iload_n C.1 2 5 rfl dL_sewingOrderByQueue_4 rfl ?_
  rcases bdx2_some h with ⟨y18, κ20, e17, h⟩ | ⟨E19, κ20, e17, h⟩
  rotate_left
  · by_cases c21 : E19 = "java/util/NoSuchElementException"
    · have h := if_some_t c21 h
      subst c21
      refine r_xV C.1 (st := [.int 0, .ref a3]) (x_X6_sewingOrderByQueue ha0 e17) yv_X6_sewingOrderByQueue ml_L_113 rfl ha0 rfl ⟨Nat.le_of_ble_eq_true rfl, Nat.le_of_ble_eq_true rfl⟩ ⟨Nat.le_of_ble_eq_true rfl, Nat.le_of_ble_eq_true rfl⟩ (Nat.le_of_ble_eq_true rfl) rfl dL_sewingOrderByQueue_5 (r_catch C [] [(0, 10, 17, 13)] 0 10 13 34 rfl (fun _ h9 => nomatch h9) (by decide) ⟨Nat.le_of_ble_eq_true rfl, Nat.le_of_ble_eq_true rfl⟩ (by decide) cl_L_34 ct_NoSuchElementException (fun q9 => ?_))
      refine r_astore C.1 (lv' := [(0, .ref a0), (1, .int x1), (2, .int x2), (3, .ref a3), (4, .ref q9)]) [1, 2, 3, 4, 0] 15 rfl dL_sewingOrderByQueue_13 (Nat.le_of_ble_eq_true rfl) rfl ?_
      refine r_iconst C.1 1 rfl 16 rfl dL_sewingOrderByQueue_15 ?_
      cases h
      exact r_zretH C rfl rfl (Nat.le_of_ble_eq_true rfl) (Nat.le_of_ble_eq_true rfl) dL_sewingOrderByQueue_16 hq
    replace h := if_some_f c21 h
    by_cases c22 : E19 = "java/lang/IndexOutOfBoundsException"
    · have h := if_some_t c22 h
      subst c22
      refine r_xV C.1 (st := [.int 0, .ref a3]) (x_X6_sewingOrderByQueue ha0 e17) yv_X6_sewingOrderByQueue ml_L_113 rfl ha0 rfl ⟨Nat.le_of_ble_eq_true rfl, Nat.le_of_ble_eq_true rfl⟩ ⟨Nat.le_of_ble_eq_true rfl, Nat.le_of_ble_eq_true rfl⟩ (Nat.le_of_ble_eq_true rfl) rfl dL_sewingOrderByQueue_5 (r_catch C [(0, 10, 13, 34)] [] 0 10 17 13 rfl (fun z9 h9 => by simp only [List.mem_cons, List.mem_nil_iff, or_false] at h9; rcases h9 with rfl <;> first | exact ⟨by decide, "java/util/NoSuchElementException", cl_L_34, by decide, by decide⟩) (by decide) ⟨Nat.le_of_ble_eq_true rfl, Nat.le_of_ble_eq_true rfl⟩ (by decide) cl_L_13 ct_IndexOutOfBoundsException (fun q9 => ?_))
      refine r_astore C.1 (lv' := [(0, .ref a0), (1, .int x1), (2, .int x2), (3, .ref a3), (4, .ref q9)]) [1, 2, 3, 4, 0] 19 rfl dL_sewingOrderByQueue_17 (Nat.le_of_ble_eq_true rfl) rfl ?_
      refine r_iconst C.1 2 rfl 20 rfl dL_sewingOrderByQueue_19 ?_
      cases h
      exact r_zretH C rfl rfl (Nat.le_of_ble_eq_true rfl) (Nat.le_of_ble_eq_true rfl) dL_sewingOrderByQueue_20 hq
    replace h := if_some_f c22 h
    cases h
  refine r_cVi C.1 (st := [.int 0, .ref a3]) (c_X6_sewingOrderByQueue ha0 e17) yv_X6_sewingOrderByQueue ml_L_113 rfl ha0 rfl ⟨Nat.le_of_ble_eq_true rfl, Nat.le_of_ble_eq_true rfl⟩ ⟨Nat.le_of_ble_eq_true rfl, Nat.le_of_ble_eq_true rfl⟩ (Nat.le_of_ble_eq_true rfl) rfl 2 12 rfl rfl 8 rfl dL_sewingOrderByQueue_5 ?_
  refine r_i2l C.1 9 rfl dL_sewingOrderByQueue_8 ?_
  obtain ⟨κ23, e24, h⟩ := bnd_some h
  refine r_last C.1 ha3 (by decide) e24 10 rfl dL_sewingOrderByQueue_9 ?_
  refine r_goto C.1 21 dL_sewingOrderByQueue_10 rfl ?_
  refine r_iconst C.1 0 rfl 22 rfl dL_sewingOrderByQueue_21 ?_
  cases h
  exact r_zretH C rfl rfl (Nat.le_of_ble_eq_true rfl) (Nat.le_of_ble_eq_true rfl) dL_sewingOrderByQueue_22 hq
theorem c_L_sewingOrderByQueue {l : Launch} {G : jG} {sh : jSh} {κ : jKt} {a0 : Nat} (ha0 : sh a0 = (1, 10, 11)) {x1 : Int32} {x2 : Int32} {a3 : Nat} (ha3 : sh a3 = (2, 3, 1)) {r : Int32} {κr : jKt} (h : P_L_sewingOrderByQueue κ a0 x1 x2 a3 = some (r, κr)) : jMh l G yL_sewingOrderByQueue cL_sewingOrderByQueue 5 (some .int) [(0, 10, 13, 34), (0, 10, 17, 13)] 11 2 12 205 [.ref a0, .int x1, .int x2, .ref a3] (sh, κ) (jIs (some (.int r)) (sh, κr)) jNo :=
  r_bodyH (by decide) (Nat.le_of_ble_eq_true rfl) fun F C hl hG hs ho hx => by
    subst hs
    exact w_L_sewingOrderByQueue_0 C ha0 ha3 (by rw [ho]; exact ⟨rfl, rfl⟩) h
set_option maxRecDepth 20000 in
theorem w_L_rounds_0 {F : jFm} (C : jBh F RL cL_rounds 4 (some .int) [(0, 9, 12, 34)] 11 1 6 203) {κ : jKt} {a0 : Nat} (ha0 : jSof F a0 = (1, 10, 11)) {x1 : Int32} {a2 : Nat} (ha2 : jSof F a2 = (2, 3, 1)) {r : Int32 × jKt} (hq : jOut F (some (.int r.1)) r.2) (h : P_L_rounds κ a0 x1 a2 = some r) : jW F 4 0 0 κ 0 [(0, .ref a0), (1, .int x1), (2, .ref a2)] [] := by
  unfold P_L_rounds at h
  refine r_aload_n C.1 2 1 rfl dL_rounds_0 rfl ?_
  refine r_iconst C.1 0 rfl 2 rfl dL_rounds_1 ?_
  refine r_aload_n C.1 0 3 rfl dL_rounds_2 rfl ?_
  refine r_iload_n C.1 1 4 rfl dL_rounds_3 rfl ?_
  rcases bdx_some h with ⟨y14, e13, h⟩ | ⟨E15, e13, h⟩
  rotate_left
  · by_cases c16 : E15 = "java/util/NoSuchElementException"
    · have h := if_some_t c16 h
      subst c16
      refine r_xV C.1 (st := [.int 0, .ref a2]) (x_X6_rounds ha0 e13) yv_X6_rounds ml_L_116 rfl ha0 rfl ⟨Nat.le_of_ble_eq_true rfl, Nat.le_of_ble_eq_true rfl⟩ ⟨Nat.le_of_ble_eq_true rfl, Nat.le_of_ble_eq_true rfl⟩ (Nat.le_of_ble_eq_true rfl) rfl dL_rounds_4 (r_catch C [] [] 0 9 12 34 rfl (fun _ h9 => nomatch h9) (by decide) ⟨Nat.le_of_ble_eq_true rfl, Nat.le_of_ble_eq_true rfl⟩ (by decide) cl_L_34 ct_NoSuchElementException (fun q9 => ?_))
      refine r_astore_n C.1 (lv' := [(0, .ref a0), (1, .int x1), (2, .ref a2), (3, .ref q9)]) [1, 2, 3, 0] 13 rfl dL_rounds_12 (Nat.le_of_ble_eq_true rfl) rfl ?_
      refine r_iconst C.1 1 rfl 14 rfl dL_rounds_13 ?_
      cases h
      exact r_zretH C rfl rfl (Nat.le_of_ble_eq_true rfl) (Nat.le_of_ble_eq_true rfl) dL_rounds_14 hq
    replace h := if_some_f c16 h
    cases h
  refine r_cVi C.1 (st := [.int 0, .ref a2]) (c_X6_rounds ha0 e13) yv_X6_rounds ml_L_116 rfl ha0 rfl ⟨Nat.le_of_ble_eq_true rfl, Nat.le_of_ble_eq_true rfl⟩ ⟨Nat.le_of_ble_eq_true rfl, Nat.le_of_ble_eq_true rfl⟩ (Nat.le_of_ble_eq_true rfl) rfl 1 6 rfl rfl 7 rfl dL_rounds_4 ?_
  refine r_i2l C.1 8 rfl dL_rounds_7 ?_
  obtain ⟨κ17, e18, h⟩ := bnd_some h
  refine r_last C.1 ha2 (by decide) e18 9 rfl dL_rounds_8 ?_
  refine r_goto C.1 15 dL_rounds_9 rfl ?_
  refine r_iconst C.1 0 rfl 16 rfl dL_rounds_15 ?_
  cases h
  exact r_zretH C rfl rfl (Nat.le_of_ble_eq_true rfl) (Nat.le_of_ble_eq_true rfl) dL_rounds_16 hq
theorem c_L_rounds {l : Launch} {G : jG} {sh : jSh} {κ : jKt} {a0 : Nat} (ha0 : sh a0 = (1, 10, 11)) {x1 : Int32} {a2 : Nat} (ha2 : sh a2 = (2, 3, 1)) {r : Int32} {κr : jKt} (h : P_L_rounds κ a0 x1 a2 = some (r, κr)) : jMh l G yL_rounds cL_rounds 4 (some .int) [(0, 9, 12, 34)] 11 1 6 203 [.ref a0, .int x1, .ref a2] (sh, κ) (jIs (some (.int r)) (sh, κr)) jNo :=
  r_bodyH (by decide) (Nat.le_of_ble_eq_true rfl) fun F C hl hG hs ho hx => by
    subst hs
    exact w_L_rounds_0 C ha0 ha2 (by rw [ho]; exact ⟨rfl, rfl⟩) h
set_option maxRecDepth 20000 in
theorem w_L_clothNeeded_0 {F : jFm} (C : jBh F RL cL_clothNeeded 4 (some .int) [(0, 9, 12, 34)] 11 1 6 204) {κ : jKt} {a0 : Nat} (ha0 : jSof F a0 = (1, 10, 11)) {x1 : Int32} {a2 : Nat} (ha2 : jSof F a2 = (2, 3, 1)) {r : Int32 × jKt} (hq : jOut F (some (.int r.1)) r.2) (h : P_L_clothNeeded κ a0 x1 a2 = some r) : jW F 4 0 0 κ 0 [(0, .ref a0), (1, .int x1), (2, .ref a2)] [] := by
  unfold P_L_clothNeeded at h
  refine r_aload_n C.1 2 1 rfl dL_clothNeeded_0 rfl ?_
  refine r_iconst C.1 0 rfl 2 rfl dL_clothNeeded_1 ?_
  refine r_aload_n C.1 0 3 rfl dL_clothNeeded_2 rfl ?_
  refine r_iload_n C.1 1 4 rfl dL_clothNeeded_3 rfl ?_
  rcases bdx_some h with ⟨y14, e13, h⟩ | ⟨E15, e13, h⟩
  rotate_left
  · by_cases c16 : E15 = "java/util/NoSuchElementException"
    · have h := if_some_t c16 h
      subst c16
      refine r_xV C.1 (st := [.int 0, .ref a2]) (x_X6_clothNeeded ha0 e13) yv_X6_clothNeeded ml_L_119 rfl ha0 rfl ⟨Nat.le_of_ble_eq_true rfl, Nat.le_of_ble_eq_true rfl⟩ ⟨Nat.le_of_ble_eq_true rfl, Nat.le_of_ble_eq_true rfl⟩ (Nat.le_of_ble_eq_true rfl) rfl dL_clothNeeded_4 (r_catch C [] [] 0 9 12 34 rfl (fun _ h9 => nomatch h9) (by decide) ⟨Nat.le_of_ble_eq_true rfl, Nat.le_of_ble_eq_true rfl⟩ (by decide) cl_L_34 ct_NoSuchElementException (fun q9 => ?_))
      refine r_astore_n C.1 (lv' := [(0, .ref a0), (1, .int x1), (2, .ref a2), (3, .ref q9)]) [1, 2, 3, 0] 13 rfl dL_clothNeeded_12 (Nat.le_of_ble_eq_true rfl) rfl ?_
      refine r_iconst C.1 1 rfl 14 rfl dL_clothNeeded_13 ?_
      cases h
      exact r_zretH C rfl rfl (Nat.le_of_ble_eq_true rfl) (Nat.le_of_ble_eq_true rfl) dL_clothNeeded_14 hq
    replace h := if_some_f c16 h
    cases h
  refine r_cVi C.1 (st := [.int 0, .ref a2]) (c_X6_clothNeeded ha0 e13) yv_X6_clothNeeded ml_L_119 rfl ha0 rfl ⟨Nat.le_of_ble_eq_true rfl, Nat.le_of_ble_eq_true rfl⟩ ⟨Nat.le_of_ble_eq_true rfl, Nat.le_of_ble_eq_true rfl⟩ (Nat.le_of_ble_eq_true rfl) rfl 1 6 rfl rfl 7 rfl dL_clothNeeded_4 ?_
  refine r_i2l C.1 8 rfl dL_clothNeeded_7 ?_
  obtain ⟨κ17, e18, h⟩ := bnd_some h
  refine r_last C.1 ha2 (by decide) e18 9 rfl dL_clothNeeded_8 ?_
  refine r_goto C.1 15 dL_clothNeeded_9 rfl ?_
  refine r_iconst C.1 0 rfl 16 rfl dL_clothNeeded_15 ?_
  cases h
  exact r_zretH C rfl rfl (Nat.le_of_ble_eq_true rfl) (Nat.le_of_ble_eq_true rfl) dL_clothNeeded_16 hq
theorem c_L_clothNeeded {l : Launch} {G : jG} {sh : jSh} {κ : jKt} {a0 : Nat} (ha0 : sh a0 = (1, 10, 11)) {x1 : Int32} {a2 : Nat} (ha2 : sh a2 = (2, 3, 1)) {r : Int32} {κr : jKt} (h : P_L_clothNeeded κ a0 x1 a2 = some (r, κr)) : jMh l G yL_clothNeeded cL_clothNeeded 4 (some .int) [(0, 9, 12, 34)] 11 1 6 204 [.ref a0, .int x1, .ref a2] (sh, κ) (jIs (some (.int r)) (sh, κr)) jNo :=
  r_bodyH (by decide) (Nat.le_of_ble_eq_true rfl) fun F C hl hG hs ho hx => by
    subst hs
    exact w_L_clothNeeded_0 C ha0 ha2 (by rw [ho]; exact ⟨rfl, rfl⟩) h
set_option maxRecDepth 20000 in
theorem w_L_clothNeededByDifference_0 {F : jFm} (C : jBh F RL cL_clothNeededByDifference 4 (some .int) [(0, 9, 12, 34)] 11 1 6 204) {κ : jKt} {a0 : Nat} (ha0 : jSof F a0 = (1, 10, 11)) {x1 : Int32} {a2 : Nat} (ha2 : jSof F a2 = (2, 3, 1)) {r : Int32 × jKt} (hq : jOut F (some (.int r.1)) r.2) (h : P_L_clothNeededByDifference κ a0 x1 a2 = some r) : jW F 4 0 0 κ 0 [(0, .ref a0), (1, .int x1), (2, .ref a2)] [] := by
  unfold P_L_clothNeededByDifference at h
  refine r_aload_n C.1 2 1 rfl dL_clothNeededByDifference_0 rfl ?_
  refine r_iconst C.1 0 rfl 2 rfl dL_clothNeededByDifference_1 ?_
  refine r_aload_n C.1 0 3 rfl dL_clothNeededByDifference_2 rfl ?_
  refine r_iload_n C.1 1 4 rfl dL_clothNeededByDifference_3 rfl ?_
  rcases bdx_some h with ⟨y14, e13, h⟩ | ⟨E15, e13, h⟩
  rotate_left
  · by_cases c16 : E15 = "java/util/NoSuchElementException"
    · have h := if_some_t c16 h
      subst c16
      refine r_xV C.1 (st := [.int 0, .ref a2]) (x_X6_clothNeededByDifference ha0 e13) yv_X6_clothNeededByDifference ml_L_122 rfl ha0 rfl ⟨Nat.le_of_ble_eq_true rfl, Nat.le_of_ble_eq_true rfl⟩ ⟨Nat.le_of_ble_eq_true rfl, Nat.le_of_ble_eq_true rfl⟩ (Nat.le_of_ble_eq_true rfl) rfl dL_clothNeededByDifference_4 (r_catch C [] [] 0 9 12 34 rfl (fun _ h9 => nomatch h9) (by decide) ⟨Nat.le_of_ble_eq_true rfl, Nat.le_of_ble_eq_true rfl⟩ (by decide) cl_L_34 ct_NoSuchElementException (fun q9 => ?_))
      refine r_astore_n C.1 (lv' := [(0, .ref a0), (1, .int x1), (2, .ref a2), (3, .ref q9)]) [1, 2, 3, 0] 13 rfl dL_clothNeededByDifference_12 (Nat.le_of_ble_eq_true rfl) rfl ?_
      refine r_iconst C.1 1 rfl 14 rfl dL_clothNeededByDifference_13 ?_
      cases h
      exact r_zretH C rfl rfl (Nat.le_of_ble_eq_true rfl) (Nat.le_of_ble_eq_true rfl) dL_clothNeededByDifference_14 hq
    replace h := if_some_f c16 h
    cases h
  refine r_cVi C.1 (st := [.int 0, .ref a2]) (c_X6_clothNeededByDifference ha0 e13) yv_X6_clothNeededByDifference ml_L_122 rfl ha0 rfl ⟨Nat.le_of_ble_eq_true rfl, Nat.le_of_ble_eq_true rfl⟩ ⟨Nat.le_of_ble_eq_true rfl, Nat.le_of_ble_eq_true rfl⟩ (Nat.le_of_ble_eq_true rfl) rfl 1 6 rfl rfl 7 rfl dL_clothNeededByDifference_4 ?_
  refine r_i2l C.1 8 rfl dL_clothNeededByDifference_7 ?_
  obtain ⟨κ17, e18, h⟩ := bnd_some h
  refine r_last C.1 ha2 (by decide) e18 9 rfl dL_clothNeededByDifference_8 ?_
  refine r_goto C.1 15 dL_clothNeededByDifference_9 rfl ?_
  refine r_iconst C.1 0 rfl 16 rfl dL_clothNeededByDifference_15 ?_
  cases h
  exact r_zretH C rfl rfl (Nat.le_of_ble_eq_true rfl) (Nat.le_of_ble_eq_true rfl) dL_clothNeededByDifference_16 hq
theorem c_L_clothNeededByDifference {l : Launch} {G : jG} {sh : jSh} {κ : jKt} {a0 : Nat} (ha0 : sh a0 = (1, 10, 11)) {x1 : Int32} {a2 : Nat} (ha2 : sh a2 = (2, 3, 1)) {r : Int32} {κr : jKt} (h : P_L_clothNeededByDifference κ a0 x1 a2 = some (r, κr)) : jMh l G yL_clothNeededByDifference cL_clothNeededByDifference 4 (some .int) [(0, 9, 12, 34)] 11 1 6 204 [.ref a0, .int x1, .ref a2] (sh, κ) (jIs (some (.int r)) (sh, κr)) jNo :=
  r_bodyH (by decide) (Nat.le_of_ble_eq_true rfl) fun F C hl hG hs ho hx => by
    subst hs
    exact w_L_clothNeededByDifference_0 C ha0 ha2 (by rw [ho]; exact ⟨rfl, rfl⟩) h
set_option maxRecDepth 20000 in
theorem w_L_meanLeg_0 {F : jFm} (C : jBh F RL cL_meanLeg 4 (some .int) [(0, 8, 11, 13)] 11 1 6 203) {κ : jKt} {a0 : Nat} (ha0 : jSof F a0 = (1, 10, 11)) {x1 : Int32} {a2 : Nat} (ha2 : jSof F a2 = (2, 4, 1)) {r : Int32 × jKt} (hq : jOut F (some (.int r.1)) r.2) (h : P_L_meanLeg κ a0 x1 a2 = some r) : jW F 4 0 0 κ 0 [(0, .ref a0), (1, .int x1), (2, .ref a2)] [] := by
  unfold P_L_meanLeg at h
  refine r_aload_n C.1 2 1 rfl dL_meanLeg_0 rfl ?_
  refine r_iconst C.1 0 rfl 2 rfl dL_meanLeg_1 ?_
  refine r_aload_n C.1 0 3 rfl dL_meanLeg_2 rfl ?_
  refine r_iload_n C.1 1 4 rfl dL_meanLeg_3 rfl ?_
  rcases bdx_some h with ⟨y14, e13, h⟩ | ⟨E15, e13, h⟩
  rotate_left
  · by_cases c16 : E15 = "java/lang/IndexOutOfBoundsException"
    · have h := if_some_t c16 h
      subst c16
      refine r_xV C.1 (st := [.int 0, .ref a2]) (x_X6_meanLeg ha0 e13) yv_X6_meanLeg ml_L_125 rfl ha0 rfl ⟨Nat.le_of_ble_eq_true rfl, Nat.le_of_ble_eq_true rfl⟩ ⟨Nat.le_of_ble_eq_true rfl, Nat.le_of_ble_eq_true rfl⟩ (Nat.le_of_ble_eq_true rfl) rfl dL_meanLeg_4 (r_catch C [] [] 0 8 11 13 rfl (fun _ h9 => nomatch h9) (by decide) ⟨Nat.le_of_ble_eq_true rfl, Nat.le_of_ble_eq_true rfl⟩ (by decide) cl_L_13 ct_IndexOutOfBoundsException (fun q9 => ?_))
      refine r_astore_n C.1 (lv' := [(0, .ref a0), (1, .int x1), (2, .ref a2), (3, .ref q9)]) [1, 2, 3, 0] 12 rfl dL_meanLeg_11 (Nat.le_of_ble_eq_true rfl) rfl ?_
      refine r_iconst C.1 1 rfl 13 rfl dL_meanLeg_12 ?_
      cases h
      exact r_zretH C rfl rfl (Nat.le_of_ble_eq_true rfl) (Nat.le_of_ble_eq_true rfl) dL_meanLeg_13 hq
    replace h := if_some_f c16 h
    cases h
  refine r_cVd C.1 (st := [.int 0, .ref a2]) (c_X6_meanLeg ha0 e13) yv_X6_meanLeg ml_L_125 rfl ha0 rfl ⟨Nat.le_of_ble_eq_true rfl, Nat.le_of_ble_eq_true rfl⟩ ⟨Nat.le_of_ble_eq_true rfl, Nat.le_of_ble_eq_true rfl⟩ (Nat.le_of_ble_eq_true rfl) rfl 1 6 rfl rfl 7 rfl dL_meanLeg_4 ?_
  obtain ⟨κ17, e18, h⟩ := bnd_some h
  refine r_dast C.1 ha2 (by decide) e18 8 rfl dL_meanLeg_7 ?_
  refine r_goto C.1 14 dL_meanLeg_8 rfl ?_
  refine r_iconst C.1 0 rfl 15 rfl dL_meanLeg_14 ?_
  cases h
  exact r_zretH C rfl rfl (Nat.le_of_ble_eq_true rfl) (Nat.le_of_ble_eq_true rfl) dL_meanLeg_15 hq
theorem c_L_meanLeg {l : Launch} {G : jG} {sh : jSh} {κ : jKt} {a0 : Nat} (ha0 : sh a0 = (1, 10, 11)) {x1 : Int32} {a2 : Nat} (ha2 : sh a2 = (2, 4, 1)) {r : Int32} {κr : jKt} (h : P_L_meanLeg κ a0 x1 a2 = some (r, κr)) : jMh l G yL_meanLeg cL_meanLeg 4 (some .int) [(0, 8, 11, 13)] 11 1 6 203 [.ref a0, .int x1, .ref a2] (sh, κ) (jIs (some (.int r)) (sh, κr)) jNo :=
  r_bodyH (by decide) (Nat.le_of_ble_eq_true rfl) fun F C hl hG hs ho hx => by
    subst hs
    exact w_L_meanLeg_0 C ha0 ha2 (by rw [ho]; exact ⟨rfl, rfl⟩) h
set_option maxRecDepth 20000 in
theorem w_L_wasteShare_0 {F : jFm} (C : jBh F RL cL_wasteShare 3 (some .int) [(0, 8, 11, 133)] 10 1 6 180) {κ : jKt} {a0 : Nat} (ha0 : jSof F a0 = (1, 10, 11)) {a1 : Nat} (ha1 : jSof F a1 = (2, 4, 1)) {r : Int32 × jKt} (hq : jOut F (some (.int r.1)) r.2) (h : P_L_wasteShare κ a0 a1 = some r) : jW F 3 0 0 κ 0 [(0, .ref a0), (1, .ref a1)] [] := by
  unfold P_L_wasteShare at h
  refine r_aload_n C.1 1 1 rfl dL_wasteShare_0 rfl ?_
  refine r_iconst C.1 0 rfl 2 rfl dL_wasteShare_1 ?_
  refine r_aload_n C.1 0 3 rfl dL_wasteShare_2 rfl ?_
  rcases bdx_some h with ⟨y16, e15, h⟩ | ⟨E17, e15, h⟩
  rotate_left
  · by_cases c18 : E17 = "java/lang/ArithmeticException"
    · have h := if_some_t c18 h
      subst c18
      refine r_xV C.1 (st := [.int 0, .ref a1]) (x_X6_wasteShare ha0 e15) yv_X6_wasteShare ml_L_129 rfl ha0 rfl ⟨Nat.le_of_ble_eq_true rfl, Nat.le_of_ble_eq_true rfl⟩ ⟨Nat.le_of_ble_eq_true rfl, Nat.le_of_ble_eq_true rfl⟩ (Nat.le_of_ble_eq_true rfl) rfl dL_wasteShare_3 (r_catch C [] [] 0 8 11 133 rfl (fun _ h9 => nomatch h9) (by decide) ⟨Nat.le_of_ble_eq_true rfl, Nat.le_of_ble_eq_true rfl⟩ (by decide) cl_L_133 ct_ArithmeticException (fun q9 => ?_))
      refine r_astore_n C.1 (lv' := [(0, .ref a0), (1, .ref a1), (2, .ref q9)]) [1, 2, 0] 12 rfl dL_wasteShare_11 (Nat.le_of_ble_eq_true rfl) rfl ?_
      refine r_iconst C.1 1 rfl 13 rfl dL_wasteShare_12 ?_
      cases h
      exact r_zretH C rfl rfl (Nat.le_of_ble_eq_true rfl) (Nat.le_of_ble_eq_true rfl) dL_wasteShare_13 hq
    replace h := if_some_f c18 h
    cases h
  refine r_cVf C.1 (st := [.int 0, .ref a1]) (c_X6_wasteShare ha0 e15) yv_X6_wasteShare ml_L_129 rfl ha0 rfl ⟨Nat.le_of_ble_eq_true rfl, Nat.le_of_ble_eq_true rfl⟩ ⟨Nat.le_of_ble_eq_true rfl, Nat.le_of_ble_eq_true rfl⟩ (Nat.le_of_ble_eq_true rfl) rfl 1 6 rfl rfl 6 rfl dL_wasteShare_3 ?_
  obtain ⟨z19, h⟩ := ck_some h
  refine r_f2d C.1 7 rfl dL_wasteShare_6 z19 ?_
  obtain ⟨κ20, e21, h⟩ := bnd_some h
  refine r_dast C.1 ha1 (by decide) e21 8 rfl dL_wasteShare_7 ?_
  refine r_goto C.1 14 dL_wasteShare_8 rfl ?_
  refine r_iconst C.1 0 rfl 15 rfl dL_wasteShare_14 ?_
  cases h
  exact r_zretH C rfl rfl (Nat.le_of_ble_eq_true rfl) (Nat.le_of_ble_eq_true rfl) dL_wasteShare_15 hq
theorem c_L_wasteShare {l : Launch} {G : jG} {sh : jSh} {κ : jKt} {a0 : Nat} (ha0 : sh a0 = (1, 10, 11)) {a1 : Nat} (ha1 : sh a1 = (2, 4, 1)) {r : Int32} {κr : jKt} (h : P_L_wasteShare κ a0 a1 = some (r, κr)) : jMh l G yL_wasteShare cL_wasteShare 3 (some .int) [(0, 8, 11, 133)] 10 1 6 180 [.ref a0, .ref a1] (sh, κ) (jIs (some (.int r)) (sh, κr)) jNo :=
  r_bodyH (by decide) (Nat.le_of_ble_eq_true rfl) fun F C hl hG hs ho hx => by
    subst hs
    exact w_L_wasteShare_0 C ha0 ha1 (by rw [ho]; exact ⟨rfl, rfl⟩) h
set_option maxRecDepth 20000 in
theorem w_L_renderSuit_0 {F : jFm} (C : jBh F RL cL_renderSuit 4 (some .int) [(0, 9, 12, 34)] 11 52 7248 366) {κ : jKt} {a0 : Nat} (ha0 : jSof F a0 = (1, 10, 11)) {x1 : Int32} {a2 : Nat} (ha2 : jSof F a2 = (2, 3, 1)) {r : Int32 × jKt} (hq : jOut F (some (.int r.1)) r.2) (h : P_L_renderSuit κ a0 x1 a2 = some r) : jW F 4 0 0 κ 0 [(0, .ref a0), (1, .int x1), (2, .ref a2)] [] := by
  unfold P_L_renderSuit at h
  refine r_aload_n C.1 2 1 rfl dL_renderSuit_0 rfl ?_
  refine r_iconst C.1 0 rfl 2 rfl dL_renderSuit_1 ?_
  refine r_aload_n C.1 0 3 rfl dL_renderSuit_2 rfl ?_
  refine r_iload_n C.1 1 4 rfl dL_renderSuit_3 rfl ?_
  rcases bdx2_some h with ⟨y16, κ18, e15, h⟩ | ⟨E17, κ18, e15, h⟩
  rotate_left
  · by_cases c19 : E17 = "java/util/NoSuchElementException"
    · have h := if_some_t c19 h
      subst c19
      refine r_xV C.1 (st := [.int 0, .ref a2]) (x_X6_renderSuit ha0 e15) yv_X6_renderSuit ml_L_135 rfl ha0 rfl ⟨Nat.le_of_ble_eq_true rfl, Nat.le_of_ble_eq_true rfl⟩ ⟨Nat.le_of_ble_eq_true rfl, Nat.le_of_ble_eq_true rfl⟩ (Nat.le_of_ble_eq_true rfl) rfl dL_renderSuit_4 (r_catch C [] [] 0 9 12 34 rfl (fun _ h9 => nomatch h9) (by decide) ⟨Nat.le_of_ble_eq_true rfl, Nat.le_of_ble_eq_true rfl⟩ (by decide) cl_L_34 ct_NoSuchElementException (fun q9 => ?_))
      refine r_astore_n C.1 (lv' := [(0, .ref a0), (1, .int x1), (2, .ref a2), (3, .ref q9)]) [1, 2, 3, 0] 13 rfl dL_renderSuit_12 (Nat.le_of_ble_eq_true rfl) rfl ?_
      refine r_iconst C.1 1 rfl 14 rfl dL_renderSuit_13 ?_
      cases h
      exact r_zretH C rfl rfl (Nat.le_of_ble_eq_true rfl) (Nat.le_of_ble_eq_true rfl) dL_renderSuit_14 hq
    replace h := if_some_f c19 h
    cases h
  refine r_cVi C.1 (st := [.int 0, .ref a2]) (c_X6_renderSuit ha0 e15) yv_X6_renderSuit ml_L_135 rfl ha0 rfl ⟨Nat.le_of_ble_eq_true rfl, Nat.le_of_ble_eq_true rfl⟩ ⟨Nat.le_of_ble_eq_true rfl, Nat.le_of_ble_eq_true rfl⟩ (Nat.le_of_ble_eq_true rfl) rfl 52 7248 rfl rfl 7 rfl dL_renderSuit_4 ?_
  refine r_i2l C.1 8 rfl dL_renderSuit_7 ?_
  obtain ⟨κ20, e21, h⟩ := bnd_some h
  refine r_last C.1 ha2 (by decide) e21 9 rfl dL_renderSuit_8 ?_
  refine r_goto C.1 15 dL_renderSuit_9 rfl ?_
  refine r_iconst C.1 0 rfl 16 rfl dL_renderSuit_15 ?_
  cases h
  exact r_zretH C rfl rfl (Nat.le_of_ble_eq_true rfl) (Nat.le_of_ble_eq_true rfl) dL_renderSuit_16 hq
theorem c_L_renderSuit {l : Launch} {G : jG} {sh : jSh} {κ : jKt} {a0 : Nat} (ha0 : sh a0 = (1, 10, 11)) {x1 : Int32} {a2 : Nat} (ha2 : sh a2 = (2, 3, 1)) {r : Int32} {κr : jKt} (h : P_L_renderSuit κ a0 x1 a2 = some (r, κr)) : jMh l G yL_renderSuit cL_renderSuit 4 (some .int) [(0, 9, 12, 34)] 11 52 7248 366 [.ref a0, .int x1, .ref a2] (sh, κ) (jIs (some (.int r)) (sh, κr)) jNo :=
  r_bodyH (by decide) (Nat.le_of_ble_eq_true rfl) fun F C hl hG hs ho hx => by
    subst hs
    exact w_L_renderSuit_0 C ha0 ha2 (by rw [ho]; exact ⟨rfl, rfl⟩) h
set_option maxRecDepth 20000 in
theorem w_L_renderOrder_0 {F : jFm} (C : jBh F RL cL_renderOrder 4 (some .int) [(0, 9, 12, 34)] 11 35 4834 344) {κ : jKt} {a0 : Nat} (ha0 : jSof F a0 = (1, 10, 11)) {x1 : Int32} {a2 : Nat} (ha2 : jSof F a2 = (2, 3, 1)) {r : Int32 × jKt} (hq : jOut F (some (.int r.1)) r.2) (h : P_L_renderOrder κ a0 x1 a2 = some r) : jW F 4 0 0 κ 0 [(0, .ref a0), (1, .int x1), (2, .ref a2)] [] := by
  unfold P_L_renderOrder at h
  refine r_aload_n C.1 2 1 rfl dL_renderOrder_0 rfl ?_
  refine r_iconst C.1 0 rfl 2 rfl dL_renderOrder_1 ?_
  refine r_aload_n C.1 0 3 rfl dL_renderOrder_2 rfl ?_
  refine r_iload_n C.1 1 4 rfl dL_renderOrder_3 rfl ?_
  rcases bdx2_some h with ⟨y16, κ18, e15, h⟩ | ⟨E17, κ18, e15, h⟩
  rotate_left
  · by_cases c19 : E17 = "java/util/NoSuchElementException"
    · have h := if_some_t c19 h
      subst c19
      refine r_xV C.1 (st := [.int 0, .ref a2]) (x_X6_renderOrder ha0 e15) yv_X6_renderOrder ml_L_138 rfl ha0 rfl ⟨Nat.le_of_ble_eq_true rfl, Nat.le_of_ble_eq_true rfl⟩ ⟨Nat.le_of_ble_eq_true rfl, Nat.le_of_ble_eq_true rfl⟩ (Nat.le_of_ble_eq_true rfl) rfl dL_renderOrder_4 (r_catch C [] [] 0 9 12 34 rfl (fun _ h9 => nomatch h9) (by decide) ⟨Nat.le_of_ble_eq_true rfl, Nat.le_of_ble_eq_true rfl⟩ (by decide) cl_L_34 ct_NoSuchElementException (fun q9 => ?_))
      refine r_astore_n C.1 (lv' := [(0, .ref a0), (1, .int x1), (2, .ref a2), (3, .ref q9)]) [1, 2, 3, 0] 13 rfl dL_renderOrder_12 (Nat.le_of_ble_eq_true rfl) rfl ?_
      refine r_iconst C.1 1 rfl 14 rfl dL_renderOrder_13 ?_
      cases h
      exact r_zretH C rfl rfl (Nat.le_of_ble_eq_true rfl) (Nat.le_of_ble_eq_true rfl) dL_renderOrder_14 hq
    replace h := if_some_f c19 h
    cases h
  refine r_cVi C.1 (st := [.int 0, .ref a2]) (c_X6_renderOrder ha0 e15) yv_X6_renderOrder ml_L_138 rfl ha0 rfl ⟨Nat.le_of_ble_eq_true rfl, Nat.le_of_ble_eq_true rfl⟩ ⟨Nat.le_of_ble_eq_true rfl, Nat.le_of_ble_eq_true rfl⟩ (Nat.le_of_ble_eq_true rfl) rfl 35 4834 rfl rfl 7 rfl dL_renderOrder_4 ?_
  refine r_i2l C.1 8 rfl dL_renderOrder_7 ?_
  obtain ⟨κ20, e21, h⟩ := bnd_some h
  refine r_last C.1 ha2 (by decide) e21 9 rfl dL_renderOrder_8 ?_
  refine r_goto C.1 15 dL_renderOrder_9 rfl ?_
  refine r_iconst C.1 0 rfl 16 rfl dL_renderOrder_15 ?_
  cases h
  exact r_zretH C rfl rfl (Nat.le_of_ble_eq_true rfl) (Nat.le_of_ble_eq_true rfl) dL_renderOrder_16 hq
theorem c_L_renderOrder {l : Launch} {G : jG} {sh : jSh} {κ : jKt} {a0 : Nat} (ha0 : sh a0 = (1, 10, 11)) {x1 : Int32} {a2 : Nat} (ha2 : sh a2 = (2, 3, 1)) {r : Int32} {κr : jKt} (h : P_L_renderOrder κ a0 x1 a2 = some (r, κr)) : jMh l G yL_renderOrder cL_renderOrder 4 (some .int) [(0, 9, 12, 34)] 11 35 4834 344 [.ref a0, .int x1, .ref a2] (sh, κ) (jIs (some (.int r)) (sh, κr)) jNo :=
  r_bodyH (by decide) (Nat.le_of_ble_eq_true rfl) fun F C hl hG hs ho hx => by
    subst hs
    exact w_L_renderOrder_0 C ha0 ha2 (by rw [ho]; exact ⟨rfl, rfl⟩) h
set_option maxRecDepth 20000 in
theorem w_L_outputAt_0 {F : jFm} (C : jBh F RL cL_outputAt 4 (some .int) [(0, 9, 12, 13)] 10 1 6 342) {κ : jKt} {a0 : Nat} (ha0 : jSof F a0 = (1, 10, 11)) {x1 : Int32} {a2 : Nat} (ha2 : jSof F a2 = (2, 3, 1)) {r : Int32 × jKt} (hq : jOut F (some (.int r.1)) r.2) (h : P_L_outputAt κ a0 x1 a2 = some r) : jW F 4 0 0 κ 0 [(0, .ref a0), (1, .int x1), (2, .ref a2)] [] := by
  unfold P_L_outputAt at h
  refine r_aload_n C.1 2 1 rfl dL_outputAt_0 rfl ?_
  refine r_iconst C.1 0 rfl 2 rfl dL_outputAt_1 ?_
  refine r_aload_n C.1 0 3 rfl dL_outputAt_2 rfl ?_
  refine r_iload_n C.1 1 4 rfl dL_outputAt_3 rfl ?_
  rcases bdx_some h with ⟨y14, e13, h⟩ | ⟨E15, e13, h⟩
  rotate_left
  · by_cases c16 : E15 = "java/lang/IndexOutOfBoundsException"
    · have h := if_some_t c16 h
      subst c16
      refine r_xV C.1 (st := [.int 0, .ref a2]) (x_X6_outputAt ha0 e13) yv_X6_outputAt ml_L_141 rfl ha0 rfl ⟨Nat.le_of_ble_eq_true rfl, Nat.le_of_ble_eq_true rfl⟩ ⟨Nat.le_of_ble_eq_true rfl, Nat.le_of_ble_eq_true rfl⟩ (Nat.le_of_ble_eq_true rfl) rfl dL_outputAt_4 (r_catch C [] [] 0 9 12 13 rfl (fun _ h9 => nomatch h9) (by decide) ⟨Nat.le_of_ble_eq_true rfl, Nat.le_of_ble_eq_true rfl⟩ (by decide) cl_L_13 ct_IndexOutOfBoundsException (fun q9 => ?_))
      refine r_astore_n C.1 (lv' := [(0, .ref a0), (1, .int x1), (2, .ref a2), (3, .ref q9)]) [1, 2, 3, 0] 13 rfl dL_outputAt_12 (Nat.le_of_ble_eq_true rfl) rfl ?_
      refine r_iconst C.1 1 rfl 14 rfl dL_outputAt_13 ?_
      cases h
      exact r_zretH C rfl rfl (Nat.le_of_ble_eq_true rfl) (Nat.le_of_ble_eq_true rfl) dL_outputAt_14 hq
    replace h := if_some_f c16 h
    cases h
  refine r_cVi C.1 (st := [.int 0, .ref a2]) (c_X6_outputAt ha0 e13) yv_X6_outputAt ml_L_141 rfl ha0 rfl ⟨Nat.le_of_ble_eq_true rfl, Nat.le_of_ble_eq_true rfl⟩ ⟨Nat.le_of_ble_eq_true rfl, Nat.le_of_ble_eq_true rfl⟩ (Nat.le_of_ble_eq_true rfl) rfl 1 6 rfl rfl 7 rfl dL_outputAt_4 ?_
  refine r_i2l C.1 8 rfl dL_outputAt_7 ?_
  obtain ⟨κ17, e18, h⟩ := bnd_some h
  refine r_last C.1 ha2 (by decide) e18 9 rfl dL_outputAt_8 ?_
  refine r_goto C.1 15 dL_outputAt_9 rfl ?_
  refine r_iconst C.1 0 rfl 16 rfl dL_outputAt_15 ?_
  cases h
  exact r_zretH C rfl rfl (Nat.le_of_ble_eq_true rfl) (Nat.le_of_ble_eq_true rfl) dL_outputAt_16 hq
theorem c_L_outputAt {l : Launch} {G : jG} {sh : jSh} {κ : jKt} {a0 : Nat} (ha0 : sh a0 = (1, 10, 11)) {x1 : Int32} {a2 : Nat} (ha2 : sh a2 = (2, 3, 1)) {r : Int32} {κr : jKt} (h : P_L_outputAt κ a0 x1 a2 = some (r, κr)) : jMh l G yL_outputAt cL_outputAt 4 (some .int) [(0, 9, 12, 13)] 10 1 6 342 [.ref a0, .int x1, .ref a2] (sh, κ) (jIs (some (.int r)) (sh, κr)) jNo :=
  r_bodyH (by decide) (Nat.le_of_ble_eq_true rfl) fun F C hl hG hs ho hx => by
    subst hs
    exact w_L_outputAt_0 C ha0 ha2 (by rw [ho]; exact ⟨rfl, rfl⟩) h
set_option maxRecDepth 20000 in
theorem w_L_type_0 {F : jFm} (C : jBh F RL cL_type 4 (some .int) [(0, 9, 12, 15), (0, 9, 15, 22)] 10 1 6 181) {κ : jKt} {a0 : Nat} (ha0 : jSof F a0 = (1, 10, 11)) {x1 : Int32} {a2 : Nat} (ha2 : jSof F a2 = (2, 3, 1)) {r : Int32 × jKt} (hq : jOut F (some (.int r.1)) r.2) (h : P_L_type κ a0 x1 a2 = some r) : jW F 4 0 0 κ 0 [(0, .ref a0), (1, .int x1), (2, .ref a2)] [] := by
  unfold P_L_type at h
  refine r_aload_n C.1 2 1 rfl dL_type_0 rfl ?_
  refine r_iconst C.1 0 rfl 2 rfl dL_type_1 ?_
  refine r_aload_n C.1 0 3 rfl dL_type_2 rfl ?_
  refine r_iload_n C.1 1 4 rfl dL_type_3 rfl ?_
  rcases bdx2_some h with ⟨y18, κ20, e17, h⟩ | ⟨E19, κ20, e17, h⟩
  rotate_left
  · by_cases c21 : E19 = "java/lang/IllegalArgumentException"
    · have h := if_some_t c21 h
      subst c21
      refine r_xV C.1 (st := [.int 0, .ref a2]) (x_X6_type ha0 e17) yv_X6_type ml_L_145 rfl ha0 rfl ⟨Nat.le_of_ble_eq_true rfl, Nat.le_of_ble_eq_true rfl⟩ ⟨Nat.le_of_ble_eq_true rfl, Nat.le_of_ble_eq_true rfl⟩ (Nat.le_of_ble_eq_true rfl) rfl dL_type_4 (r_catch C [] [(0, 9, 15, 22)] 0 9 12 15 rfl (fun _ h9 => nomatch h9) (by decide) ⟨Nat.le_of_ble_eq_true rfl, Nat.le_of_ble_eq_true rfl⟩ (by decide) cl_L_15 ct_IllegalArgumentException (fun q9 => ?_))
      refine r_astore_n C.1 (lv' := [(0, .ref a0), (1, .int x1), (2, .ref a2), (3, .ref q9)]) [1, 2, 3, 0] 13 rfl dL_type_12 (Nat.le_of_ble_eq_true rfl) rfl ?_
      refine r_iconst C.1 1 rfl 14 rfl dL_type_13 ?_
      cases h
      exact r_zretH C rfl rfl (Nat.le_of_ble_eq_true rfl) (Nat.le_of_ble_eq_true rfl) dL_type_14 hq
    replace h := if_some_f c21 h
    by_cases c22 : E19 = "java/lang/IllegalStateException"
    · have h := if_some_t c22 h
      subst c22
      refine r_xV C.1 (st := [.int 0, .ref a2]) (x_X6_type ha0 e17) yv_X6_type ml_L_145 rfl ha0 rfl ⟨Nat.le_of_ble_eq_true rfl, Nat.le_of_ble_eq_true rfl⟩ ⟨Nat.le_of_ble_eq_true rfl, Nat.le_of_ble_eq_true rfl⟩ (Nat.le_of_ble_eq_true rfl) rfl dL_type_4 (r_catch C [(0, 9, 12, 15)] [] 0 9 15 22 rfl (fun z9 h9 => by simp only [List.mem_cons, List.mem_nil_iff, or_false] at h9; rcases h9 with rfl <;> first | exact ⟨by decide, "java/lang/IllegalArgumentException", cl_L_15, by decide, by decide⟩) (by decide) ⟨Nat.le_of_ble_eq_true rfl, Nat.le_of_ble_eq_true rfl⟩ (by decide) cl_L_22 ct_IllegalStateException (fun q9 => ?_))
      refine r_astore_n C.1 (lv' := [(0, .ref a0), (1, .int x1), (2, .ref a2), (3, .ref q9)]) [1, 2, 3, 0] 16 rfl dL_type_15 (Nat.le_of_ble_eq_true rfl) rfl ?_
      refine r_iconst C.1 2 rfl 17 rfl dL_type_16 ?_
      cases h
      exact r_zretH C rfl rfl (Nat.le_of_ble_eq_true rfl) (Nat.le_of_ble_eq_true rfl) dL_type_17 hq
    replace h := if_some_f c22 h
    cases h
  refine r_cVi C.1 (st := [.int 0, .ref a2]) (c_X6_type ha0 e17) yv_X6_type ml_L_145 rfl ha0 rfl ⟨Nat.le_of_ble_eq_true rfl, Nat.le_of_ble_eq_true rfl⟩ ⟨Nat.le_of_ble_eq_true rfl, Nat.le_of_ble_eq_true rfl⟩ (Nat.le_of_ble_eq_true rfl) rfl 1 6 rfl rfl 7 rfl dL_type_4 ?_
  refine r_i2l C.1 8 rfl dL_type_7 ?_
  obtain ⟨κ23, e24, h⟩ := bnd_some h
  refine r_last C.1 ha2 (by decide) e24 9 rfl dL_type_8 ?_
  refine r_goto C.1 18 dL_type_9 rfl ?_
  refine r_iconst C.1 0 rfl 19 rfl dL_type_18 ?_
  cases h
  exact r_zretH C rfl rfl (Nat.le_of_ble_eq_true rfl) (Nat.le_of_ble_eq_true rfl) dL_type_19 hq
theorem c_L_type {l : Launch} {G : jG} {sh : jSh} {κ : jKt} {a0 : Nat} (ha0 : sh a0 = (1, 10, 11)) {x1 : Int32} {a2 : Nat} (ha2 : sh a2 = (2, 3, 1)) {r : Int32} {κr : jKt} (h : P_L_type κ a0 x1 a2 = some (r, κr)) : jMh l G yL_type cL_type 4 (some .int) [(0, 9, 12, 15), (0, 9, 15, 22)] 10 1 6 181 [.ref a0, .int x1, .ref a2] (sh, κ) (jIs (some (.int r)) (sh, κr)) jNo :=
  r_bodyH (by decide) (Nat.le_of_ble_eq_true rfl) fun F C hl hG hs ho hx => by
    subst hs
    exact w_L_type_0 C ha0 ha2 (by rw [ho]; exact ⟨rfl, rfl⟩) h
set_option maxRecDepth 20000 in
theorem w_L_runScript_0 {F : jFm} (C : jBh F RL cL_runScript 3 (some .int) [(0, 8, 11, 15), (0, 8, 14, 22)] 10 1 6 182) {κ : jKt} {a0 : Nat} (ha0 : jSof F a0 = (1, 10, 11)) {a1 : Nat} (ha1 : jSof F a1 = (2, 3, 1)) {r : Int32 × jKt} (hq : jOut F (some (.int r.1)) r.2) (h : P_L_runScript κ a0 a1 = some r) : jW F 3 0 0 κ 0 [(0, .ref a0), (1, .ref a1)] [] := by
  unfold P_L_runScript at h
  refine r_aload_n C.1 1 1 rfl dL_runScript_0 rfl ?_
  refine r_iconst C.1 0 rfl 2 rfl dL_runScript_1 ?_
  refine r_aload_n C.1 0 3 rfl dL_runScript_2 rfl ?_
  rcases bdx2_some h with ⟨y18, κ20, e17, h⟩ | ⟨E19, κ20, e17, h⟩
  rotate_left
  · by_cases c21 : E19 = "java/lang/IllegalArgumentException"
    · have h := if_some_t c21 h
      subst c21
      refine r_xV C.1 (st := [.int 0, .ref a1]) (x_X6_runScript ha0 e17) yv_X6_runScript ml_L_149 rfl ha0 rfl ⟨Nat.le_of_ble_eq_true rfl, Nat.le_of_ble_eq_true rfl⟩ ⟨Nat.le_of_ble_eq_true rfl, Nat.le_of_ble_eq_true rfl⟩ (Nat.le_of_ble_eq_true rfl) rfl dL_runScript_3 (r_catch C [] [(0, 8, 14, 22)] 0 8 11 15 rfl (fun _ h9 => nomatch h9) (by decide) ⟨Nat.le_of_ble_eq_true rfl, Nat.le_of_ble_eq_true rfl⟩ (by decide) cl_L_15 ct_IllegalArgumentException (fun q9 => ?_))
      refine r_astore_n C.1 (lv' := [(0, .ref a0), (1, .ref a1), (2, .ref q9)]) [1, 2, 0] 12 rfl dL_runScript_11 (Nat.le_of_ble_eq_true rfl) rfl ?_
      refine r_iconst C.1 1 rfl 13 rfl dL_runScript_12 ?_
      cases h
      exact r_zretH C rfl rfl (Nat.le_of_ble_eq_true rfl) (Nat.le_of_ble_eq_true rfl) dL_runScript_13 hq
    replace h := if_some_f c21 h
    by_cases c22 : E19 = "java/lang/IllegalStateException"
    · have h := if_some_t c22 h
      subst c22
      refine r_xV C.1 (st := [.int 0, .ref a1]) (x_X6_runScript ha0 e17) yv_X6_runScript ml_L_149 rfl ha0 rfl ⟨Nat.le_of_ble_eq_true rfl, Nat.le_of_ble_eq_true rfl⟩ ⟨Nat.le_of_ble_eq_true rfl, Nat.le_of_ble_eq_true rfl⟩ (Nat.le_of_ble_eq_true rfl) rfl dL_runScript_3 (r_catch C [(0, 8, 11, 15)] [] 0 8 14 22 rfl (fun z9 h9 => by simp only [List.mem_cons, List.mem_nil_iff, or_false] at h9; rcases h9 with rfl <;> first | exact ⟨by decide, "java/lang/IllegalArgumentException", cl_L_15, by decide, by decide⟩) (by decide) ⟨Nat.le_of_ble_eq_true rfl, Nat.le_of_ble_eq_true rfl⟩ (by decide) cl_L_22 ct_IllegalStateException (fun q9 => ?_))
      refine r_astore_n C.1 (lv' := [(0, .ref a0), (1, .ref a1), (2, .ref q9)]) [1, 2, 0] 15 rfl dL_runScript_14 (Nat.le_of_ble_eq_true rfl) rfl ?_
      refine r_iconst C.1 2 rfl 16 rfl dL_runScript_15 ?_
      cases h
      exact r_zretH C rfl rfl (Nat.le_of_ble_eq_true rfl) (Nat.le_of_ble_eq_true rfl) dL_runScript_16 hq
    replace h := if_some_f c22 h
    cases h
  refine r_cVi C.1 (st := [.int 0, .ref a1]) (c_X6_runScript ha0 e17) yv_X6_runScript ml_L_149 rfl ha0 rfl ⟨Nat.le_of_ble_eq_true rfl, Nat.le_of_ble_eq_true rfl⟩ ⟨Nat.le_of_ble_eq_true rfl, Nat.le_of_ble_eq_true rfl⟩ (Nat.le_of_ble_eq_true rfl) rfl 1 6 rfl rfl 6 rfl dL_runScript_3 ?_
  refine r_i2l C.1 7 rfl dL_runScript_6 ?_
  obtain ⟨κ23, e24, h⟩ := bnd_some h
  refine r_last C.1 ha1 (by decide) e24 8 rfl dL_runScript_7 ?_
  refine r_goto C.1 17 dL_runScript_8 rfl ?_
  refine r_iconst C.1 0 rfl 18 rfl dL_runScript_17 ?_
  cases h
  exact r_zretH C rfl rfl (Nat.le_of_ble_eq_true rfl) (Nat.le_of_ble_eq_true rfl) dL_runScript_18 hq
theorem c_L_runScript {l : Launch} {G : jG} {sh : jSh} {κ : jKt} {a0 : Nat} (ha0 : sh a0 = (1, 10, 11)) {a1 : Nat} (ha1 : sh a1 = (2, 3, 1)) {r : Int32} {κr : jKt} (h : P_L_runScript κ a0 a1 = some (r, κr)) : jMh l G yL_runScript cL_runScript 3 (some .int) [(0, 8, 11, 15), (0, 8, 14, 22)] 10 1 6 182 [.ref a0, .ref a1] (sh, κ) (jIs (some (.int r)) (sh, κr)) jNo :=
  r_bodyH (by decide) (Nat.le_of_ble_eq_true rfl) fun F C hl hG hs ho hx => by
    subst hs
    exact w_L_runScript_0 C ha0 ha1 (by rw [ho]; exact ⟨rfl, rfl⟩) h
set_option maxRecDepth 20000 in
theorem w_L_errorPosition_0 {F : jFm} (C : jBh F RL cL_errorPosition 3 (some .int) [(0, 8, 11, 34)] 10 1 6 180) {κ : jKt} {a0 : Nat} (ha0 : jSof F a0 = (1, 10, 11)) {a1 : Nat} (ha1 : jSof F a1 = (2, 3, 1)) {r : Int32 × jKt} (hq : jOut F (some (.int r.1)) r.2) (h : P_L_errorPosition κ a0 a1 = some r) : jW F 3 0 0 κ 0 [(0, .ref a0), (1, .ref a1)] [] := by
  unfold P_L_errorPosition at h
  refine r_aload_n C.1 1 1 rfl dL_errorPosition_0 rfl ?_
  refine r_iconst C.1 0 rfl 2 rfl dL_errorPosition_1 ?_
  refine r_aload_n C.1 0 3 rfl dL_errorPosition_2 rfl ?_
  rcases bdx_some h with ⟨y14, e13, h⟩ | ⟨E15, e13, h⟩
  rotate_left
  · by_cases c16 : E15 = "java/util/NoSuchElementException"
    · have h := if_some_t c16 h
      subst c16
      refine r_xV C.1 (st := [.int 0, .ref a1]) (x_X6_errorPosition ha0 e13) yv_X6_errorPosition ml_L_153 rfl ha0 rfl ⟨Nat.le_of_ble_eq_true rfl, Nat.le_of_ble_eq_true rfl⟩ ⟨Nat.le_of_ble_eq_true rfl, Nat.le_of_ble_eq_true rfl⟩ (Nat.le_of_ble_eq_true rfl) rfl dL_errorPosition_3 (r_catch C [] [] 0 8 11 34 rfl (fun _ h9 => nomatch h9) (by decide) ⟨Nat.le_of_ble_eq_true rfl, Nat.le_of_ble_eq_true rfl⟩ (by decide) cl_L_34 ct_NoSuchElementException (fun q9 => ?_))
      refine r_astore_n C.1 (lv' := [(0, .ref a0), (1, .ref a1), (2, .ref q9)]) [1, 2, 0] 12 rfl dL_errorPosition_11 (Nat.le_of_ble_eq_true rfl) rfl ?_
      refine r_iconst C.1 1 rfl 13 rfl dL_errorPosition_12 ?_
      cases h
      exact r_zretH C rfl rfl (Nat.le_of_ble_eq_true rfl) (Nat.le_of_ble_eq_true rfl) dL_errorPosition_13 hq
    replace h := if_some_f c16 h
    cases h
  refine r_cVi C.1 (st := [.int 0, .ref a1]) (c_X6_errorPosition ha0 e13) yv_X6_errorPosition ml_L_153 rfl ha0 rfl ⟨Nat.le_of_ble_eq_true rfl, Nat.le_of_ble_eq_true rfl⟩ ⟨Nat.le_of_ble_eq_true rfl, Nat.le_of_ble_eq_true rfl⟩ (Nat.le_of_ble_eq_true rfl) rfl 1 6 rfl rfl 6 rfl dL_errorPosition_3 ?_
  refine r_i2l C.1 7 rfl dL_errorPosition_6 ?_
  obtain ⟨κ17, e18, h⟩ := bnd_some h
  refine r_last C.1 ha1 (by decide) e18 8 rfl dL_errorPosition_7 ?_
  refine r_goto C.1 14 dL_errorPosition_8 rfl ?_
  refine r_iconst C.1 0 rfl 15 rfl dL_errorPosition_14 ?_
  cases h
  exact r_zretH C rfl rfl (Nat.le_of_ble_eq_true rfl) (Nat.le_of_ble_eq_true rfl) dL_errorPosition_15 hq
theorem c_L_errorPosition {l : Launch} {G : jG} {sh : jSh} {κ : jKt} {a0 : Nat} (ha0 : sh a0 = (1, 10, 11)) {a1 : Nat} (ha1 : sh a1 = (2, 3, 1)) {r : Int32} {κr : jKt} (h : P_L_errorPosition κ a0 a1 = some (r, κr)) : jMh l G yL_errorPosition cL_errorPosition 3 (some .int) [(0, 8, 11, 34)] 10 1 6 180 [.ref a0, .ref a1] (sh, κ) (jIs (some (.int r)) (sh, κr)) jNo :=
  r_bodyH (by decide) (Nat.le_of_ble_eq_true rfl) fun F C hl hG hs ho hx => by
    subst hs
    exact w_L_errorPosition_0 C ha0 ha1 (by rw [ho]; exact ⟨rfl, rfl⟩) h
set_option maxRecDepth 20000 in
theorem w_L_failedCommand_0 {F : jFm} (C : jBh F RL cL_failedCommand 3 (some .int) [(0, 8, 11, 34)] 10 1 6 180) {κ : jKt} {a0 : Nat} (ha0 : jSof F a0 = (1, 10, 11)) {a1 : Nat} (ha1 : jSof F a1 = (2, 3, 1)) {r : Int32 × jKt} (hq : jOut F (some (.int r.1)) r.2) (h : P_L_failedCommand κ a0 a1 = some r) : jW F 3 0 0 κ 0 [(0, .ref a0), (1, .ref a1)] [] := by
  unfold P_L_failedCommand at h
  refine r_aload_n C.1 1 1 rfl dL_failedCommand_0 rfl ?_
  refine r_iconst C.1 0 rfl 2 rfl dL_failedCommand_1 ?_
  refine r_aload_n C.1 0 3 rfl dL_failedCommand_2 rfl ?_
  rcases bdx_some h with ⟨y14, e13, h⟩ | ⟨E15, e13, h⟩
  rotate_left
  · by_cases c16 : E15 = "java/util/NoSuchElementException"
    · have h := if_some_t c16 h
      subst c16
      refine r_xV C.1 (st := [.int 0, .ref a1]) (x_X6_failedCommand ha0 e13) yv_X6_failedCommand ml_L_156 rfl ha0 rfl ⟨Nat.le_of_ble_eq_true rfl, Nat.le_of_ble_eq_true rfl⟩ ⟨Nat.le_of_ble_eq_true rfl, Nat.le_of_ble_eq_true rfl⟩ (Nat.le_of_ble_eq_true rfl) rfl dL_failedCommand_3 (r_catch C [] [] 0 8 11 34 rfl (fun _ h9 => nomatch h9) (by decide) ⟨Nat.le_of_ble_eq_true rfl, Nat.le_of_ble_eq_true rfl⟩ (by decide) cl_L_34 ct_NoSuchElementException (fun q9 => ?_))
      refine r_astore_n C.1 (lv' := [(0, .ref a0), (1, .ref a1), (2, .ref q9)]) [1, 2, 0] 12 rfl dL_failedCommand_11 (Nat.le_of_ble_eq_true rfl) rfl ?_
      refine r_iconst C.1 1 rfl 13 rfl dL_failedCommand_12 ?_
      cases h
      exact r_zretH C rfl rfl (Nat.le_of_ble_eq_true rfl) (Nat.le_of_ble_eq_true rfl) dL_failedCommand_13 hq
    replace h := if_some_f c16 h
    cases h
  refine r_cVi C.1 (st := [.int 0, .ref a1]) (c_X6_failedCommand ha0 e13) yv_X6_failedCommand ml_L_156 rfl ha0 rfl ⟨Nat.le_of_ble_eq_true rfl, Nat.le_of_ble_eq_true rfl⟩ ⟨Nat.le_of_ble_eq_true rfl, Nat.le_of_ble_eq_true rfl⟩ (Nat.le_of_ble_eq_true rfl) rfl 1 6 rfl rfl 6 rfl dL_failedCommand_3 ?_
  refine r_i2l C.1 7 rfl dL_failedCommand_6 ?_
  obtain ⟨κ17, e18, h⟩ := bnd_some h
  refine r_last C.1 ha1 (by decide) e18 8 rfl dL_failedCommand_7 ?_
  refine r_goto C.1 14 dL_failedCommand_8 rfl ?_
  refine r_iconst C.1 0 rfl 15 rfl dL_failedCommand_14 ?_
  cases h
  exact r_zretH C rfl rfl (Nat.le_of_ble_eq_true rfl) (Nat.le_of_ble_eq_true rfl) dL_failedCommand_15 hq
theorem c_L_failedCommand {l : Launch} {G : jG} {sh : jSh} {κ : jKt} {a0 : Nat} (ha0 : sh a0 = (1, 10, 11)) {a1 : Nat} (ha1 : sh a1 = (2, 3, 1)) {r : Int32} {κr : jKt} (h : P_L_failedCommand κ a0 a1 = some (r, κr)) : jMh l G yL_failedCommand cL_failedCommand 3 (some .int) [(0, 8, 11, 34)] 10 1 6 180 [.ref a0, .ref a1] (sh, κ) (jIs (some (.int r)) (sh, κr)) jNo :=
  r_bodyH (by decide) (Nat.le_of_ble_eq_true rfl) fun F C hl hG hs ho hx => by
    subst hs
    exact w_L_failedCommand_0 C ha0 ha1 (by rw [ho]; exact ⟨rfl, rfl⟩) h
set_option maxRecDepth 20000 in
theorem w_L_undo_0 {F : jFm} (C : jBh F RL cL_undo 3 (some .int) [(0, 8, 11, 34)] 10 1 6 181) {κ : jKt} {a0 : Nat} (ha0 : jSof F a0 = (1, 10, 11)) {a1 : Nat} (ha1 : jSof F a1 = (2, 3, 1)) {r : Int32 × jKt} (hq : jOut F (some (.int r.1)) r.2) (h : P_L_undo κ a0 a1 = some r) : jW F 3 0 0 κ 0 [(0, .ref a0), (1, .ref a1)] [] := by
  unfold P_L_undo at h
  refine r_aload_n C.1 1 1 rfl dL_undo_0 rfl ?_
  refine r_iconst C.1 0 rfl 2 rfl dL_undo_1 ?_
  refine r_aload_n C.1 0 3 rfl dL_undo_2 rfl ?_
  rcases bdx2_some h with ⟨y16, κ18, e15, h⟩ | ⟨E17, κ18, e15, h⟩
  rotate_left
  · by_cases c19 : E17 = "java/util/NoSuchElementException"
    · have h := if_some_t c19 h
      subst c19
      refine r_xV C.1 (st := [.int 0, .ref a1]) (x_X6_undo ha0 e15) yv_X6_undo ml_L_159 rfl ha0 rfl ⟨Nat.le_of_ble_eq_true rfl, Nat.le_of_ble_eq_true rfl⟩ ⟨Nat.le_of_ble_eq_true rfl, Nat.le_of_ble_eq_true rfl⟩ (Nat.le_of_ble_eq_true rfl) rfl dL_undo_3 (r_catch C [] [] 0 8 11 34 rfl (fun _ h9 => nomatch h9) (by decide) ⟨Nat.le_of_ble_eq_true rfl, Nat.le_of_ble_eq_true rfl⟩ (by decide) cl_L_34 ct_NoSuchElementException (fun q9 => ?_))
      refine r_astore_n C.1 (lv' := [(0, .ref a0), (1, .ref a1), (2, .ref q9)]) [1, 2, 0] 12 rfl dL_undo_11 (Nat.le_of_ble_eq_true rfl) rfl ?_
      refine r_iconst C.1 1 rfl 13 rfl dL_undo_12 ?_
      cases h
      exact r_zretH C rfl rfl (Nat.le_of_ble_eq_true rfl) (Nat.le_of_ble_eq_true rfl) dL_undo_13 hq
    replace h := if_some_f c19 h
    cases h
  refine r_cVi C.1 (st := [.int 0, .ref a1]) (c_X6_undo ha0 e15) yv_X6_undo ml_L_159 rfl ha0 rfl ⟨Nat.le_of_ble_eq_true rfl, Nat.le_of_ble_eq_true rfl⟩ ⟨Nat.le_of_ble_eq_true rfl, Nat.le_of_ble_eq_true rfl⟩ (Nat.le_of_ble_eq_true rfl) rfl 1 6 rfl rfl 6 rfl dL_undo_3 ?_
  refine r_i2l C.1 7 rfl dL_undo_6 ?_
  obtain ⟨κ20, e21, h⟩ := bnd_some h
  refine r_last C.1 ha1 (by decide) e21 8 rfl dL_undo_7 ?_
  refine r_goto C.1 14 dL_undo_8 rfl ?_
  refine r_iconst C.1 0 rfl 15 rfl dL_undo_14 ?_
  cases h
  exact r_zretH C rfl rfl (Nat.le_of_ble_eq_true rfl) (Nat.le_of_ble_eq_true rfl) dL_undo_15 hq
theorem c_L_undo {l : Launch} {G : jG} {sh : jSh} {κ : jKt} {a0 : Nat} (ha0 : sh a0 = (1, 10, 11)) {a1 : Nat} (ha1 : sh a1 = (2, 3, 1)) {r : Int32} {κr : jKt} (h : P_L_undo κ a0 a1 = some (r, κr)) : jMh l G yL_undo cL_undo 3 (some .int) [(0, 8, 11, 34)] 10 1 6 181 [.ref a0, .ref a1] (sh, κ) (jIs (some (.int r)) (sh, κr)) jNo :=
  r_bodyH (by decide) (Nat.le_of_ble_eq_true rfl) fun F C hl hG hs ho hx => by
    subst hs
    exact w_L_undo_0 C ha0 ha1 (by rw [ho]; exact ⟨rfl, rfl⟩) h
set_option maxRecDepth 20000 in
theorem w_L_restore_0 {F : jFm} (C : jBh F RL cL_restore 3 (some .int) [(0, 8, 11, 22)] 10 1 6 180) {κ : jKt} {a0 : Nat} (ha0 : jSof F a0 = (1, 10, 11)) {a1 : Nat} (ha1 : jSof F a1 = (2, 3, 1)) {r : Int32 × jKt} (hq : jOut F (some (.int r.1)) r.2) (h : P_L_restore κ a0 a1 = some r) : jW F 3 0 0 κ 0 [(0, .ref a0), (1, .ref a1)] [] := by
  unfold P_L_restore at h
  refine r_aload_n C.1 1 1 rfl dL_restore_0 rfl ?_
  refine r_iconst C.1 0 rfl 2 rfl dL_restore_1 ?_
  refine r_aload_n C.1 0 3 rfl dL_restore_2 rfl ?_
  rcases bdx2_some h with ⟨y16, κ18, e15, h⟩ | ⟨E17, κ18, e15, h⟩
  rotate_left
  · by_cases c19 : E17 = "java/lang/IllegalStateException"
    · have h := if_some_t c19 h
      subst c19
      refine r_xV C.1 (st := [.int 0, .ref a1]) (x_X6_restore ha0 e15) yv_X6_restore ml_L_162 rfl ha0 rfl ⟨Nat.le_of_ble_eq_true rfl, Nat.le_of_ble_eq_true rfl⟩ ⟨Nat.le_of_ble_eq_true rfl, Nat.le_of_ble_eq_true rfl⟩ (Nat.le_of_ble_eq_true rfl) rfl dL_restore_3 (r_catch C [] [] 0 8 11 22 rfl (fun _ h9 => nomatch h9) (by decide) ⟨Nat.le_of_ble_eq_true rfl, Nat.le_of_ble_eq_true rfl⟩ (by decide) cl_L_22 ct_IllegalStateException (fun q9 => ?_))
      refine r_astore_n C.1 (lv' := [(0, .ref a0), (1, .ref a1), (2, .ref q9)]) [1, 2, 0] 12 rfl dL_restore_11 (Nat.le_of_ble_eq_true rfl) rfl ?_
      refine r_iconst C.1 1 rfl 13 rfl dL_restore_12 ?_
      cases h
      exact r_zretH C rfl rfl (Nat.le_of_ble_eq_true rfl) (Nat.le_of_ble_eq_true rfl) dL_restore_13 hq
    replace h := if_some_f c19 h
    cases h
  refine r_cVi C.1 (st := [.int 0, .ref a1]) (c_X6_restore ha0 e15) yv_X6_restore ml_L_162 rfl ha0 rfl ⟨Nat.le_of_ble_eq_true rfl, Nat.le_of_ble_eq_true rfl⟩ ⟨Nat.le_of_ble_eq_true rfl, Nat.le_of_ble_eq_true rfl⟩ (Nat.le_of_ble_eq_true rfl) rfl 1 6 rfl rfl 6 rfl dL_restore_3 ?_
  refine r_i2l C.1 7 rfl dL_restore_6 ?_
  obtain ⟨κ20, e21, h⟩ := bnd_some h
  refine r_last C.1 ha1 (by decide) e21 8 rfl dL_restore_7 ?_
  refine r_goto C.1 14 dL_restore_8 rfl ?_
  refine r_iconst C.1 0 rfl 15 rfl dL_restore_14 ?_
  cases h
  exact r_zretH C rfl rfl (Nat.le_of_ble_eq_true rfl) (Nat.le_of_ble_eq_true rfl) dL_restore_15 hq
theorem c_L_restore {l : Launch} {G : jG} {sh : jSh} {κ : jKt} {a0 : Nat} (ha0 : sh a0 = (1, 10, 11)) {a1 : Nat} (ha1 : sh a1 = (2, 3, 1)) {r : Int32} {κr : jKt} (h : P_L_restore κ a0 a1 = some (r, κr)) : jMh l G yL_restore cL_restore 3 (some .int) [(0, 8, 11, 22)] 10 1 6 180 [.ref a0, .ref a1] (sh, κ) (jIs (some (.int r)) (sh, κr)) jNo :=
  r_bodyH (by decide) (Nat.le_of_ble_eq_true rfl) fun F C hl hG hs ho hx => by
    subst hs
    exact w_L_restore_0 C ha0 ha1 (by rw [ho]; exact ⟨rfl, rfl⟩) h
