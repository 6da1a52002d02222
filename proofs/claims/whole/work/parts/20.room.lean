/-! pure methods and walks: ['TailorWorkshop$Workroom'] -/
def P_X5_takeOver_63 (a0 : Nat) (a1 : Nat) : Nat → jKt → Int32 → Option (jKt)
  | 0, _, _ => none
  | n + 1, κ, v2 =>
    if (kI κ a0 4) ≤ v2 then
  bnd (kU κ a0 5 (.int (kI κ a1 5))) fun κ78 =>
  bnd (kU κ78 a0 6 (.int (kI κ78 a1 6))) fun κ80 =>
  bnd (kU κ80 a0 7 (.int (kI κ80 a1 7))) fun κ82 =>
  bnd (kU κ82 a0 8 (.int (kI κ82 a1 8))) fun κ84 =>
  bnd (kU κ84 a0 9 (.int (kI κ84 a1 9))) fun κ86 =>
  bnd (kU κ86 a0 10 (.int (kI κ86 a1 10))) fun κ88 =>
  some κ88
  else
  ck (jin v2 6) <|
  ck (jin v2 6) <|
  bd (P_X4_takeOver κ (kR κ (kR κ a0 3) (ix v2)) (kR κ (kR κ a1 3) (ix v2))) fun κ97 =>
  P_X5_takeOver_63 a0 a1 n κ97 (v2 + 1)
def P_X5_takeOver_24 (a0 : Nat) (a1 : Nat) : Nat → jKt → Int32 → Option (jKt)
  | 0, _, _ => none
  | n + 1, κ, v2 =>
    if (kI κ a0 2) ≤ v2 then
  bnd (kU κ a0 4 (.int (kI κ a1 4))) fun κ99 =>
  P_X5_takeOver_63 a0 a1 4000 κ99 0
  else
  ck (jin v2 5) <|
  ck (jin v2 5) <|
  bd (P_X0_takeOver κ (kR κ (kR κ a0 1) (ix v2)) (kR κ (kR κ a1 1) (ix v2))) fun κ108 =>
  P_X5_takeOver_24 a0 a1 n κ108 (v2 + 1)
def P_X5_takeOver (κ : jKt) (a0 : Nat) (a1 : Nat) : Option (jKt) :=
  bnd (kCp κ (kR κ a1 0) (kR κ a0 0) 4) fun κ111 =>
  bnd (kU κ111 a0 2 (.int (kI κ111 a1 2))) fun κ113 =>
  P_X5_takeOver_24 a0 a1 4000 κ113 0
def P_X5_hasCloth (κ : jKt) (a0 : Nat) (x1 : Int32) : Option (Int32) :=
  if x1 < 0 then
  some 0
  else
  if 4 ≤ x1 then
  some 0
  else
  some 1
def P_X5_hasCustomer (κ : jKt) (a0 : Nat) (x1 : Int32) : Option (Int32) :=
  if x1 < 0 then
  some 0
  else
  if (kI κ a0 2) ≤ x1 then
  some 0
  else
  some 1
def P_X5_suitWithId_2 (κ : jKt) (a0 : Nat) (v1 : Int32) : Nat → Int32 → Option (Option Nat)
  | 0, _ => none
  | n + 1, v2 =>
    if (kI κ a0 4) ≤ v2 then
  some none
  else
  ck (jin v2 6) <|
  if (kI κ (kR κ (kR κ a0 3) (ix v2)) 0) = v1 then
  ck (jin v2 6) <|
  some (some (kR κ (kR κ a0 3) (ix v2)))
  else
  P_X5_suitWithId_2 κ a0 v1 n (v2 + 1)
def P_X5_suitWithId (κ : jKt) (a0 : Nat) (x1 : Int32) : Option (Option Nat) :=
  P_X5_suitWithId_2 κ a0 x1 4000 0
def P_X5_wearerOf (κ : jKt) (a0 : Nat) (a1 : Nat) : Option (Nat) :=
  ck (jin (kI κ a1 1) 5) <|
  some (kR κ (kR κ a0 1) (ix (kI κ a1 1)))
def P_X5_rankOf_15 (κ : jKt) (a0 : Nat) (v1 : Int32) (v2 : Int32) : Nat → Int32 → Int32 → Option (Int32)
  | 0, _, _ => none
  | n + 1, v3, v4 =>
    if (kI κ a0 2) ≤ v4 then
  some v3
  else
  ck (jin v4 5) <|
  bd (P_X0_legSum κ (kR κ (kR κ a0 1) (ix v4))) fun y34 =>
  if v2 < y34 then
  P_X5_rankOf_15 κ a0 v1 v2 n (v3 + 1) (v4 + 1)
  else
  if y34 = v2 then
  if v1 ≤ v4 then
  P_X5_rankOf_15 κ a0 v1 v2 n v3 (v4 + 1)
  else
  P_X5_rankOf_15 κ a0 v1 v2 n (v3 + 1) (v4 + 1)
  else
  P_X5_rankOf_15 κ a0 v1 v2 n v3 (v4 + 1)
def P_X5_rankOf (κ : jKt) (a0 : Nat) (x1 : Int32) : Option (Int32) :=
  ck (jin x1 5) <|
  bd (P_X0_legSum κ (kR κ (kR κ a0 1) (ix x1))) fun y42 =>
  P_X5_rankOf_15 κ a0 x1 y42 4000 0 0
def P_X5_accountsForCloth_34 (κ : jKt) (a0 : Nat) : Nat → Int32 → Int32 → Option (Int32)
  | 0, _, _ => none
  | n + 1, v1, v2 =>
    if (kI κ a0 4) ≤ v2 then
  if v1 = (kI κ a0 6) then
  some 1
  else
  some 0
  else
  ck (jin v2 6) <|
  bd (P_X4_clothInside κ (kR κ (kR κ a0 3) (ix v2))) fun y35 =>
  P_X5_accountsForCloth_34 κ a0 n (v1 + y35) (v2 + 1)
def P_X5_accountsForCloth_12 (κ : jKt) (a0 : Nat) : Nat → Int32 → Int32 → Option (Int32)
  | 0, _, _ => none
  | n + 1, v1, v2 =>
    if 4 ≤ v2 then
  P_X5_accountsForCloth_34 κ a0 4000 v1 0
  else
  ck (jin v2 4) <|
  bnd (v1 + (kI κ (kR κ a0 0) (ix v2))) fun y39 =>
  P_X5_accountsForCloth_12 κ a0 n y39 (v2 + 1)
def P_X5_accountsForCloth (κ : jKt) (a0 : Nat) : Option (Int32) :=
  bnd ((kI κ a0 8) + (kI κ a0 7)) fun y41 =>
  P_X5_accountsForCloth_12 κ a0 4000 y41 0
def P_X5_storeCloth (κ : jKt) (a0 : Nat) (x1 : Int32) (x2 : Int32) : Option (Int32 × jKt) :=
  bd (P_X5_hasCloth κ a0 x1) fun y36 =>
  if y36 = 0 then
  some ((-2), κ)
  else
  if x2 < 1 then
  some ((-3), κ)
  else
  if x2 ≤ 999 then
  ck (jin x1 4) <|
  if ((kI κ (kR κ a0 0) (ix x1)) + x2) ≤ 2000 then
  ck (jin x1 4) <|
  ck (jin x1 4) <|
  bnd (kU κ (kR κ a0 0) (ix x1) (.int ((kI κ (kR κ a0 0) (ix x1)) + x2))) fun κ46 =>
  bnd (kU κ46 a0 6 (.int ((kI κ46 a0 6) + x2))) fun κ48 =>
  ck (jin x1 4) <|
  some (kI κ48 (kR κ48 a0 0) (ix x1), κ48)
  else
  some ((-5), κ)
  else
  some ((-3), κ)
def P_X5_isLegLength (κ : jKt) (x0 : Int32) : Option (Int32) :=
  if x0 < 10 then
  some 0
  else
  if 60 < x0 then
  some 0
  else
  some 1
def P_X5_measure (κ : jKt) (a0 : Nat) (x1 : Int32) (x2 : Int32) (x3 : Int32) : Option (Int32 × jKt) :=
  bd (P_X5_hasCustomer κ a0 x1) fun y54 =>
  if y54 = 0 then
  some ((-2), κ)
  else
  ck (jin x1 5) <|
  bd (P_X0_hasLeg κ (kR κ (kR κ a0 1) (ix x1)) x2) fun y60 =>
  if y60 = 0 then
  some ((-2), κ)
  else
  bd (P_X5_isLegLength κ x3) fun y63 =>
  if y63 = 0 then
  some ((-3), κ)
  else
  ck (jin x1 5) <|
  ck (jin x2 16) <|
  bnd (kI κ (kR κ (kR κ (kR κ a0 1) (ix x1)) 1) (ix x2)) fun y70 =>
  ck (jin x1 5) <|
  ck (jin x2 16) <|
  bnd (kU κ (kR κ (kR κ (kR κ a0 1) (ix x1)) 1) (ix x2) (.int x3)) fun κ77 =>
  some (y70, κ77)
def P_X5_beginSuit (κ : jKt) (a0 : Nat) (x1 : Int32) (x2 : Int32) : Option (Int32 × jKt) :=
  bd (P_X5_hasCustomer κ a0 x1) fun y40 =>
  if y40 = 0 then
  some ((-2), κ)
  else
  bd (P_X5_hasCloth κ a0 x2) fun y43 =>
  if y43 = 0 then
  some ((-2), κ)
  else
  if (kI κ a0 4) = 6 then
  some ((-4), κ)
  else
  ck (jin (kI κ a0 4) 6) <|
  ck (jin x1 5) <|
  bd (P_X4_begin κ (kR κ (kR κ a0 3) (ix (kI κ a0 4))) (kI κ a0 5) x1 x2 (kI κ (kR κ (kR κ a0 1) (ix x1)) 0)) fun κ53 =>
  bnd (kU κ53 a0 4 (.int ((kI κ53 a0 4) + 1))) fun κ54 =>
  bnd (kU κ54 a0 5 (.int ((kI κ54 a0 5) + 1))) fun κ56 =>
  some ((kI κ56 a0 5) - 1, κ56)
def P_X5_cutSleeve (κ : jKt) (a0 : Nat) (x1 : Int32) (x2 : Int32) : Option (Int32 × jKt) :=
  bdo (P_X5_suitWithId κ a0 x1)
  (some ((-1), κ))
  fun b74 =>
  bd (P_X4_hasSleeve κ b74 x2) fun y77 =>
  if y77 = 0 then
  some ((-2), κ)
  else
  bd (P_X4_isPlanned κ b74 x2) fun y80 =>
  if y80 = 0 then
  some ((-4), κ)
  else
  bd (P_X5_wearerOf κ a0 b74) fun b83 =>
  ck (jin x2 16) <|
  bnd (kI κ (kR κ b83 1) (ix x2)) fun y87 =>
  ck (jin (kI κ b74 2) 4) <|
  if (y87 + 2) ≤ (kI κ (kR κ a0 0) (ix (kI κ b74 2))) then
  ck (jin x2 16) <|
  bnd (kU κ (kR κ b74 5) (ix x2) (.int 99)) fun κ94 =>
  ck (jin x2 16) <|
  bnd (kU κ94 (kR κ94 b74 6) (ix x2) (.int y87)) fun κ98 =>
  bnd (kI κ98 b74 2) fun y101 =>
  ck (jin y101 4) <|
  ck (jin y101 4) <|
  bnd (kU κ98 (kR κ98 a0 0) (ix y101) (.int ((kI κ98 (kR κ98 a0 0) (ix y101)) - (y87 + 2)))) fun κ105 =>
  ck (jin (kI κ105 b74 2) 4) <|
  some (kI κ105 (kR κ105 a0 0) (ix (kI κ105 b74 2)), κ105)
  else
  some ((-5), κ)
def P_X5_sewSleeve (κ : jKt) (a0 : Nat) (x1 : Int32) (x2 : Int32) : Option (Int32 × jKt) :=
  bdo (P_X5_suitWithId κ a0 x1)
  (some ((-1), κ))
  fun b42 =>
  bd (P_X4_hasSleeve κ b42 x2) fun y45 =>
  if y45 = 0 then
  some ((-2), κ)
  else
  ck (jin x2 16) <|
  if (kI κ (kR κ b42 5) (ix x2)) = 99 then
  bd (P_X4_sewnSet κ b42) fun y51 =>
  bd (P_X4_isHeldBack κ b42 x2 y51) fun y53 =>
  if y53 = 0 then
  ck (jin x2 16) <|
  bnd (kU κ (kR κ b42 5) (ix x2) (.int 115)) fun κ57 =>
  bd (P_X4_sewnCount κ57 b42) fun y60 =>
  some (y60, κ57)
  else
  some ((-5), κ)
  else
  some ((-4), κ)
def P_X5_removeSuit_2 (a0 : Nat) (v1 : Int32) : Nat → jKt → Int32 → Option (jKt)
  | 0, _, _ => none
  | n + 1, κ, v2 =>
    if (kI κ a0 4) ≤ (v2 + 1) then
  bnd (kU κ a0 4 (.int ((kI κ a0 4) - 1))) fun κ44 =>
  some κ44
  else
  ck (jin v2 6) <|
  if (kI κ (kR κ (kR κ a0 3) (ix v2)) 0) = v1 then
  ck (jin v2 6) <|
  ck (jin (v2 + 1) 6) <|
  ck (jin v2 6) <|
  bnd (kU κ (kR κ a0 3) (ix v2) (.ref (kR κ (kR κ a0 3) (ix (v2 + 1))))) fun κ58 =>
  ck (jin (v2 + 1) 6) <|
  bnd (kU κ58 (kR κ58 a0 3) (ix (v2 + 1)) (.ref (kR κ (kR κ a0 3) (ix v2)))) fun κ62 =>
  P_X5_removeSuit_2 a0 v1 n κ62 (v2 + 1)
  else
  P_X5_removeSuit_2 a0 v1 n κ (v2 + 1)
def P_X5_removeSuit (κ : jKt) (a0 : Nat) (x1 : Int32) : Option (jKt) :=
  P_X5_removeSuit_2 a0 x1 4000 κ 0
def P_X5_customerAtRank_2 (κ : jKt) (a0 : Nat) (v1 : Int32) : Nat → Int32 → Option (Int32)
  | 0, _ => none
  | n + 1, v2 =>
    if (kI κ a0 2) ≤ v2 then
  some (-1)
  else
  bd (P_X5_rankOf κ a0 v2) fun y11 =>
  if y11 = v1 then
  some v2
  else
  P_X5_customerAtRank_2 κ a0 v1 n (v2 + 1)
def P_X5_customerAtRank (κ : jKt) (a0 : Nat) (x1 : Int32) : Option (Int32) :=
  P_X5_customerAtRank_2 κ a0 x1 4000 0
def P_X5_welcome (κ : jKt) (a0 : Nat) (x1 : Int32) (x2 : Int32) : Option (Int32 × jKt) :=
  if x1 < 1 then
  some ((-3), κ)
  else
  if 8 < x1 then
  some ((-3), κ)
  else
  bd (P_X5_isLegLength κ x2) fun y30 =>
  if y30 = 0 then
  some ((-3), κ)
  else
  if (kI κ a0 2) = 5 then
  some ((-4), κ)
  else
  ck (jin (kI κ a0 2) 5) <|
  bd (P_X0_begin κ (kR κ (kR κ a0 1) (ix (kI κ a0 2))) x1 x2) fun κ37 =>
  bnd (kU κ37 a0 2 (.int ((kI κ37 a0 2) + 1))) fun κ38 =>
  some ((kI κ38 a0 2) - 1, κ38)
def P_X5_unpickSleeve (κ : jKt) (a0 : Nat) (x1 : Int32) (x2 : Int32) : Option (Int32 × jKt) :=
  bdo (P_X5_suitWithId κ a0 x1)
  (some ((-1), κ))
  fun b46 =>
  bd (P_X4_hasSleeve κ b46 x2) fun y49 =>
  if y49 = 0 then
  some ((-2), κ)
  else
  bd (P_X4_isPlanned κ b46 x2) fun y52 =>
  if y52 = 0 then
  bd (P_X4_isNeededBySewn κ b46 x2) fun y55 =>
  if y55 = 0 then
  ck (jin x2 16) <|
  bnd ((kI κ (kR κ b46 6) (ix x2)) + 2) fun y59 =>
  ck (jin x2 16) <|
  bnd (kU κ (kR κ b46 5) (ix x2) (.int 112)) fun κ63 =>
  bnd (kU κ63 a0 7 (.int ((kI κ63 a0 7) + y59))) fun κ65 =>
  some (y59, κ65)
  else
  some ((-5), κ)
  else
  some ((-4), κ)
def P_X5_addDemand_84 (κ : jKt) (v2 : Int32) (v3 : Int32) (a4 : Nat) : Option (Int32 × jKt) :=
  bd (P_X4_comesBefore κ a4 v3 v2) fun y54 =>
  if y54 = 0 then
  bd2 (P_X4_addPair κ a4 v2 v3) fun y57 κ58 =>
  some (y57, κ58)
  else
  some ((-5), κ)
def P_X5_addDemand (κ : jKt) (a0 : Nat) (x1 : Int32) (x2 : Int32) (x3 : Int32) : Option (Int32 × jKt) :=
  bdo (P_X5_suitWithId κ a0 x1)
  (some ((-1), κ))
  fun b60 =>
  bd (P_X4_hasSleeve κ b60 x2) fun y63 =>
  if y63 = 0 then
  some ((-2), κ)
  else
  bd (P_X4_hasSleeve κ b60 x3) fun y66 =>
  if y66 = 0 then
  some ((-2), κ)
  else
  if x2 = x3 then
  some ((-3), κ)
  else
  bd (P_X4_hasDemand κ b60 x2 x3) fun y70 =>
  if y70 = 0 then
  if (kI κ b60 4) = 12 then
  some ((-4), κ)
  else
  bd (P_X4_isSewn κ b60 x3) fun y74 =>
  if y74 = 0 then
  P_X5_addDemand_84 κ x2 x3 b60
  else
  bd (P_X4_isSewn κ b60 x2) fun y77 =>
  if y77 = 0 then
  some ((-4), κ)
  else
  P_X5_addDemand_84 κ x2 x3 b60
  else
  some ((-4), κ)
def P_X5_handOver (κ : jKt) (a0 : Nat) (x1 : Int32) : Option (Int32 × jKt) :=
  bdo (P_X5_suitWithId κ a0 x1)
  (some ((-1), κ))
  fun b50 =>
  bd (P_X5_wearerOf κ a0 b50) fun b53 =>
  bd (P_X4_isReadyFor κ b50 b53) fun y56 =>
  if y56 = 0 then
  some ((-4), κ)
  else
  bd (P_X5_wearerOf κ a0 b50) fun b59 =>
  bd (P_X4_priceFor κ b50 b59) fun y62 =>
  bd (P_X4_clothInside κ b50) fun y64 =>
  bnd (kU κ a0 8 (.int ((kI κ a0 8) + y64))) fun κ65 =>
  bnd (kU κ65 a0 9 (.int ((kI κ65 a0 9) + y62))) fun κ67 =>
  bnd (kU κ67 a0 10 (.int ((kI κ67 a0 10) + 1))) fun κ69 =>
  bd (P_X5_removeSuit κ69 a0 x1) fun κ72 =>
  some (y62, κ72)
def P_X5_throwAway (κ : jKt) (a0 : Nat) (x1 : Int32) : Option (Int32 × jKt) :=
  bdo (P_X5_suitWithId κ a0 x1)
  (some ((-1), κ))
  fun b20 =>
  bd (P_X4_clothInside κ b20) fun y23 =>
  bnd (kU κ a0 7 (.int ((kI κ a0 7) + y23))) fun κ24 =>
  bd (P_X5_removeSuit κ24 a0 x1) fun κ27 =>
  some (y23, κ27)
def P_X5_perform (κ : jKt) (a0 : Nat) (x1 : Int32) (x2 : Int32) (x3 : Int32) (x4 : Int32) : Option (Int32 × jKt) :=
  if x1 = 0 then
  bd2 (P_X5_storeCloth κ a0 x2 x3) fun y81 κ82 =>
  some (y81, κ82)
  else if x1 = 1 then
  bd2 (P_X5_welcome κ a0 x2 x3) fun y85 κ86 =>
  some (y85, κ86)
  else if x1 = 2 then
  bd2 (P_X5_measure κ a0 x2 x3 x4) fun y89 κ90 =>
  some (y89, κ90)
  else if x1 = 3 then
  bd2 (P_X5_beginSuit κ a0 x2 x3) fun y93 κ94 =>
  some (y93, κ94)
  else if x1 = 4 then
  bd2 (P_X5_cutSleeve κ a0 x2 x3) fun y97 κ98 =>
  some (y97, κ98)
  else if x1 = 5 then
  bd2 (P_X5_sewSleeve κ a0 x2 x3) fun y101 κ102 =>
  some (y101, κ102)
  else if x1 = 6 then
  bd2 (P_X5_unpickSleeve κ a0 x2 x3) fun y105 κ106 =>
  some (y105, κ106)
  else if x1 = 7 then
  bd2 (P_X5_addDemand κ a0 x2 x3 x4) fun y109 κ110 =>
  some (y109, κ110)
  else if x1 = 8 then
  bd2 (P_X5_handOver κ a0 x2) fun y113 κ114 =>
  some (y113, κ114)
  else bd2 (P_X5_throwAway κ a0 x2) fun y116 κ117 =>
  some (y116, κ117)
set_option maxRecDepth 20000 in
theorem w_X5_takeOver_63 {F : jFm} (C : jB F RX5 cX5_takeOver 3 none 2 0 0 101) {a0 : Nat} (ha0 : jSof F a0 = (1, 9, 11)) {a1 : Nat} (ha1 : jSof F a1 = (1, 9, 11)) {r : jKt} (hq : jOut F none r) : ∀ (n : Nat) (κ : jKt) (v2 : Int32), P_X5_takeOver_63 a0 a1 n κ v2 = some r → jW F 3 0 0 κ 63 [(0, .ref a0), (1, .ref a1), (2, .int v2)] [] := by
  intro n
  induction n with
  | zero => intro κ v2 h; cases h
  | succ n ih =>
    intro κ v2 h
    rw [P_X5_takeOver_63] at h
    refine r_iload_n C.1 2 64 rfl dX5_takeOver_63 rfl ?_
    refine r_aload_n C.1 0 65 rfl dX5_takeOver_64 rfl ?_
    refine r_getI C.1 4 fl_X5_31 rfl ha0 68 rfl dX5_takeOver_65 ?_
    refine r_icmp_ge C.1 92 71 rfl dX5_takeOver_68 rfl ⟨fun c77 => ?_, fun c77 => ?_⟩
    · have h := if_some_t c77 h
      refine r_aload_n C.1 0 93 rfl dX5_takeOver_92 rfl ?_
      refine r_aload_n C.1 1 94 rfl dX5_takeOver_93 rfl ?_
      refine r_getI C.1 5 fl_X5_34 rfl ha1 97 rfl dX5_takeOver_94 ?_
      obtain ⟨κ78, e79, h⟩ := bnd_some h
      refine r_putI C.1 5 fw_X5_34 rfl rfl rfl ha0 e79 100 rfl dX5_takeOver_97 ?_
      refine r_aload_n C.1 0 101 rfl dX5_takeOver_100 rfl ?_
      refine r_aload_n C.1 1 102 rfl dX5_takeOver_101 rfl ?_
      refine r_getI C.1 6 fl_X5_37 rfl ha1 105 rfl dX5_takeOver_102 ?_
      obtain ⟨κ80, e81, h⟩ := bnd_some h
      refine r_putI C.1 6 fw_X5_37 rfl rfl rfl ha0 e81 108 rfl dX5_takeOver_105 ?_
      refine r_aload_n C.1 0 109 rfl dX5_takeOver_108 rfl ?_
      refine r_aload_n C.1 1 110 rfl dX5_takeOver_109 rfl ?_
      refine r_getI C.1 7 fl_X5_40 rfl ha1 113 rfl dX5_takeOver_110 ?_
      obtain ⟨κ82, e83, h⟩ := bnd_some h
      refine r_putI C.1 7 fw_X5_40 rfl rfl rfl ha0 e83 116 rfl dX5_takeOver_113 ?_
      refine r_aload_n C.1 0 117 rfl dX5_takeOver_116 rfl ?_
      refine r_aload_n C.1 1 118 rfl dX5_takeOver_117 rfl ?_
      refine r_getI C.1 8 fl_X5_43 rfl ha1 121 rfl dX5_takeOver_118 ?_
      obtain ⟨κ84, e85, h⟩ := bnd_some h
      refine r_putI C.1 8 fw_X5_43 rfl rfl rfl ha0 e85 124 rfl dX5_takeOver_121 ?_
      refine r_aload_n C.1 0 125 rfl dX5_takeOver_124 rfl ?_
      refine r_aload_n C.1 1 126 rfl dX5_takeOver_125 rfl ?_
      refine r_getI C.1 9 fl_X5_46 rfl ha1 129 rfl dX5_takeOver_126 ?_
      obtain ⟨κ86, e87, h⟩ := bnd_some h
      refine r_putI C.1 9 fw_X5_46 rfl rfl rfl ha0 e87 132 rfl dX5_takeOver_129 ?_
      refine r_aload_n C.1 0 133 rfl dX5_takeOver_132 rfl ?_
      refine r_aload_n C.1 1 134 rfl dX5_takeOver_133 rfl ?_
      refine r_getI C.1 10 fl_X5_49 rfl ha1 137 rfl dX5_takeOver_134 ?_
      obtain ⟨κ88, e89, h⟩ := bnd_some h
      refine r_putI C.1 10 fw_X5_49 rfl rfl rfl ha0 e89 140 rfl dX5_takeOver_137 ?_
      cases h
      exact r_vret C rfl (Nat.le_of_ble_eq_true rfl) (Nat.le_of_ble_eq_true rfl) dX5_takeOver_140 hq
    · have h := if_some_f c77 h
      refine r_aload_n C.1 0 72 rfl dX5_takeOver_71 rfl ?_
      refine r_getR C.1 3 fl_X5_27 rfl ha0 75 rfl dX5_takeOver_72 (fun (h90 : jSof F (kR κ a0 3) = (2, 6, 6)) => ?_)
      refine r_iload_n C.1 2 76 rfl dX5_takeOver_75 rfl ?_
      obtain ⟨i91, h⟩ := ck_some h
      refine r_aald C.1 rfl rfl h90 i91 77 rfl dX5_takeOver_76 (fun (h92 : jSof F (kR κ (kR κ a0 3) (ix v2)) = (1, 8, 8)) => ?_)
      refine r_aload_n C.1 1 78 rfl dX5_takeOver_77 rfl ?_
      refine r_getR C.1 3 fl_X5_27 rfl ha1 81 rfl dX5_takeOver_78 (fun (h93 : jSof F (kR κ a1 3) = (2, 6, 6)) => ?_)
      refine r_iload_n C.1 2 82 rfl dX5_takeOver_81 rfl ?_
      obtain ⟨i94, h⟩ := ck_some h
      refine r_aald C.1 rfl rfl h93 i94 83 rfl dX5_takeOver_82 (fun (h95 : jSof F (kR κ (kR κ a1 3) (ix v2)) = (1, 8, 8)) => ?_)
      obtain ⟨κ97, e96, h⟩ := bd_some h
      refine r_cVv C.1 (st := []) (c_X4_takeOver h92 h95 e96) yv_X4_takeOver ml_X5_64 rfl h92 rfl ⟨Nat.le_of_ble_eq_true rfl, Nat.le_of_ble_eq_true rfl⟩ ⟨Nat.le_of_ble_eq_true rfl, Nat.le_of_ble_eq_true rfl⟩ (Nat.le_of_ble_eq_true rfl) rfl 0 0 rfl rfl 86 rfl dX5_takeOver_83 ?_
      refine r_iinc C.1 (lv' := [(0, .ref a0), (1, .ref a1), (2, .int (v2 + 1))]) 2 [1, 2, 0] 89 rfl dX5_takeOver_86 rfl (Nat.le_of_ble_eq_true rfl) rfl rfl ?_
      refine r_goto C.1 63 dX5_takeOver_89 rfl ?_
      exact ih κ97 (v2 + 1) h
set_option maxRecDepth 20000 in
theorem w_X5_takeOver_24 {F : jFm} (C : jB F RX5 cX5_takeOver 3 none 2 0 0 101) {a0 : Nat} (ha0 : jSof F a0 = (1, 9, 11)) {a1 : Nat} (ha1 : jSof F a1 = (1, 9, 11)) {r : jKt} (hq : jOut F none r) : ∀ (n : Nat) (κ : jKt) (v2 : Int32), P_X5_takeOver_24 a0 a1 n κ v2 = some r → jW F 3 0 0 κ 24 [(0, .ref a0), (1, .ref a1), (2, .int v2)] [] := by
  intro n
  induction n with
  | zero => intro κ v2 h; cases h
  | succ n ih =>
    intro κ v2 h
    rw [P_X5_takeOver_24] at h
    refine r_iload_n C.1 2 25 rfl dX5_takeOver_24 rfl ?_
    refine r_aload_n C.1 0 26 rfl dX5_takeOver_25 rfl ?_
    refine r_getI C.1 2 fl_X5_21 rfl ha0 29 rfl dX5_takeOver_26 ?_
    refine r_icmp_ge C.1 53 32 rfl dX5_takeOver_29 rfl ⟨fun c98 => ?_, fun c98 => ?_⟩
    · have h := if_some_t c98 h
      refine r_aload_n C.1 0 54 rfl dX5_takeOver_53 rfl ?_
      refine r_aload_n C.1 1 55 rfl dX5_takeOver_54 rfl ?_
      refine r_getI C.1 4 fl_X5_31 rfl ha1 58 rfl dX5_takeOver_55 ?_
      obtain ⟨κ99, e100, h⟩ := bnd_some h
      refine r_putI C.1 4 fw_X5_31 rfl rfl rfl ha0 e100 61 rfl dX5_takeOver_58 ?_
      refine r_iconst C.1 0 rfl 62 rfl dX5_takeOver_61 ?_
      refine r_istore_n C.1 (lv' := [(0, .ref a0), (1, .ref a1), (2, .int 0)]) [1, 2, 0] 63 rfl dX5_takeOver_62 (Nat.le_of_ble_eq_true rfl) rfl ?_
      exact w_X5_takeOver_63 C ha0 ha1 hq 4000 κ99 0 h
    · have h := if_some_f c98 h
      refine r_aload_n C.1 0 33 rfl dX5_takeOver_32 rfl ?_
      refine r_getR C.1 1 fl_X5_17 rfl ha0 36 rfl dX5_takeOver_33 (fun (h101 : jSof F (kR κ a0 1) = (2, 5, 5)) => ?_)
      refine r_iload_n C.1 2 37 rfl dX5_takeOver_36 rfl ?_
      obtain ⟨i102, h⟩ := ck_some h
      refine r_aald C.1 rfl rfl h101 i102 38 rfl dX5_takeOver_37 (fun (h103 : jSof F (kR κ (kR κ a0 1) (ix v2)) = (1, 4, 2)) => ?_)
      refine r_aload_n C.1 1 39 rfl dX5_takeOver_38 rfl ?_
      refine r_getR C.1 1 fl_X5_17 rfl ha1 42 rfl dX5_takeOver_39 (fun (h104 : jSof F (kR κ a1 1) = (2, 5, 5)) => ?_)
      refine r_iload_n C.1 2 43 rfl dX5_takeOver_42 rfl ?_
      obtain ⟨i105, h⟩ := ck_some h
      refine r_aald C.1 rfl rfl h104 i105 44 rfl dX5_takeOver_43 (fun (h106 : jSof F (kR κ (kR κ a1 1) (ix v2)) = (1, 4, 2)) => ?_)
      obtain ⟨κ108, e107, h⟩ := bd_some h
      refine r_cVv C.1 (st := []) (c_X0_takeOver h103 h106 e107) yv_X0_takeOver ml_X5_60 rfl h103 rfl ⟨Nat.le_of_ble_eq_true rfl, Nat.le_of_ble_eq_true rfl⟩ ⟨Nat.le_of_ble_eq_true rfl, Nat.le_of_ble_eq_true rfl⟩ (Nat.le_of_ble_eq_true rfl) rfl 0 0 rfl rfl 47 rfl dX5_takeOver_44 ?_
      refine r_iinc C.1 (lv' := [(0, .ref a0), (1, .ref a1), (2, .int (v2 + 1))]) 2 [1, 2, 0] 50 rfl dX5_takeOver_47 rfl (Nat.le_of_ble_eq_true rfl) rfl rfl ?_
      refine r_goto C.1 24 dX5_takeOver_50 rfl ?_
      exact ih κ108 (v2 + 1) h
set_option maxRecDepth 20000 in
theorem w_X5_takeOver_0 {F : jFm} (C : jB F RX5 cX5_takeOver 3 none 2 0 0 101) {κ : jKt} {a0 : Nat} (ha0 : jSof F a0 = (1, 9, 11)) {a1 : Nat} (ha1 : jSof F a1 = (1, 9, 11)) {r : jKt} (hq : jOut F none r) (h : P_X5_takeOver κ a0 a1 = some r) : jW F 3 0 0 κ 0 [(0, .ref a0), (1, .ref a1)] [] := by
  unfold P_X5_takeOver at h
  refine r_aload_n C.1 1 1 rfl dX5_takeOver_0 rfl ?_
  refine r_getR C.1 0 fl_X5_9 rfl ha1 4 rfl dX5_takeOver_1 (fun (h109 : jSof F (kR κ a1 0) = (2, 0, 4)) => ?_)
  refine r_iconst C.1 0 rfl 5 rfl dX5_takeOver_4 ?_
  refine r_aload_n C.1 0 6 rfl dX5_takeOver_5 rfl ?_
  refine r_getR C.1 0 fl_X5_9 rfl ha0 9 rfl dX5_takeOver_6 (fun (h110 : jSof F (kR κ a0 0) = (2, 0, 4)) => ?_)
  refine r_iconst C.1 0 rfl 10 rfl dX5_takeOver_9 ?_
  refine r_iconst C.1 4 rfl 11 rfl dX5_takeOver_10 ?_
  obtain ⟨κ111, e112, h⟩ := bnd_some h
  refine r_acp C.1 ac_X5_54 (by decide) h109 h110 (by decide) rfl ⟨Nat.le_of_ble_eq_true rfl, Nat.le_of_ble_eq_true rfl⟩ e112 14 rfl dX5_takeOver_11 ?_
  refine r_aload_n C.1 0 15 rfl dX5_takeOver_14 rfl ?_
  refine r_aload_n C.1 1 16 rfl dX5_takeOver_15 rfl ?_
  refine r_getI C.1 2 fl_X5_21 rfl ha1 19 rfl dX5_takeOver_16 ?_
  obtain ⟨κ113, e114, h⟩ := bnd_some h
  refine r_putI C.1 2 fw_X5_21 rfl rfl rfl ha0 e114 22 rfl dX5_takeOver_19 ?_
  refine r_iconst C.1 0 rfl 23 rfl dX5_takeOver_22 ?_
  refine r_istore_n C.1 (lv' := [(0, .ref a0), (1, .ref a1), (2, .int 0)]) [1, 2, 0] 24 rfl dX5_takeOver_23 (Nat.le_of_ble_eq_true rfl) rfl ?_
  exact w_X5_takeOver_24 C ha0 ha1 hq 4000 κ113 0 h
theorem c_X5_takeOver {l : Launch} {G : jG} {sh : jSh} {κ : jKt} {a0 : Nat} (ha0 : sh a0 = (1, 9, 11)) {a1 : Nat} (ha1 : sh a1 = (1, 9, 11))  {κr : jKt} (h : P_X5_takeOver κ a0 a1 = some κr) : jM l G yX5_takeOver cX5_takeOver 3 none 2 0 0 101 [.ref a0, .ref a1] (sh, κ) (jIs none (sh, κr)) jNo :=
  r_body (by decide) (Nat.le_of_ble_eq_true rfl) fun F C hl hG hs ho hx => by
    subst hs
    exact w_X5_takeOver_0 C ha0 ha1 (by rw [ho]; exact ⟨rfl, rfl⟩) h
set_option maxRecDepth 20000 in
theorem w_X5_hasCloth_0 {F : jFm} (C : jB F RX5 cX5_hasCloth 2 (some .boolean) 0 0 0 0) {κ : jKt} {a0 : Nat} (ha0 : jSof F a0 = (1, 9, 11)) {x1 : Int32} {r : Int32} (hq : jOut F (some (.int r)) κ) (h : P_X5_hasCloth κ a0 x1 = some r) : jW F 2 0 0 κ 0 [(0, .ref a0), (1, .int x1)] [] := by
  unfold P_X5_hasCloth at h
  refine r_iload_n C.1 1 1 rfl dX5_hasCloth_0 rfl ?_
  refine r_if_lt C.1 13 4 rfl dX5_hasCloth_1 rfl ⟨fun c5 => ?_, fun c5 => ?_⟩
  · have h := if_some_t c5 h
    refine r_iconst C.1 0 rfl 14 rfl dX5_hasCloth_13 ?_
    cases h
    exact r_zret C rfl rfl (Nat.le_of_ble_eq_true rfl) (Nat.le_of_ble_eq_true rfl) dX5_hasCloth_14 hq
  · have h := if_some_f c5 h
    refine r_iload_n C.1 1 5 rfl dX5_hasCloth_4 rfl ?_
    refine r_iconst C.1 4 rfl 6 rfl dX5_hasCloth_5 ?_
    refine r_icmp_ge C.1 13 9 rfl dX5_hasCloth_6 rfl ⟨fun c6 => ?_, fun c6 => ?_⟩
    · have h := if_some_t c6 h
      refine r_iconst C.1 0 rfl 14 rfl dX5_hasCloth_13 ?_
      cases h
      exact r_zret C rfl rfl (Nat.le_of_ble_eq_true rfl) (Nat.le_of_ble_eq_true rfl) dX5_hasCloth_14 hq
    · have h := if_some_f c6 h
      refine r_iconst C.1 1 rfl 10 rfl dX5_hasCloth_9 ?_
      refine r_goto C.1 14 dX5_hasCloth_10 rfl ?_
      cases h
      exact r_zret C rfl rfl (Nat.le_of_ble_eq_true rfl) (Nat.le_of_ble_eq_true rfl) dX5_hasCloth_14 hq
theorem c_X5_hasCloth {l : Launch} {G : jG} {sh : jSh} {κ : jKt} {a0 : Nat} (ha0 : sh a0 = (1, 9, 11)) {x1 : Int32} {r : Int32} (h : P_X5_hasCloth κ a0 x1 = some r) : jM l G yX5_hasCloth cX5_hasCloth 2 (some .boolean) 0 0 0 0 [.ref a0, .int x1] (sh, κ) (jIs (some (.int r)) (sh, κ)) jNo :=
  r_body (by decide) (Nat.le_of_ble_eq_true rfl) fun F C hl hG hs ho hx => by
    subst hs
    exact w_X5_hasCloth_0 C ha0 (by rw [ho]; exact ⟨rfl, rfl⟩) h
set_option maxRecDepth 20000 in
theorem w_X5_hasCustomer_0 {F : jFm} (C : jB F RX5 cX5_hasCustomer 2 (some .boolean) 0 0 0 0) {κ : jKt} {a0 : Nat} (ha0 : jSof F a0 = (1, 9, 11)) {x1 : Int32} {r : Int32} (hq : jOut F (some (.int r)) κ) (h : P_X5_hasCustomer κ a0 x1 = some r) : jW F 2 0 0 κ 0 [(0, .ref a0), (1, .int x1)] [] := by
  unfold P_X5_hasCustomer at h
  refine r_iload_n C.1 1 1 rfl dX5_hasCustomer_0 rfl ?_
  refine r_if_lt C.1 16 4 rfl dX5_hasCustomer_1 rfl ⟨fun c5 => ?_, fun c5 => ?_⟩
  · have h := if_some_t c5 h
    refine r_iconst C.1 0 rfl 17 rfl dX5_hasCustomer_16 ?_
    cases h
    exact r_zret C rfl rfl (Nat.le_of_ble_eq_true rfl) (Nat.le_of_ble_eq_true rfl) dX5_hasCustomer_17 hq
  · have h := if_some_f c5 h
    refine r_iload_n C.1 1 5 rfl dX5_hasCustomer_4 rfl ?_
    refine r_aload_n C.1 0 6 rfl dX5_hasCustomer_5 rfl ?_
    refine r_getI C.1 2 fl_X5_21 rfl ha0 9 rfl dX5_hasCustomer_6 ?_
    refine r_icmp_ge C.1 16 12 rfl dX5_hasCustomer_9 rfl ⟨fun c6 => ?_, fun c6 => ?_⟩
    · have h := if_some_t c6 h
      refine r_iconst C.1 0 rfl 17 rfl dX5_hasCustomer_16 ?_
      cases h
      exact r_zret C rfl rfl (Nat.le_of_ble_eq_true rfl) (Nat.le_of_ble_eq_true rfl) dX5_hasCustomer_17 hq
    · have h := if_some_f c6 h
      refine r_iconst C.1 1 rfl 13 rfl dX5_hasCustomer_12 ?_
      refine r_goto C.1 17 dX5_hasCustomer_13 rfl ?_
      cases h
      exact r_zret C rfl rfl (Nat.le_of_ble_eq_true rfl) (Nat.le_of_ble_eq_true rfl) dX5_hasCustomer_17 hq
theorem c_X5_hasCustomer {l : Launch} {G : jG} {sh : jSh} {κ : jKt} {a0 : Nat} (ha0 : sh a0 = (1, 9, 11)) {x1 : Int32} {r : Int32} (h : P_X5_hasCustomer κ a0 x1 = some r) : jM l G yX5_hasCustomer cX5_hasCustomer 2 (some .boolean) 0 0 0 0 [.ref a0, .int x1] (sh, κ) (jIs (some (.int r)) (sh, κ)) jNo :=
  r_body (by decide) (Nat.le_of_ble_eq_true rfl) fun F C hl hG hs ho hx => by
    subst hs
    exact w_X5_hasCustomer_0 C ha0 (by rw [ho]; exact ⟨rfl, rfl⟩) h
set_option maxRecDepth 20000 in
theorem w_X5_suitWithId_2 {F : jFm} (C : jB F RX5 cX5_suitWithId 3 (some (.object "TailorWorkshop$Suit")) 0 0 0 0) {κ : jKt} {a0 : Nat} (ha0 : jSof F a0 = (1, 9, 11)) {v1 : Int32} {r : Option Nat} (hq : jOutN F (1, 8, 8) r κ) : ∀ (n : Nat) (v2 : Int32), P_X5_suitWithId_2 κ a0 v1 n v2 = some r → jW F 3 0 0 κ 2 [(0, .ref a0), (1, .int v1), (2, .int v2)] [] := by
  intro n
  induction n with
  | zero => intro v2 h; cases h
  | succ n ih =>
    intro v2 h
    rw [P_X5_suitWithId_2] at h
    refine r_iload_n C.1 2 3 rfl dX5_suitWithId_2 rfl ?_
    refine r_aload_n C.1 0 4 rfl dX5_suitWithId_3 rfl ?_
    refine r_getI C.1 4 fl_X5_31 rfl ha0 7 rfl dX5_suitWithId_4 ?_
    refine r_icmp_ge C.1 36 10 rfl dX5_suitWithId_7 rfl ⟨fun c17 => ?_, fun c17 => ?_⟩
    · have h := if_some_t c17 h
      refine r_null C.1 37 rfl dX5_suitWithId_36 ?_
      cases h
      exact r_aret C rfl (Or.inl ⟨_, rfl⟩) (Or.inl rfl) (Nat.le_of_ble_eq_true rfl) (Nat.le_of_ble_eq_true rfl) dX5_suitWithId_37 hq
    · have h := if_some_f c17 h
      refine r_aload_n C.1 0 11 rfl dX5_suitWithId_10 rfl ?_
      refine r_getR C.1 3 fl_X5_27 rfl ha0 14 rfl dX5_suitWithId_11 (fun (h18 : jSof F (kR κ a0 3) = (2, 6, 6)) => ?_)
      refine r_iload_n C.1 2 15 rfl dX5_suitWithId_14 rfl ?_
      obtain ⟨i19, h⟩ := ck_some h
      refine r_aald C.1 rfl rfl h18 i19 16 rfl dX5_suitWithId_15 (fun (h20 : jSof F (kR κ (kR κ a0 3) (ix v2)) = (1, 8, 8)) => ?_)
      refine r_getI C.1 0 fl_X5_67 rfl h20 19 rfl dX5_suitWithId_16 ?_
      refine r_iload_n C.1 1 20 rfl dX5_suitWithId_19 rfl ?_
      refine r_icmp_ne C.1 30 23 rfl dX5_suitWithId_20 rfl ⟨fun c21 => ?_, fun c21 => ?_⟩
      · have h := if_some_f c21 h
        refine r_iinc C.1 (lv' := [(0, .ref a0), (1, .int v1), (2, .int (v2 + 1))]) 2 [1, 2, 0] 33 rfl dX5_suitWithId_30 rfl (Nat.le_of_ble_eq_true rfl) rfl rfl ?_
        refine r_goto C.1 2 dX5_suitWithId_33 rfl ?_
        exact ih (v2 + 1) h
      · have h := if_some_t c21 h
        refine r_aload_n C.1 0 24 rfl dX5_suitWithId_23 rfl ?_
        refine r_getR C.1 3 fl_X5_27 rfl ha0 27 rfl dX5_suitWithId_24 (fun (h22 : jSof F (kR κ a0 3) = (2, 6, 6)) => ?_)
        refine r_iload_n C.1 2 28 rfl dX5_suitWithId_27 rfl ?_
        obtain ⟨i23, h⟩ := ck_some h
        refine r_aald C.1 rfl rfl h22 i23 29 rfl dX5_suitWithId_28 (fun (h24 : jSof F (kR κ (kR κ a0 3) (ix v2)) = (1, 8, 8)) => ?_)
        cases h
        exact r_aret C rfl (Or.inl ⟨_, rfl⟩) (Or.inr ⟨_, rfl⟩) (Nat.le_of_ble_eq_true rfl) (Nat.le_of_ble_eq_true rfl) dX5_suitWithId_29 (hq h24)
set_option maxRecDepth 20000 in
theorem w_X5_suitWithId_0 {F : jFm} (C : jB F RX5 cX5_suitWithId 3 (some (.object "TailorWorkshop$Suit")) 0 0 0 0) {κ : jKt} {a0 : Nat} (ha0 : jSof F a0 = (1, 9, 11)) {x1 : Int32} {r : Option Nat} (hq : jOutN F (1, 8, 8) r κ) (h : P_X5_suitWithId κ a0 x1 = some r) : jW F 3 0 0 κ 0 [(0, .ref a0), (1, .int x1)] [] := by
  unfold P_X5_suitWithId at h
  refine r_iconst C.1 0 rfl 1 rfl dX5_suitWithId_0 ?_
  refine r_istore_n C.1 (lv' := [(0, .ref a0), (1, .int x1), (2, .int 0)]) [1, 2, 0] 2 rfl dX5_suitWithId_1 (Nat.le_of_ble_eq_true rfl) rfl ?_
  exact w_X5_suitWithId_2 C ha0 hq 4000 0 h
theorem cn_X5_suitWithId {l : Launch} {G : jG} {sh : jSh} {κ : jKt} {a0 : Nat} (ha0 : sh a0 = (1, 9, 11)) {x1 : Int32}  (h : P_X5_suitWithId κ a0 x1 = some none) : jM l G yX5_suitWithId cX5_suitWithId 3 (some (.object "TailorWorkshop$Suit")) 0 0 0 0 [.ref a0, .int x1] (sh, κ) (jIs (some .null) (sh, κ)) jNo :=
  r_body (by decide) (Nat.le_of_ble_eq_true rfl) fun F C hl hG hs ho hx => by
    subst hs
    exact w_X5_suitWithId_0 C ha0 (by unfold jOutN; rw [ho]; exact ⟨rfl, rfl⟩) h
theorem c_X5_suitWithId {l : Launch} {G : jG} {sh : jSh} {κ : jKt} {a0 : Nat} (ha0 : sh a0 = (1, 9, 11)) {x1 : Int32} {r : Nat} (h : P_X5_suitWithId κ a0 x1 = some (some r)) : jM l G yX5_suitWithId cX5_suitWithId 3 (some (.object "TailorWorkshop$Suit")) 0 0 0 0 [.ref a0, .int x1] (sh, κ) (jIsT r (1, 8, 8) sh κ) jNo :=
  r_body (by decide) (Nat.le_of_ble_eq_true rfl) fun F C hl hG hs ho hx => by
    subst hs
    exact w_X5_suitWithId_0 C ha0 (by unfold jOutN; intro h9; rw [ho]; exact ⟨rfl, rfl, h9⟩) h
set_option maxRecDepth 20000 in
theorem w_X5_wearerOf_0 {F : jFm} (C : jB F RX5 cX5_wearerOf 2 (some (.object "TailorWorkshop$Customer")) 0 0 0 0) {κ : jKt} {a0 : Nat} (ha0 : jSof F a0 = (1, 9, 11)) {a1 : Nat} (ha1 : jSof F a1 = (1, 8, 8)) {r : Nat} (hq : jOutR F (1, 4, 2) r κ) (h : P_X5_wearerOf κ a0 a1 = some r) : jW F 2 0 0 κ 0 [(0, .ref a0), (1, .ref a1)] [] := by
  unfold P_X5_wearerOf at h
  refine r_aload_n C.1 0 1 rfl dX5_wearerOf_0 rfl ?_
  refine r_getR C.1 1 fl_X5_17 rfl ha0 4 rfl dX5_wearerOf_1 (fun (h7 : jSof F (kR κ a0 1) = (2, 5, 5)) => ?_)
  refine r_aload_n C.1 1 5 rfl dX5_wearerOf_4 rfl ?_
  refine r_getI C.1 1 fl_X5_70 rfl ha1 8 rfl dX5_wearerOf_5 ?_
  obtain ⟨i8, h⟩ := ck_some h
  refine r_aald C.1 rfl rfl h7 i8 9 rfl dX5_wearerOf_8 (fun (h9 : jSof F (kR κ (kR κ a0 1) (ix (kI κ a1 1))) = (1, 4, 2)) => ?_)
  cases h
  exact r_aret C rfl (Or.inl ⟨_, rfl⟩) (Or.inr ⟨_, rfl⟩) (Nat.le_of_ble_eq_true rfl) (Nat.le_of_ble_eq_true rfl) dX5_wearerOf_9 (hq h9)
theorem c_X5_wearerOf {l : Launch} {G : jG} {sh : jSh} {κ : jKt} {a0 : Nat} (ha0 : sh a0 = (1, 9, 11)) {a1 : Nat} (ha1 : sh a1 = (1, 8, 8)) {r : Nat} (h : P_X5_wearerOf κ a0 a1 = some r) : jM l G yX5_wearerOf cX5_wearerOf 2 (some (.object "TailorWorkshop$Customer")) 0 0 0 0 [.ref a0, .ref a1] (sh, κ) (jIsT r (1, 4, 2) sh κ) jNo :=
  r_body (by decide) (Nat.le_of_ble_eq_true rfl) fun F C hl hG hs ho hx => by
    subst hs
    exact w_X5_wearerOf_0 C ha0 ha1 (by unfold jOutR; intro h9; rw [ho]; exact ⟨rfl, rfl, h9⟩) h
set_option maxRecDepth 20000 in
theorem w_X5_rankOf_15 {F : jFm} (C : jB F RX5 cX5_rankOf 6 (some .int) 1 0 0 22) {κ : jKt} {a0 : Nat} (ha0 : jSof F a0 = (1, 9, 11)) {v1 : Int32} {v2 : Int32} {r : Int32} (hq : jOut F (some (.int r)) κ) : ∀ (n : Nat) (v3 : Int32) (v4 : Int32), P_X5_rankOf_15 κ a0 v1 v2 n v3 v4 = some r → jW F 6 0 0 κ 15 [(0, .ref a0), (1, .int v1), (2, .int v2), (3, .int v3), (4, .int v4)] [] := by
  intro n
  induction n with
  | zero => intro v3 v4 h; cases h
  | succ n ih =>
    intro v3 v4 h
    rw [P_X5_rankOf_15] at h
    refine r_iload C.1 4 17 rfl dX5_rankOf_15 rfl ?_
    refine r_aload_n C.1 0 18 rfl dX5_rankOf_17 rfl ?_
    refine r_getI C.1 2 fl_X5_21 rfl ha0 21 rfl dX5_rankOf_18 ?_
    refine r_icmp_ge C.1 63 24 rfl dX5_rankOf_21 rfl ⟨fun c29 => ?_, fun c29 => ?_⟩
    · have h := if_some_t c29 h
      refine r_iload_n C.1 3 64 rfl dX5_rankOf_63 rfl ?_
      cases h
      exact r_zret C rfl rfl (Nat.le_of_ble_eq_true rfl) (Nat.le_of_ble_eq_true rfl) dX5_rankOf_64 hq
    · have h := if_some_f c29 h
      refine r_aload_n C.1 0 25 rfl dX5_rankOf_24 rfl ?_
      refine r_getR C.1 1 fl_X5_17 rfl ha0 28 rfl dX5_rankOf_25 (fun (h30 : jSof F (kR κ a0 1) = (2, 5, 5)) => ?_)
      refine r_iload C.1 4 30 rfl dX5_rankOf_28 rfl ?_
      obtain ⟨i31, h⟩ := ck_some h
      refine r_aald C.1 rfl rfl h30 i31 31 rfl dX5_rankOf_30 (fun (h32 : jSof F (kR κ (kR κ a0 1) (ix v4)) = (1, 4, 2)) => ?_)
      obtain ⟨y34, e33, h⟩ := bd_some h
      refine r_cVi C.1 (st := []) (c_X0_legSum h32 e33) yv_X0_legSum ml_X5_77 rfl h32 rfl ⟨Nat.le_of_ble_eq_true rfl, Nat.le_of_ble_eq_true rfl⟩ ⟨Nat.le_of_ble_eq_true rfl, Nat.le_of_ble_eq_true rfl⟩ (Nat.le_of_ble_eq_true rfl) rfl 0 0 rfl rfl 34 rfl dX5_rankOf_31 ?_
      refine r_istore C.1 (lv' := [(0, .ref a0), (1, .int v1), (2, .int v2), (3, .int v3), (4, .int v4), (5, .int y34)]) [1, 2, 3, 4, 5, 0] 36 rfl dX5_rankOf_34 (Nat.le_of_ble_eq_true rfl) rfl ?_
      refine r_iload C.1 5 38 rfl dX5_rankOf_36 rfl ?_
      refine r_iload_n C.1 2 39 rfl dX5_rankOf_38 rfl ?_
      refine r_icmp_gt C.1 54 42 rfl dX5_rankOf_39 rfl ⟨fun c35 => ?_, fun c35 => ?_⟩
      · have h := if_some_t c35 h
        refine r_iinc C.1 (lv' := [(0, .ref a0), (1, .int v1), (2, .int v2), (3, .int (v3 + 1)), (4, .int v4), (5, .int y34)]) 3 [1, 2, 3, 0, 4, 5] 57 rfl dX5_rankOf_54 rfl (Nat.le_of_ble_eq_true rfl) rfl rfl ?_
        refine r_iinc C.1 (lv' := [(0, .ref a0), (1, .int v1), (2, .int v2), (3, .int (v3 + 1)), (4, .int (v4 + 1)), (5, .int y34)]) 4 [1, 2, 3, 4, 0, 5] 60 rfl dX5_rankOf_57 rfl (Nat.le_of_ble_eq_true rfl) rfl rfl ?_
        refine r_goto C.1 15 dX5_rankOf_60 rfl ?_
        refine r_lv [0, 1, 2, 3, 4] rfl ?_
        exact ih (v3 + 1) (v4 + 1) h
      · have h := if_some_f c35 h
        refine r_iload C.1 5 44 rfl dX5_rankOf_42 rfl ?_
        refine r_iload_n C.1 2 45 rfl dX5_rankOf_44 rfl ?_
        refine r_icmp_ne C.1 57 48 rfl dX5_rankOf_45 rfl ⟨fun c36 => ?_, fun c36 => ?_⟩
        · have h := if_some_f c36 h
          refine r_iinc C.1 (lv' := [(0, .ref a0), (1, .int v1), (2, .int v2), (3, .int v3), (4, .int (v4 + 1)), (5, .int y34)]) 4 [1, 2, 3, 4, 0, 5] 60 rfl dX5_rankOf_57 rfl (Nat.le_of_ble_eq_true rfl) rfl rfl ?_
          refine r_goto C.1 15 dX5_rankOf_60 rfl ?_
          refine r_lv [0, 1, 2, 3, 4] rfl ?_
          exact ih v3 (v4 + 1) h
        · have h := if_some_t c36 h
          refine r_iload C.1 4 50 rfl dX5_rankOf_48 rfl ?_
          refine r_iload_n C.1 1 51 rfl dX5_rankOf_50 rfl ?_
          refine r_icmp_ge C.1 57 54 rfl dX5_rankOf_51 rfl ⟨fun c37 => ?_, fun c37 => ?_⟩
          · have h := if_some_t c37 h
            refine r_iinc C.1 (lv' := [(0, .ref a0), (1, .int v1), (2, .int v2), (3, .int v3), (4, .int (v4 + 1)), (5, .int y34)]) 4 [1, 2, 3, 4, 0, 5] 60 rfl dX5_rankOf_57 rfl (Nat.le_of_ble_eq_true rfl) rfl rfl ?_
            refine r_goto C.1 15 dX5_rankOf_60 rfl ?_
            refine r_lv [0, 1, 2, 3, 4] rfl ?_
            exact ih v3 (v4 + 1) h
          · have h := if_some_f c37 h
            refine r_iinc C.1 (lv' := [(0, .ref a0), (1, .int v1), (2, .int v2), (3, .int (v3 + 1)), (4, .int v4), (5, .int y34)]) 3 [1, 2, 3, 0, 4, 5] 57 rfl dX5_rankOf_54 rfl (Nat.le_of_ble_eq_true rfl) rfl rfl ?_
            refine r_iinc C.1 (lv' := [(0, .ref a0), (1, .int v1), (2, .int v2), (3, .int (v3 + 1)), (4, .int (v4 + 1)), (5, .int y34)]) 4 [1, 2, 3, 4, 0, 5] 60 rfl dX5_rankOf_57 rfl (Nat.le_of_ble_eq_true rfl) rfl rfl ?_
            refine r_goto C.1 15 dX5_rankOf_60 rfl ?_
            refine r_lv [0, 1, 2, 3, 4] rfl ?_
            exact ih (v3 + 1) (v4 + 1) h
set_option maxRecDepth 20000 in
theorem w_X5_rankOf_0 {F : jFm} (C : jB F RX5 cX5_rankOf 6 (some .int) 1 0 0 22) {κ : jKt} {a0 : Nat} (ha0 : jSof F a0 = (1, 9, 11)) {x1 : Int32} {r : Int32} (hq : jOut F (some (.int r)) κ) (h : P_X5_rankOf κ a0 x1 = some r) : jW F 6 0 0 κ 0 [(0, .ref a0), (1, .int x1)] [] := by
  unfold P_X5_rankOf at h
  refine r_aload_n C.1 0 1 rfl dX5_rankOf_0 rfl ?_
  refine r_getR C.1 1 fl_X5_17 rfl ha0 4 rfl dX5_rankOf_1 (fun (h38 : jSof F (kR κ a0 1) = (2, 5, 5)) => ?_)
  refine r_iload_n C.1 1 5 rfl dX5_rankOf_4 rfl ?_
  obtain ⟨i39, h⟩ := ck_some h
  refine r_aald C.1 rfl rfl h38 i39 6 rfl dX5_rankOf_5 (fun (h40 : jSof F (kR κ (kR κ a0 1) (ix x1)) = (1, 4, 2)) => ?_)
  obtain ⟨y42, e41, h⟩ := bd_some h
  refine r_cVi C.1 (st := []) (c_X0_legSum h40 e41) yv_X0_legSum ml_X5_77 rfl h40 rfl ⟨Nat.le_of_ble_eq_true rfl, Nat.le_of_ble_eq_true rfl⟩ ⟨Nat.le_of_ble_eq_true rfl, Nat.le_of_ble_eq_true rfl⟩ (Nat.le_of_ble_eq_true rfl) rfl 0 0 rfl rfl 9 rfl dX5_rankOf_6 ?_
  refine r_istore_n C.1 (lv' := [(0, .ref a0), (1, .int x1), (2, .int y42)]) [1, 2, 0] 10 rfl dX5_rankOf_9 (Nat.le_of_ble_eq_true rfl) rfl ?_
  refine r_iconst C.1 0 rfl 11 rfl dX5_rankOf_10 ?_
  refine r_istore_n C.1 (lv' := [(0, .ref a0), (1, .int x1), (2, .int y42), (3, .int 0)]) [1, 2, 3, 0] 12 rfl dX5_rankOf_11 (Nat.le_of_ble_eq_true rfl) rfl ?_
  refine r_iconst C.1 0 rfl 13 rfl dX5_rankOf_12 ?_
  refine r_istore C.1 (lv' := [(0, .ref a0), (1, .int x1), (2, .int y42), (3, .int 0), (4, .int 0)]) [1, 2, 3, 4, 0] 15 rfl dX5_rankOf_13 (Nat.le_of_ble_eq_true rfl) rfl ?_
  exact w_X5_rankOf_15 C ha0 hq 4000 0 0 h
theorem c_X5_rankOf {l : Launch} {G : jG} {sh : jSh} {κ : jKt} {a0 : Nat} (ha0 : sh a0 = (1, 9, 11)) {x1 : Int32} {r : Int32} (h : P_X5_rankOf κ a0 x1 = some r) : jM l G yX5_rankOf cX5_rankOf 6 (some .int) 1 0 0 22 [.ref a0, .int x1] (sh, κ) (jIs (some (.int r)) (sh, κ)) jNo :=
  r_body (by decide) (Nat.le_of_ble_eq_true rfl) fun F C hl hG hs ho hx => by
    subst hs
    exact w_X5_rankOf_0 C ha0 (by rw [ho]; exact ⟨rfl, rfl⟩) h
set_option maxRecDepth 20000 in
theorem w_X5_accountsForCloth_34 {F : jFm} (C : jB F RX5 cX5_accountsForCloth 3 (some .boolean) 2 0 0 43) {κ : jKt} {a0 : Nat} (ha0 : jSof F a0 = (1, 9, 11)) {r : Int32} (hq : jOut F (some (.int r)) κ) : ∀ (n : Nat) (v1 : Int32) (v2 : Int32), P_X5_accountsForCloth_34 κ a0 n v1 v2 = some r → jW F 3 0 0 κ 34 [(0, .ref a0), (1, .int v1), (2, .int v2)] [] := by
  intro n
  induction n with
  | zero => intro v1 v2 h; cases h
  | succ n ih =>
    intro v1 v2 h
    rw [P_X5_accountsForCloth_34] at h
    refine r_iload_n C.1 2 35 rfl dX5_accountsForCloth_34 rfl ?_
    refine r_aload_n C.1 0 36 rfl dX5_accountsForCloth_35 rfl ?_
    refine r_getI C.1 4 fl_X5_31 rfl ha0 39 rfl dX5_accountsForCloth_36 ?_
    refine r_icmp_ge C.1 60 42 rfl dX5_accountsForCloth_39 rfl ⟨fun c29 => ?_, fun c29 => ?_⟩
    · have h := if_some_t c29 h
      refine r_iload_n C.1 1 61 rfl dX5_accountsForCloth_60 rfl ?_
      refine r_aload_n C.1 0 62 rfl dX5_accountsForCloth_61 rfl ?_
      refine r_getI C.1 6 fl_X5_37 rfl ha0 65 rfl dX5_accountsForCloth_62 ?_
      refine r_icmp_ne C.1 72 68 rfl dX5_accountsForCloth_65 rfl ⟨fun c30 => ?_, fun c30 => ?_⟩
      · have h := if_some_f c30 h
        refine r_iconst C.1 0 rfl 73 rfl dX5_accountsForCloth_72 ?_
        cases h
        exact r_zret C rfl rfl (Nat.le_of_ble_eq_true rfl) (Nat.le_of_ble_eq_true rfl) dX5_accountsForCloth_73 hq
      · have h := if_some_t c30 h
        refine r_iconst C.1 1 rfl 69 rfl dX5_accountsForCloth_68 ?_
        refine r_goto C.1 73 dX5_accountsForCloth_69 rfl ?_
        cases h
        exact r_zret C rfl rfl (Nat.le_of_ble_eq_true rfl) (Nat.le_of_ble_eq_true rfl) dX5_accountsForCloth_73 hq
    · have h := if_some_f c29 h
      refine r_iload_n C.1 1 43 rfl dX5_accountsForCloth_42 rfl ?_
      refine r_aload_n C.1 0 44 rfl dX5_accountsForCloth_43 rfl ?_
      refine r_getR C.1 3 fl_X5_27 rfl ha0 47 rfl dX5_accountsForCloth_44 (fun (h31 : jSof F (kR κ a0 3) = (2, 6, 6)) => ?_)
      refine r_iload_n C.1 2 48 rfl dX5_accountsForCloth_47 rfl ?_
      obtain ⟨i32, h⟩ := ck_some h
      refine r_aald C.1 rfl rfl h31 i32 49 rfl dX5_accountsForCloth_48 (fun (h33 : jSof F (kR κ (kR κ a0 3) (ix v2)) = (1, 8, 8)) => ?_)
      obtain ⟨y35, e34, h⟩ := bd_some h
      refine r_cVi C.1 (st := [.int v1]) (c_X4_clothInside h33 e34) yv_X4_clothInside ml_X5_81 rfl h33 rfl ⟨Nat.le_of_ble_eq_true rfl, Nat.le_of_ble_eq_true rfl⟩ ⟨Nat.le_of_ble_eq_true rfl, Nat.le_of_ble_eq_true rfl⟩ (Nat.le_of_ble_eq_true rfl) rfl 0 0 rfl rfl 52 rfl dX5_accountsForCloth_49 ?_
      refine r_iadd C.1 53 rfl dX5_accountsForCloth_52 ?_
      refine r_istore_n C.1 (lv' := [(0, .ref a0), (1, .int (v1 + y35)), (2, .int v2)]) [1, 0, 2] 54 rfl dX5_accountsForCloth_53 (Nat.le_of_ble_eq_true rfl) rfl ?_
      refine r_iinc C.1 (lv' := [(0, .ref a0), (1, .int (v1 + y35)), (2, .int (v2 + 1))]) 2 [1, 2, 0] 57 rfl dX5_accountsForCloth_54 rfl (Nat.le_of_ble_eq_true rfl) rfl rfl ?_
      refine r_goto C.1 34 dX5_accountsForCloth_57 rfl ?_
      exact ih (v1 + y35) (v2 + 1) h
set_option maxRecDepth 20000 in
theorem w_X5_accountsForCloth_12 {F : jFm} (C : jB F RX5 cX5_accountsForCloth 3 (some .boolean) 2 0 0 43) {κ : jKt} {a0 : Nat} (ha0 : jSof F a0 = (1, 9, 11)) {r : Int32} (hq : jOut F (some (.int r)) κ) : ∀ (n : Nat) (v1 : Int32) (v2 : Int32), P_X5_accountsForCloth_12 κ a0 n v1 v2 = some r → jW F 3 0 0 κ 12 [(0, .ref a0), (1, .int v1), (2, .int v2)] [] := by
  intro n
  induction n with
  | zero => intro v1 v2 h; cases h
  | succ n ih =>
    intro v1 v2 h
    rw [P_X5_accountsForCloth_12] at h
    refine r_iload_n C.1 2 13 rfl dX5_accountsForCloth_12 rfl ?_
    refine r_iconst C.1 4 rfl 14 rfl dX5_accountsForCloth_13 ?_
    refine r_icmp_ge C.1 32 17 rfl dX5_accountsForCloth_14 rfl ⟨fun c36 => ?_, fun c36 => ?_⟩
    · have h := if_some_t c36 h
      refine r_iconst C.1 0 rfl 33 rfl dX5_accountsForCloth_32 ?_
      refine r_istore_n C.1 (lv' := [(0, .ref a0), (1, .int v1), (2, .int 0)]) [1, 2, 0] 34 rfl dX5_accountsForCloth_33 (Nat.le_of_ble_eq_true rfl) rfl ?_
      exact w_X5_accountsForCloth_34 C ha0 hq 4000 v1 0 h
    · have h := if_some_f c36 h
      refine r_iload_n C.1 1 18 rfl dX5_accountsForCloth_17 rfl ?_
      refine r_aload_n C.1 0 19 rfl dX5_accountsForCloth_18 rfl ?_
      refine r_getR C.1 0 fl_X5_9 rfl ha0 22 rfl dX5_accountsForCloth_19 (fun (h37 : jSof F (kR κ a0 0) = (2, 0, 4)) => ?_)
      refine r_iload_n C.1 2 23 rfl dX5_accountsForCloth_22 rfl ?_
      obtain ⟨i38, h⟩ := ck_some h
      refine r_iald C.1 h37 i38 24 rfl dX5_accountsForCloth_23 ?_
      refine r_iadd C.1 25 rfl dX5_accountsForCloth_24 ?_
      obtain ⟨y39, e40, h⟩ := bnd_some h
      refine r_top e40 ?_
      refine r_istore_n C.1 (lv' := [(0, .ref a0), (1, .int y39), (2, .int v2)]) [1, 0, 2] 26 rfl dX5_accountsForCloth_25 (Nat.le_of_ble_eq_true rfl) rfl ?_
      refine r_iinc C.1 (lv' := [(0, .ref a0), (1, .int y39), (2, .int (v2 + 1))]) 2 [1, 2, 0] 29 rfl dX5_accountsForCloth_26 rfl (Nat.le_of_ble_eq_true rfl) rfl rfl ?_
      refine r_goto C.1 12 dX5_accountsForCloth_29 rfl ?_
      exact ih y39 (v2 + 1) h
set_option maxRecDepth 20000 in
theorem w_X5_accountsForCloth_0 {F : jFm} (C : jB F RX5 cX5_accountsForCloth 3 (some .boolean) 2 0 0 43) {κ : jKt} {a0 : Nat} (ha0 : jSof F a0 = (1, 9, 11)) {r : Int32} (hq : jOut F (some (.int r)) κ) (h : P_X5_accountsForCloth κ a0 = some r) : jW F 3 0 0 κ 0 [(0, .ref a0)] [] := by
  unfold P_X5_accountsForCloth at h
  refine r_aload_n C.1 0 1 rfl dX5_accountsForCloth_0 rfl ?_
  refine r_getI C.1 8 fl_X5_43 rfl ha0 4 rfl dX5_accountsForCloth_1 ?_
  refine r_aload_n C.1 0 5 rfl dX5_accountsForCloth_4 rfl ?_
  refine r_getI C.1 7 fl_X5_40 rfl ha0 8 rfl dX5_accountsForCloth_5 ?_
  refine r_iadd C.1 9 rfl dX5_accountsForCloth_8 ?_
  obtain ⟨y41, e42, h⟩ := bnd_some h
  refine r_top e42 ?_
  refine r_istore_n C.1 (lv' := [(0, .ref a0), (1, .int y41)]) [1, 0] 10 rfl dX5_accountsForCloth_9 (Nat.le_of_ble_eq_true rfl) rfl ?_
  refine r_iconst C.1 0 rfl 11 rfl dX5_accountsForCloth_10 ?_
  refine r_istore_n C.1 (lv' := [(0, .ref a0), (1, .int y41), (2, .int 0)]) [1, 2, 0] 12 rfl dX5_accountsForCloth_11 (Nat.le_of_ble_eq_true rfl) rfl ?_
  exact w_X5_accountsForCloth_12 C ha0 hq 4000 y41 0 h
theorem c_X5_accountsForCloth {l : Launch} {G : jG} {sh : jSh} {κ : jKt} {a0 : Nat} (ha0 : sh a0 = (1, 9, 11)) {r : Int32} (h : P_X5_accountsForCloth κ a0 = some r) : jM l G yX5_accountsForCloth cX5_accountsForCloth 3 (some .boolean) 2 0 0 43 [.ref a0] (sh, κ) (jIs (some (.int r)) (sh, κ)) jNo :=
  r_body (by decide) (Nat.le_of_ble_eq_true rfl) fun F C hl hG hs ho hx => by
    subst hs
    exact w_X5_accountsForCloth_0 C ha0 (by rw [ho]; exact ⟨rfl, rfl⟩) h
set_option maxRecDepth 20000 in
theorem w_X5_storeCloth_0 {F : jFm} (C : jB F RX5 cX5_storeCloth 3 (some .int) 1 0 0 21) {κ : jKt} {a0 : Nat} (ha0 : jSof F a0 = (1, 9, 11)) {x1 : Int32} {x2 : Int32} {r : Int32 × jKt} (hq : jOut F (some (.int r.1)) r.2) (h : P_X5_storeCloth κ a0 x1 x2 = some r) : jW F 3 0 0 κ 0 [(0, .ref a0), (1, .int x1), (2, .int x2)] [] := by
  unfold P_X5_storeCloth at h
  refine r_aload_n C.1 0 1 rfl dX5_storeCloth_0 rfl ?_
  refine r_iload_n C.1 1 2 rfl dX5_storeCloth_1 rfl ?_
  obtain ⟨y36, e35, h⟩ := bd_some h
  refine r_cVi C.1 (st := []) (c_X5_hasCloth ha0 e35) yv_X5_hasCloth ml_X5_116 rfl ha0 rfl ⟨Nat.le_of_ble_eq_true rfl, Nat.le_of_ble_eq_true rfl⟩ ⟨Nat.le_of_ble_eq_true rfl, Nat.le_of_ble_eq_true rfl⟩ (Nat.le_of_ble_eq_true rfl) rfl 0 0 rfl rfl 5 rfl dX5_storeCloth_2 ?_
  refine r_if_ne C.1 11 8 rfl dX5_storeCloth_5 rfl ⟨fun c37 => ?_, fun c37 => ?_⟩
  · have h := if_some_f c37 h
    refine r_iload_n C.1 2 12 rfl dX5_storeCloth_11 rfl ?_
    refine r_iconst C.1 1 rfl 13 rfl dX5_storeCloth_12 ?_
    refine r_icmp_lt C.1 23 16 rfl dX5_storeCloth_13 rfl ⟨fun c38 => ?_, fun c38 => ?_⟩
    · have h := if_some_t c38 h
      refine r_bipush C.1 (-3) rfl 25 rfl dX5_storeCloth_23 ?_
      cases h
      exact r_zret C rfl rfl (Nat.le_of_ble_eq_true rfl) (Nat.le_of_ble_eq_true rfl) dX5_storeCloth_25 hq
    · have h := if_some_f c38 h
      refine r_iload_n C.1 2 17 rfl dX5_storeCloth_16 rfl ?_
      refine r_sipush C.1 999 rfl 20 rfl dX5_storeCloth_17 ?_
      refine r_icmp_le C.1 26 23 rfl dX5_storeCloth_20 rfl ⟨fun c39 => ?_, fun c39 => ?_⟩
      · have h := if_some_t c39 h
        refine r_aload_n C.1 0 27 rfl dX5_storeCloth_26 rfl ?_
        refine r_getR C.1 0 fl_X5_9 rfl ha0 30 rfl dX5_storeCloth_27 (fun (h40 : jSof F (kR κ a0 0) = (2, 0, 4)) => ?_)
        refine r_iload_n C.1 1 31 rfl dX5_storeCloth_30 rfl ?_
        obtain ⟨i41, h⟩ := ck_some h
        refine r_iald C.1 h40 i41 32 rfl dX5_storeCloth_31 ?_
        refine r_iload_n C.1 2 33 rfl dX5_storeCloth_32 rfl ?_
        refine r_iadd C.1 34 rfl dX5_storeCloth_33 ?_
        refine r_sipush C.1 2000 rfl 37 rfl dX5_storeCloth_34 ?_
        refine r_icmp_le C.1 43 40 rfl dX5_storeCloth_37 rfl ⟨fun c42 => ?_, fun c42 => ?_⟩
        · have h := if_some_t c42 h
          refine r_aload_n C.1 0 44 rfl dX5_storeCloth_43 rfl ?_
          refine r_getR C.1 0 fl_X5_9 rfl ha0 47 rfl dX5_storeCloth_44 (fun (h43 : jSof F (kR κ a0 0) = (2, 0, 4)) => ?_)
          refine r_iload_n C.1 1 48 rfl dX5_storeCloth_47 rfl ?_
          refine r_dup2 C.1 rfl rfl 49 rfl dX5_storeCloth_48 ?_
          obtain ⟨i44, h⟩ := ck_some h
          refine r_iald C.1 h43 i44 50 rfl dX5_storeCloth_49 ?_
          refine r_iload_n C.1 2 51 rfl dX5_storeCloth_50 rfl ?_
          refine r_iadd C.1 52 rfl dX5_storeCloth_51 ?_
          obtain ⟨i45, h⟩ := ck_some h
          obtain ⟨κ46, e47, h⟩ := bnd_some h
          refine r_iast C.1 h43 i45 e47 53 rfl dX5_storeCloth_52 ?_
          refine r_aload_n C.1 0 54 rfl dX5_storeCloth_53 rfl ?_
          refine r_dup C.1 rfl 55 rfl dX5_storeCloth_54 ?_
          refine r_getI C.1 6 fl_X5_37 rfl ha0 58 rfl dX5_storeCloth_55 ?_
          refine r_iload_n C.1 2 59 rfl dX5_storeCloth_58 rfl ?_
          refine r_iadd C.1 60 rfl dX5_storeCloth_59 ?_
          obtain ⟨κ48, e49, h⟩ := bnd_some h
          refine r_putI C.1 6 fw_X5_37 rfl rfl rfl ha0 e49 63 rfl dX5_storeCloth_60 ?_
          refine r_aload_n C.1 0 64 rfl dX5_storeCloth_63 rfl ?_
          refine r_getR C.1 0 fl_X5_9 rfl ha0 67 rfl dX5_storeCloth_64 (fun (h50 : jSof F (kR κ48 a0 0) = (2, 0, 4)) => ?_)
          refine r_iload_n C.1 1 68 rfl dX5_storeCloth_67 rfl ?_
          obtain ⟨i51, h⟩ := ck_some h
          refine r_iald C.1 h50 i51 69 rfl dX5_storeCloth_68 ?_
          cases h
          exact r_zret C rfl rfl (Nat.le_of_ble_eq_true rfl) (Nat.le_of_ble_eq_true rfl) dX5_storeCloth_69 hq
        · have h := if_some_f c42 h
          refine r_bipush C.1 (-5) rfl 42 rfl dX5_storeCloth_40 ?_
          cases h
          exact r_zret C rfl rfl (Nat.le_of_ble_eq_true rfl) (Nat.le_of_ble_eq_true rfl) dX5_storeCloth_42 hq
      · have h := if_some_f c39 h
        refine r_bipush C.1 (-3) rfl 25 rfl dX5_storeCloth_23 ?_
        cases h
        exact r_zret C rfl rfl (Nat.le_of_ble_eq_true rfl) (Nat.le_of_ble_eq_true rfl) dX5_storeCloth_25 hq
  · have h := if_some_t c37 h
    refine r_bipush C.1 (-2) rfl 10 rfl dX5_storeCloth_8 ?_
    cases h
    exact r_zret C rfl rfl (Nat.le_of_ble_eq_true rfl) (Nat.le_of_ble_eq_true rfl) dX5_storeCloth_10 hq
theorem c_X5_storeCloth {l : Launch} {G : jG} {sh : jSh} {κ : jKt} {a0 : Nat} (ha0 : sh a0 = (1, 9, 11)) {x1 : Int32} {x2 : Int32} {r : Int32} {κr : jKt} (h : P_X5_storeCloth κ a0 x1 x2 = some (r, κr)) : jM l G yX5_storeCloth cX5_storeCloth 3 (some .int) 1 0 0 21 [.ref a0, .int x1, .int x2] (sh, κ) (jIs (some (.int r)) (sh, κr)) jNo :=
  r_body (by decide) (Nat.le_of_ble_eq_true rfl) fun F C hl hG hs ho hx => by
    subst hs
    exact w_X5_storeCloth_0 C ha0 (by rw [ho]; exact ⟨rfl, rfl⟩) h
set_option maxRecDepth 20000 in
theorem w_X5_isLegLength_0 {F : jFm} (C : jB F RX5 cX5_isLegLength 1 (some .boolean) 0 0 0 0) {κ : jKt} {x0 : Int32} {r : Int32} (hq : jOut F (some (.int r)) κ) (h : P_X5_isLegLength κ x0 = some r) : jW F 1 0 0 κ 0 [(0, .int x0)] [] := by
  unfold P_X5_isLegLength at h
  refine r_iload_n C.1 0 1 rfl dX5_isLegLength_0 rfl ?_
  refine r_bipush C.1 10 rfl 3 rfl dX5_isLegLength_1 ?_
  refine r_icmp_lt C.1 16 6 rfl dX5_isLegLength_3 rfl ⟨fun c5 => ?_, fun c5 => ?_⟩
  · have h := if_some_t c5 h
    refine r_iconst C.1 0 rfl 17 rfl dX5_isLegLength_16 ?_
    cases h
    exact r_zret C rfl rfl (Nat.le_of_ble_eq_true rfl) (Nat.le_of_ble_eq_true rfl) dX5_isLegLength_17 hq
  · have h := if_some_f c5 h
    refine r_iload_n C.1 0 7 rfl dX5_isLegLength_6 rfl ?_
    refine r_bipush C.1 60 rfl 9 rfl dX5_isLegLength_7 ?_
    refine r_icmp_gt C.1 16 12 rfl dX5_isLegLength_9 rfl ⟨fun c6 => ?_, fun c6 => ?_⟩
    · have h := if_some_t c6 h
      refine r_iconst C.1 0 rfl 17 rfl dX5_isLegLength_16 ?_
      cases h
      exact r_zret C rfl rfl (Nat.le_of_ble_eq_true rfl) (Nat.le_of_ble_eq_true rfl) dX5_isLegLength_17 hq
    · have h := if_some_f c6 h
      refine r_iconst C.1 1 rfl 13 rfl dX5_isLegLength_12 ?_
      refine r_goto C.1 17 dX5_isLegLength_13 rfl ?_
      cases h
      exact r_zret C rfl rfl (Nat.le_of_ble_eq_true rfl) (Nat.le_of_ble_eq_true rfl) dX5_isLegLength_17 hq
theorem c_X5_isLegLength {l : Launch} {G : jG} {sh : jSh} {κ : jKt} {x0 : Int32} {r : Int32} (h : P_X5_isLegLength κ x0 = some r) : jM l G yX5_isLegLength cX5_isLegLength 1 (some .boolean) 0 0 0 0 [.int x0] (sh, κ) (jIs (some (.int r)) (sh, κ)) jNo :=
  r_body (by decide) (Nat.le_of_ble_eq_true rfl) fun F C hl hG hs ho hx => by
    subst hs
    exact w_X5_isLegLength_0 C (by rw [ho]; exact ⟨rfl, rfl⟩) h
set_option maxRecDepth 20000 in
theorem w_X5_measure_0 {F : jFm} (C : jB F RX5 cX5_measure 5 (some .int) 1 0 0 21) {κ : jKt} {a0 : Nat} (ha0 : jSof F a0 = (1, 9, 11)) {x1 : Int32} {x2 : Int32} {x3 : Int32} {r : Int32 × jKt} (hq : jOut F (some (.int r.1)) r.2) (h : P_X5_measure κ a0 x1 x2 x3 = some r) : jW F 5 0 0 κ 0 [(0, .ref a0), (1, .int x1), (2, .int x2), (3, .int x3)] [] := by
  unfold P_X5_measure at h
  refine r_aload_n C.1 0 1 rfl dX5_measure_0 rfl ?_
  refine r_iload_n C.1 1 2 rfl dX5_measure_1 rfl ?_
  obtain ⟨y54, e53, h⟩ := bd_some h
  refine r_cVi C.1 (st := []) (c_X5_hasCustomer ha0 e53) yv_X5_hasCustomer ml_X5_127 rfl ha0 rfl ⟨Nat.le_of_ble_eq_true rfl, Nat.le_of_ble_eq_true rfl⟩ ⟨Nat.le_of_ble_eq_true rfl, Nat.le_of_ble_eq_true rfl⟩ (Nat.le_of_ble_eq_true rfl) rfl 0 0 rfl rfl 5 rfl dX5_measure_2 ?_
  refine r_if_eq C.1 21 8 rfl dX5_measure_5 rfl ⟨fun c55 => ?_, fun c55 => ?_⟩
  · have h := if_some_t c55 h
    refine r_bipush C.1 (-2) rfl 23 rfl dX5_measure_21 ?_
    cases h
    exact r_zret C rfl rfl (Nat.le_of_ble_eq_true rfl) (Nat.le_of_ble_eq_true rfl) dX5_measure_23 hq
  · have h := if_some_f c55 h
    refine r_aload_n C.1 0 9 rfl dX5_measure_8 rfl ?_
    refine r_getR C.1 1 fl_X5_17 rfl ha0 12 rfl dX5_measure_9 (fun (h56 : jSof F (kR κ a0 1) = (2, 5, 5)) => ?_)
    refine r_iload_n C.1 1 13 rfl dX5_measure_12 rfl ?_
    obtain ⟨i57, h⟩ := ck_some h
    refine r_aald C.1 rfl rfl h56 i57 14 rfl dX5_measure_13 (fun (h58 : jSof F (kR κ (kR κ a0 1) (ix x1)) = (1, 4, 2)) => ?_)
    refine r_iload_n C.1 2 15 rfl dX5_measure_14 rfl ?_
    obtain ⟨y60, e59, h⟩ := bd_some h
    refine r_cVi C.1 (st := []) (c_X0_hasLeg h58 e59) yv_X0_hasLeg ml_X5_130 rfl h58 rfl ⟨Nat.le_of_ble_eq_true rfl, Nat.le_of_ble_eq_true rfl⟩ ⟨Nat.le_of_ble_eq_true rfl, Nat.le_of_ble_eq_true rfl⟩ (Nat.le_of_ble_eq_true rfl) rfl 0 0 rfl rfl 18 rfl dX5_measure_15 ?_
    refine r_if_ne C.1 24 21 rfl dX5_measure_18 rfl ⟨fun c61 => ?_, fun c61 => ?_⟩
    · have h := if_some_f c61 h
      refine r_iload_n C.1 3 25 rfl dX5_measure_24 rfl ?_
      obtain ⟨y63, e62, h⟩ := bd_some h
      refine r_cSi C.1 (st := []) (c_X5_isLegLength e62) yv_X5_isLegLength ml_X5_120 rfl ⟨Nat.le_of_ble_eq_true rfl, Nat.le_of_ble_eq_true rfl⟩ ⟨Nat.le_of_ble_eq_true rfl, Nat.le_of_ble_eq_true rfl⟩ (Nat.le_of_ble_eq_true rfl) rfl 0 0 rfl rfl 28 rfl dX5_measure_25 ?_
      refine r_if_ne C.1 34 31 rfl dX5_measure_28 rfl ⟨fun c64 => ?_, fun c64 => ?_⟩
      · have h := if_some_f c64 h
        refine r_aload_n C.1 0 35 rfl dX5_measure_34 rfl ?_
        refine r_getR C.1 1 fl_X5_17 rfl ha0 38 rfl dX5_measure_35 (fun (h65 : jSof F (kR κ a0 1) = (2, 5, 5)) => ?_)
        refine r_iload_n C.1 1 39 rfl dX5_measure_38 rfl ?_
        obtain ⟨i66, h⟩ := ck_some h
        refine r_aald C.1 rfl rfl h65 i66 40 rfl dX5_measure_39 (fun (h67 : jSof F (kR κ (kR κ a0 1) (ix x1)) = (1, 4, 2)) => ?_)
        refine r_getR C.1 1 fl_X5_133 rfl h67 43 rfl dX5_measure_40 (fun (h68 : jSof F (kR κ (kR κ (kR κ a0 1) (ix x1)) 1) = (2, 0, 16)) => ?_)
        refine r_iload_n C.1 2 44 rfl dX5_measure_43 rfl ?_
        obtain ⟨i69, h⟩ := ck_some h
        refine r_iald C.1 h68 i69 45 rfl dX5_measure_44 ?_
        obtain ⟨y70, e71, h⟩ := bnd_some h
        refine r_top e71 ?_
        refine r_istore C.1 (lv' := [(0, .ref a0), (1, .int x1), (2, .int x2), (3, .int x3), (4, .int y70)]) [1, 2, 3, 4, 0] 47 rfl dX5_measure_45 (Nat.le_of_ble_eq_true rfl) rfl ?_
        refine r_aload_n C.1 0 48 rfl dX5_measure_47 rfl ?_
        refine r_getR C.1 1 fl_X5_17 rfl ha0 51 rfl dX5_measure_48 (fun (h72 : jSof F (kR κ a0 1) = (2, 5, 5)) => ?_)
        refine r_iload_n C.1 1 52 rfl dX5_measure_51 rfl ?_
        obtain ⟨i73, h⟩ := ck_some h
        refine r_aald C.1 rfl rfl h72 i73 53 rfl dX5_measure_52 (fun (h74 : jSof F (kR κ (kR κ a0 1) (ix x1)) = (1, 4, 2)) => ?_)
        refine r_getR C.1 1 fl_X5_133 rfl h74 56 rfl dX5_measure_53 (fun (h75 : jSof F (kR κ (kR κ (kR κ a0 1) (ix x1)) 1) = (2, 0, 16)) => ?_)
        refine r_iload_n C.1 2 57 rfl dX5_measure_56 rfl ?_
        refine r_iload_n C.1 3 58 rfl dX5_measure_57 rfl ?_
        obtain ⟨i76, h⟩ := ck_some h
        obtain ⟨κ77, e78, h⟩ := bnd_some h
        refine r_iast C.1 h75 i76 e78 59 rfl dX5_measure_58 ?_
        refine r_iload C.1 4 61 rfl dX5_measure_59 rfl ?_
        cases h
        exact r_zret C rfl rfl (Nat.le_of_ble_eq_true rfl) (Nat.le_of_ble_eq_true rfl) dX5_measure_61 hq
      · have h := if_some_t c64 h
        refine r_bipush C.1 (-3) rfl 33 rfl dX5_measure_31 ?_
        cases h
        exact r_zret C rfl rfl (Nat.le_of_ble_eq_true rfl) (Nat.le_of_ble_eq_true rfl) dX5_measure_33 hq
    · have h := if_some_t c61 h
      refine r_bipush C.1 (-2) rfl 23 rfl dX5_measure_21 ?_
      cases h
      exact r_zret C rfl rfl (Nat.le_of_ble_eq_true rfl) (Nat.le_of_ble_eq_true rfl) dX5_measure_23 hq
theorem c_X5_measure {l : Launch} {G : jG} {sh : jSh} {κ : jKt} {a0 : Nat} (ha0 : sh a0 = (1, 9, 11)) {x1 : Int32} {x2 : Int32} {x3 : Int32} {r : Int32} {κr : jKt} (h : P_X5_measure κ a0 x1 x2 x3 = some (r, κr)) : jM l G yX5_measure cX5_measure 5 (some .int) 1 0 0 21 [.ref a0, .int x1, .int x2, .int x3] (sh, κ) (jIs (some (.int r)) (sh, κr)) jNo :=
  r_body (by decide) (Nat.le_of_ble_eq_true rfl) fun F C hl hG hs ho hx => by
    subst hs
    exact w_X5_measure_0 C ha0 (by rw [ho]; exact ⟨rfl, rfl⟩) h
set_option maxRecDepth 20000 in
theorem w_X5_beginSuit_0 {F : jFm} (C : jB F RX5 cX5_beginSuit 3 (some .int) 1 0 0 25) {κ : jKt} {a0 : Nat} (ha0 : jSof F a0 = (1, 9, 11)) {x1 : Int32} {x2 : Int32} {r : Int32 × jKt} (hq : jOut F (some (.int r.1)) r.2) (h : P_X5_beginSuit κ a0 x1 x2 = some r) : jW F 3 0 0 κ 0 [(0, .ref a0), (1, .int x1), (2, .int x2)] [] := by
  unfold P_X5_beginSuit at h
  refine r_aload_n C.1 0 1 rfl dX5_beginSuit_0 rfl ?_
  refine r_iload_n C.1 1 2 rfl dX5_beginSuit_1 rfl ?_
  obtain ⟨y40, e39, h⟩ := bd_some h
  refine r_cVi C.1 (st := []) (c_X5_hasCustomer ha0 e39) yv_X5_hasCustomer ml_X5_127 rfl ha0 rfl ⟨Nat.le_of_ble_eq_true rfl, Nat.le_of_ble_eq_true rfl⟩ ⟨Nat.le_of_ble_eq_true rfl, Nat.le_of_ble_eq_true rfl⟩ (Nat.le_of_ble_eq_true rfl) rfl 0 0 rfl rfl 5 rfl dX5_beginSuit_2 ?_
  refine r_if_eq C.1 16 8 rfl dX5_beginSuit_5 rfl ⟨fun c41 => ?_, fun c41 => ?_⟩
  · have h := if_some_t c41 h
    refine r_bipush C.1 (-2) rfl 18 rfl dX5_beginSuit_16 ?_
    cases h
    exact r_zret C rfl rfl (Nat.le_of_ble_eq_true rfl) (Nat.le_of_ble_eq_true rfl) dX5_beginSuit_18 hq
  · have h := if_some_f c41 h
    refine r_aload_n C.1 0 9 rfl dX5_beginSuit_8 rfl ?_
    refine r_iload_n C.1 2 10 rfl dX5_beginSuit_9 rfl ?_
    obtain ⟨y43, e42, h⟩ := bd_some h
    refine r_cVi C.1 (st := []) (c_X5_hasCloth ha0 e42) yv_X5_hasCloth ml_X5_116 rfl ha0 rfl ⟨Nat.le_of_ble_eq_true rfl, Nat.le_of_ble_eq_true rfl⟩ ⟨Nat.le_of_ble_eq_true rfl, Nat.le_of_ble_eq_true rfl⟩ (Nat.le_of_ble_eq_true rfl) rfl 0 0 rfl rfl 13 rfl dX5_beginSuit_10 ?_
    refine r_if_ne C.1 19 16 rfl dX5_beginSuit_13 rfl ⟨fun c44 => ?_, fun c44 => ?_⟩
    · have h := if_some_f c44 h
      refine r_aload_n C.1 0 20 rfl dX5_beginSuit_19 rfl ?_
      refine r_getI C.1 4 fl_X5_31 rfl ha0 23 rfl dX5_beginSuit_20 ?_
      refine r_bipush C.1 6 rfl 25 rfl dX5_beginSuit_23 ?_
      refine r_icmp_ne C.1 31 28 rfl dX5_beginSuit_25 rfl ⟨fun c45 => ?_, fun c45 => ?_⟩
      · have h := if_some_f c45 h
        refine r_aload_n C.1 0 32 rfl dX5_beginSuit_31 rfl ?_
        refine r_getR C.1 3 fl_X5_27 rfl ha0 35 rfl dX5_beginSuit_32 (fun (h46 : jSof F (kR κ a0 3) = (2, 6, 6)) => ?_)
        refine r_aload_n C.1 0 36 rfl dX5_beginSuit_35 rfl ?_
        refine r_getI C.1 4 fl_X5_31 rfl ha0 39 rfl dX5_beginSuit_36 ?_
        obtain ⟨i47, h⟩ := ck_some h
        refine r_aald C.1 rfl rfl h46 i47 40 rfl dX5_beginSuit_39 (fun (h48 : jSof F (kR κ (kR κ a0 3) (ix (kI κ a0 4))) = (1, 8, 8)) => ?_)
        refine r_aload_n C.1 0 41 rfl dX5_beginSuit_40 rfl ?_
        refine r_getI C.1 5 fl_X5_34 rfl ha0 44 rfl dX5_beginSuit_41 ?_
        refine r_iload_n C.1 1 45 rfl dX5_beginSuit_44 rfl ?_
        refine r_iload_n C.1 2 46 rfl dX5_beginSuit_45 rfl ?_
        refine r_aload_n C.1 0 47 rfl dX5_beginSuit_46 rfl ?_
        refine r_getR C.1 1 fl_X5_17 rfl ha0 50 rfl dX5_beginSuit_47 (fun (h49 : jSof F (kR κ a0 1) = (2, 5, 5)) => ?_)
        refine r_iload_n C.1 1 51 rfl dX5_beginSuit_50 rfl ?_
        obtain ⟨i50, h⟩ := ck_some h
        refine r_aald C.1 rfl rfl h49 i50 52 rfl dX5_beginSuit_51 (fun (h51 : jSof F (kR κ (kR κ a0 1) (ix x1)) = (1, 4, 2)) => ?_)
        refine r_getI C.1 0 fl_X5_136 rfl h51 55 rfl dX5_beginSuit_52 ?_
        obtain ⟨κ53, e52, h⟩ := bd_some h
        refine r_cVv C.1 (st := []) (c_X4_begin h48 e52) yv_X4_begin ml_X5_139 rfl h48 rfl ⟨Nat.le_of_ble_eq_true rfl, Nat.le_of_ble_eq_true rfl⟩ ⟨Nat.le_of_ble_eq_true rfl, Nat.le_of_ble_eq_true rfl⟩ (Nat.le_of_ble_eq_true rfl) rfl 0 0 rfl rfl 58 rfl dX5_beginSuit_55 ?_
        refine r_aload_n C.1 0 59 rfl dX5_beginSuit_58 rfl ?_
        refine r_dup C.1 rfl 60 rfl dX5_beginSuit_59 ?_
        refine r_getI C.1 4 fl_X5_31 rfl ha0 63 rfl dX5_beginSuit_60 ?_
        refine r_iconst C.1 1 rfl 64 rfl dX5_beginSuit_63 ?_
        refine r_iadd C.1 65 rfl dX5_beginSuit_64 ?_
        obtain ⟨κ54, e55, h⟩ := bnd_some h
        refine r_putI C.1 4 fw_X5_31 rfl rfl rfl ha0 e55 68 rfl dX5_beginSuit_65 ?_
        refine r_aload_n C.1 0 69 rfl dX5_beginSuit_68 rfl ?_
        refine r_dup C.1 rfl 70 rfl dX5_beginSuit_69 ?_
        refine r_getI C.1 5 fl_X5_34 rfl ha0 73 rfl dX5_beginSuit_70 ?_
        refine r_iconst C.1 1 rfl 74 rfl dX5_beginSuit_73 ?_
        refine r_iadd C.1 75 rfl dX5_beginSuit_74 ?_
        obtain ⟨κ56, e57, h⟩ := bnd_some h
        refine r_putI C.1 5 fw_X5_34 rfl rfl rfl ha0 e57 78 rfl dX5_beginSuit_75 ?_
        refine r_aload_n C.1 0 79 rfl dX5_beginSuit_78 rfl ?_
        refine r_getI C.1 5 fl_X5_34 rfl ha0 82 rfl dX5_beginSuit_79 ?_
        refine r_iconst C.1 1 rfl 83 rfl dX5_beginSuit_82 ?_
        refine r_isub C.1 84 rfl dX5_beginSuit_83 ?_
        cases h
        exact r_zret C rfl rfl (Nat.le_of_ble_eq_true rfl) (Nat.le_of_ble_eq_true rfl) dX5_beginSuit_84 hq
      · have h := if_some_t c45 h
        refine r_bipush C.1 (-4) rfl 30 rfl dX5_beginSuit_28 ?_
        cases h
        exact r_zret C rfl rfl (Nat.le_of_ble_eq_true rfl) (Nat.le_of_ble_eq_true rfl) dX5_beginSuit_30 hq
    · have h := if_some_t c44 h
      refine r_bipush C.1 (-2) rfl 18 rfl dX5_beginSuit_16 ?_
      cases h
      exact r_zret C rfl rfl (Nat.le_of_ble_eq_true rfl) (Nat.le_of_ble_eq_true rfl) dX5_beginSuit_18 hq
theorem c_X5_beginSuit {l : Launch} {G : jG} {sh : jSh} {κ : jKt} {a0 : Nat} (ha0 : sh a0 = (1, 9, 11)) {x1 : Int32} {x2 : Int32} {r : Int32} {κr : jKt} (h : P_X5_beginSuit κ a0 x1 x2 = some (r, κr)) : jM l G yX5_beginSuit cX5_beginSuit 3 (some .int) 1 0 0 25 [.ref a0, .int x1, .int x2] (sh, κ) (jIs (some (.int r)) (sh, κr)) jNo :=
  r_body (by decide) (Nat.le_of_ble_eq_true rfl) fun F C hl hG hs ho hx => by
    subst hs
    exact w_X5_beginSuit_0 C ha0 (by rw [ho]; exact ⟨rfl, rfl⟩) h
set_option maxRecDepth 20000 in
theorem w_X5_cutSleeve_0 {F : jFm} (C : jB F RX5 cX5_cutSleeve 5 (some .int) 1 0 0 22) {κ : jKt} {a0 : Nat} (ha0 : jSof F a0 = (1, 9, 11)) {x1 : Int32} {x2 : Int32} {r : Int32 × jKt} (hq : jOut F (some (.int r.1)) r.2) (h : P_X5_cutSleeve κ a0 x1 x2 = some r) : jW F 5 0 0 κ 0 [(0, .ref a0), (1, .int x1), (2, .int x2)] [] := by
  unfold P_X5_cutSleeve at h
  refine r_aload_n C.1 0 1 rfl dX5_cutSleeve_0 rfl ?_
  refine r_iload_n C.1 1 2 rfl dX5_cutSleeve_1 rfl ?_
  rcases bdo_some h with ⟨e73, h⟩ | ⟨b74, e73, h⟩
  · refine r_cVn C.1 (st := []) (cn_X5_suitWithId ha0 e73) yv_X5_suitWithId ml_X5_142 rfl ha0 rfl ⟨Nat.le_of_ble_eq_true rfl, Nat.le_of_ble_eq_true rfl⟩ ⟨Nat.le_of_ble_eq_true rfl, Nat.le_of_ble_eq_true rfl⟩ (Nat.le_of_ble_eq_true rfl) rfl 0 0 rfl rfl 5 rfl dX5_cutSleeve_2 ?_
    refine r_astore_nN C.1 (lv' := [(0, .ref a0), (1, .int x1), (2, .int x2), (3, .null)]) [1, 2, 3, 0] 6 rfl dX5_cutSleeve_5 (Nat.le_of_ble_eq_true rfl) rfl ?_
    refine r_aload_nN C.1 3 7 rfl dX5_cutSleeve_6 rfl ?_
    refine r_ifnonnullN C.1 10 rfl dX5_cutSleeve_7 ?_
    refine r_iconst C.1 (-1) rfl 11 rfl dX5_cutSleeve_10 ?_
    cases h
    exact r_zret C rfl rfl (Nat.le_of_ble_eq_true rfl) (Nat.le_of_ble_eq_true rfl) dX5_cutSleeve_11 hq
  · refine r_cVr C.1 (st := []) (c_X5_suitWithId ha0 e73) yv_X5_suitWithId ml_X5_142 rfl ha0 rfl ⟨Nat.le_of_ble_eq_true rfl, Nat.le_of_ble_eq_true rfl⟩ ⟨Nat.le_of_ble_eq_true rfl, Nat.le_of_ble_eq_true rfl⟩ (Nat.le_of_ble_eq_true rfl) rfl 0 0 rfl rfl 5 rfl dX5_cutSleeve_2 (fun (h75 : jSof F b74 = (1, 8, 8)) => ?_)
    refine r_astore_n C.1 (lv' := [(0, .ref a0), (1, .int x1), (2, .int x2), (3, .ref b74)]) [1, 2, 3, 0] 6 rfl dX5_cutSleeve_5 (Nat.le_of_ble_eq_true rfl) rfl ?_
    refine r_aload_n C.1 3 7 rfl dX5_cutSleeve_6 rfl ?_
    refine r_ifnonnull C.1 12 dX5_cutSleeve_7 rfl ?_
    refine r_aload_n C.1 3 13 rfl dX5_cutSleeve_12 rfl ?_
    refine r_iload_n C.1 2 14 rfl dX5_cutSleeve_13 rfl ?_
    obtain ⟨y77, e76, h⟩ := bd_some h
    refine r_cVi C.1 (st := []) (c_X4_hasSleeve h75 e76) yv_X4_hasSleeve ml_X5_146 rfl h75 rfl ⟨Nat.le_of_ble_eq_true rfl, Nat.le_of_ble_eq_true rfl⟩ ⟨Nat.le_of_ble_eq_true rfl, Nat.le_of_ble_eq_true rfl⟩ (Nat.le_of_ble_eq_true rfl) rfl 0 0 rfl rfl 17 rfl dX5_cutSleeve_14 ?_
    refine r_if_ne C.1 23 20 rfl dX5_cutSleeve_17 rfl ⟨fun c78 => ?_, fun c78 => ?_⟩
    · have h := if_some_f c78 h
      refine r_aload_n C.1 3 24 rfl dX5_cutSleeve_23 rfl ?_
      refine r_iload_n C.1 2 25 rfl dX5_cutSleeve_24 rfl ?_
      obtain ⟨y80, e79, h⟩ := bd_some h
      refine r_cVi C.1 (st := []) (c_X4_isPlanned h75 e79) yv_X4_isPlanned ml_X5_149 rfl h75 rfl ⟨Nat.le_of_ble_eq_true rfl, Nat.le_of_ble_eq_true rfl⟩ ⟨Nat.le_of_ble_eq_true rfl, Nat.le_of_ble_eq_true rfl⟩ (Nat.le_of_ble_eq_true rfl) rfl 0 0 rfl rfl 28 rfl dX5_cutSleeve_25 ?_
      refine r_if_ne C.1 34 31 rfl dX5_cutSleeve_28 rfl ⟨fun c81 => ?_, fun c81 => ?_⟩
      · have h := if_some_f c81 h
        refine r_aload_n C.1 0 35 rfl dX5_cutSleeve_34 rfl ?_
        refine r_aload_n C.1 3 36 rfl dX5_cutSleeve_35 rfl ?_
        obtain ⟨b83, e82, h⟩ := bd_some h
        refine r_cVr C.1 (st := []) (c_X5_wearerOf ha0 h75 e82) yv_X5_wearerOf ml_X5_152 rfl ha0 rfl ⟨Nat.le_of_ble_eq_true rfl, Nat.le_of_ble_eq_true rfl⟩ ⟨Nat.le_of_ble_eq_true rfl, Nat.le_of_ble_eq_true rfl⟩ (Nat.le_of_ble_eq_true rfl) rfl 0 0 rfl rfl 39 rfl dX5_cutSleeve_36 (fun (h84 : jSof F b83 = (1, 4, 2)) => ?_)
        refine r_getR C.1 1 fl_X5_133 rfl h84 42 rfl dX5_cutSleeve_39 (fun (h85 : jSof F (kR κ b83 1) = (2, 0, 16)) => ?_)
        refine r_iload_n C.1 2 43 rfl dX5_cutSleeve_42 rfl ?_
        obtain ⟨i86, h⟩ := ck_some h
        refine r_iald C.1 h85 i86 44 rfl dX5_cutSleeve_43 ?_
        obtain ⟨y87, e88, h⟩ := bnd_some h
        refine r_top e88 ?_
        refine r_istore C.1 (lv' := [(0, .ref a0), (1, .int x1), (2, .int x2), (3, .ref b74), (4, .int y87)]) [1, 2, 3, 4, 0] 46 rfl dX5_cutSleeve_44 (Nat.le_of_ble_eq_true rfl) rfl ?_
        refine r_aload_n C.1 0 47 rfl dX5_cutSleeve_46 rfl ?_
        refine r_getR C.1 0 fl_X5_9 rfl ha0 50 rfl dX5_cutSleeve_47 (fun (h89 : jSof F (kR κ a0 0) = (2, 0, 4)) => ?_)
        refine r_aload_n C.1 3 51 rfl dX5_cutSleeve_50 rfl ?_
        refine r_getI C.1 2 fl_X5_156 rfl h75 54 rfl dX5_cutSleeve_51 ?_
        obtain ⟨i90, h⟩ := ck_some h
        refine r_iald C.1 h89 i90 55 rfl dX5_cutSleeve_54 ?_
        refine r_iload C.1 4 57 rfl dX5_cutSleeve_55 rfl ?_
        refine r_iconst C.1 2 rfl 58 rfl dX5_cutSleeve_57 ?_
        refine r_iadd C.1 59 rfl dX5_cutSleeve_58 ?_
        refine r_icmp_ge C.1 65 62 rfl dX5_cutSleeve_59 rfl ⟨fun c91 => ?_, fun c91 => ?_⟩
        · have h := if_some_t c91 h
          refine r_aload_n C.1 3 66 rfl dX5_cutSleeve_65 rfl ?_
          refine r_getR C.1 5 fl_X5_159 rfl h75 69 rfl dX5_cutSleeve_66 (fun (h92 : jSof F (kR κ b74 5) = (2, 1, 16)) => ?_)
          refine r_iload_n C.1 2 70 rfl dX5_cutSleeve_69 rfl ?_
          refine r_bipush C.1 99 rfl 72 rfl dX5_cutSleeve_70 ?_
          obtain ⟨i93, h⟩ := ck_some h
          obtain ⟨κ94, e95, h⟩ := bnd_some h
          refine r_cast C.1 h92 i93 (by decide) e95 73 rfl dX5_cutSleeve_72 ?_
          refine r_aload_n C.1 3 74 rfl dX5_cutSleeve_73 rfl ?_
          refine r_getR C.1 6 fl_X5_163 rfl h75 77 rfl dX5_cutSleeve_74 (fun (h96 : jSof F (kR κ94 b74 6) = (2, 0, 16)) => ?_)
          refine r_iload_n C.1 2 78 rfl dX5_cutSleeve_77 rfl ?_
          refine r_iload C.1 4 80 rfl dX5_cutSleeve_78 rfl ?_
          obtain ⟨i97, h⟩ := ck_some h
          obtain ⟨κ98, e99, h⟩ := bnd_some h
          refine r_iast C.1 h96 i97 e99 81 rfl dX5_cutSleeve_80 ?_
          refine r_aload_n C.1 0 82 rfl dX5_cutSleeve_81 rfl ?_
          refine r_getR C.1 0 fl_X5_9 rfl ha0 85 rfl dX5_cutSleeve_82 (fun (h100 : jSof F (kR κ98 a0 0) = (2, 0, 4)) => ?_)
          refine r_aload_n C.1 3 86 rfl dX5_cutSleeve_85 rfl ?_
          refine r_getI C.1 2 fl_X5_156 rfl h75 89 rfl dX5_cutSleeve_86 ?_
          obtain ⟨y101, e102, h⟩ := bnd_some h
          refine r_top e102 ?_
          refine r_dup2 C.1 rfl rfl 90 rfl dX5_cutSleeve_89 ?_
          obtain ⟨i103, h⟩ := ck_some h
          refine r_iald C.1 h100 i103 91 rfl dX5_cutSleeve_90 ?_
          refine r_iload C.1 4 93 rfl dX5_cutSleeve_91 rfl ?_
          refine r_iconst C.1 2 rfl 94 rfl dX5_cutSleeve_93 ?_
          refine r_iadd C.1 95 rfl dX5_cutSleeve_94 ?_
          refine r_isub C.1 96 rfl dX5_cutSleeve_95 ?_
          obtain ⟨i104, h⟩ := ck_some h
          obtain ⟨κ105, e106, h⟩ := bnd_some h
          refine r_iast C.1 h100 i104 e106 97 rfl dX5_cutSleeve_96 ?_
          refine r_aload_n C.1 0 98 rfl dX5_cutSleeve_97 rfl ?_
          refine r_getR C.1 0 fl_X5_9 rfl ha0 101 rfl dX5_cutSleeve_98 (fun (h107 : jSof F (kR κ105 a0 0) = (2, 0, 4)) => ?_)
          refine r_aload_n C.1 3 102 rfl dX5_cutSleeve_101 rfl ?_
          refine r_getI C.1 2 fl_X5_156 rfl h75 105 rfl dX5_cutSleeve_102 ?_
          obtain ⟨i108, h⟩ := ck_some h
          refine r_iald C.1 h107 i108 106 rfl dX5_cutSleeve_105 ?_
          cases h
          exact r_zret C rfl rfl (Nat.le_of_ble_eq_true rfl) (Nat.le_of_ble_eq_true rfl) dX5_cutSleeve_106 hq
        · have h := if_some_f c91 h
          refine r_bipush C.1 (-5) rfl 64 rfl dX5_cutSleeve_62 ?_
          cases h
          exact r_zret C rfl rfl (Nat.le_of_ble_eq_true rfl) (Nat.le_of_ble_eq_true rfl) dX5_cutSleeve_64 hq
      · have h := if_some_t c81 h
        refine r_bipush C.1 (-4) rfl 33 rfl dX5_cutSleeve_31 ?_
        cases h
        exact r_zret C rfl rfl (Nat.le_of_ble_eq_true rfl) (Nat.le_of_ble_eq_true rfl) dX5_cutSleeve_33 hq
    · have h := if_some_t c78 h
      refine r_bipush C.1 (-2) rfl 22 rfl dX5_cutSleeve_20 ?_
      cases h
      exact r_zret C rfl rfl (Nat.le_of_ble_eq_true rfl) (Nat.le_of_ble_eq_true rfl) dX5_cutSleeve_22 hq
theorem c_X5_cutSleeve {l : Launch} {G : jG} {sh : jSh} {κ : jKt} {a0 : Nat} (ha0 : sh a0 = (1, 9, 11)) {x1 : Int32} {x2 : Int32} {r : Int32} {κr : jKt} (h : P_X5_cutSleeve κ a0 x1 x2 = some (r, κr)) : jM l G yX5_cutSleeve cX5_cutSleeve 5 (some .int) 1 0 0 22 [.ref a0, .int x1, .int x2] (sh, κ) (jIs (some (.int r)) (sh, κr)) jNo :=
  r_body (by decide) (Nat.le_of_ble_eq_true rfl) fun F C hl hG hs ho hx => by
    subst hs
    exact w_X5_cutSleeve_0 C ha0 (by rw [ho]; exact ⟨rfl, rfl⟩) h
set_option maxRecDepth 20000 in
theorem w_X5_sewSleeve_0 {F : jFm} (C : jB F RX5 cX5_sewSleeve 4 (some .int) 2 0 0 42) {κ : jKt} {a0 : Nat} (ha0 : jSof F a0 = (1, 9, 11)) {x1 : Int32} {x2 : Int32} {r : Int32 × jKt} (hq : jOut F (some (.int r.1)) r.2) (h : P_X5_sewSleeve κ a0 x1 x2 = some r) : jW F 4 0 0 κ 0 [(0, .ref a0), (1, .int x1), (2, .int x2)] [] := by
  unfold P_X5_sewSleeve at h
  refine r_aload_n C.1 0 1 rfl dX5_sewSleeve_0 rfl ?_
  refine r_iload_n C.1 1 2 rfl dX5_sewSleeve_1 rfl ?_
  rcases bdo_some h with ⟨e41, h⟩ | ⟨b42, e41, h⟩
  · refine r_cVn C.1 (st := []) (cn_X5_suitWithId ha0 e41) yv_X5_suitWithId ml_X5_142 rfl ha0 rfl ⟨Nat.le_of_ble_eq_true rfl, Nat.le_of_ble_eq_true rfl⟩ ⟨Nat.le_of_ble_eq_true rfl, Nat.le_of_ble_eq_true rfl⟩ (Nat.le_of_ble_eq_true rfl) rfl 0 0 rfl rfl 5 rfl dX5_sewSleeve_2 ?_
    refine r_astore_nN C.1 (lv' := [(0, .ref a0), (1, .int x1), (2, .int x2), (3, .null)]) [1, 2, 3, 0] 6 rfl dX5_sewSleeve_5 (Nat.le_of_ble_eq_true rfl) rfl ?_
    refine r_aload_nN C.1 3 7 rfl dX5_sewSleeve_6 rfl ?_
    refine r_ifnonnullN C.1 10 rfl dX5_sewSleeve_7 ?_
    refine r_iconst C.1 (-1) rfl 11 rfl dX5_sewSleeve_10 ?_
    cases h
    exact r_zret C rfl rfl (Nat.le_of_ble_eq_true rfl) (Nat.le_of_ble_eq_true rfl) dX5_sewSleeve_11 hq
  · refine r_cVr C.1 (st := []) (c_X5_suitWithId ha0 e41) yv_X5_suitWithId ml_X5_142 rfl ha0 rfl ⟨Nat.le_of_ble_eq_true rfl, Nat.le_of_ble_eq_true rfl⟩ ⟨Nat.le_of_ble_eq_true rfl, Nat.le_of_ble_eq_true rfl⟩ (Nat.le_of_ble_eq_true rfl) rfl 0 0 rfl rfl 5 rfl dX5_sewSleeve_2 (fun (h43 : jSof F b42 = (1, 8, 8)) => ?_)
    refine r_astore_n C.1 (lv' := [(0, .ref a0), (1, .int x1), (2, .int x2), (3, .ref b42)]) [1, 2, 3, 0] 6 rfl dX5_sewSleeve_5 (Nat.le_of_ble_eq_true rfl) rfl ?_
    refine r_aload_n C.1 3 7 rfl dX5_sewSleeve_6 rfl ?_
    refine r_ifnonnull C.1 12 dX5_sewSleeve_7 rfl ?_
    refine r_aload_n C.1 3 13 rfl dX5_sewSleeve_12 rfl ?_
    refine r_iload_n C.1 2 14 rfl dX5_sewSleeve_13 rfl ?_
    obtain ⟨y45, e44, h⟩ := bd_some h
    refine r_cVi C.1 (st := []) (c_X4_hasSleeve h43 e44) yv_X4_hasSleeve ml_X5_146 rfl h43 rfl ⟨Nat.le_of_ble_eq_true rfl, Nat.le_of_ble_eq_true rfl⟩ ⟨Nat.le_of_ble_eq_true rfl, Nat.le_of_ble_eq_true rfl⟩ (Nat.le_of_ble_eq_true rfl) rfl 0 0 rfl rfl 17 rfl dX5_sewSleeve_14 ?_
    refine r_if_ne C.1 23 20 rfl dX5_sewSleeve_17 rfl ⟨fun c46 => ?_, fun c46 => ?_⟩
    · have h := if_some_f c46 h
      refine r_aload_n C.1 3 24 rfl dX5_sewSleeve_23 rfl ?_
      refine r_getR C.1 5 fl_X5_159 rfl h43 27 rfl dX5_sewSleeve_24 (fun (h47 : jSof F (kR κ b42 5) = (2, 1, 16)) => ?_)
      refine r_iload_n C.1 2 28 rfl dX5_sewSleeve_27 rfl ?_
      obtain ⟨i48, h⟩ := ck_some h
      refine r_cald C.1 h47 i48 29 rfl dX5_sewSleeve_28 ?_
      refine r_bipush C.1 99 rfl 31 rfl dX5_sewSleeve_29 ?_
      refine r_icmp_eq C.1 37 34 rfl dX5_sewSleeve_31 rfl ⟨fun c49 => ?_, fun c49 => ?_⟩
      · have h := if_some_t c49 h
        refine r_aload_n C.1 3 38 rfl dX5_sewSleeve_37 rfl ?_
        refine r_iload_n C.1 2 39 rfl dX5_sewSleeve_38 rfl ?_
        refine r_aload_n C.1 3 40 rfl dX5_sewSleeve_39 rfl ?_
        obtain ⟨y51, e50, h⟩ := bd_some h
        refine r_cVi C.1 (st := [.int x2, .ref b42]) (c_X4_sewnSet h43 e50) yv_X4_sewnSet ml_X5_166 rfl h43 rfl ⟨Nat.le_of_ble_eq_true rfl, Nat.le_of_ble_eq_true rfl⟩ ⟨Nat.le_of_ble_eq_true rfl, Nat.le_of_ble_eq_true rfl⟩ (Nat.le_of_ble_eq_true rfl) rfl 0 0 rfl rfl 43 rfl dX5_sewSleeve_40 ?_
        obtain ⟨y53, e52, h⟩ := bd_some h
        refine r_cVi C.1 (st := []) (c_X4_isHeldBack h43 e52) yv_X4_isHeldBack ml_X5_169 rfl h43 rfl ⟨Nat.le_of_ble_eq_true rfl, Nat.le_of_ble_eq_true rfl⟩ ⟨Nat.le_of_ble_eq_true rfl, Nat.le_of_ble_eq_true rfl⟩ (Nat.le_of_ble_eq_true rfl) rfl 0 0 rfl rfl 46 rfl dX5_sewSleeve_43 ?_
        refine r_if_eq C.1 52 49 rfl dX5_sewSleeve_46 rfl ⟨fun c54 => ?_, fun c54 => ?_⟩
        · have h := if_some_t c54 h
          refine r_aload_n C.1 3 53 rfl dX5_sewSleeve_52 rfl ?_
          refine r_getR C.1 5 fl_X5_159 rfl h43 56 rfl dX5_sewSleeve_53 (fun (h55 : jSof F (kR κ b42 5) = (2, 1, 16)) => ?_)
          refine r_iload_n C.1 2 57 rfl dX5_sewSleeve_56 rfl ?_
          refine r_bipush C.1 115 rfl 59 rfl dX5_sewSleeve_57 ?_
          obtain ⟨i56, h⟩ := ck_some h
          obtain ⟨κ57, e58, h⟩ := bnd_some h
          refine r_cast C.1 h55 i56 (by decide) e58 60 rfl dX5_sewSleeve_59 ?_
          refine r_aload_n C.1 3 61 rfl dX5_sewSleeve_60 rfl ?_
          obtain ⟨y60, e59, h⟩ := bd_some h
          refine r_cVi C.1 (st := []) (c_X4_sewnCount h43 e59) yv_X4_sewnCount ml_X5_173 rfl h43 rfl ⟨Nat.le_of_ble_eq_true rfl, Nat.le_of_ble_eq_true rfl⟩ ⟨Nat.le_of_ble_eq_true rfl, Nat.le_of_ble_eq_true rfl⟩ (Nat.le_of_ble_eq_true rfl) rfl 0 0 rfl rfl 64 rfl dX5_sewSleeve_61 ?_
          cases h
          exact r_zret C rfl rfl (Nat.le_of_ble_eq_true rfl) (Nat.le_of_ble_eq_true rfl) dX5_sewSleeve_64 hq
        · have h := if_some_f c54 h
          refine r_bipush C.1 (-5) rfl 51 rfl dX5_sewSleeve_49 ?_
          cases h
          exact r_zret C rfl rfl (Nat.le_of_ble_eq_true rfl) (Nat.le_of_ble_eq_true rfl) dX5_sewSleeve_51 hq
      · have h := if_some_f c49 h
        refine r_bipush C.1 (-4) rfl 36 rfl dX5_sewSleeve_34 ?_
        cases h
        exact r_zret C rfl rfl (Nat.le_of_ble_eq_true rfl) (Nat.le_of_ble_eq_true rfl) dX5_sewSleeve_36 hq
    · have h := if_some_t c46 h
      refine r_bipush C.1 (-2) rfl 22 rfl dX5_sewSleeve_20 ?_
      cases h
      exact r_zret C rfl rfl (Nat.le_of_ble_eq_true rfl) (Nat.le_of_ble_eq_true rfl) dX5_sewSleeve_22 hq
theorem c_X5_sewSleeve {l : Launch} {G : jG} {sh : jSh} {κ : jKt} {a0 : Nat} (ha0 : sh a0 = (1, 9, 11)) {x1 : Int32} {x2 : Int32} {r : Int32} {κr : jKt} (h : P_X5_sewSleeve κ a0 x1 x2 = some (r, κr)) : jM l G yX5_sewSleeve cX5_sewSleeve 4 (some .int) 2 0 0 42 [.ref a0, .int x1, .int x2] (sh, κ) (jIs (some (.int r)) (sh, κr)) jNo :=
  r_body (by decide) (Nat.le_of_ble_eq_true rfl) fun F C hl hG hs ho hx => by
    subst hs
    exact w_X5_sewSleeve_0 C ha0 (by rw [ho]; exact ⟨rfl, rfl⟩) h
set_option maxRecDepth 20000 in
theorem w_X5_removeSuit_2 {F : jFm} (C : jB F RX5 cX5_removeSuit 4 none 0 0 0 0) {a0 : Nat} (ha0 : jSof F a0 = (1, 9, 11)) {v1 : Int32} {r : jKt} (hq : jOut F none r) : ∀ (n : Nat) (κ : jKt) (v2 : Int32), P_X5_removeSuit_2 a0 v1 n κ v2 = some r → jW F 4 0 0 κ 2 [(0, .ref a0), (1, .int v1), (2, .int v2)] [] := by
  intro n
  induction n with
  | zero => intro κ v2 h; cases h
  | succ n ih =>
    intro κ v2 h
    rw [P_X5_removeSuit_2] at h
    refine r_iload_n C.1 2 3 rfl dX5_removeSuit_2 rfl ?_
    refine r_iconst C.1 1 rfl 4 rfl dX5_removeSuit_3 ?_
    refine r_iadd C.1 5 rfl dX5_removeSuit_4 ?_
    refine r_aload_n C.1 0 6 rfl dX5_removeSuit_5 rfl ?_
    refine r_getI C.1 4 fl_X5_31 rfl ha0 9 rfl dX5_removeSuit_6 ?_
    refine r_icmp_ge C.1 61 12 rfl dX5_removeSuit_9 rfl ⟨fun c43 => ?_, fun c43 => ?_⟩
    · have h := if_some_t c43 h
      refine r_aload_n C.1 0 62 rfl dX5_removeSuit_61 rfl ?_
      refine r_dup C.1 rfl 63 rfl dX5_removeSuit_62 ?_
      refine r_getI C.1 4 fl_X5_31 rfl ha0 66 rfl dX5_removeSuit_63 ?_
      refine r_iconst C.1 1 rfl 67 rfl dX5_removeSuit_66 ?_
      refine r_isub C.1 68 rfl dX5_removeSuit_67 ?_
      obtain ⟨κ44, e45, h⟩ := bnd_some h
      refine r_putI C.1 4 fw_X5_31 rfl rfl rfl ha0 e45 71 rfl dX5_removeSuit_68 ?_
      cases h
      exact r_vret C rfl (Nat.le_of_ble_eq_true rfl) (Nat.le_of_ble_eq_true rfl) dX5_removeSuit_71 hq
    · have h := if_some_f c43 h
      refine r_aload_n C.1 0 13 rfl dX5_removeSuit_12 rfl ?_
      refine r_getR C.1 3 fl_X5_27 rfl ha0 16 rfl dX5_removeSuit_13 (fun (h46 : jSof F (kR κ a0 3) = (2, 6, 6)) => ?_)
      refine r_iload_n C.1 2 17 rfl dX5_removeSuit_16 rfl ?_
      obtain ⟨i47, h⟩ := ck_some h
      refine r_aald C.1 rfl rfl h46 i47 18 rfl dX5_removeSuit_17 (fun (h48 : jSof F (kR κ (kR κ a0 3) (ix v2)) = (1, 8, 8)) => ?_)
      refine r_getI C.1 0 fl_X5_67 rfl h48 21 rfl dX5_removeSuit_18 ?_
      refine r_iload_n C.1 1 22 rfl dX5_removeSuit_21 rfl ?_
      refine r_icmp_ne C.1 55 25 rfl dX5_removeSuit_22 rfl ⟨fun c49 => ?_, fun c49 => ?_⟩
      · have h := if_some_f c49 h
        refine r_iinc C.1 (lv' := [(0, .ref a0), (1, .int v1), (2, .int (v2 + 1))]) 2 [1, 2, 0] 58 rfl dX5_removeSuit_55 rfl (Nat.le_of_ble_eq_true rfl) rfl rfl ?_
        refine r_goto C.1 2 dX5_removeSuit_58 rfl ?_
        exact ih κ (v2 + 1) h
      · have h := if_some_t c49 h
        refine r_aload_n C.1 0 26 rfl dX5_removeSuit_25 rfl ?_
        refine r_getR C.1 3 fl_X5_27 rfl ha0 29 rfl dX5_removeSuit_26 (fun (h50 : jSof F (kR κ a0 3) = (2, 6, 6)) => ?_)
        refine r_iload_n C.1 2 30 rfl dX5_removeSuit_29 rfl ?_
        obtain ⟨i51, h⟩ := ck_some h
        refine r_aald C.1 rfl rfl h50 i51 31 rfl dX5_removeSuit_30 (fun (h52 : jSof F (kR κ (kR κ a0 3) (ix v2)) = (1, 8, 8)) => ?_)
        refine r_astore_n C.1 (lv' := [(0, .ref a0), (1, .int v1), (2, .int v2), (3, .ref (kR κ (kR κ a0 3) (ix v2)))]) [1, 2, 3, 0] 32 rfl dX5_removeSuit_31 (Nat.le_of_ble_eq_true rfl) rfl ?_
        refine r_aload_n C.1 0 33 rfl dX5_removeSuit_32 rfl ?_
        refine r_getR C.1 3 fl_X5_27 rfl ha0 36 rfl dX5_removeSuit_33 (fun (h53 : jSof F (kR κ a0 3) = (2, 6, 6)) => ?_)
        refine r_iload_n C.1 2 37 rfl dX5_removeSuit_36 rfl ?_
        refine r_aload_n C.1 0 38 rfl dX5_removeSuit_37 rfl ?_
        refine r_getR C.1 3 fl_X5_27 rfl ha0 41 rfl dX5_removeSuit_38 (fun (h54 : jSof F (kR κ a0 3) = (2, 6, 6)) => ?_)
        refine r_iload_n C.1 2 42 rfl dX5_removeSuit_41 rfl ?_
        refine r_iconst C.1 1 rfl 43 rfl dX5_removeSuit_42 ?_
        refine r_iadd C.1 44 rfl dX5_removeSuit_43 ?_
        obtain ⟨i55, h⟩ := ck_some h
        refine r_aald C.1 rfl rfl h54 i55 45 rfl dX5_removeSuit_44 (fun (h56 : jSof F (kR κ (kR κ a0 3) (ix (v2 + 1))) = (1, 8, 8)) => ?_)
        obtain ⟨i57, h⟩ := ck_some h
        obtain ⟨κ58, e59, h⟩ := bnd_some h
        refine r_aast C.1 8 rfl rfl rfl h56 h53 i57 e59 46 rfl dX5_removeSuit_45 ?_
        refine r_aload_n C.1 0 47 rfl dX5_removeSuit_46 rfl ?_
        refine r_getR C.1 3 fl_X5_27 rfl ha0 50 rfl dX5_removeSuit_47 (fun (h60 : jSof F (kR κ58 a0 3) = (2, 6, 6)) => ?_)
        refine r_iload_n C.1 2 51 rfl dX5_removeSuit_50 rfl ?_
        refine r_iconst C.1 1 rfl 52 rfl dX5_removeSuit_51 ?_
        refine r_iadd C.1 53 rfl dX5_removeSuit_52 ?_
        refine r_aload_n C.1 3 54 rfl dX5_removeSuit_53 rfl ?_
        obtain ⟨i61, h⟩ := ck_some h
        obtain ⟨κ62, e63, h⟩ := bnd_some h
        refine r_aast C.1 8 rfl rfl rfl h52 h60 i61 e63 55 rfl dX5_removeSuit_54 ?_
        refine r_iinc C.1 (lv' := [(0, .ref a0), (1, .int v1), (2, .int (v2 + 1)), (3, .ref (kR κ (kR κ a0 3) (ix v2)))]) 2 [1, 2, 0, 3] 58 rfl dX5_removeSuit_55 rfl (Nat.le_of_ble_eq_true rfl) rfl rfl ?_
        refine r_goto C.1 2 dX5_removeSuit_58 rfl ?_
        refine r_lv [0, 1, 2] rfl ?_
        exact ih κ62 (v2 + 1) h
set_option maxRecDepth 20000 in
theorem w_X5_removeSuit_0 {F : jFm} (C : jB F RX5 cX5_removeSuit 4 none 0 0 0 0) {κ : jKt} {a0 : Nat} (ha0 : jSof F a0 = (1, 9, 11)) {x1 : Int32} {r : jKt} (hq : jOut F none r) (h : P_X5_removeSuit κ a0 x1 = some r) : jW F 4 0 0 κ 0 [(0, .ref a0), (1, .int x1)] [] := by
  unfold P_X5_removeSuit at h
  refine r_iconst C.1 0 rfl 1 rfl dX5_removeSuit_0 ?_
  refine r_istore_n C.1 (lv' := [(0, .ref a0), (1, .int x1), (2, .int 0)]) [1, 2, 0] 2 rfl dX5_removeSuit_1 (Nat.le_of_ble_eq_true rfl) rfl ?_
  exact w_X5_removeSuit_2 C ha0 hq 4000 κ 0 h
theorem c_X5_removeSuit {l : Launch} {G : jG} {sh : jSh} {κ : jKt} {a0 : Nat} (ha0 : sh a0 = (1, 9, 11)) {x1 : Int32}  {κr : jKt} (h : P_X5_removeSuit κ a0 x1 = some κr) : jM l G yX5_removeSuit cX5_removeSuit 4 none 0 0 0 0 [.ref a0, .int x1] (sh, κ) (jIs none (sh, κr)) jNo :=
  r_body (by decide) (Nat.le_of_ble_eq_true rfl) fun F C hl hG hs ho hx => by
    subst hs
    exact w_X5_removeSuit_0 C ha0 (by rw [ho]; exact ⟨rfl, rfl⟩) h
set_option maxRecDepth 20000 in
theorem w_X5_customerAtRank_2 {F : jFm} (C : jB F RX5 cX5_customerAtRank 3 (some .int) 2 0 0 47) {κ : jKt} {a0 : Nat} (ha0 : jSof F a0 = (1, 9, 11)) {v1 : Int32} {r : Int32} (hq : jOut F (some (.int r)) κ) : ∀ (n : Nat) (v2 : Int32), P_X5_customerAtRank_2 κ a0 v1 n v2 = some r → jW F 3 0 0 κ 2 [(0, .ref a0), (1, .int v1), (2, .int v2)] [] := by
  intro n
  induction n with
  | zero => intro v2 h; cases h
  | succ n ih =>
    intro v2 h
    rw [P_X5_customerAtRank_2] at h
    refine r_iload_n C.1 2 3 rfl dX5_customerAtRank_2 rfl ?_
    refine r_aload_n C.1 0 4 rfl dX5_customerAtRank_3 rfl ?_
    refine r_getI C.1 2 fl_X5_21 rfl ha0 7 rfl dX5_customerAtRank_4 ?_
    refine r_icmp_ge C.1 27 10 rfl dX5_customerAtRank_7 rfl ⟨fun c9 => ?_, fun c9 => ?_⟩
    · have h := if_some_t c9 h
      refine r_iconst C.1 (-1) rfl 28 rfl dX5_customerAtRank_27 ?_
      cases h
      exact r_zret C rfl rfl (Nat.le_of_ble_eq_true rfl) (Nat.le_of_ble_eq_true rfl) dX5_customerAtRank_28 hq
    · have h := if_some_f c9 h
      refine r_aload_n C.1 0 11 rfl dX5_customerAtRank_10 rfl ?_
      refine r_iload_n C.1 2 12 rfl dX5_customerAtRank_11 rfl ?_
      obtain ⟨y11, e10, h⟩ := bd_some h
      refine r_cVi C.1 (st := []) (c_X5_rankOf ha0 e10) yv_X5_rankOf ml_X5_73 rfl ha0 rfl ⟨Nat.le_of_ble_eq_true rfl, Nat.le_of_ble_eq_true rfl⟩ ⟨Nat.le_of_ble_eq_true rfl, Nat.le_of_ble_eq_true rfl⟩ (Nat.le_of_ble_eq_true rfl) rfl 0 0 rfl rfl 15 rfl dX5_customerAtRank_12 ?_
      refine r_iload_n C.1 1 16 rfl dX5_customerAtRank_15 rfl ?_
      refine r_icmp_ne C.1 21 19 rfl dX5_customerAtRank_16 rfl ⟨fun c12 => ?_, fun c12 => ?_⟩
      · have h := if_some_f c12 h
        refine r_iinc C.1 (lv' := [(0, .ref a0), (1, .int v1), (2, .int (v2 + 1))]) 2 [1, 2, 0] 24 rfl dX5_customerAtRank_21 rfl (Nat.le_of_ble_eq_true rfl) rfl rfl ?_
        refine r_goto C.1 2 dX5_customerAtRank_24 rfl ?_
        exact ih (v2 + 1) h
      · have h := if_some_t c12 h
        refine r_iload_n C.1 2 20 rfl dX5_customerAtRank_19 rfl ?_
        cases h
        exact r_zret C rfl rfl (Nat.le_of_ble_eq_true rfl) (Nat.le_of_ble_eq_true rfl) dX5_customerAtRank_20 hq
set_option maxRecDepth 20000 in
theorem w_X5_customerAtRank_0 {F : jFm} (C : jB F RX5 cX5_customerAtRank 3 (some .int) 2 0 0 47) {κ : jKt} {a0 : Nat} (ha0 : jSof F a0 = (1, 9, 11)) {x1 : Int32} {r : Int32} (hq : jOut F (some (.int r)) κ) (h : P_X5_customerAtRank κ a0 x1 = some r) : jW F 3 0 0 κ 0 [(0, .ref a0), (1, .int x1)] [] := by
  unfold P_X5_customerAtRank at h
  refine r_iconst C.1 0 rfl 1 rfl dX5_customerAtRank_0 ?_
  refine r_istore_n C.1 (lv' := [(0, .ref a0), (1, .int x1), (2, .int 0)]) [1, 2, 0] 2 rfl dX5_customerAtRank_1 (Nat.le_of_ble_eq_true rfl) rfl ?_
  exact w_X5_customerAtRank_2 C ha0 hq 4000 0 h
theorem c_X5_customerAtRank {l : Launch} {G : jG} {sh : jSh} {κ : jKt} {a0 : Nat} (ha0 : sh a0 = (1, 9, 11)) {x1 : Int32} {r : Int32} (h : P_X5_customerAtRank κ a0 x1 = some r) : jM l G yX5_customerAtRank cX5_customerAtRank 3 (some .int) 2 0 0 47 [.ref a0, .int x1] (sh, κ) (jIs (some (.int r)) (sh, κ)) jNo :=
  r_body (by decide) (Nat.le_of_ble_eq_true rfl) fun F C hl hG hs ho hx => by
    subst hs
    exact w_X5_customerAtRank_0 C ha0 (by rw [ho]; exact ⟨rfl, rfl⟩) h
set_option maxRecDepth 20000 in
theorem w_X5_welcome_0 {F : jFm} (C : jB F RX5 cX5_welcome 3 (some .int) 1 0 0 23) {κ : jKt} {a0 : Nat} (ha0 : jSof F a0 = (1, 9, 11)) {x1 : Int32} {x2 : Int32} {r : Int32 × jKt} (hq : jOut F (some (.int r.1)) r.2) (h : P_X5_welcome κ a0 x1 x2 = some r) : jW F 3 0 0 κ 0 [(0, .ref a0), (1, .int x1), (2, .int x2)] [] := by
  unfold P_X5_welcome at h
  refine r_iload_n C.1 1 1 rfl dX5_welcome_0 rfl ?_
  refine r_iconst C.1 1 rfl 2 rfl dX5_welcome_1 ?_
  refine r_icmp_lt C.1 18 5 rfl dX5_welcome_2 rfl ⟨fun c27 => ?_, fun c27 => ?_⟩
  · have h := if_some_t c27 h
    refine r_bipush C.1 (-3) rfl 20 rfl dX5_welcome_18 ?_
    cases h
    exact r_zret C rfl rfl (Nat.le_of_ble_eq_true rfl) (Nat.le_of_ble_eq_true rfl) dX5_welcome_20 hq
  · have h := if_some_f c27 h
    refine r_iload_n C.1 1 6 rfl dX5_welcome_5 rfl ?_
    refine r_bipush C.1 8 rfl 8 rfl dX5_welcome_6 ?_
    refine r_icmp_gt C.1 18 11 rfl dX5_welcome_8 rfl ⟨fun c28 => ?_, fun c28 => ?_⟩
    · have h := if_some_t c28 h
      refine r_bipush C.1 (-3) rfl 20 rfl dX5_welcome_18 ?_
      cases h
      exact r_zret C rfl rfl (Nat.le_of_ble_eq_true rfl) (Nat.le_of_ble_eq_true rfl) dX5_welcome_20 hq
    · have h := if_some_f c28 h
      refine r_iload_n C.1 2 12 rfl dX5_welcome_11 rfl ?_
      obtain ⟨y30, e29, h⟩ := bd_some h
      refine r_cSi C.1 (st := []) (c_X5_isLegLength e29) yv_X5_isLegLength ml_X5_120 rfl ⟨Nat.le_of_ble_eq_true rfl, Nat.le_of_ble_eq_true rfl⟩ ⟨Nat.le_of_ble_eq_true rfl, Nat.le_of_ble_eq_true rfl⟩ (Nat.le_of_ble_eq_true rfl) rfl 0 0 rfl rfl 15 rfl dX5_welcome_12 ?_
      refine r_if_ne C.1 21 18 rfl dX5_welcome_15 rfl ⟨fun c31 => ?_, fun c31 => ?_⟩
      · have h := if_some_f c31 h
        refine r_aload_n C.1 0 22 rfl dX5_welcome_21 rfl ?_
        refine r_getI C.1 2 fl_X5_21 rfl ha0 25 rfl dX5_welcome_22 ?_
        refine r_iconst C.1 5 rfl 26 rfl dX5_welcome_25 ?_
        refine r_icmp_ne C.1 32 29 rfl dX5_welcome_26 rfl ⟨fun c32 => ?_, fun c32 => ?_⟩
        · have h := if_some_f c32 h
          refine r_aload_n C.1 0 33 rfl dX5_welcome_32 rfl ?_
          refine r_getR C.1 1 fl_X5_17 rfl ha0 36 rfl dX5_welcome_33 (fun (h33 : jSof F (kR κ a0 1) = (2, 5, 5)) => ?_)
          refine r_aload_n C.1 0 37 rfl dX5_welcome_36 rfl ?_
          refine r_getI C.1 2 fl_X5_21 rfl ha0 40 rfl dX5_welcome_37 ?_
          obtain ⟨i34, h⟩ := ck_some h
          refine r_aald C.1 rfl rfl h33 i34 41 rfl dX5_welcome_40 (fun (h35 : jSof F (kR κ (kR κ a0 1) (ix (kI κ a0 2))) = (1, 4, 2)) => ?_)
          refine r_iload_n C.1 1 42 rfl dX5_welcome_41 rfl ?_
          refine r_iload_n C.1 2 43 rfl dX5_welcome_42 rfl ?_
          obtain ⟨κ37, e36, h⟩ := bd_some h
          refine r_cVv C.1 (st := []) (c_X0_begin h35 e36) yv_X0_begin ml_X5_123 rfl h35 rfl ⟨Nat.le_of_ble_eq_true rfl, Nat.le_of_ble_eq_true rfl⟩ ⟨Nat.le_of_ble_eq_true rfl, Nat.le_of_ble_eq_true rfl⟩ (Nat.le_of_ble_eq_true rfl) rfl 0 0 rfl rfl 46 rfl dX5_welcome_43 ?_
          refine r_aload_n C.1 0 47 rfl dX5_welcome_46 rfl ?_
          refine r_dup C.1 rfl 48 rfl dX5_welcome_47 ?_
          refine r_getI C.1 2 fl_X5_21 rfl ha0 51 rfl dX5_welcome_48 ?_
          refine r_iconst C.1 1 rfl 52 rfl dX5_welcome_51 ?_
          refine r_iadd C.1 53 rfl dX5_welcome_52 ?_
          obtain ⟨κ38, e39, h⟩ := bnd_some h
          refine r_putI C.1 2 fw_X5_21 rfl rfl rfl ha0 e39 56 rfl dX5_welcome_53 ?_
          refine r_aload_n C.1 0 57 rfl dX5_welcome_56 rfl ?_
          refine r_getI C.1 2 fl_X5_21 rfl ha0 60 rfl dX5_welcome_57 ?_
          refine r_iconst C.1 1 rfl 61 rfl dX5_welcome_60 ?_
          refine r_isub C.1 62 rfl dX5_welcome_61 ?_
          cases h
          exact r_zret C rfl rfl (Nat.le_of_ble_eq_true rfl) (Nat.le_of_ble_eq_true rfl) dX5_welcome_62 hq
        · have h := if_some_t c32 h
          refine r_bipush C.1 (-4) rfl 31 rfl dX5_welcome_29 ?_
          cases h
          exact r_zret C rfl rfl (Nat.le_of_ble_eq_true rfl) (Nat.le_of_ble_eq_true rfl) dX5_welcome_31 hq
      · have h := if_some_t c31 h
        refine r_bipush C.1 (-3) rfl 20 rfl dX5_welcome_18 ?_
        cases h
        exact r_zret C rfl rfl (Nat.le_of_ble_eq_true rfl) (Nat.le_of_ble_eq_true rfl) dX5_welcome_20 hq
theorem c_X5_welcome {l : Launch} {G : jG} {sh : jSh} {κ : jKt} {a0 : Nat} (ha0 : sh a0 = (1, 9, 11)) {x1 : Int32} {x2 : Int32} {r : Int32} {κr : jKt} (h : P_X5_welcome κ a0 x1 x2 = some (r, κr)) : jM l G yX5_welcome cX5_welcome 3 (some .int) 1 0 0 23 [.ref a0, .int x1, .int x2] (sh, κ) (jIs (some (.int r)) (sh, κr)) jNo :=
  r_body (by decide) (Nat.le_of_ble_eq_true rfl) fun F C hl hG hs ho hx => by
    subst hs
    exact w_X5_welcome_0 C ha0 (by rw [ho]; exact ⟨rfl, rfl⟩) h
set_option maxRecDepth 20000 in
theorem w_X5_unpickSleeve_0 {F : jFm} (C : jB F RX5 cX5_unpickSleeve 5 (some .int) 3 0 0 65) {κ : jKt} {a0 : Nat} (ha0 : jSof F a0 = (1, 9, 11)) {x1 : Int32} {x2 : Int32} {r : Int32 × jKt} (hq : jOut F (some (.int r.1)) r.2) (h : P_X5_unpickSleeve κ a0 x1 x2 = some r) : jW F 5 0 0 κ 0 [(0, .ref a0), (1, .int x1), (2, .int x2)] [] := by
  unfold P_X5_unpickSleeve at h
  refine r_aload_n C.1 0 1 rfl dX5_unpickSleeve_0 rfl ?_
  refine r_iload_n C.1 1 2 rfl dX5_unpickSleeve_1 rfl ?_
  rcases bdo_some h with ⟨e45, h⟩ | ⟨b46, e45, h⟩
  · refine r_cVn C.1 (st := []) (cn_X5_suitWithId ha0 e45) yv_X5_suitWithId ml_X5_142 rfl ha0 rfl ⟨Nat.le_of_ble_eq_true rfl, Nat.le_of_ble_eq_true rfl⟩ ⟨Nat.le_of_ble_eq_true rfl, Nat.le_of_ble_eq_true rfl⟩ (Nat.le_of_ble_eq_true rfl) rfl 0 0 rfl rfl 5 rfl dX5_unpickSleeve_2 ?_
    refine r_astore_nN C.1 (lv' := [(0, .ref a0), (1, .int x1), (2, .int x2), (3, .null)]) [1, 2, 3, 0] 6 rfl dX5_unpickSleeve_5 (Nat.le_of_ble_eq_true rfl) rfl ?_
    refine r_aload_nN C.1 3 7 rfl dX5_unpickSleeve_6 rfl ?_
    refine r_ifnonnullN C.1 10 rfl dX5_unpickSleeve_7 ?_
    refine r_iconst C.1 (-1) rfl 11 rfl dX5_unpickSleeve_10 ?_
    cases h
    exact r_zret C rfl rfl (Nat.le_of_ble_eq_true rfl) (Nat.le_of_ble_eq_true rfl) dX5_unpickSleeve_11 hq
  · refine r_cVr C.1 (st := []) (c_X5_suitWithId ha0 e45) yv_X5_suitWithId ml_X5_142 rfl ha0 rfl ⟨Nat.le_of_ble_eq_true rfl, Nat.le_of_ble_eq_true rfl⟩ ⟨Nat.le_of_ble_eq_true rfl, Nat.le_of_ble_eq_true rfl⟩ (Nat.le_of_ble_eq_true rfl) rfl 0 0 rfl rfl 5 rfl dX5_unpickSleeve_2 (fun (h47 : jSof F b46 = (1, 8, 8)) => ?_)
    refine r_astore_n C.1 (lv' := [(0, .ref a0), (1, .int x1), (2, .int x2), (3, .ref b46)]) [1, 2, 3, 0] 6 rfl dX5_unpickSleeve_5 (Nat.le_of_ble_eq_true rfl) rfl ?_
    refine r_aload_n C.1 3 7 rfl dX5_unpickSleeve_6 rfl ?_
    refine r_ifnonnull C.1 12 dX5_unpickSleeve_7 rfl ?_
    refine r_aload_n C.1 3 13 rfl dX5_unpickSleeve_12 rfl ?_
    refine r_iload_n C.1 2 14 rfl dX5_unpickSleeve_13 rfl ?_
    obtain ⟨y49, e48, h⟩ := bd_some h
    refine r_cVi C.1 (st := []) (c_X4_hasSleeve h47 e48) yv_X4_hasSleeve ml_X5_146 rfl h47 rfl ⟨Nat.le_of_ble_eq_true rfl, Nat.le_of_ble_eq_true rfl⟩ ⟨Nat.le_of_ble_eq_true rfl, Nat.le_of_ble_eq_true rfl⟩ (Nat.le_of_ble_eq_true rfl) rfl 0 0 rfl rfl 17 rfl dX5_unpickSleeve_14 ?_
    refine r_if_ne C.1 23 20 rfl dX5_unpickSleeve_17 rfl ⟨fun c50 => ?_, fun c50 => ?_⟩
    · have h := if_some_f c50 h
      refine r_aload_n C.1 3 24 rfl dX5_unpickSleeve_23 rfl ?_
      refine r_iload_n C.1 2 25 rfl dX5_unpickSleeve_24 rfl ?_
      obtain ⟨y52, e51, h⟩ := bd_some h
      refine r_cVi C.1 (st := []) (c_X4_isPlanned h47 e51) yv_X4_isPlanned ml_X5_149 rfl h47 rfl ⟨Nat.le_of_ble_eq_true rfl, Nat.le_of_ble_eq_true rfl⟩ ⟨Nat.le_of_ble_eq_true rfl, Nat.le_of_ble_eq_true rfl⟩ (Nat.le_of_ble_eq_true rfl) rfl 0 0 rfl rfl 28 rfl dX5_unpickSleeve_25 ?_
      refine r_if_eq C.1 34 31 rfl dX5_unpickSleeve_28 rfl ⟨fun c53 => ?_, fun c53 => ?_⟩
      · have h := if_some_t c53 h
        refine r_aload_n C.1 3 35 rfl dX5_unpickSleeve_34 rfl ?_
        refine r_iload_n C.1 2 36 rfl dX5_unpickSleeve_35 rfl ?_
        obtain ⟨y55, e54, h⟩ := bd_some h
        refine r_cVi C.1 (st := []) (c_X4_isNeededBySewn h47 e54) yv_X4_isNeededBySewn ml_X5_176 rfl h47 rfl ⟨Nat.le_of_ble_eq_true rfl, Nat.le_of_ble_eq_true rfl⟩ ⟨Nat.le_of_ble_eq_true rfl, Nat.le_of_ble_eq_true rfl⟩ (Nat.le_of_ble_eq_true rfl) rfl 0 0 rfl rfl 39 rfl dX5_unpickSleeve_36 ?_
        refine r_if_eq C.1 45 42 rfl dX5_unpickSleeve_39 rfl ⟨fun c56 => ?_, fun c56 => ?_⟩
        · have h := if_some_t c56 h
          refine r_aload_n C.1 3 46 rfl dX5_unpickSleeve_45 rfl ?_
          refine r_getR C.1 6 fl_X5_163 rfl h47 49 rfl dX5_unpickSleeve_46 (fun (h57 : jSof F (kR κ b46 6) = (2, 0, 16)) => ?_)
          refine r_iload_n C.1 2 50 rfl dX5_unpickSleeve_49 rfl ?_
          obtain ⟨i58, h⟩ := ck_some h
          refine r_iald C.1 h57 i58 51 rfl dX5_unpickSleeve_50 ?_
          refine r_iconst C.1 2 rfl 52 rfl dX5_unpickSleeve_51 ?_
          refine r_iadd C.1 53 rfl dX5_unpickSleeve_52 ?_
          obtain ⟨y59, e60, h⟩ := bnd_some h
          refine r_top e60 ?_
          refine r_istore C.1 (lv' := [(0, .ref a0), (1, .int x1), (2, .int x2), (3, .ref b46), (4, .int y59)]) [1, 2, 3, 4, 0] 55 rfl dX5_unpickSleeve_53 (Nat.le_of_ble_eq_true rfl) rfl ?_
          refine r_aload_n C.1 3 56 rfl dX5_unpickSleeve_55 rfl ?_
          refine r_getR C.1 5 fl_X5_159 rfl h47 59 rfl dX5_unpickSleeve_56 (fun (h61 : jSof F (kR κ b46 5) = (2, 1, 16)) => ?_)
          refine r_iload_n C.1 2 60 rfl dX5_unpickSleeve_59 rfl ?_
          refine r_bipush C.1 112 rfl 62 rfl dX5_unpickSleeve_60 ?_
          obtain ⟨i62, h⟩ := ck_some h
          obtain ⟨κ63, e64, h⟩ := bnd_some h
          refine r_cast C.1 h61 i62 (by decide) e64 63 rfl dX5_unpickSleeve_62 ?_
          refine r_aload_n C.1 0 64 rfl dX5_unpickSleeve_63 rfl ?_
          refine r_dup C.1 rfl 65 rfl dX5_unpickSleeve_64 ?_
          refine r_getI C.1 7 fl_X5_40 rfl ha0 68 rfl dX5_unpickSleeve_65 ?_
          refine r_iload C.1 4 70 rfl dX5_unpickSleeve_68 rfl ?_
          refine r_iadd C.1 71 rfl dX5_unpickSleeve_70 ?_
          obtain ⟨κ65, e66, h⟩ := bnd_some h
          refine r_putI C.1 7 fw_X5_40 rfl rfl rfl ha0 e66 74 rfl dX5_unpickSleeve_71 ?_
          refine r_iload C.1 4 76 rfl dX5_unpickSleeve_74 rfl ?_
          cases h
          exact r_zret C rfl rfl (Nat.le_of_ble_eq_true rfl) (Nat.le_of_ble_eq_true rfl) dX5_unpickSleeve_76 hq
        · have h := if_some_f c56 h
          refine r_bipush C.1 (-5) rfl 44 rfl dX5_unpickSleeve_42 ?_
          cases h
          exact r_zret C rfl rfl (Nat.le_of_ble_eq_true rfl) (Nat.le_of_ble_eq_true rfl) dX5_unpickSleeve_44 hq
      · have h := if_some_f c53 h
        refine r_bipush C.1 (-4) rfl 33 rfl dX5_unpickSleeve_31 ?_
        cases h
        exact r_zret C rfl rfl (Nat.le_of_ble_eq_true rfl) (Nat.le_of_ble_eq_true rfl) dX5_unpickSleeve_33 hq
    · have h := if_some_t c50 h
      refine r_bipush C.1 (-2) rfl 22 rfl dX5_unpickSleeve_20 ?_
      cases h
      exact r_zret C rfl rfl (Nat.le_of_ble_eq_true rfl) (Nat.le_of_ble_eq_true rfl) dX5_unpickSleeve_22 hq
theorem c_X5_unpickSleeve {l : Launch} {G : jG} {sh : jSh} {κ : jKt} {a0 : Nat} (ha0 : sh a0 = (1, 9, 11)) {x1 : Int32} {x2 : Int32} {r : Int32} {κr : jKt} (h : P_X5_unpickSleeve κ a0 x1 x2 = some (r, κr)) : jM l G yX5_unpickSleeve cX5_unpickSleeve 5 (some .int) 3 0 0 65 [.ref a0, .int x1, .int x2] (sh, κ) (jIs (some (.int r)) (sh, κr)) jNo :=
  r_body (by decide) (Nat.le_of_ble_eq_true rfl) fun F C hl hG hs ho hx => by
    subst hs
    exact w_X5_unpickSleeve_0 C ha0 (by rw [ho]; exact ⟨rfl, rfl⟩) h
set_option maxRecDepth 20000 in
theorem w_X5_addDemand_84 {F : jFm} (C : jB F RX5 cX5_addDemand 5 (some .int) 3 0 0 68) {κ : jKt} {v2 : Int32} {v3 : Int32} {a4 : Nat} (ha4 : jSof F a4 = (1, 8, 8)) {r : Int32 × jKt} (hq : jOut F (some (.int r.1)) r.2) (h : P_X5_addDemand_84 κ v2 v3 a4 = some r) : jW F 5 0 0 κ 84 [(2, .int v2), (3, .int v3), (4, .ref a4)] [] := by
  unfold P_X5_addDemand_84 at h
  refine r_aload C.1 2 86 rfl dX5_addDemand_84 rfl ?_
  refine r_iload_n C.1 1 87 rfl dX5_addDemand_86 rfl ?_
  refine r_iload_n C.1 0 88 rfl dX5_addDemand_87 rfl ?_
  obtain ⟨y54, e53, h⟩ := bd_some h
  refine r_cVi C.1 (st := []) (c_X4_comesBefore ha4 e53) yv_X4_comesBefore ml_X5_188 rfl ha4 rfl ⟨Nat.le_of_ble_eq_true rfl, Nat.le_of_ble_eq_true rfl⟩ ⟨Nat.le_of_ble_eq_true rfl, Nat.le_of_ble_eq_true rfl⟩ (Nat.le_of_ble_eq_true rfl) rfl 0 0 rfl rfl 91 rfl dX5_addDemand_88 ?_
  refine r_if_eq C.1 97 94 rfl dX5_addDemand_91 rfl ⟨fun c55 => ?_, fun c55 => ?_⟩
  · have h := if_some_t c55 h
    refine r_aload C.1 2 99 rfl dX5_addDemand_97 rfl ?_
    refine r_iload_n C.1 0 100 rfl dX5_addDemand_99 rfl ?_
    refine r_iload_n C.1 1 101 rfl dX5_addDemand_100 rfl ?_
    obtain ⟨y57, κ58, e56, h⟩ := bd2_some h
    refine r_cVi C.1 (st := []) (c_X4_addPair ha4 e56) yv_X4_addPair ml_X5_191 rfl ha4 rfl ⟨Nat.le_of_ble_eq_true rfl, Nat.le_of_ble_eq_true rfl⟩ ⟨Nat.le_of_ble_eq_true rfl, Nat.le_of_ble_eq_true rfl⟩ (Nat.le_of_ble_eq_true rfl) rfl 0 0 rfl rfl 104 rfl dX5_addDemand_101 ?_
    cases h
    exact r_zret C rfl rfl (Nat.le_of_ble_eq_true rfl) (Nat.le_of_ble_eq_true rfl) dX5_addDemand_104 hq
  · have h := if_some_f c55 h
    refine r_bipush C.1 (-5) rfl 96 rfl dX5_addDemand_94 ?_
    cases h
    exact r_zret C rfl rfl (Nat.le_of_ble_eq_true rfl) (Nat.le_of_ble_eq_true rfl) dX5_addDemand_96 hq
set_option maxRecDepth 20000 in
theorem w_X5_addDemand_0 {F : jFm} (C : jB F RX5 cX5_addDemand 5 (some .int) 3 0 0 68) {κ : jKt} {a0 : Nat} (ha0 : jSof F a0 = (1, 9, 11)) {x1 : Int32} {x2 : Int32} {x3 : Int32} {r : Int32 × jKt} (hq : jOut F (some (.int r.1)) r.2) (h : P_X5_addDemand κ a0 x1 x2 x3 = some r) : jW F 5 0 0 κ 0 [(0, .ref a0), (1, .int x1), (2, .int x2), (3, .int x3)] [] := by
  unfold P_X5_addDemand at h
  refine r_aload_n C.1 0 1 rfl dX5_addDemand_0 rfl ?_
  refine r_iload_n C.1 1 2 rfl dX5_addDemand_1 rfl ?_
  rcases bdo_some h with ⟨e59, h⟩ | ⟨b60, e59, h⟩
  · refine r_cVn C.1 (st := []) (cn_X5_suitWithId ha0 e59) yv_X5_suitWithId ml_X5_142 rfl ha0 rfl ⟨Nat.le_of_ble_eq_true rfl, Nat.le_of_ble_eq_true rfl⟩ ⟨Nat.le_of_ble_eq_true rfl, Nat.le_of_ble_eq_true rfl⟩ (Nat.le_of_ble_eq_true rfl) rfl 0 0 rfl rfl 5 rfl dX5_addDemand_2 ?_
    refine r_astoreN C.1 (lv' := [(0, .ref a0), (1, .int x1), (2, .int x2), (3, .int x3), (4, .null)]) [1, 2, 3, 4, 0] 7 rfl dX5_addDemand_5 (Nat.le_of_ble_eq_true rfl) rfl ?_
    refine r_aloadN C.1 4 9 rfl dX5_addDemand_7 rfl ?_
    refine r_ifnonnullN C.1 12 rfl dX5_addDemand_9 ?_
    refine r_iconst C.1 (-1) rfl 13 rfl dX5_addDemand_12 ?_
    cases h
    exact r_zret C rfl rfl (Nat.le_of_ble_eq_true rfl) (Nat.le_of_ble_eq_true rfl) dX5_addDemand_13 hq
  · refine r_cVr C.1 (st := []) (c_X5_suitWithId ha0 e59) yv_X5_suitWithId ml_X5_142 rfl ha0 rfl ⟨Nat.le_of_ble_eq_true rfl, Nat.le_of_ble_eq_true rfl⟩ ⟨Nat.le_of_ble_eq_true rfl, Nat.le_of_ble_eq_true rfl⟩ (Nat.le_of_ble_eq_true rfl) rfl 0 0 rfl rfl 5 rfl dX5_addDemand_2 (fun (h61 : jSof F b60 = (1, 8, 8)) => ?_)
    refine r_astore C.1 (lv' := [(0, .ref a0), (1, .int x1), (2, .int x2), (3, .int x3), (4, .ref b60)]) [1, 2, 3, 4, 0] 7 rfl dX5_addDemand_5 (Nat.le_of_ble_eq_true rfl) rfl ?_
    refine r_aload C.1 4 9 rfl dX5_addDemand_7 rfl ?_
    refine r_ifnonnull C.1 14 dX5_addDemand_9 rfl ?_
    refine r_aload C.1 4 16 rfl dX5_addDemand_14 rfl ?_
    refine r_iload_n C.1 2 17 rfl dX5_addDemand_16 rfl ?_
    obtain ⟨y63, e62, h⟩ := bd_some h
    refine r_cVi C.1 (st := []) (c_X4_hasSleeve h61 e62) yv_X4_hasSleeve ml_X5_146 rfl h61 rfl ⟨Nat.le_of_ble_eq_true rfl, Nat.le_of_ble_eq_true rfl⟩ ⟨Nat.le_of_ble_eq_true rfl, Nat.le_of_ble_eq_true rfl⟩ (Nat.le_of_ble_eq_true rfl) rfl 0 0 rfl rfl 20 rfl dX5_addDemand_17 ?_
    refine r_if_eq C.1 32 23 rfl dX5_addDemand_20 rfl ⟨fun c64 => ?_, fun c64 => ?_⟩
    · have h := if_some_t c64 h
      refine r_bipush C.1 (-2) rfl 34 rfl dX5_addDemand_32 ?_
      cases h
      exact r_zret C rfl rfl (Nat.le_of_ble_eq_true rfl) (Nat.le_of_ble_eq_true rfl) dX5_addDemand_34 hq
    · have h := if_some_f c64 h
      refine r_aload C.1 4 25 rfl dX5_addDemand_23 rfl ?_
      refine r_iload_n C.1 3 26 rfl dX5_addDemand_25 rfl ?_
      obtain ⟨y66, e65, h⟩ := bd_some h
      refine r_cVi C.1 (st := []) (c_X4_hasSleeve h61 e65) yv_X4_hasSleeve ml_X5_146 rfl h61 rfl ⟨Nat.le_of_ble_eq_true rfl, Nat.le_of_ble_eq_true rfl⟩ ⟨Nat.le_of_ble_eq_true rfl, Nat.le_of_ble_eq_true rfl⟩ (Nat.le_of_ble_eq_true rfl) rfl 0 0 rfl rfl 29 rfl dX5_addDemand_26 ?_
      refine r_if_ne C.1 35 32 rfl dX5_addDemand_29 rfl ⟨fun c67 => ?_, fun c67 => ?_⟩
      · have h := if_some_f c67 h
        refine r_iload_n C.1 2 36 rfl dX5_addDemand_35 rfl ?_
        refine r_iload_n C.1 3 37 rfl dX5_addDemand_36 rfl ?_
        refine r_icmp_ne C.1 43 40 rfl dX5_addDemand_37 rfl ⟨fun c68 => ?_, fun c68 => ?_⟩
        · have h := if_some_f c68 h
          refine r_aload C.1 4 45 rfl dX5_addDemand_43 rfl ?_
          refine r_iload_n C.1 2 46 rfl dX5_addDemand_45 rfl ?_
          refine r_iload_n C.1 3 47 rfl dX5_addDemand_46 rfl ?_
          obtain ⟨y70, e69, h⟩ := bd_some h
          refine r_cVi C.1 (st := []) (c_X4_hasDemand h61 e69) yv_X4_hasDemand ml_X5_179 rfl h61 rfl ⟨Nat.le_of_ble_eq_true rfl, Nat.le_of_ble_eq_true rfl⟩ ⟨Nat.le_of_ble_eq_true rfl, Nat.le_of_ble_eq_true rfl⟩ (Nat.le_of_ble_eq_true rfl) rfl 0 0 rfl rfl 50 rfl dX5_addDemand_47 ?_
          refine r_if_ne C.1 81 53 rfl dX5_addDemand_50 rfl ⟨fun c71 => ?_, fun c71 => ?_⟩
          · have h := if_some_f c71 h
            refine r_bipush C.1 (-4) rfl 83 rfl dX5_addDemand_81 ?_
            cases h
            exact r_zret C rfl rfl (Nat.le_of_ble_eq_true rfl) (Nat.le_of_ble_eq_true rfl) dX5_addDemand_83 hq
          · have h := if_some_t c71 h
            refine r_aload C.1 4 55 rfl dX5_addDemand_53 rfl ?_
            refine r_getI C.1 4 fl_X5_182 rfl h61 58 rfl dX5_addDemand_55 ?_
            refine r_bipush C.1 12 rfl 60 rfl dX5_addDemand_58 ?_
            refine r_icmp_eq C.1 81 63 rfl dX5_addDemand_60 rfl ⟨fun c72 => ?_, fun c72 => ?_⟩
            · have h := if_some_t c72 h
              refine r_bipush C.1 (-4) rfl 83 rfl dX5_addDemand_81 ?_
              cases h
              exact r_zret C rfl rfl (Nat.le_of_ble_eq_true rfl) (Nat.le_of_ble_eq_true rfl) dX5_addDemand_83 hq
            · have h := if_some_f c72 h
              refine r_aload C.1 4 65 rfl dX5_addDemand_63 rfl ?_
              refine r_iload_n C.1 3 66 rfl dX5_addDemand_65 rfl ?_
              obtain ⟨y74, e73, h⟩ := bd_some h
              refine r_cVi C.1 (st := []) (c_X4_isSewn h61 e73) yv_X4_isSewn ml_X5_185 rfl h61 rfl ⟨Nat.le_of_ble_eq_true rfl, Nat.le_of_ble_eq_true rfl⟩ ⟨Nat.le_of_ble_eq_true rfl, Nat.le_of_ble_eq_true rfl⟩ (Nat.le_of_ble_eq_true rfl) rfl 0 0 rfl rfl 69 rfl dX5_addDemand_66 ?_
              refine r_if_eq C.1 84 72 rfl dX5_addDemand_69 rfl ⟨fun c75 => ?_, fun c75 => ?_⟩
              · have h := if_some_t c75 h
                refine r_lv [2, 3, 4] rfl ?_
                exact w_X5_addDemand_84 C h61 hq h
              · have h := if_some_f c75 h
                refine r_aload C.1 4 74 rfl dX5_addDemand_72 rfl ?_
                refine r_iload_n C.1 2 75 rfl dX5_addDemand_74 rfl ?_
                obtain ⟨y77, e76, h⟩ := bd_some h
                refine r_cVi C.1 (st := []) (c_X4_isSewn h61 e76) yv_X4_isSewn ml_X5_185 rfl h61 rfl ⟨Nat.le_of_ble_eq_true rfl, Nat.le_of_ble_eq_true rfl⟩ ⟨Nat.le_of_ble_eq_true rfl, Nat.le_of_ble_eq_true rfl⟩ (Nat.le_of_ble_eq_true rfl) rfl 0 0 rfl rfl 78 rfl dX5_addDemand_75 ?_
                refine r_if_ne C.1 84 81 rfl dX5_addDemand_78 rfl ⟨fun c78 => ?_, fun c78 => ?_⟩
                · have h := if_some_f c78 h
                  refine r_lv [2, 3, 4] rfl ?_
                  exact w_X5_addDemand_84 C h61 hq h
                · have h := if_some_t c78 h
                  refine r_bipush C.1 (-4) rfl 83 rfl dX5_addDemand_81 ?_
                  cases h
                  exact r_zret C rfl rfl (Nat.le_of_ble_eq_true rfl) (Nat.le_of_ble_eq_true rfl) dX5_addDemand_83 hq
        · have h := if_some_t c68 h
          refine r_bipush C.1 (-3) rfl 42 rfl dX5_addDemand_40 ?_
          cases h
          exact r_zret C rfl rfl (Nat.le_of_ble_eq_true rfl) (Nat.le_of_ble_eq_true rfl) dX5_addDemand_42 hq
      · have h := if_some_t c67 h
        refine r_bipush C.1 (-2) rfl 34 rfl dX5_addDemand_32 ?_
        cases h
        exact r_zret C rfl rfl (Nat.le_of_ble_eq_true rfl) (Nat.le_of_ble_eq_true rfl) dX5_addDemand_34 hq
theorem c_X5_addDemand {l : Launch} {G : jG} {sh : jSh} {κ : jKt} {a0 : Nat} (ha0 : sh a0 = (1, 9, 11)) {x1 : Int32} {x2 : Int32} {x3 : Int32} {r : Int32} {κr : jKt} (h : P_X5_addDemand κ a0 x1 x2 x3 = some (r, κr)) : jM l G yX5_addDemand cX5_addDemand 5 (some .int) 3 0 0 68 [.ref a0, .int x1, .int x2, .int x3] (sh, κ) (jIs (some (.int r)) (sh, κr)) jNo :=
  r_body (by decide) (Nat.le_of_ble_eq_true rfl) fun F C hl hG hs ho hx => by
    subst hs
    exact w_X5_addDemand_0 C ha0 (by rw [ho]; exact ⟨rfl, rfl⟩) h
set_option maxRecDepth 20000 in
theorem w_X5_handOver_0 {F : jFm} (C : jB F RX5 cX5_handOver 4 (some .int) 3 0 0 66) {κ : jKt} {a0 : Nat} (ha0 : jSof F a0 = (1, 9, 11)) {x1 : Int32} {r : Int32 × jKt} (hq : jOut F (some (.int r.1)) r.2) (h : P_X5_handOver κ a0 x1 = some r) : jW F 4 0 0 κ 0 [(0, .ref a0), (1, .int x1)] [] := by
  unfold P_X5_handOver at h
  refine r_aload_n C.1 0 1 rfl dX5_handOver_0 rfl ?_
  refine r_iload_n C.1 1 2 rfl dX5_handOver_1 rfl ?_
  rcases bdo_some h with ⟨e49, h⟩ | ⟨b50, e49, h⟩
  · refine r_cVn C.1 (st := []) (cn_X5_suitWithId ha0 e49) yv_X5_suitWithId ml_X5_142 rfl ha0 rfl ⟨Nat.le_of_ble_eq_true rfl, Nat.le_of_ble_eq_true rfl⟩ ⟨Nat.le_of_ble_eq_true rfl, Nat.le_of_ble_eq_true rfl⟩ (Nat.le_of_ble_eq_true rfl) rfl 0 0 rfl rfl 5 rfl dX5_handOver_2 ?_
    refine r_astore_nN C.1 (lv' := [(0, .ref a0), (1, .int x1), (2, .null)]) [1, 2, 0] 6 rfl dX5_handOver_5 (Nat.le_of_ble_eq_true rfl) rfl ?_
    refine r_aload_nN C.1 2 7 rfl dX5_handOver_6 rfl ?_
    refine r_ifnonnullN C.1 10 rfl dX5_handOver_7 ?_
    refine r_iconst C.1 (-1) rfl 11 rfl dX5_handOver_10 ?_
    cases h
    exact r_zret C rfl rfl (Nat.le_of_ble_eq_true rfl) (Nat.le_of_ble_eq_true rfl) dX5_handOver_11 hq
  · refine r_cVr C.1 (st := []) (c_X5_suitWithId ha0 e49) yv_X5_suitWithId ml_X5_142 rfl ha0 rfl ⟨Nat.le_of_ble_eq_true rfl, Nat.le_of_ble_eq_true rfl⟩ ⟨Nat.le_of_ble_eq_true rfl, Nat.le_of_ble_eq_true rfl⟩ (Nat.le_of_ble_eq_true rfl) rfl 0 0 rfl rfl 5 rfl dX5_handOver_2 (fun (h51 : jSof F b50 = (1, 8, 8)) => ?_)
    refine r_astore_n C.1 (lv' := [(0, .ref a0), (1, .int x1), (2, .ref b50)]) [1, 2, 0] 6 rfl dX5_handOver_5 (Nat.le_of_ble_eq_true rfl) rfl ?_
    refine r_aload_n C.1 2 7 rfl dX5_handOver_6 rfl ?_
    refine r_ifnonnull C.1 12 dX5_handOver_7 rfl ?_
    refine r_aload_n C.1 2 13 rfl dX5_handOver_12 rfl ?_
    refine r_aload_n C.1 0 14 rfl dX5_handOver_13 rfl ?_
    refine r_aload_n C.1 2 15 rfl dX5_handOver_14 rfl ?_
    obtain ⟨b53, e52, h⟩ := bd_some h
    refine r_cVr C.1 (st := [.ref b50]) (c_X5_wearerOf ha0 h51 e52) yv_X5_wearerOf ml_X5_152 rfl ha0 rfl ⟨Nat.le_of_ble_eq_true rfl, Nat.le_of_ble_eq_true rfl⟩ ⟨Nat.le_of_ble_eq_true rfl, Nat.le_of_ble_eq_true rfl⟩ (Nat.le_of_ble_eq_true rfl) rfl 0 0 rfl rfl 18 rfl dX5_handOver_15 (fun (h54 : jSof F b53 = (1, 4, 2)) => ?_)
    obtain ⟨y56, e55, h⟩ := bd_some h
    refine r_cVi C.1 (st := []) (c_X4_isReadyFor h51 h54 e55) yv_X4_isReadyFor ml_X5_194 rfl h51 rfl ⟨Nat.le_of_ble_eq_true rfl, Nat.le_of_ble_eq_true rfl⟩ ⟨Nat.le_of_ble_eq_true rfl, Nat.le_of_ble_eq_true rfl⟩ (Nat.le_of_ble_eq_true rfl) rfl 0 0 rfl rfl 21 rfl dX5_handOver_18 ?_
    refine r_if_ne C.1 27 24 rfl dX5_handOver_21 rfl ⟨fun c57 => ?_, fun c57 => ?_⟩
    · have h := if_some_f c57 h
      refine r_aload_n C.1 2 28 rfl dX5_handOver_27 rfl ?_
      refine r_aload_n C.1 0 29 rfl dX5_handOver_28 rfl ?_
      refine r_aload_n C.1 2 30 rfl dX5_handOver_29 rfl ?_
      obtain ⟨b59, e58, h⟩ := bd_some h
      refine r_cVr C.1 (st := [.ref b50]) (c_X5_wearerOf ha0 h51 e58) yv_X5_wearerOf ml_X5_152 rfl ha0 rfl ⟨Nat.le_of_ble_eq_true rfl, Nat.le_of_ble_eq_true rfl⟩ ⟨Nat.le_of_ble_eq_true rfl, Nat.le_of_ble_eq_true rfl⟩ (Nat.le_of_ble_eq_true rfl) rfl 0 0 rfl rfl 33 rfl dX5_handOver_30 (fun (h60 : jSof F b59 = (1, 4, 2)) => ?_)
      obtain ⟨y62, e61, h⟩ := bd_some h
      refine r_cVi C.1 (st := []) (c_X4_priceFor h51 h60 e61) yv_X4_priceFor ml_X5_198 rfl h51 rfl ⟨Nat.le_of_ble_eq_true rfl, Nat.le_of_ble_eq_true rfl⟩ ⟨Nat.le_of_ble_eq_true rfl, Nat.le_of_ble_eq_true rfl⟩ (Nat.le_of_ble_eq_true rfl) rfl 0 0 rfl rfl 36 rfl dX5_handOver_33 ?_
      refine r_istore_n C.1 (lv' := [(0, .ref a0), (1, .int x1), (2, .ref b50), (3, .int y62)]) [1, 2, 3, 0] 37 rfl dX5_handOver_36 (Nat.le_of_ble_eq_true rfl) rfl ?_
      refine r_aload_n C.1 0 38 rfl dX5_handOver_37 rfl ?_
      refine r_dup C.1 rfl 39 rfl dX5_handOver_38 ?_
      refine r_getI C.1 8 fl_X5_43 rfl ha0 42 rfl dX5_handOver_39 ?_
      refine r_aload_n C.1 2 43 rfl dX5_handOver_42 rfl ?_
      obtain ⟨y64, e63, h⟩ := bd_some h
      refine r_cVi C.1 (st := [.int (kI κ a0 8), .ref a0]) (c_X4_clothInside h51 e63) yv_X4_clothInside ml_X5_81 rfl h51 rfl ⟨Nat.le_of_ble_eq_true rfl, Nat.le_of_ble_eq_true rfl⟩ ⟨Nat.le_of_ble_eq_true rfl, Nat.le_of_ble_eq_true rfl⟩ (Nat.le_of_ble_eq_true rfl) rfl 0 0 rfl rfl 46 rfl dX5_handOver_43 ?_
      refine r_iadd C.1 47 rfl dX5_handOver_46 ?_
      obtain ⟨κ65, e66, h⟩ := bnd_some h
      refine r_putI C.1 8 fw_X5_43 rfl rfl rfl ha0 e66 50 rfl dX5_handOver_47 ?_
      refine r_aload_n C.1 0 51 rfl dX5_handOver_50 rfl ?_
      refine r_dup C.1 rfl 52 rfl dX5_handOver_51 ?_
      refine r_getI C.1 9 fl_X5_46 rfl ha0 55 rfl dX5_handOver_52 ?_
      refine r_iload_n C.1 3 56 rfl dX5_handOver_55 rfl ?_
      refine r_iadd C.1 57 rfl dX5_handOver_56 ?_
      obtain ⟨κ67, e68, h⟩ := bnd_some h
      refine r_putI C.1 9 fw_X5_46 rfl rfl rfl ha0 e68 60 rfl dX5_handOver_57 ?_
      refine r_aload_n C.1 0 61 rfl dX5_handOver_60 rfl ?_
      refine r_dup C.1 rfl 62 rfl dX5_handOver_61 ?_
      refine r_getI C.1 10 fl_X5_49 rfl ha0 65 rfl dX5_handOver_62 ?_
      refine r_iconst C.1 1 rfl 66 rfl dX5_handOver_65 ?_
      refine r_iadd C.1 67 rfl dX5_handOver_66 ?_
      obtain ⟨κ69, e70, h⟩ := bnd_some h
      refine r_putI C.1 10 fw_X5_49 rfl rfl rfl ha0 e70 70 rfl dX5_handOver_67 ?_
      refine r_aload_n C.1 0 71 rfl dX5_handOver_70 rfl ?_
      refine r_iload_n C.1 1 72 rfl dX5_handOver_71 rfl ?_
      obtain ⟨κ72, e71, h⟩ := bd_some h
      refine r_cVv C.1 (st := []) (c_X5_removeSuit ha0 e71) yv_X5_removeSuit ml_X5_202 rfl ha0 rfl ⟨Nat.le_of_ble_eq_true rfl, Nat.le_of_ble_eq_true rfl⟩ ⟨Nat.le_of_ble_eq_true rfl, Nat.le_of_ble_eq_true rfl⟩ (Nat.le_of_ble_eq_true rfl) rfl 0 0 rfl rfl 75 rfl dX5_handOver_72 ?_
      refine r_iload_n C.1 3 76 rfl dX5_handOver_75 rfl ?_
      cases h
      exact r_zret C rfl rfl (Nat.le_of_ble_eq_true rfl) (Nat.le_of_ble_eq_true rfl) dX5_handOver_76 hq
    · have h := if_some_t c57 h
      refine r_bipush C.1 (-4) rfl 26 rfl dX5_handOver_24 ?_
      cases h
      exact r_zret C rfl rfl (Nat.le_of_ble_eq_true rfl) (Nat.le_of_ble_eq_true rfl) dX5_handOver_26 hq
theorem c_X5_handOver {l : Launch} {G : jG} {sh : jSh} {κ : jKt} {a0 : Nat} (ha0 : sh a0 = (1, 9, 11)) {x1 : Int32} {r : Int32} {κr : jKt} (h : P_X5_handOver κ a0 x1 = some (r, κr)) : jM l G yX5_handOver cX5_handOver 4 (some .int) 3 0 0 66 [.ref a0, .int x1] (sh, κ) (jIs (some (.int r)) (sh, κr)) jNo :=
  r_body (by decide) (Nat.le_of_ble_eq_true rfl) fun F C hl hG hs ho hx => by
    subst hs
    exact w_X5_handOver_0 C ha0 (by rw [ho]; exact ⟨rfl, rfl⟩) h
set_option maxRecDepth 20000 in
theorem w_X5_throwAway_0 {F : jFm} (C : jB F RX5 cX5_throwAway 4 (some .int) 2 0 0 43) {κ : jKt} {a0 : Nat} (ha0 : jSof F a0 = (1, 9, 11)) {x1 : Int32} {r : Int32 × jKt} (hq : jOut F (some (.int r.1)) r.2) (h : P_X5_throwAway κ a0 x1 = some r) : jW F 4 0 0 κ 0 [(0, .ref a0), (1, .int x1)] [] := by
  unfold P_X5_throwAway at h
  refine r_aload_n C.1 0 1 rfl dX5_throwAway_0 rfl ?_
  refine r_iload_n C.1 1 2 rfl dX5_throwAway_1 rfl ?_
  rcases bdo_some h with ⟨e19, h⟩ | ⟨b20, e19, h⟩
  · refine r_cVn C.1 (st := []) (cn_X5_suitWithId ha0 e19) yv_X5_suitWithId ml_X5_142 rfl ha0 rfl ⟨Nat.le_of_ble_eq_true rfl, Nat.le_of_ble_eq_true rfl⟩ ⟨Nat.le_of_ble_eq_true rfl, Nat.le_of_ble_eq_true rfl⟩ (Nat.le_of_ble_eq_true rfl) rfl 0 0 rfl rfl 5 rfl dX5_throwAway_2 ?_
    refine r_astore_nN C.1 (lv' := [(0, .ref a0), (1, .int x1), (2, .null)]) [1, 2, 0] 6 rfl dX5_throwAway_5 (Nat.le_of_ble_eq_true rfl) rfl ?_
    refine r_aload_nN C.1 2 7 rfl dX5_throwAway_6 rfl ?_
    refine r_ifnonnullN C.1 10 rfl dX5_throwAway_7 ?_
    refine r_iconst C.1 (-1) rfl 11 rfl dX5_throwAway_10 ?_
    cases h
    exact r_zret C rfl rfl (Nat.le_of_ble_eq_true rfl) (Nat.le_of_ble_eq_true rfl) dX5_throwAway_11 hq
  · refine r_cVr C.1 (st := []) (c_X5_suitWithId ha0 e19) yv_X5_suitWithId ml_X5_142 rfl ha0 rfl ⟨Nat.le_of_ble_eq_true rfl, Nat.le_of_ble_eq_true rfl⟩ ⟨Nat.le_of_ble_eq_true rfl, Nat.le_of_ble_eq_true rfl⟩ (Nat.le_of_ble_eq_true rfl) rfl 0 0 rfl rfl 5 rfl dX5_throwAway_2 (fun (h21 : jSof F b20 = (1, 8, 8)) => ?_)
    refine r_astore_n C.1 (lv' := [(0, .ref a0), (1, .int x1), (2, .ref b20)]) [1, 2, 0] 6 rfl dX5_throwAway_5 (Nat.le_of_ble_eq_true rfl) rfl ?_
    refine r_aload_n C.1 2 7 rfl dX5_throwAway_6 rfl ?_
    refine r_ifnonnull C.1 12 dX5_throwAway_7 rfl ?_
    refine r_aload_n C.1 2 13 rfl dX5_throwAway_12 rfl ?_
    obtain ⟨y23, e22, h⟩ := bd_some h
    refine r_cVi C.1 (st := []) (c_X4_clothInside h21 e22) yv_X4_clothInside ml_X5_81 rfl h21 rfl ⟨Nat.le_of_ble_eq_true rfl, Nat.le_of_ble_eq_true rfl⟩ ⟨Nat.le_of_ble_eq_true rfl, Nat.le_of_ble_eq_true rfl⟩ (Nat.le_of_ble_eq_true rfl) rfl 0 0 rfl rfl 16 rfl dX5_throwAway_13 ?_
    refine r_istore_n C.1 (lv' := [(0, .ref a0), (1, .int x1), (2, .ref b20), (3, .int y23)]) [1, 2, 3, 0] 17 rfl dX5_throwAway_16 (Nat.le_of_ble_eq_true rfl) rfl ?_
    refine r_aload_n C.1 0 18 rfl dX5_throwAway_17 rfl ?_
    refine r_dup C.1 rfl 19 rfl dX5_throwAway_18 ?_
    refine r_getI C.1 7 fl_X5_40 rfl ha0 22 rfl dX5_throwAway_19 ?_
    refine r_iload_n C.1 3 23 rfl dX5_throwAway_22 rfl ?_
    refine r_iadd C.1 24 rfl dX5_throwAway_23 ?_
    obtain ⟨κ24, e25, h⟩ := bnd_some h
    refine r_putI C.1 7 fw_X5_40 rfl rfl rfl ha0 e25 27 rfl dX5_throwAway_24 ?_
    refine r_aload_n C.1 0 28 rfl dX5_throwAway_27 rfl ?_
    refine r_iload_n C.1 1 29 rfl dX5_throwAway_28 rfl ?_
    obtain ⟨κ27, e26, h⟩ := bd_some h
    refine r_cVv C.1 (st := []) (c_X5_removeSuit ha0 e26) yv_X5_removeSuit ml_X5_202 rfl ha0 rfl ⟨Nat.le_of_ble_eq_true rfl, Nat.le_of_ble_eq_true rfl⟩ ⟨Nat.le_of_ble_eq_true rfl, Nat.le_of_ble_eq_true rfl⟩ (Nat.le_of_ble_eq_true rfl) rfl 0 0 rfl rfl 32 rfl dX5_throwAway_29 ?_
    refine r_iload_n C.1 3 33 rfl dX5_throwAway_32 rfl ?_
    cases h
    exact r_zret C rfl rfl (Nat.le_of_ble_eq_true rfl) (Nat.le_of_ble_eq_true rfl) dX5_throwAway_33 hq
theorem c_X5_throwAway {l : Launch} {G : jG} {sh : jSh} {κ : jKt} {a0 : Nat} (ha0 : sh a0 = (1, 9, 11)) {x1 : Int32} {r : Int32} {κr : jKt} (h : P_X5_throwAway κ a0 x1 = some (r, κr)) : jM l G yX5_throwAway cX5_throwAway 4 (some .int) 2 0 0 43 [.ref a0, .int x1] (sh, κ) (jIs (some (.int r)) (sh, κr)) jNo :=
  r_body (by decide) (Nat.le_of_ble_eq_true rfl) fun F C hl hG hs ho hx => by
    subst hs
    exact w_X5_throwAway_0 C ha0 (by rw [ho]; exact ⟨rfl, rfl⟩) h
set_option maxRecDepth 20000 in
theorem w_X5_perform_0 {F : jFm} (C : jB F RX5 cX5_perform 5 (some .int) 4 0 0 92) {κ : jKt} {a0 : Nat} (ha0 : jSof F a0 = (1, 9, 11)) {x1 : Int32} {x2 : Int32} {x3 : Int32} {x4 : Int32} {r : Int32 × jKt} (hq : jOut F (some (.int r.1)) r.2) (h : P_X5_perform κ a0 x1 x2 x3 x4 = some r) : jW F 5 0 0 κ 0 [(0, .ref a0), (1, .int x1), (2, .int x2), (3, .int x3), (4, .int x4)] [] := by
  unfold P_X5_perform at h
  refine r_iload_n C.1 1 1 rfl dX5_perform_0 rfl ?_
  by_cases c79 : x1 = 0
  · have h := if_some_t c79 h
    refine r_tableAt C.1 52 (x0 := 0) c79 dX5_perform_1 (by decide) (by decide) rfl rfl ?_
    refine r_aload_n C.1 0 53 rfl dX5_perform_52 rfl ?_
    refine r_iload_n C.1 2 54 rfl dX5_perform_53 rfl ?_
    refine r_iload_n C.1 3 55 rfl dX5_perform_54 rfl ?_
    obtain ⟨y81, κ82, e80, h⟩ := bd2_some h
    refine r_cVi C.1 (st := []) (c_X5_storeCloth ha0 e80) yv_X5_storeCloth ml_X5_84 rfl ha0 rfl ⟨Nat.le_of_ble_eq_true rfl, Nat.le_of_ble_eq_true rfl⟩ ⟨Nat.le_of_ble_eq_true rfl, Nat.le_of_ble_eq_true rfl⟩ (Nat.le_of_ble_eq_true rfl) rfl 0 0 rfl rfl 58 rfl dX5_perform_55 ?_
    cases h
    exact r_zret C rfl rfl (Nat.le_of_ble_eq_true rfl) (Nat.le_of_ble_eq_true rfl) dX5_perform_58 hq
  replace h := if_some_f c79 h
  by_cases c83 : x1 = 1
  · have h := if_some_t c83 h
    refine r_tableAt C.1 59 (x0 := 1) c83 dX5_perform_1 (by decide) (by decide) rfl rfl ?_
    refine r_aload_n C.1 0 60 rfl dX5_perform_59 rfl ?_
    refine r_iload_n C.1 2 61 rfl dX5_perform_60 rfl ?_
    refine r_iload_n C.1 3 62 rfl dX5_perform_61 rfl ?_
    obtain ⟨y85, κ86, e84, h⟩ := bd2_some h
    refine r_cVi C.1 (st := []) (c_X5_welcome ha0 e84) yv_X5_welcome ml_X5_88 rfl ha0 rfl ⟨Nat.le_of_ble_eq_true rfl, Nat.le_of_ble_eq_true rfl⟩ ⟨Nat.le_of_ble_eq_true rfl, Nat.le_of_ble_eq_true rfl⟩ (Nat.le_of_ble_eq_true rfl) rfl 0 0 rfl rfl 65 rfl dX5_perform_62 ?_
    cases h
    exact r_zret C rfl rfl (Nat.le_of_ble_eq_true rfl) (Nat.le_of_ble_eq_true rfl) dX5_perform_65 hq
  replace h := if_some_f c83 h
  by_cases c87 : x1 = 2
  · have h := if_some_t c87 h
    refine r_tableAt C.1 66 (x0 := 2) c87 dX5_perform_1 (by decide) (by decide) rfl rfl ?_
    refine r_aload_n C.1 0 67 rfl dX5_perform_66 rfl ?_
    refine r_iload_n C.1 2 68 rfl dX5_perform_67 rfl ?_
    refine r_iload_n C.1 3 69 rfl dX5_perform_68 rfl ?_
    refine r_iload C.1 4 71 rfl dX5_perform_69 rfl ?_
    obtain ⟨y89, κ90, e88, h⟩ := bd2_some h
    refine r_cVi C.1 (st := []) (c_X5_measure ha0 e88) yv_X5_measure ml_X5_91 rfl ha0 rfl ⟨Nat.le_of_ble_eq_true rfl, Nat.le_of_ble_eq_true rfl⟩ ⟨Nat.le_of_ble_eq_true rfl, Nat.le_of_ble_eq_true rfl⟩ (Nat.le_of_ble_eq_true rfl) rfl 0 0 rfl rfl 74 rfl dX5_perform_71 ?_
    cases h
    exact r_zret C rfl rfl (Nat.le_of_ble_eq_true rfl) (Nat.le_of_ble_eq_true rfl) dX5_perform_74 hq
  replace h := if_some_f c87 h
  by_cases c91 : x1 = 3
  · have h := if_some_t c91 h
    refine r_tableAt C.1 75 (x0 := 3) c91 dX5_perform_1 (by decide) (by decide) rfl rfl ?_
    refine r_aload_n C.1 0 76 rfl dX5_perform_75 rfl ?_
    refine r_iload_n C.1 2 77 rfl dX5_perform_76 rfl ?_
    refine r_iload_n C.1 3 78 rfl dX5_perform_77 rfl ?_
    obtain ⟨y93, κ94, e92, h⟩ := bd2_some h
    refine r_cVi C.1 (st := []) (c_X5_beginSuit ha0 e92) yv_X5_beginSuit ml_X5_95 rfl ha0 rfl ⟨Nat.le_of_ble_eq_true rfl, Nat.le_of_ble_eq_true rfl⟩ ⟨Nat.le_of_ble_eq_true rfl, Nat.le_of_ble_eq_true rfl⟩ (Nat.le_of_ble_eq_true rfl) rfl 0 0 rfl rfl 81 rfl dX5_perform_78 ?_
    cases h
    exact r_zret C rfl rfl (Nat.le_of_ble_eq_true rfl) (Nat.le_of_ble_eq_true rfl) dX5_perform_81 hq
  replace h := if_some_f c91 h
  by_cases c95 : x1 = 4
  · have h := if_some_t c95 h
    refine r_tableAt C.1 82 (x0 := 4) c95 dX5_perform_1 (by decide) (by decide) rfl rfl ?_
    refine r_aload_n C.1 0 83 rfl dX5_perform_82 rfl ?_
    refine r_iload_n C.1 2 84 rfl dX5_perform_83 rfl ?_
    refine r_iload_n C.1 3 85 rfl dX5_perform_84 rfl ?_
    obtain ⟨y97, κ98, e96, h⟩ := bd2_some h
    refine r_cVi C.1 (st := []) (c_X5_cutSleeve ha0 e96) yv_X5_cutSleeve ml_X5_98 rfl ha0 rfl ⟨Nat.le_of_ble_eq_true rfl, Nat.le_of_ble_eq_true rfl⟩ ⟨Nat.le_of_ble_eq_true rfl, Nat.le_of_ble_eq_true rfl⟩ (Nat.le_of_ble_eq_true rfl) rfl 0 0 rfl rfl 88 rfl dX5_perform_85 ?_
    cases h
    exact r_zret C rfl rfl (Nat.le_of_ble_eq_true rfl) (Nat.le_of_ble_eq_true rfl) dX5_perform_88 hq
  replace h := if_some_f c95 h
  by_cases c99 : x1 = 5
  · have h := if_some_t c99 h
    refine r_tableAt C.1 89 (x0 := 5) c99 dX5_perform_1 (by decide) (by decide) rfl rfl ?_
    refine r_aload_n C.1 0 90 rfl dX5_perform_89 rfl ?_
    refine r_iload_n C.1 2 91 rfl dX5_perform_90 rfl ?_
    refine r_iload_n C.1 3 92 rfl dX5_perform_91 rfl ?_
    obtain ⟨y101, κ102, e100, h⟩ := bd2_some h
    refine r_cVi C.1 (st := []) (c_X5_sewSleeve ha0 e100) yv_X5_sewSleeve ml_X5_101 rfl ha0 rfl ⟨Nat.le_of_ble_eq_true rfl, Nat.le_of_ble_eq_true rfl⟩ ⟨Nat.le_of_ble_eq_true rfl, Nat.le_of_ble_eq_true rfl⟩ (Nat.le_of_ble_eq_true rfl) rfl 0 0 rfl rfl 95 rfl dX5_perform_92 ?_
    cases h
    exact r_zret C rfl rfl (Nat.le_of_ble_eq_true rfl) (Nat.le_of_ble_eq_true rfl) dX5_perform_95 hq
  replace h := if_some_f c99 h
  by_cases c103 : x1 = 6
  · have h := if_some_t c103 h
    refine r_tableAt C.1 96 (x0 := 6) c103 dX5_perform_1 (by decide) (by decide) rfl rfl ?_
    refine r_aload_n C.1 0 97 rfl dX5_perform_96 rfl ?_
    refine r_iload_n C.1 2 98 rfl dX5_perform_97 rfl ?_
    refine r_iload_n C.1 3 99 rfl dX5_perform_98 rfl ?_
    obtain ⟨y105, κ106, e104, h⟩ := bd2_some h
    refine r_cVi C.1 (st := []) (c_X5_unpickSleeve ha0 e104) yv_X5_unpickSleeve ml_X5_104 rfl ha0 rfl ⟨Nat.le_of_ble_eq_true rfl, Nat.le_of_ble_eq_true rfl⟩ ⟨Nat.le_of_ble_eq_true rfl, Nat.le_of_ble_eq_true rfl⟩ (Nat.le_of_ble_eq_true rfl) rfl 0 0 rfl rfl 102 rfl dX5_perform_99 ?_
    cases h
    exact r_zret C rfl rfl (Nat.le_of_ble_eq_true rfl) (Nat.le_of_ble_eq_true rfl) dX5_perform_102 hq
  replace h := if_some_f c103 h
  by_cases c107 : x1 = 7
  · have h := if_some_t c107 h
    refine r_tableAt C.1 103 (x0 := 7) c107 dX5_perform_1 (by decide) (by decide) rfl rfl ?_
    refine r_aload_n C.1 0 104 rfl dX5_perform_103 rfl ?_
    refine r_iload_n C.1 2 105 rfl dX5_perform_104 rfl ?_
    refine r_iload_n C.1 3 106 rfl dX5_perform_105 rfl ?_
    refine r_iload C.1 4 108 rfl dX5_perform_106 rfl ?_
    obtain ⟨y109, κ110, e108, h⟩ := bd2_some h
    refine r_cVi C.1 (st := []) (c_X5_addDemand ha0 e108) yv_X5_addDemand ml_X5_107 rfl ha0 rfl ⟨Nat.le_of_ble_eq_true rfl, Nat.le_of_ble_eq_true rfl⟩ ⟨Nat.le_of_ble_eq_true rfl, Nat.le_of_ble_eq_true rfl⟩ (Nat.le_of_ble_eq_true rfl) rfl 0 0 rfl rfl 111 rfl dX5_perform_108 ?_
    cases h
    exact r_zret C rfl rfl (Nat.le_of_ble_eq_true rfl) (Nat.le_of_ble_eq_true rfl) dX5_perform_111 hq
  replace h := if_some_f c107 h
  by_cases c111 : x1 = 8
  · have h := if_some_t c111 h
    refine r_tableAt C.1 112 (x0 := 8) c111 dX5_perform_1 (by decide) (by decide) rfl rfl ?_
    refine r_aload_n C.1 0 113 rfl dX5_perform_112 rfl ?_
    refine r_iload_n C.1 2 114 rfl dX5_perform_113 rfl ?_
    obtain ⟨y113, κ114, e112, h⟩ := bd2_some h
    refine r_cVi C.1 (st := []) (c_X5_handOver ha0 e112) yv_X5_handOver ml_X5_110 rfl ha0 rfl ⟨Nat.le_of_ble_eq_true rfl, Nat.le_of_ble_eq_true rfl⟩ ⟨Nat.le_of_ble_eq_true rfl, Nat.le_of_ble_eq_true rfl⟩ (Nat.le_of_ble_eq_true rfl) rfl 0 0 rfl rfl 117 rfl dX5_perform_114 ?_
    cases h
    exact r_zret C rfl rfl (Nat.le_of_ble_eq_true rfl) (Nat.le_of_ble_eq_true rfl) dX5_perform_117 hq
  replace h := if_some_f c111 h
  refine r_tableOut C.1 118 dX5_perform_1 (by have g0 : x1.toInt ≠ 0 := sw_ne c79; have g1 : x1.toInt ≠ 1 := sw_ne c83; have g2 : x1.toInt ≠ 2 := sw_ne c87; have g3 : x1.toInt ≠ 3 := sw_ne c91; have g4 : x1.toInt ≠ 4 := sw_ne c95; have g5 : x1.toInt ≠ 5 := sw_ne c99; have g6 : x1.toInt ≠ 6 := sw_ne c103; have g7 : x1.toInt ≠ 7 := sw_ne c107; have g8 : x1.toInt ≠ 8 := sw_ne c111; omega) rfl ?_
  refine r_aload_n C.1 0 119 rfl dX5_perform_118 rfl ?_
  refine r_iload_n C.1 2 120 rfl dX5_perform_119 rfl ?_
  obtain ⟨y116, κ117, e115, h⟩ := bd2_some h
  refine r_cVi C.1 (st := []) (c_X5_throwAway ha0 e115) yv_X5_throwAway ml_X5_113 rfl ha0 rfl ⟨Nat.le_of_ble_eq_true rfl, Nat.le_of_ble_eq_true rfl⟩ ⟨Nat.le_of_ble_eq_true rfl, Nat.le_of_ble_eq_true rfl⟩ (Nat.le_of_ble_eq_true rfl) rfl 0 0 rfl rfl 123 rfl dX5_perform_120 ?_
  cases h
  exact r_zret C rfl rfl (Nat.le_of_ble_eq_true rfl) (Nat.le_of_ble_eq_true rfl) dX5_perform_123 hq
theorem c_X5_perform {l : Launch} {G : jG} {sh : jSh} {κ : jKt} {a0 : Nat} (ha0 : sh a0 = (1, 9, 11)) {x1 : Int32} {x2 : Int32} {x3 : Int32} {x4 : Int32} {r : Int32} {κr : jKt} (h : P_X5_perform κ a0 x1 x2 x3 x4 = some (r, κr)) : jM l G yX5_perform cX5_perform 5 (some .int) 4 0 0 92 [.ref a0, .int x1, .int x2, .int x3, .int x4] (sh, κ) (jIs (some (.int r)) (sh, κr)) jNo :=
  r_body (by decide) (Nat.le_of_ble_eq_true rfl) fun F C hl hG hs ho hx => by
    subst hs
    exact w_X5_perform_0 C ha0 (by rw [ho]; exact ⟨rfl, rfl⟩) h
