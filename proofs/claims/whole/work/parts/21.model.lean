/-! pure methods and walks: ['TailorWorkshopModel'] -/
def P_X7_thrown (κ : jKt) (a0 : Nat) : Option (Int32) :=
  some (kI κ a0 0)
def P_X7_fail (κ : jKt) (a0 : Nat) (x1 : Int32) : Option (Int32 × jKt) :=
  bnd (kU κ a0 0 (.int x1)) fun κ5 =>
  some (0, κ5)
def P_X7_isIn (κ : jKt) (x0 : Int32) (x1 : Int32) (x2 : Int32) : Option (Int32) :=
  if x0 < x1 then
  some 0
  else
  if x2 < x0 then
  some 0
  else
  some 1
def P_X7_lays_2 (a0 : Nat) (a1 : Nat) : Nat → jKt → Int32 → Option (jKt)
  | 0, _, _ => none
  | n + 1, κ, v2 =>
    if 457 ≤ v2 then
  some κ
  else
  ck (jin v2 457) <|
  ck (jin v2 457) <|
  bnd (kU κ a0 (ix v2) (.int (kI κ a1 (ix v2)))) fun κ14 =>
  P_X7_lays_2 a0 a1 n κ14 (v2 + 1)
def P_X7_lays (κ : jKt) (a0 : Nat) (a1 : Nat) : Option (jKt) :=
  P_X7_lays_2 a0 a1 4000 κ 0
def P_X7_begins (κ : jKt) (a0 : Nat) : Option (jKt) :=
  bnd (kU κ a0 0 (.int 0)) fun κ13 =>
  bd (P_X7_lays κ13 (kR κ13 a0 6) (kR κ13 a0 5)) fun κ18 =>
  some κ18
def P_X7_ends_72 (a0 : Nat) (v1 : Int32) : Nat → jKt → Int32 → Option (Int32 × jKt)
  | 0, _, _ => none
  | n + 1, κ, v2 =>
    if 457 ≤ v2 then
  bnd (kU κ a0 1 (.int ((kI κ a0 1) + 1))) fun κ50 =>
  some (v1, κ50)
  else
  ck (jin v2 457) <|
  ck (jin (((kI κ a0 1) * 457) + v2) 3656) <|
  bnd (kU κ (kR κ a0 8) (ix (((kI κ a0 1) * 457) + v2)) (.int (kI κ (kR κ a0 6) (ix v2)))) fun κ56 =>
  P_X7_ends_72 a0 v1 n κ56 (v2 + 1)
def P_X7_ends_31 (a0 : Nat) (v1 : Int32) : Nat → jKt → Int32 → Option (Int32 × jKt)
  | 0, _, _ => none
  | n + 1, κ, v2 =>
    if 3199 ≤ v2 then
  bnd (kU κ a0 1 (.int ((kI κ a0 1) - 1))) fun κ59 =>
  P_X7_ends_72 a0 v1 4000 κ59 0
  else
  ck (jin (v2 + 457) 3656) <|
  ck (jin v2 3656) <|
  bnd (kU κ (kR κ a0 8) (ix v2) (.int (kI κ (kR κ a0 8) (ix (v2 + 457))))) fun κ65 =>
  P_X7_ends_31 a0 v1 n κ65 (v2 + 1)
def P_X7_ends (κ : jKt) (a0 : Nat) (x1 : Int32) : Option (Int32 × jKt) :=
  if (kI κ a0 0) = 0 then
  if (kI κ a0 1) = 8 then
  P_X7_ends_31 a0 x1 4000 κ 0
  else
  P_X7_ends_72 a0 x1 4000 κ 0
  else
  bd (P_X7_lays κ (kR κ a0 5) (kR κ a0 6)) fun κ72 =>
  some (0, κ72)
def P_X7_isCloth (κ : jKt) (x0 : Int32) : Option (Int32) :=
  bd (P_X7_isIn κ x0 0 3) fun y8 =>
  ck (jz y8) <|
  some y8
def P_X7_isCustomer (κ : jKt) (a0 : Nat) (x1 : Int32) : Option (Int32) :=
  bd (P_X7_isIn κ x1 0 ((kI κ (kR κ a0 5) (ix 0)) - 1)) fun y11 =>
  ck (jz y11) <|
  some y11
def P_X7_at (κ : jKt) (x0 : Int32) : Option (Int32) :=
  some (12 + (17 * x0))
def P_X7_legs (κ : jKt) (a0 : Nat) (x1 : Int32) : Option (Int32) :=
  bd (P_X7_at κ x1) fun y11 =>
  ck (jin y11 457) <|
  some (2 * (kI κ (kR κ a0 5) (ix y11)))
def P_X7_leg (κ : jKt) (a0 : Nat) (x1 : Int32) (x2 : Int32) : Option (Int32) :=
  bd (P_X7_at κ x1) fun y11 =>
  ck (jin ((y11 + 1) + x2) 457) <|
  some (kI κ (kR κ a0 5) (ix ((y11 + 1) + x2)))
def P_X7_isLeg (κ : jKt) (a0 : Nat) (x1 : Int32) (x2 : Int32) : Option (Int32) :=
  bd (P_X7_isCustomer κ a0 x1) fun y18 =>
  if y18 = 0 then
  some 0
  else
  bd (P_X7_legs κ a0 x1) fun y21 =>
  bd (P_X7_isIn κ x2 0 (y21 - 1)) fun y23 =>
  if y23 = 0 then
  some 0
  else
  some 1
def P_X7_of (κ : jKt) (x0 : Int32) (x1 : Int32) : Option (Int32) :=
  some ((97 + (60 * x0)) + x1)
def P_X7_sleeves (κ : jKt) (a0 : Nat) (x1 : Int32) : Option (Int32) :=
  bd (P_X7_of κ x1 1) fun y15 =>
  ck (jin y15 457) <|
  bd (P_X7_legs κ a0 (kI κ (kR κ a0 5) (ix y15))) fun y18 =>
  some y18
def P_X7_isSleeve (κ : jKt) (a0 : Nat) (x1 : Int32) (x2 : Int32) : Option (Int32) :=
  bd (P_X7_sleeves κ a0 x1) fun y12 =>
  bd (P_X7_isIn κ x2 0 (y12 - 1)) fun y14 =>
  ck (jz y14) <|
  some y14
def P_X7_state (κ : jKt) (a0 : Nat) (x1 : Int32) (x2 : Int32) : Option (Int32) :=
  bd (P_X7_of κ x1 (4 + x2)) fun y11 =>
  ck (jin y11 457) <|
  some (kI κ (kR κ a0 5) (ix y11))
def P_X7_own (κ : jKt) (a0 : Nat) (x1 : Int32) (x2 : Int32) : Option (Int32) :=
  bd (P_X7_of κ x1 (20 + x2)) fun y11 =>
  ck (jin y11 457) <|
  some (kI κ (kR κ a0 5) (ix y11))
def P_X7_wanted (κ : jKt) (a0 : Nat) (x1 : Int32) (x2 : Int32) : Option (Int32) :=
  bd (P_X7_of κ x1 1) fun y15 =>
  ck (jin y15 457) <|
  bd (P_X7_leg κ a0 (kI κ (kR κ a0 5) (ix y15)) x2) fun y18 =>
  some y18
def P_X7_first (κ : jKt) (a0 : Nat) (x1 : Int32) (x2 : Int32) : Option (Int32) :=
  bd (P_X7_of κ x1 (36 + (2 * x2))) fun y11 =>
  ck (jin y11 457) <|
  some (kI κ (kR κ a0 5) (ix y11))
def P_X7_second (κ : jKt) (a0 : Nat) (x1 : Int32) (x2 : Int32) : Option (Int32) :=
  bd (P_X7_of κ x1 ((36 + (2 * x2)) + 1)) fun y11 =>
  ck (jin y11 457) <|
  some (kI κ (kR κ a0 5) (ix y11))
def P_X7_count_5 (κ : jKt) (a0 : Nat) (v1 : Int32) (v2 : Int32) : Nat → Int32 → Int32 → Option (Int32)
  | 0, _, _ => none
  | n + 1, v3, v4 =>
    bd (P_X7_sleeves κ a0 v1) fun y14 =>
  if y14 ≤ v4 then
  some v3
  else
  bd (P_X7_state κ a0 v1 v4) fun y17 =>
  if y17 = v2 then
  P_X7_count_5 κ a0 v1 v2 n (v3 + 1) (v4 + 1)
  else
  P_X7_count_5 κ a0 v1 v2 n (v3 + 0) (v4 + 1)
def P_X7_count (κ : jKt) (a0 : Nat) (x1 : Int32) (x2 : Int32) : Option (Int32) :=
  P_X7_count_5 κ a0 x1 x2 4000 0 0
def P_X7_buys (κ : jKt) (a0 : Nat) (x1 : Int32) (x2 : Int32) : Option (Int32 × jKt) :=
  bd (P_X7_isCloth κ x1) fun y58 =>
  if y58 = 0 then
  bd2 (P_X7_fail κ a0 1) fun y83 κ84 =>
  some (y83, κ84)
  else
  bd (P_X7_isIn κ x2 1 999) fun y61 =>
  if y61 = 0 then
  bd2 (P_X7_fail κ a0 2) fun y80 κ81 =>
  some (y80, κ81)
  else
  ck (jin (8 + x1) 457) <|
  if ((kI κ (kR κ a0 5) (ix (8 + x1))) + x2) ≤ 2000 then
  ck (jin (8 + x1) 457) <|
  ck (jin (8 + x1) 457) <|
  bnd (kU κ (kR κ a0 5) (ix (8 + x1)) (.int ((kI κ (kR κ a0 5) (ix (8 + x1))) + x2))) fun κ69 =>
  bnd (kU κ69 (kR κ69 a0 5) (ix 3) (.int ((kI κ69 (kR κ69 a0 5) (ix 3)) + x2))) fun κ72 =>
  ck (jin (8 + x1) 457) <|
  some (kI κ72 (kR κ72 a0 5) (ix (8 + x1)), κ72)
  else
  bd2 (P_X7_fail κ a0 3) fun y77 κ78 =>
  some (y77, κ78)
def P_X7_buyCloth (κ : jKt) (a0 : Nat) (x1 : Int32) (x2 : Int32) : Option (Int32 × jKt) :=
  bd (P_X7_begins κ a0) fun κ18 =>
  bd2 (P_X7_buys κ18 a0 x1 x2) fun y20 κ21 =>
  bd2 (P_X7_ends κ21 a0 y20) fun y23 κ24 =>
  some (y23, κ24)
def P_X7_adds_58 (a0 : Nat) (v1 : Int32) (v2 : Int32) (v3 : Int32) : Nat → jKt → Int32 → Option (Int32 × jKt)
  | 0, _, _ => none
  | n + 1, κ, v4 =>
    if 16 ≤ v4 then
  bnd (kU κ (kR κ a0 5) (ix 0) (.int ((kI κ (kR κ a0 5) (ix 0)) + 1))) fun κ81 =>
  some (v3, κ81)
  else
  bd (P_X7_at κ v3) fun y85 =>
  if (2 * v1) ≤ v4 then
  ck (jin ((y85 + 1) + v4) 457) <|
  bnd (kU κ (kR κ a0 5) (ix ((y85 + 1) + v4)) (.int 0)) fun κ88 =>
  P_X7_adds_58 a0 v1 v2 v3 n κ88 (v4 + 1)
  else
  ck (jin ((y85 + 1) + v4) 457) <|
  bnd (kU κ (kR κ a0 5) (ix ((y85 + 1) + v4)) (.int v2)) fun κ91 =>
  P_X7_adds_58 a0 v1 v2 v3 n κ91 (v4 + 1)
def P_X7_adds (κ : jKt) (a0 : Nat) (x1 : Int32) (x2 : Int32) : Option (Int32 × jKt) :=
  bd (P_X7_isIn κ x1 1 8) fun y94 =>
  if y94 = 0 then
  bd2 (P_X7_fail κ a0 1) fun y97 κ98 =>
  some (y97, κ98)
  else
  bd (P_X7_isIn κ x2 10 60) fun y100 =>
  if y100 = 0 then
  bd2 (P_X7_fail κ a0 1) fun y116 κ117 =>
  some (y116, κ117)
  else
  bnd (kI κ (kR κ a0 5) (ix 0)) fun y103 =>
  if y103 = 5 then
  bd2 (P_X7_fail κ a0 2) fun y113 κ114 =>
  some (y113, κ114)
  else
  bd (P_X7_at κ y103) fun y108 =>
  ck (jin y108 457) <|
  bnd (kU κ (kR κ a0 5) (ix y108) (.int x1)) fun κ110 =>
  P_X7_adds_58 a0 x1 x2 y103 4000 κ110 0
def P_X7_addCustomer (κ : jKt) (a0 : Nat) (x1 : Int32) (x2 : Int32) : Option (Int32 × jKt) :=
  bd (P_X7_begins κ a0) fun κ18 =>
  bd2 (P_X7_adds κ18 a0 x1 x2) fun y20 κ21 =>
  bd2 (P_X7_ends κ21 a0 y20) fun y23 κ24 =>
  some (y23, κ24)
def P_X7_fits (κ : jKt) (a0 : Nat) (x1 : Int32) (x2 : Int32) (x3 : Int32) : Option (Int32 × jKt) :=
  bd (P_X7_isLeg κ a0 x1 x2) fun y42 =>
  if y42 = 0 then
  bd2 (P_X7_fail κ a0 1) fun y59 κ60 =>
  some (y59, κ60)
  else
  bd (P_X7_isIn κ x3 10 60) fun y45 =>
  if y45 = 0 then
  bd2 (P_X7_fail κ a0 2) fun y56 κ57 =>
  some (y56, κ57)
  else
  bd (P_X7_leg κ a0 x1 x2) fun y48 =>
  bd (P_X7_at κ x1) fun y51 =>
  ck (jin ((y51 + 1) + x2) 457) <|
  bnd (kU κ (kR κ a0 5) (ix ((y51 + 1) + x2)) (.int x3)) fun κ53 =>
  some (y48, κ53)
def P_X7_fit (κ : jKt) (a0 : Nat) (x1 : Int32) (x2 : Int32) (x3 : Int32) : Option (Int32 × jKt) :=
  bd (P_X7_begins κ a0) fun κ18 =>
  bd2 (P_X7_fits κ18 a0 x1 x2 x3) fun y20 κ21 =>
  bd2 (P_X7_ends κ21 a0 y20) fun y23 κ24 =>
  some (y23, κ24)
def P_X7_orders_43 (a0 : Nat) (v1 : Int32) (v2 : Int32) (v3 : Int32) : Nat → jKt → Int32 → Option (Int32 × jKt)
  | 0, _, _ => none
  | n + 1, κ, v4 =>
    if 60 ≤ v4 then
  bd (P_X7_of κ v3 0) fun y114 =>
  ck (jin y114 457) <|
  bnd (kU κ (kR κ a0 5) (ix y114) (.int (kI κ (kR κ a0 5) (ix 2)))) fun κ117 =>
  bd (P_X7_of κ117 v3 1) fun y121 =>
  ck (jin y121 457) <|
  bnd (kU κ117 (kR κ117 a0 5) (ix y121) (.int v1)) fun κ123 =>
  bd (P_X7_of κ123 v3 2) fun y127 =>
  ck (jin y127 457) <|
  bnd (kU κ123 (kR κ123 a0 5) (ix y127) (.int v2)) fun κ129 =>
  bnd (kU κ129 (kR κ129 a0 5) (ix 1) (.int ((kI κ129 (kR κ129 a0 5) (ix 1)) + 1))) fun κ132 =>
  bnd (kU κ132 (kR κ132 a0 5) (ix 2) (.int ((kI κ132 (kR κ132 a0 5) (ix 2)) + 1))) fun κ135 =>
  bd (P_X7_of κ135 v3 0) fun y139 =>
  ck (jin y139 457) <|
  some (kI κ135 (kR κ135 a0 5) (ix y139), κ135)
  else
  bd (P_X7_of κ v3 v4) fun y143 =>
  ck (jin y143 457) <|
  bnd (kU κ (kR κ a0 5) (ix y143) (.int 0)) fun κ145 =>
  P_X7_orders_43 a0 v1 v2 v3 n κ145 (v4 + 1)
def P_X7_orders (κ : jKt) (a0 : Nat) (x1 : Int32) (x2 : Int32) : Option (Int32 × jKt) :=
  bd (P_X7_isCustomer κ a0 x1) fun y148 =>
  if y148 = 0 then
  bd2 (P_X7_fail κ a0 1) fun y151 κ152 =>
  some (y151, κ152)
  else
  bd (P_X7_isCloth κ x2) fun y154 =>
  if y154 = 0 then
  bd2 (P_X7_fail κ a0 1) fun y164 κ165 =>
  some (y164, κ165)
  else
  bnd (kI κ (kR κ a0 5) (ix 1)) fun y157 =>
  if y157 = 6 then
  bd2 (P_X7_fail κ a0 2) fun y161 κ162 =>
  some (y161, κ162)
  else
  P_X7_orders_43 a0 x1 x2 y157 4000 κ 0
def P_X7_orderSuit (κ : jKt) (a0 : Nat) (x1 : Int32) (x2 : Int32) : Option (Int32 × jKt) :=
  bd (P_X7_begins κ a0) fun κ18 =>
  bd2 (P_X7_orders κ18 a0 x1 x2) fun y20 κ21 =>
  bd2 (P_X7_ends κ21 a0 y20) fun y23 κ24 =>
  some (y23, κ24)
def P_X7_cuts (κ : jKt) (a0 : Nat) (x1 : Int32) (x2 : Int32) : Option (Int32 × jKt) :=
  if 0 ≤ x1 then
  bd (P_X7_isSleeve κ a0 x1 x2) fun y101 =>
  if y101 = 0 then
  bd2 (P_X7_fail κ a0 2) fun y143 κ144 =>
  some (y143, κ144)
  else
  bd (P_X7_state κ a0 x1 x2) fun y104 =>
  if y104 = 0 then
  bd (P_X7_wanted κ a0 x1 x2) fun y107 =>
  bd (P_X7_of κ x1 2) fun y110 =>
  ck (jin y110 457) <|
  bnd (kI κ (kR κ a0 5) (ix y110)) fun y112 =>
  ck (jin (8 + y112) 457) <|
  if (y107 + 2) ≤ (kI κ (kR κ a0 5) (ix (8 + y112))) then
  ck (jin (8 + y112) 457) <|
  ck (jin (8 + y112) 457) <|
  bnd (kU κ (kR κ a0 5) (ix (8 + y112)) (.int ((kI κ (kR κ a0 5) (ix (8 + y112))) - (y107 + 2)))) fun κ120 =>
  bd (P_X7_of κ120 x1 (4 + x2)) fun y124 =>
  ck (jin y124 457) <|
  bnd (kU κ120 (kR κ120 a0 5) (ix y124) (.int 1)) fun κ126 =>
  bd (P_X7_of κ126 x1 (20 + x2)) fun y130 =>
  ck (jin y130 457) <|
  bnd (kU κ126 (kR κ126 a0 5) (ix y130) (.int ((y107 + 2) - 2))) fun κ132 =>
  ck (jin (8 + y112) 457) <|
  some (kI κ132 (kR κ132 a0 5) (ix (8 + y112)), κ132)
  else
  bd2 (P_X7_fail κ a0 4) fun y137 κ138 =>
  some (y137, κ138)
  else
  bd2 (P_X7_fail κ a0 3) fun y140 κ141 =>
  some (y140, κ141)
  else
  bd2 (P_X7_fail κ a0 1) fun y146 κ147 =>
  some (y146, κ147)
def P_X7_sews_43 (a0 : Nat) (v1 : Int32) (v2 : Int32) : Nat → jKt → Int32 → Option (Int32 × jKt)
  | 0, _, _ => none
  | n + 1, κ, v3 =>
    bd (P_X7_of κ v1 3) fun y83 =>
  ck (jin y83 457) <|
  if (kI κ (kR κ a0 5) (ix y83)) ≤ v3 then
  bd (P_X7_of κ v1 (4 + v2)) fun y88 =>
  ck (jin y88 457) <|
  bnd (kU κ (kR κ a0 5) (ix y88) (.int 2)) fun κ90 =>
  bd (P_X7_count κ90 a0 v1 2) fun y93 =>
  some (y93, κ90)
  else
  bd (P_X7_second κ a0 v1 v3) fun y95 =>
  if y95 = v2 then
  bd (P_X7_first κ a0 v1 v3) fun y98 =>
  bd (P_X7_state κ a0 v1 y98) fun y100 =>
  if y100 = 2 then
  P_X7_sews_43 a0 v1 v2 n κ (v3 + 1)
  else
  bd2 (P_X7_fail κ a0 4) fun y103 κ104 =>
  some (y103, κ104)
  else
  P_X7_sews_43 a0 v1 v2 n κ (v3 + 1)
def P_X7_sews (κ : jKt) (a0 : Nat) (x1 : Int32) (x2 : Int32) : Option (Int32 × jKt) :=
  if 0 ≤ x1 then
  bd (P_X7_isSleeve κ a0 x1 x2) fun y107 =>
  if y107 = 0 then
  bd2 (P_X7_fail κ a0 2) fun y116 κ117 =>
  some (y116, κ117)
  else
  bd (P_X7_state κ a0 x1 x2) fun y110 =>
  if y110 = 1 then
  P_X7_sews_43 a0 x1 x2 4000 κ 0
  else
  bd2 (P_X7_fail κ a0 3) fun y113 κ114 =>
  some (y113, κ114)
  else
  bd2 (P_X7_fail κ a0 1) fun y119 κ120 =>
  some (y119, κ120)
def P_X7_unpicks_42 (a0 : Nat) (v1 : Int32) (v2 : Int32) : Nat → jKt → Int32 → Option (Int32 × jKt)
  | 0, _, _ => none
  | n + 1, κ, v3 =>
    bd (P_X7_of κ v1 3) fun y101 =>
  ck (jin y101 457) <|
  if (kI κ (kR κ a0 5) (ix y101)) ≤ v3 then
  bd (P_X7_own κ a0 v1 v2) fun y105 =>
  bd (P_X7_of κ v1 (4 + v2)) fun y108 =>
  ck (jin y108 457) <|
  bnd (kU κ (kR κ a0 5) (ix y108) (.int 0)) fun κ110 =>
  bd (P_X7_of κ110 v1 (20 + v2)) fun y114 =>
  ck (jin y114 457) <|
  bnd (kU κ110 (kR κ110 a0 5) (ix y114) (.int 0)) fun κ116 =>
  bnd (kU κ116 (kR κ116 a0 5) (ix 4) (.int ((kI κ116 (kR κ116 a0 5) (ix 4)) + (y105 + 2)))) fun κ119 =>
  some (y105 + 2, κ119)
  else
  bd (P_X7_first κ a0 v1 v3) fun y122 =>
  if y122 = v2 then
  bd (P_X7_second κ a0 v1 v3) fun y125 =>
  bd (P_X7_state κ a0 v1 y125) fun y127 =>
  if y127 = 2 then
  bd2 (P_X7_fail κ a0 4) fun y130 κ131 =>
  some (y130, κ131)
  else
  P_X7_unpicks_42 a0 v1 v2 n κ (v3 + 1)
  else
  P_X7_unpicks_42 a0 v1 v2 n κ (v3 + 1)
def P_X7_unpicks (κ : jKt) (a0 : Nat) (x1 : Int32) (x2 : Int32) : Option (Int32 × jKt) :=
  if 0 ≤ x1 then
  bd (P_X7_isSleeve κ a0 x1 x2) fun y134 =>
  if y134 = 0 then
  bd2 (P_X7_fail κ a0 2) fun y143 κ144 =>
  some (y143, κ144)
  else
  bd (P_X7_state κ a0 x1 x2) fun y137 =>
  if y137 = 0 then
  bd2 (P_X7_fail κ a0 3) fun y140 κ141 =>
  some (y140, κ141)
  else
  P_X7_unpicks_42 a0 x1 x2 4000 κ 0
  else
  bd2 (P_X7_fail κ a0 1) fun y146 κ147 =>
  some (y146, κ147)
def P_X7_behind_63 (κ : jKt) (a0 : Nat) (v1 : Int32) (v2 : Int32) (v3 : Int32) (v4 : Int32) (v5 : Int32) (s0 : Int32) (K5 : Int32 → Int32 → Option (Int32)) (K17 : Int32 → Int32 → Option (Int32)) : Option (Int32) :=
  if s0 = 0 then
  K17 (v3 ||| 0) (v5 + 1)
  else
  bd (P_X7_second κ a0 v1 v5) fun y33 =>
  K17 (v3 ||| (1 <<< (y33 &&& 31))) (v5 + 1)
def P_X7_behind_58 (κ : jKt) (a0 : Nat) (v1 : Int32) (v2 : Int32) (v3 : Int32) (v4 : Int32) (v5 : Int32) (K5 : Int32 → Int32 → Option (Int32)) (K17 : Int32 → Int32 → Option (Int32)) : Option (Int32) :=
  P_X7_behind_63 κ a0 v1 v2 v3 v4 v5 1 K5 K17
def P_X7_behind_17 (κ : jKt) (a0 : Nat) (v1 : Int32) (v2 : Int32) (v4 : Int32) (K5 : Int32 → Int32 → Option (Int32)) : Nat → Int32 → Int32 → Option (Int32)
  | 0, _, _ => none
  | n + 1, v3, v5 =>
    bd (P_X7_of κ v1 3) fun y36 =>
  ck (jin y36 457) <|
  if (kI κ (kR κ a0 5) (ix y36)) ≤ v5 then
  K5 v3 v4
  else
  bd (P_X7_first κ a0 v1 v5) fun y40 =>
  if y40 = v2 then
  P_X7_behind_58 κ a0 v1 v2 v3 v4 v5 K5 (P_X7_behind_17 κ a0 v1 v2 v4 K5 n)
  else
  bd (P_X7_first κ a0 v1 v5) fun y43 =>
  if ((v3 >>> (y43 &&& 31)) &&& 1) = 1 then
  P_X7_behind_58 κ a0 v1 v2 v3 v4 v5 K5 (P_X7_behind_17 κ a0 v1 v2 v4 K5 n)
  else
  P_X7_behind_63 κ a0 v1 v2 v3 v4 v5 0 K5 (P_X7_behind_17 κ a0 v1 v2 v4 K5 n)
def P_X7_behind_5 (κ : jKt) (a0 : Nat) (v1 : Int32) (v2 : Int32) : Nat → Int32 → Int32 → Option (Int32)
  | 0, _, _ => none
  | n + 1, v3, v4 =>
    if v3 = v4 then
  some v3
  else
  P_X7_behind_17 κ a0 v1 v2 v3 (P_X7_behind_5 κ a0 v1 v2 n) 4000 v3 0
def P_X7_behind (κ : jKt) (a0 : Nat) (x1 : Int32) (x2 : Int32) : Option (Int32) :=
  P_X7_behind_5 κ a0 x1 x2 4000 0 (-1)
def P_X7_isAsked_3 (κ : jKt) (a0 : Nat) (v1 : Int32) (v2 : Int32) (v3 : Int32) : Nat → Int32 → Option (Int32)
  | 0, _ => none
  | n + 1, v4 =>
    bd (P_X7_of κ v1 3) fun y25 =>
  ck (jin y25 457) <|
  if (kI κ (kR κ a0 5) (ix y25)) ≤ v4 then
  some 0
  else
  bd (P_X7_first κ a0 v1 v4) fun y29 =>
  if y29 = v2 then
  bd (P_X7_second κ a0 v1 v4) fun y32 =>
  if y32 = v3 then
  some 1
  else
  P_X7_isAsked_3 κ a0 v1 v2 v3 n (v4 + 1)
  else
  P_X7_isAsked_3 κ a0 v1 v2 v3 n (v4 + 1)
def P_X7_isAsked (κ : jKt) (a0 : Nat) (x1 : Int32) (x2 : Int32) (x3 : Int32) : Option (Int32) :=
  P_X7_isAsked_3 κ a0 x1 x2 x3 4000 0
def P_X7_demands_70 (κ : jKt) (a0 : Nat) (v1 : Int32) (v2 : Int32) (v3 : Int32) (s0 : Int32) : Option (Int32 × jKt) :=
  bd (P_X7_isAsked κ a0 v1 v2 v3) fun y160 =>
  if y160 = 0 then
  bd (P_X7_of κ v1 3) fun y167 =>
  ck (jin y167 457) <|
  if (kI κ (kR κ a0 5) (ix y167)) = 12 then
  bd2 (P_X7_fail κ a0 4) fun y171 κ172 =>
  some (y171, κ172)
  else
  if s0 = 0 then
  bd (P_X7_behind κ a0 v1 v3) fun y175 =>
  if ((y175 >>> (v2 &&& 31)) &&& 1) = 1 then
  bd2 (P_X7_fail κ a0 5) fun y207 κ208 =>
  some (y207, κ208)
  else
  bd (P_X7_of κ v1 3) fun y179 =>
  ck (jin y179 457) <|
  bnd (kI κ (kR κ a0 5) (ix y179)) fun y181 =>
  bd (P_X7_of κ v1 (36 + (2 * y181))) fun y185 =>
  ck (jin y185 457) <|
  bnd (kU κ (kR κ a0 5) (ix y185) (.int v2)) fun κ187 =>
  bd (P_X7_of κ187 v1 ((36 + (2 * y181)) + 1)) fun y191 =>
  ck (jin y191 457) <|
  bnd (kU κ187 (kR κ187 a0 5) (ix y191) (.int v3)) fun κ193 =>
  bd (P_X7_of κ193 v1 3) fun y197 =>
  ck (jin y197 457) <|
  ck (jin y197 457) <|
  bnd (kU κ193 (kR κ193 a0 5) (ix y197) (.int ((kI κ193 (kR κ193 a0 5) (ix y197)) + 1))) fun κ200 =>
  bd (P_X7_of κ200 v1 3) fun y204 =>
  ck (jin y204 457) <|
  some (kI κ200 (kR κ200 a0 5) (ix y204), κ200)
  else
  bd2 (P_X7_fail κ a0 4) fun y210 κ211 =>
  some (y210, κ211)
  else
  bd2 (P_X7_fail κ a0 4) fun y163 κ164 =>
  some (y163, κ164)
def P_X7_demands_69 (κ : jKt) (a0 : Nat) (v1 : Int32) (v2 : Int32) (v3 : Int32) : Option (Int32 × jKt) :=
  P_X7_demands_70 κ a0 v1 v2 v3 0
def P_X7_demands (κ : jKt) (a0 : Nat) (x1 : Int32) (x2 : Int32) (x3 : Int32) : Option (Int32 × jKt) :=
  if 0 ≤ x1 then
  bd (P_X7_isSleeve κ a0 x1 x2) fun y214 =>
  if y214 = 0 then
  bd2 (P_X7_fail κ a0 2) fun y217 κ218 =>
  some (y217, κ218)
  else
  bd (P_X7_isSleeve κ a0 x1 x3) fun y220 =>
  if y220 = 0 then
  bd2 (P_X7_fail κ a0 2) fun y233 κ234 =>
  some (y233, κ234)
  else
  if x2 = x3 then
  bd2 (P_X7_fail κ a0 3) fun y230 κ231 =>
  some (y230, κ231)
  else
  bd (P_X7_state κ a0 x1 x3) fun y224 =>
  if y224 = 2 then
  bd (P_X7_state κ a0 x1 x2) fun y227 =>
  if y227 = 2 then
  P_X7_demands_69 κ a0 x1 x2 x3
  else
  P_X7_demands_70 κ a0 x1 x2 x3 1
  else
  P_X7_demands_69 κ a0 x1 x2 x3
  else
  bd2 (P_X7_fail κ a0 1) fun y236 κ237 =>
  some (y236, κ237)
def P_X7_areAlike (κ : jKt) (x0 : Int32) (x1 : Int32) : Option (Int32) :=
  if 1 < (x0 - x1) then
  some 0
  else
  if 1 < (x1 - x0) then
  some 0
  else
  some 1
def P_X7_worth_15 (κ : jKt) (a0 : Nat) (v1 : Int32) : Nat → Int32 → Int32 → Option (Int32)
  | 0, _, _ => none
  | n + 1, v2, v3 =>
    bd (P_X7_sleeves κ a0 v1) fun y34 =>
  if y34 ≤ v3 then
  some v2
  else
  bd (P_X7_state κ a0 v1 v3) fun y37 =>
  if y37 = 0 then
  bd (P_X7_wanted κ a0 v1 v3) fun y42 =>
  P_X7_worth_15 κ a0 v1 n (v2 + y42) (v3 + 1)
  else
  bd (P_X7_own κ a0 v1 v3) fun y40 =>
  P_X7_worth_15 κ a0 v1 n (v2 + y40) (v3 + 1)
def P_X7_worth (κ : jKt) (a0 : Nat) (x1 : Int32) : Option (Int32) :=
  bd (P_X7_of κ x1 3) fun y45 =>
  ck (jin y45 457) <|
  bnd (3 * (kI κ (kR κ a0 5) (ix y45))) fun y47 =>
  P_X7_worth_15 κ a0 x1 4000 y47 0
def P_X7_cloth_4 (κ : jKt) (a0 : Nat) (v1 : Int32) : Nat → Int32 → Int32 → Option (Int32)
  | 0, _, _ => none
  | n + 1, v2, v3 =>
    bd (P_X7_sleeves κ a0 v1) fun y18 =>
  if y18 ≤ v3 then
  some v2
  else
  bd (P_X7_state κ a0 v1 v3) fun y21 =>
  if y21 = 0 then
  P_X7_cloth_4 κ a0 v1 n (v2 + 0) (v3 + 1)
  else
  bd (P_X7_own κ a0 v1 v3) fun y24 =>
  P_X7_cloth_4 κ a0 v1 n (v2 + (y24 + 2)) (v3 + 1)
def P_X7_cloth (κ : jKt) (a0 : Nat) (x1 : Int32) : Option (Int32) :=
  P_X7_cloth_4 κ a0 x1 4000 0 0
def P_X7_goes_6 (a0 : Nat) : Nat → jKt → Int32 → Option (jKt)
  | 0, _, _ => none
  | n + 1, κ, v2 =>
    if 457 ≤ v2 then
  bnd (kU κ (kR κ a0 5) (ix 1) (.int ((kI κ (kR κ a0 5) (ix 1)) - 1))) fun κ35 =>
  some κ35
  else
  if 457 ≤ (v2 + 60) then
  ck (jin v2 457) <|
  bnd (kU κ (kR κ a0 5) (ix v2) (.int 0)) fun κ40 =>
  P_X7_goes_6 a0 n κ40 (v2 + 1)
  else
  ck (jin (v2 + 60) 457) <|
  ck (jin v2 457) <|
  bnd (kU κ (kR κ a0 5) (ix v2) (.int (kI κ (kR κ a0 5) (ix (v2 + 60))))) fun κ45 =>
  P_X7_goes_6 a0 n κ45 (v2 + 1)
def P_X7_goes (κ : jKt) (a0 : Nat) (x1 : Int32) : Option (jKt) :=
  bd (P_X7_of κ x1 0) fun y48 =>
  P_X7_goes_6 a0 4000 κ y48
def P_X7_scraps (κ : jKt) (a0 : Nat) (x1 : Int32) : Option (Int32 × jKt) :=
  if 0 ≤ x1 then
  bd (P_X7_cloth κ a0 x1) fun y25 =>
  bnd (kU κ (kR κ a0 5) (ix 4) (.int ((kI κ (kR κ a0 5) (ix 4)) + y25))) fun κ27 =>
  bd (P_X7_goes κ27 a0 x1) fun κ30 =>
  some (y25, κ30)
  else
  bd2 (P_X7_fail κ a0 1) fun y32 κ33 =>
  some (y32, κ33)
def P_X7_stock_13 (κ : jKt) (a0 : Nat) (v1 : Int32) (s0 : Int32) (a1 : Nat) : Option (Int32 × jKt) :=
  bnd (kU κ a1 0 (.int s0)) fun κ17 =>
  if (kI κ17 a0 0) = 0 then
  ck (jin (8 + v1) 457) <|
  some (kI κ17 (kR κ17 a0 5) (ix (8 + v1)), κ17)
  else
  some (0, κ17)
def P_X7_stock (κ : jKt) (a0 : Nat) (x1 : Int32) : Option (Int32 × jKt) :=
  bd (P_X7_isCloth κ x1) fun y23 =>
  if y23 = 0 then
  P_X7_stock_13 κ a0 x1 1 a0
  else
  P_X7_stock_13 κ a0 x1 0 a0
def P_X7_tells (κ : jKt) (a0 : Nat) (x1 : Int32) : Option (Int32 × jKt) :=
  bnd (kU κ a0 0 (.int 0)) fun κ9 =>
  ck (jin x1 457) <|
  some (kI κ9 (kR κ9 a0 5) (ix x1), κ9)
def P_X7_customerCount (κ : jKt) (a0 : Nat) : Option (Int32 × jKt) :=
  bd2 (P_X7_tells κ a0 0) fun y8 κ9 =>
  some (y8, κ9)
def P_X7_pairs_14 (κ : jKt) (a0 : Nat) (v1 : Int32) (s0 : Int32) (a1 : Nat) : Option (Int32 × jKt) :=
  bnd (kU κ a1 0 (.int s0)) fun κ21 =>
  if (kI κ21 a0 0) = 0 then
  bd (P_X7_at κ21 v1) fun y26 =>
  ck (jin y26 457) <|
  some (kI κ21 (kR κ21 a0 5) (ix y26), κ21)
  else
  some (0, κ21)
def P_X7_pairs (κ : jKt) (a0 : Nat) (x1 : Int32) : Option (Int32 × jKt) :=
  bd (P_X7_isCustomer κ a0 x1) fun y29 =>
  if y29 = 0 then
  P_X7_pairs_14 κ a0 x1 1 a0
  else
  P_X7_pairs_14 κ a0 x1 0 a0
def P_X7_legLength_15 (κ : jKt) (a0 : Nat) (v1 : Int32) (v2 : Int32) (s0 : Int32) (a1 : Nat) : Option (Int32 × jKt) :=
  bnd (kU κ a1 0 (.int s0)) fun κ17 =>
  if (kI κ17 a0 0) = 0 then
  bd (P_X7_leg κ17 a0 v1 v2) fun y21 =>
  some (y21, κ17)
  else
  some (0, κ17)
def P_X7_legLength (κ : jKt) (a0 : Nat) (x1 : Int32) (x2 : Int32) : Option (Int32 × jKt) :=
  bd (P_X7_isLeg κ a0 x1 x2) fun y23 =>
  if y23 = 0 then
  P_X7_legLength_15 κ a0 x1 x2 1 a0
  else
  P_X7_legLength_15 κ a0 x1 x2 0 a0
def P_X7_mirrorLeg_15 (κ : jKt) (a0 : Nat) (v2 : Int32) (s0 : Int32) (a1 : Nat) : Option (Int32 × jKt) :=
  bnd (kU κ a1 0 (.int s0)) fun κ13 =>
  if (kI κ13 a0 0) = 0 then
  some (v2 ^^^ 1, κ13)
  else
  some (0, κ13)
def P_X7_mirrorLeg (κ : jKt) (a0 : Nat) (x1 : Int32) (x2 : Int32) : Option (Int32 × jKt) :=
  bd (P_X7_isLeg κ a0 x1 x2) fun y17 =>
  if y17 = 0 then
  P_X7_mirrorLeg_15 κ a0 x2 1 a0
  else
  P_X7_mirrorLeg_15 κ a0 x2 0 a0
def P_X7_isMirrored_28 (a0 : Nat) (v1 : Int32) : Nat → jKt → Int32 → Option (Int32 × jKt)
  | 0, _, _ => none
  | n + 1, κ, v2 =>
    bd (P_X7_legs κ a0 v1) fun y34 =>
  if y34 ≤ v2 then
  some (1, κ)
  else
  bd (P_X7_leg κ a0 v1 v2) fun y37 =>
  bd (P_X7_leg κ a0 v1 (v2 + 1)) fun y39 =>
  bd (P_X7_areAlike κ y37 y39) fun y41 =>
  if y41 = 0 then
  some (0, κ)
  else
  P_X7_isMirrored_28 a0 v1 n κ (v2 + 2)
def P_X7_isMirrored_14 (κ : jKt) (a0 : Nat) (v1 : Int32) (s0 : Int32) (a1 : Nat) : Option (Int32 × jKt) :=
  bnd (kU κ a1 0 (.int s0)) fun κ43 =>
  if (kI κ43 a0 0) = 0 then
  P_X7_isMirrored_28 a0 v1 4000 κ43 0
  else
  some (0, κ43)
def P_X7_isMirrored (κ : jKt) (a0 : Nat) (x1 : Int32) : Option (Int32 × jKt) :=
  bd (P_X7_isCustomer κ a0 x1) fun y47 =>
  if y47 = 0 then
  P_X7_isMirrored_14 κ a0 x1 1 a0
  else
  P_X7_isMirrored_14 κ a0 x1 0 a0
def P_X7_all_4 (κ : jKt) (a0 : Nat) (v1 : Int32) : Nat → Int32 → Int32 → Option (Int32)
  | 0, _, _ => none
  | n + 1, v2, v3 =>
    bd (P_X7_legs κ a0 v1) fun y12 =>
  if y12 ≤ v3 then
  some v2
  else
  bd (P_X7_leg κ a0 v1 v3) fun y15 =>
  P_X7_all_4 κ a0 v1 n (v2 + y15) (v3 + 1)
def P_X7_all (κ : jKt) (a0 : Nat) (x1 : Int32) : Option (Int32) :=
  P_X7_all_4 κ a0 x1 4000 0 0
def P_X7_customerByLegs_22 (a0 : Nat) (v1 : Int32) (v2 : Int32) (K7 : jKt → Int32 → Option (Int32 × jKt)) : Nat → jKt → Int32 → Int32 → Option (Int32 × jKt)
  | 0, _, _, _ => none
  | n + 1, κ, v3, v4 =>
    if (kI κ (kR κ a0 5) (ix 0)) ≤ v4 then
  if v3 = v1 then
  some (v2, κ)
  else
  K7 κ (v2 + 1)
  else
  bd (P_X7_all κ a0 v4) fun y47 =>
  bd (P_X7_all κ a0 v2) fun y49 =>
  if y49 < y47 then
  P_X7_customerByLegs_22 a0 v1 v2 K7 n κ (v3 + 1) (v4 + 1)
  else
  bd (P_X7_all κ a0 v4) fun y52 =>
  bd (P_X7_all κ a0 v2) fun y54 =>
  if y52 = y54 then
  if v2 ≤ v4 then
  P_X7_customerByLegs_22 a0 v1 v2 K7 n κ (v3 + 0) (v4 + 1)
  else
  P_X7_customerByLegs_22 a0 v1 v2 K7 n κ (v3 + 1) (v4 + 1)
  else
  P_X7_customerByLegs_22 a0 v1 v2 K7 n κ (v3 + 0) (v4 + 1)
def P_X7_customerByLegs_7 (a0 : Nat) (v1 : Int32) : Nat → jKt → Int32 → Option (Int32 × jKt)
  | 0, _, _ => none
  | n + 1, κ, v2 =>
    if (kI κ (kR κ a0 5) (ix 0)) ≤ v2 then
  bd2 (P_X7_fail κ a0 1) fun y60 κ61 =>
  some (y60, κ61)
  else
  P_X7_customerByLegs_22 a0 v1 v2 (P_X7_customerByLegs_7 a0 v1 n) 4000 κ 0 0
def P_X7_customerByLegs (κ : jKt) (a0 : Nat) (x1 : Int32) : Option (Int32 × jKt) :=
  bnd (kU κ a0 0 (.int 0)) fun κ62 =>
  P_X7_customerByLegs_7 a0 x1 4000 κ62 0
def P_X7_suitCount (κ : jKt) (a0 : Nat) : Option (Int32 × jKt) :=
  bd2 (P_X7_tells κ a0 1) fun y8 κ9 =>
  some (y8, κ9)
def P_X7_suitAt_22 (κ : jKt) (a0 : Nat) (v1 : Int32) (s0 : Int32) (a1 : Nat) : Option (Int32 × jKt) :=
  bnd (kU κ a1 0 (.int s0)) fun κ23 =>
  if (kI κ23 a0 0) = 0 then
  bd (P_X7_of κ23 v1 0) fun y28 =>
  ck (jin y28 457) <|
  some (kI κ23 (kR κ23 a0 5) (ix y28), κ23)
  else
  some (0, κ23)
def P_X7_suitAt (κ : jKt) (a0 : Nat) (x1 : Int32) : Option (Int32 × jKt) :=
  bd (P_X7_isIn κ x1 0 ((kI κ (kR κ a0 5) (ix 1)) - 1)) fun y32 =>
  if y32 = 0 then
  P_X7_suitAt_22 κ a0 x1 1 a0
  else
  P_X7_suitAt_22 κ a0 x1 0 a0
def P_X7_isHeld_2 (κ : jKt) (a0 : Nat) (v1 : Int32) (v2 : Int32) : Nat → Int32 → Option (Int32)
  | 0, _ => none
  | n + 1, v3 =>
    bd (P_X7_of κ v1 3) fun y29 =>
  ck (jin y29 457) <|
  if (kI κ (kR κ a0 5) (ix y29)) ≤ v3 then
  some 0
  else
  bd (P_X7_second κ a0 v1 v3) fun y33 =>
  if y33 = v2 then
  bd (P_X7_first κ a0 v1 v3) fun y37 =>
  ck (jin y37 16) <|
  if (kI κ (kR κ a0 10) (ix y37)) = 0 then
  some 1
  else
  P_X7_isHeld_2 κ a0 v1 v2 n (v3 + 1)
  else
  P_X7_isHeld_2 κ a0 v1 v2 n (v3 + 1)
def P_X7_isHeld (κ : jKt) (a0 : Nat) (x1 : Int32) (x2 : Int32) : Option (Int32) :=
  P_X7_isHeld_2 κ a0 x1 x2 4000 0
def P_X7_sorts_104 (κ : jKt) (a0 : Nat) (v1 : Int32) (v2 : Int32) (v3 : Int32) (v4 : Int32) (K48 : jKt → Int32 → Int32 → Option (Int32 × jKt)) : Option (Int32 × jKt) :=
  if v4 = 0 then
  K48 κ v2 (v3 + 1)
  else
  K48 κ v2 0
def P_X7_sorts_80 (κ : jKt) (a0 : Nat) (v1 : Int32) (v2 : Int32) (v3 : Int32) (s0 : Int32) (K48 : jKt → Int32 → Int32 → Option (Int32 × jKt)) : Option (Int32 × jKt) :=
  if s0 = 0 then
  P_X7_sorts_104 κ a0 v1 v2 v3 s0 K48
  else
  ck (jin v3 16) <|
  bnd (kU κ (kR κ a0 10) (ix v3) (.int 1)) fun κ77 =>
  ck (jin v2 16) <|
  bnd (kU κ77 (kR κ77 a0 9) (ix v2) (.int v3)) fun κ81 =>
  P_X7_sorts_104 κ81 a0 v1 (v2 + 1) v3 s0 K48
def P_X7_sorts_79 (κ : jKt) (a0 : Nat) (v1 : Int32) (v2 : Int32) (v3 : Int32) (K48 : jKt → Int32 → Int32 → Option (Int32 × jKt)) : Option (Int32 × jKt) :=
  P_X7_sorts_80 κ a0 v1 v2 v3 0 K48
def P_X7_sorts_48 (a0 : Nat) (v1 : Int32) : Nat → jKt → Int32 → Int32 → Option (Int32 × jKt)
  | 0, _, _, _ => none
  | n + 1, κ, v2, v3 =>
    bd (P_X7_sleeves κ a0 v1) fun y84 =>
  if y84 ≤ v3 then
  some (v2, κ)
  else
  ck (jin v3 16) <|
  if (kI κ (kR κ a0 10) (ix v3)) = 0 then
  bd (P_X7_isHeld κ a0 v1 v3) fun y90 =>
  if y90 = 0 then
  P_X7_sorts_80 κ a0 v1 v2 v3 1 (P_X7_sorts_48 a0 v1 n)
  else
  P_X7_sorts_79 κ a0 v1 v2 v3 (P_X7_sorts_48 a0 v1 n)
  else
  P_X7_sorts_79 κ a0 v1 v2 v3 (P_X7_sorts_48 a0 v1 n)
def P_X7_sorts_2 (a0 : Nat) (v1 : Int32) : Nat → jKt → Int32 → Option (Int32 × jKt)
  | 0, _, _ => none
  | n + 1, κ, v2 =>
    if 16 ≤ v2 then
  P_X7_sorts_48 a0 v1 4000 κ 0 0
  else
  bd (P_X7_sleeves κ a0 v1) fun y95 =>
  if y95 ≤ v2 then
  ck (jin v2 16) <|
  bnd (kU κ (kR κ a0 10) (ix v2) (.int 1)) fun κ98 =>
  P_X7_sorts_2 a0 v1 n κ98 (v2 + 1)
  else
  bd (P_X7_state κ a0 v1 v2) fun y101 =>
  if y101 = 2 then
  ck (jin v2 16) <|
  bnd (kU κ (kR κ a0 10) (ix v2) (.int 1)) fun κ104 =>
  P_X7_sorts_2 a0 v1 n κ104 (v2 + 1)
  else
  ck (jin v2 16) <|
  bnd (kU κ (kR κ a0 10) (ix v2) (.int 0)) fun κ107 =>
  P_X7_sorts_2 a0 v1 n κ107 (v2 + 1)
def P_X7_sorts (κ : jKt) (a0 : Nat) (x1 : Int32) : Option (Int32 × jKt) :=
  P_X7_sorts_2 a0 x1 4000 κ 0
def P_X7_boughtTotal (κ : jKt) (a0 : Nat) : Option (Int32 × jKt) :=
  bd2 (P_X7_tells κ a0 3) fun y8 κ9 =>
  some (y8, κ9)
def P_X7_wasteTotal (κ : jKt) (a0 : Nat) : Option (Int32 × jKt) :=
  bd2 (P_X7_tells κ a0 4) fun y8 κ9 =>
  some (y8, κ9)
def P_X7_deliveredTotal (κ : jKt) (a0 : Nat) : Option (Int32 × jKt) :=
  bd2 (P_X7_tells κ a0 5) fun y8 κ9 =>
  some (y8, κ9)
def P_X7_income (κ : jKt) (a0 : Nat) : Option (Int32 × jKt) :=
  bd2 (P_X7_tells κ a0 6) fun y8 κ9 =>
  some (y8, κ9)
def P_X7_deliveredSuits (κ : jKt) (a0 : Nat) : Option (Int32 × jKt) :=
  bd2 (P_X7_tells κ a0 7) fun y8 κ9 =>
  some (y8, κ9)
def P_X7_meanLeg_14 (κ : jKt) (a0 : Nat) (v1 : Int32) (s0 : Int32) (a1 : Nat) : Option (UInt64 × jKt) :=
  bnd (kU κ a1 0 (.int s0)) fun κ23 =>
  if (kI κ23 a0 0) = 0 then
  bd (P_X7_all κ23 a0 v1) fun y27 =>
  bd (P_X7_legs κ23 a0 v1) fun y29 =>
  ck ((FP.ddiv (FP.i2d y27) (FP.i2d y29)) &&& 0x7fffffffffffffff ≤ 0x7ff0000000000000) <|
  some (FP.ddiv (FP.i2d y27) (FP.i2d y29), κ23)
  else
  some (FP.dconst0, κ23)
def P_X7_meanLeg (κ : jKt) (a0 : Nat) (x1 : Int32) : Option (UInt64 × jKt) :=
  bd (P_X7_isCustomer κ a0 x1) fun y32 =>
  if y32 = 0 then
  P_X7_meanLeg_14 κ a0 x1 1 a0
  else
  P_X7_meanLeg_14 κ a0 x1 0 a0
def P_X7_wasteShare_15 (κ : jKt) (a0 : Nat) (s0 : Int32) (a1 : Nat) : Option (UInt32 × jKt) :=
  bnd (kU κ a1 0 (.int s0)) fun κ17 =>
  if (kI κ17 a0 0) = 0 then
  ck ((FP.fdiv (FP.i2f (kI κ17 (kR κ17 a0 5) (ix 4))) (FP.i2f (kI κ17 (kR κ17 a0 5) (ix 3)))) &&& 0x7fffffff ≤ 0x7f800000) <|
  some (FP.fdiv (FP.i2f (kI κ17 (kR κ17 a0 5) (ix 4))) (FP.i2f (kI κ17 (kR κ17 a0 5) (ix 3))), κ17)
  else
  some (FP.fconst0, κ17)
def P_X7_wasteShare (κ : jKt) (a0 : Nat) : Option (UInt32 × jKt) :=
  if (kI κ (kR κ a0 5) (ix 3)) = 0 then
  P_X7_wasteShare_15 κ a0 1 a0
  else
  P_X7_wasteShare_15 κ a0 0 a0
def P_X7_isConsistent_46 (a0 : Nat) : Nat → jKt → Int32 → Int32 → Option (Int32 × jKt)
  | 0, _, _, _ => none
  | n + 1, κ, v1, v2 =>
    if (kI κ (kR κ a0 5) (ix 1)) ≤ v2 then
  if v1 = (kI κ (kR κ a0 5) (ix 3)) then
  some (1, κ)
  else
  some (0, κ)
  else
  bd (P_X7_cloth κ a0 v2) fun y40 =>
  P_X7_isConsistent_46 a0 n κ (v1 + y40) (v2 + 1)
def P_X7_isConsistent_21 (a0 : Nat) : Nat → jKt → Int32 → Int32 → Option (Int32 × jKt)
  | 0, _, _, _ => none
  | n + 1, κ, v1, v2 =>
    if 4 ≤ v2 then
  P_X7_isConsistent_46 a0 4000 κ v1 0
  else
  ck (jin (8 + v2) 457) <|
  bnd (v1 + (kI κ (kR κ a0 5) (ix (8 + v2)))) fun y44 =>
  P_X7_isConsistent_21 a0 n κ y44 (v2 + 1)
def P_X7_isConsistent (κ : jKt) (a0 : Nat) : Option (Int32 × jKt) :=
  bnd (kU κ a0 0 (.int 0)) fun κ46 =>
  bnd ((kI κ46 (kR κ46 a0 5) (ix 4)) + (kI κ46 (kR κ46 a0 5) (ix 5))) fun y50 =>
  P_X7_isConsistent_21 a0 4000 κ46 y50 0
def P_X7_writes (κ : jKt) (a0 : Nat) (x1 : Int32) : Option (jKt) :=
  ck (jin (kI κ a0 19) 70) <|
  bnd (kU κ (kR κ a0 12) (ix (kI κ a0 19)) (.int x1)) fun κ15 =>
  bnd (kU κ15 a0 19 (.int ((kI κ15 a0 19) + 1))) fun κ17 =>
  some κ17
def P_X7_writesNumber (κ : jKt) (a0 : Nat) (x1 : Int32) : Option (jKt) :=
  if x1 < 10 then
  bd (P_X7_writes κ a0 (48 + (irem x1 10))) fun κ17 =>
  some κ17
  else
  bd (P_X7_writes κ a0 (48 + (x1 / 10))) fun κ19 =>
  bd (P_X7_writes κ19 a0 (48 + (irem x1 10))) fun κ21 =>
  some κ21
def P_X7_outputAt_20 (κ : jKt) (a0 : Nat) (v1 : Int32) (s0 : Int32) (a1 : Nat) : Option (Int32 × jKt) :=
  bnd (kU κ a1 0 (.int s0)) fun κ21 =>
  if (kI κ21 a0 0) = 0 then
  ck (jin v1 70) <|
  ck (jch (i2c (kI κ21 (kR κ21 a0 12) (ix v1)))) <|
  some (i2c (kI κ21 (kR κ21 a0 12) (ix v1)), κ21)
  else
  ck (jch 97) <|
  some (97, κ21)
def P_X7_outputAt (κ : jKt) (a0 : Nat) (x1 : Int32) : Option (Int32 × jKt) :=
  bd (P_X7_isIn κ x1 0 ((kI κ a0 19) - 1)) fun y29 =>
  if y29 = 0 then
  P_X7_outputAt_20 κ a0 x1 1 a0
  else
  P_X7_outputAt_20 κ a0 x1 0 a0
def P_X7_type_30 (κ : jKt) (a0 : Nat) (v1 : Int32) (s0 : Int32) (a1 : Nat) : Option (Int32 × jKt) :=
  bnd (kU κ a1 0 (.int s0)) fun κ27 =>
  if (kI κ27 a0 0) = 0 then
  ck (jin (kI κ27 a0 16) 60) <|
  bnd (kU κ27 (kR κ27 a0 11) (ix (kI κ27 a0 16)) (.int v1)) fun κ32 =>
  bnd (kU κ32 a0 16 (.int ((kI κ32 a0 16) + 1))) fun κ34 =>
  some (kI κ34 a0 16, κ34)
  else
  some (0, κ27)
def P_X7_type (κ : jKt) (a0 : Nat) (x1 : Int32) : Option (Int32 × jKt) :=
  bd (P_X7_isIn κ x1 32 126) fun y37 =>
  if y37 = 0 then
  P_X7_type_30 κ a0 x1 1 a0
  else
  if (kI κ a0 16) = 60 then
  P_X7_type_30 κ a0 x1 2 a0
  else
  P_X7_type_30 κ a0 x1 0 a0
def P_X7_sign (κ : jKt) (a0 : Nat) : Option (Int32) :=
  if (kI κ a0 18) ≤ (kI κ a0 17) then
  some (-1)
  else
  ck (jin (kI κ a0 17) 60) <|
  some (kI κ (kR κ a0 11) (ix (kI κ a0 17)))
def P_X7_mark_22 (κ : jKt) (a0 : Nat) (s0 : Int32) (a1 : Nat) : Option (jKt) :=
  ck (jz s0) <|
  bnd (kU κ a1 20 (.int s0)) fun κ25 =>
  if (kI κ25 a0 20) = 0 then
  bnd (kU κ25 a0 17 (.int ((kI κ25 a0 17) + 1))) fun κ29 =>
  some κ29
  else
  bnd (kU κ25 a0 17 (.int ((kI κ25 a0 17) + 0))) fun κ31 =>
  some κ31
def P_X7_mark (κ : jKt) (a0 : Nat) (x1 : Int32) : Option (jKt) :=
  if (kI κ a0 20) = 0 then
  bd (P_X7_sign κ a0) fun y35 =>
  if y35 = x1 then
  P_X7_mark_22 κ a0 0 a0
  else
  P_X7_mark_22 κ a0 1 a0
  else
  some κ
def P_X7_digits_59 (κ : jKt) (a0 : Nat) (v2 : Int32) (v3 : Int32) : Option (Int32 × jKt) :=
  if v3 = 0 then
  ck (jz ((kI κ a0 20) ||| 1)) <|
  bnd (kU κ a0 20 (.int ((kI κ a0 20) ||| 1))) fun κ41 =>
  some (v2, κ41)
  else
  ck (jz ((kI κ a0 20) ||| 0)) <|
  bnd (kU κ a0 20 (.int ((kI κ a0 20) ||| 0))) fun κ38 =>
  some (v2, κ38)
def P_X7_digits_4 (a0 : Nat) (v1 : Int32) : Nat → jKt → Int32 → Int32 → Option (Int32 × jKt)
  | 0, _, _, _ => none
  | n + 1, κ, v2, v3 =>
    if (kI κ a0 20) = 0 then
  if v1 ≤ v3 then
  P_X7_digits_59 κ a0 v2 v3
  else
  bd (P_X7_sign κ a0) fun y47 =>
  bd (P_X7_isIn κ y47 48 57) fun y49 =>
  if y49 = 0 then
  P_X7_digits_59 κ a0 v2 v3
  else
  bd (P_X7_sign κ a0) fun y52 =>
  bnd (kU κ a0 17 (.int ((kI κ a0 17) + 1))) fun κ53 =>
  P_X7_digits_4 a0 v1 n κ53 (((10 * v2) + y52) - 48) (v3 + 1)
  else
  P_X7_digits_59 κ a0 v2 v3
def P_X7_digits (κ : jKt) (a0 : Nat) (x1 : Int32) : Option (Int32 × jKt) :=
  P_X7_digits_4 a0 x1 4000 κ 0 0
def P_X7_behindSign (κ : jKt) (a0 : Nat) (x1 : Int32) (x2 : Int32) : Option (Int32 × jKt) :=
  bd (P_X7_mark κ a0 x1) fun κ14 =>
  if (kI κ14 a0 20) = 0 then
  bd2 (P_X7_digits κ14 a0 x2) fun y17 κ18 =>
  some (y17, κ18)
  else
  some (0, κ14)
def P_X7_word_103 (κ : jKt) (a0 : Nat) (v1 : Int32) (v2 : Int32) (v3 : Int32) (v4 : Int32) (s0 : Int32) (s1 : Int32) (s2 : Int32) (a3 : Nat) (K25 : jKt → Int32 → Int32 → Option (Int32 × jKt)) (K41 : jKt → Int32 → Int32 → Option (Int32 × jKt)) : Option (Int32 × jKt) :=
  ck (jin s2 10) <|
  bnd (kU κ a3 (ix s2) (.int (s1 &&& s0))) fun κ94 =>
  ck (jin v4 10) <|
  if (kI κ94 (kR κ94 a0 13) (ix v4)) = 1 then
  K41 κ94 (v3 ||| 1) (v4 + 1)
  else
  K41 κ94 (v3 ||| 0) (v4 + 1)
def P_X7_word_102 (κ : jKt) (a0 : Nat) (v1 : Int32) (v2 : Int32) (v3 : Int32) (v4 : Int32) (s0 : Int32) (s1 : Int32) (a2 : Nat) (K25 : jKt → Int32 → Int32 → Option (Int32 × jKt)) (K41 : jKt → Int32 → Int32 → Option (Int32 × jKt)) : Option (Int32 × jKt) :=
  P_X7_word_103 κ a0 v1 v2 v3 v4 0 s0 s1 a2 K25 K41
def P_X7_word_167 (a0 : Nat) (v1 : Int32) (K25 : jKt → Int32 → Int32 → Option (Int32 × jKt)) : Nat → jKt → Int32 → Int32 → Option (Int32 × jKt)
  | 0, _, _, _ => none
  | n + 1, κ, v2, v4 =>
    if 10 ≤ v4 then
  K25 κ v1 v2
  else
  ck (jin v4 10) <|
  if (kI κ (kR κ a0 13) (ix v4)) = 1 then
  ck (jin v4 11) <|
  ck (jin (v4 + 1) 11) <|
  if ((kI κ (kR κ a0 15) (ix v4)) + v1) = (kI κ (kR κ a0 15) (ix (v4 + 1))) then
  P_X7_word_167 a0 v1 K25 n κ v4 (v4 + 1)
  else
  P_X7_word_167 a0 v1 K25 n κ v2 (v4 + 1)
  else
  P_X7_word_167 a0 v1 K25 n κ v2 (v4 + 1)
def P_X7_word_140 (κ : jKt) (a0 : Nat) (v1 : Int32) (v2 : Int32) (v3 : Int32) (s0 : Int32) (a1 : Nat) (K25 : jKt → Int32 → Int32 → Option (Int32 × jKt)) : Option (Int32 × jKt) :=
  ck (jz s0) <|
  bnd (kU κ a1 20 (.int s0)) fun κ108 =>
  if v3 = 0 then
  bnd (kU κ108 a0 17 (.int ((kI κ108 a0 17) + 0))) fun κ112 =>
  P_X7_word_167 a0 (v1 + 1) K25 4000 κ112 v2 0
  else
  bnd (kU κ108 a0 17 (.int ((kI κ108 a0 17) + 1))) fun κ114 =>
  P_X7_word_167 a0 (v1 + 1) K25 4000 κ114 v2 0
def P_X7_word_41 (a0 : Nat) (v1 : Int32) (v2 : Int32) (K25 : jKt → Int32 → Int32 → Option (Int32 × jKt)) : Nat → jKt → Int32 → Int32 → Option (Int32 × jKt)
  | 0, _, _, _ => none
  | n + 1, κ, v3, v4 =>
    if 10 ≤ v4 then
  if v3 = 0 then
  P_X7_word_140 κ a0 v1 v2 v3 1 a0 K25
  else
  P_X7_word_140 κ a0 v1 v2 v3 0 a0 K25
  else
  ck (jin v4 10) <|
  ck (jin v4 11) <|
  ck (jin (v4 + 1) 11) <|
  if (kI κ (kR κ a0 15) (ix (v4 + 1))) ≤ ((kI κ (kR κ a0 15) (ix v4)) + v1) then
  P_X7_word_102 κ a0 v1 v2 v3 v4 (kI κ (kR κ a0 13) (ix v4)) v4 (kR κ a0 13) K25 (P_X7_word_41 a0 v1 v2 K25 n)
  else
  ck (jin v4 11) <|
  ck (jin ((kI κ (kR κ a0 15) (ix v4)) + v1) 57) <|
  bd (P_X7_sign κ a0) fun y130 =>
  if (kI κ (kR κ a0 14) (ix ((kI κ (kR κ a0 15) (ix v4)) + v1))) = y130 then
  P_X7_word_103 κ a0 v1 v2 v3 v4 1 (kI κ (kR κ a0 13) (ix v4)) v4 (kR κ a0 13) K25 (P_X7_word_41 a0 v1 v2 K25 n)
  else
  P_X7_word_102 κ a0 v1 v2 v3 v4 (kI κ (kR κ a0 13) (ix v4)) v4 (kR κ a0 13) K25 (P_X7_word_41 a0 v1 v2 K25 n)
def P_X7_word_25 (a0 : Nat) : Nat → jKt → Int32 → Int32 → Option (Int32 × jKt)
  | 0, _, _, _ => none
  | n + 1, κ, v1, v2 =>
    if 0 ≤ v2 then
  some (v2, κ)
  else
  if (kI κ a0 20) = 0 then
  P_X7_word_41 a0 v1 v2 (P_X7_word_25 a0 n) 4000 κ 0 0
  else
  some (v2, κ)
def P_X7_word_2 (a0 : Nat) : Nat → jKt → Int32 → Option (Int32 × jKt)
  | 0, _, _ => none
  | n + 1, κ, v1 =>
    if 10 ≤ v1 then
  P_X7_word_25 a0 4000 κ 0 (-1)
  else
  ck (jin v1 10) <|
  bnd (kU κ (kR κ a0 13) (ix v1) (.int 1)) fun κ137 =>
  P_X7_word_2 a0 n κ137 (v1 + 1)
def P_X7_word (κ : jKt) (a0 : Nat) : Option (Int32 × jKt) :=
  P_X7_word_2 a0 4000 κ 0
def P_X7_errorPosition_13 (κ : jKt) (a0 : Nat) (s0 : Int32) (a1 : Nat) : Option (Int32 × jKt) :=
  bnd (kU κ a1 0 (.int s0)) fun κ9 =>
  if (kI κ9 a0 0) = 0 then
  some (kI κ9 a0 2, κ9)
  else
  some (0, κ9)
def P_X7_errorPosition (κ : jKt) (a0 : Nat) : Option (Int32 × jKt) :=
  if 0 ≤ (kI κ a0 2) then
  P_X7_errorPosition_13 κ a0 0 a0
  else
  P_X7_errorPosition_13 κ a0 1 a0
def P_X7_failedCommand_13 (κ : jKt) (a0 : Nat) (s0 : Int32) (a1 : Nat) : Option (Int32 × jKt) :=
  bnd (kU κ a1 0 (.int s0)) fun κ9 =>
  if (kI κ9 a0 0) = 0 then
  some (kI κ9 a0 3, κ9)
  else
  some (0, κ9)
def P_X7_failedCommand (κ : jKt) (a0 : Nat) : Option (Int32 × jKt) :=
  if 0 ≤ (kI κ a0 3) then
  P_X7_failedCommand_13 κ a0 0 a0
  else
  P_X7_failedCommand_13 κ a0 1 a0
def P_X7_undo_37 (a0 : Nat) : Nat → jKt → Int32 → Option (Int32 × jKt)
  | 0, _, _ => none
  | n + 1, κ, v1 =>
    if 457 ≤ v1 then
  some (kI κ a0 1, κ)
  else
  ck (jin (((kI κ a0 1) * 457) + v1) 3656) <|
  ck (jin v1 457) <|
  bnd (kU κ (kR κ a0 5) (ix v1) (.int (kI κ (kR κ a0 8) (ix (((kI κ a0 1) * 457) + v1))))) fun κ32 =>
  P_X7_undo_37 a0 n κ32 (v1 + 1)
def P_X7_undo_13 (κ : jKt) (a0 : Nat) (s0 : Int32) (a1 : Nat) : Option (Int32 × jKt) :=
  bnd (kU κ a1 0 (.int s0)) fun κ34 =>
  if (kI κ34 a0 0) = 0 then
  bnd (kU κ34 a0 1 (.int ((kI κ34 a0 1) - 1))) fun κ37 =>
  P_X7_undo_37 a0 4000 κ37 0
  else
  some (0, κ34)
def P_X7_undo (κ : jKt) (a0 : Nat) : Option (Int32 × jKt) :=
  if (kI κ a0 1) = 0 then
  P_X7_undo_13 κ a0 1 a0
  else
  P_X7_undo_13 κ a0 0 a0
def P_X7_save (κ : jKt) (a0 : Nat) : Option (Int32 × jKt) :=
  bnd (kU κ a0 0 (.int 0)) fun κ19 =>
  bd (P_X7_lays κ19 (kR κ19 a0 7) (kR κ19 a0 5)) fun κ24 =>
  bnd (kU κ24 a0 4 (.int 1)) fun κ25 =>
  some (kI κ25 (kR κ25 a0 5) (ix 1), κ25)
def P_X7_restore_13 (κ : jKt) (a0 : Nat) (s0 : Int32) (a1 : Nat) : Option (Int32 × jKt) :=
  bnd (kU κ a1 0 (.int s0)) fun κ23 =>
  if (kI κ23 a0 0) = 0 then
  bd (P_X7_lays κ23 (kR κ23 a0 5) (kR κ23 a0 7)) fun κ29 =>
  bnd (kU κ29 a0 1 (.int 0)) fun κ30 =>
  some (kI κ30 (kR κ30 a0 5) (ix 1), κ30)
  else
  some (0, κ23)
def P_X7_restore (κ : jKt) (a0 : Nat) : Option (Int32 × jKt) :=
  if (kI κ a0 4) = 0 then
  P_X7_restore_13 κ a0 1 a0
  else
  P_X7_restore_13 κ a0 0 a0
def P_X7_find_2 (κ : jKt) (a0 : Nat) (v1 : Int32) : Nat → Int32 → Option (Int32)
  | 0, _ => none
  | n + 1, v2 =>
    if (kI κ (kR κ a0 5) (ix 1)) ≤ v2 then
  some (-1)
  else
  bd (P_X7_of κ v2 0) fun y19 =>
  ck (jin y19 457) <|
  if (kI κ (kR κ a0 5) (ix y19)) = v1 then
  some v2
  else
  P_X7_find_2 κ a0 v1 n (v2 + 1)
def P_X7_find (κ : jKt) (a0 : Nat) (x1 : Int32) : Option (Int32) :=
  P_X7_find_2 κ a0 x1 4000 0
def P_X7_cut (κ : jKt) (a0 : Nat) (x1 : Int32) (x2 : Int32) : Option (Int32 × jKt) :=
  bd (P_X7_begins κ a0) fun κ22 =>
  bd (P_X7_find κ22 a0 x1) fun y24 =>
  bd2 (P_X7_cuts κ22 a0 y24 x2) fun y26 κ27 =>
  bd2 (P_X7_ends κ27 a0 y26) fun y29 κ30 =>
  some (y29, κ30)
def P_X7_sew (κ : jKt) (a0 : Nat) (x1 : Int32) (x2 : Int32) : Option (Int32 × jKt) :=
  bd (P_X7_begins κ a0) fun κ22 =>
  bd (P_X7_find κ22 a0 x1) fun y24 =>
  bd2 (P_X7_sews κ22 a0 y24 x2) fun y26 κ27 =>
  bd2 (P_X7_ends κ27 a0 y26) fun y29 κ30 =>
  some (y29, κ30)
def P_X7_unpick (κ : jKt) (a0 : Nat) (x1 : Int32) (x2 : Int32) : Option (Int32 × jKt) :=
  bd (P_X7_begins κ a0) fun κ22 =>
  bd (P_X7_find κ22 a0 x1) fun y24 =>
  bd2 (P_X7_unpicks κ22 a0 y24 x2) fun y26 κ27 =>
  bd2 (P_X7_ends κ27 a0 y26) fun y29 κ30 =>
  some (y29, κ30)
def P_X7_demand (κ : jKt) (a0 : Nat) (x1 : Int32) (x2 : Int32) (x3 : Int32) : Option (Int32 × jKt) :=
  bd (P_X7_begins κ a0) fun κ22 =>
  bd (P_X7_find κ22 a0 x1) fun y24 =>
  bd2 (P_X7_demands κ22 a0 y24 x2 x3) fun y26 κ27 =>
  bd2 (P_X7_ends κ27 a0 y26) fun y29 κ30 =>
  some (y29, κ30)
def P_X7_isDue_46 (κ : jKt) (a0 : Nat) (v1 : Int32) : Nat → Int32 → Option (Int32)
  | 0, _ => none
  | n + 1, v2 =>
    bd (P_X7_sleeves κ a0 v1) fun y44 =>
  if y44 ≤ v2 then
  some 1
  else
  bd (P_X7_own κ a0 v1 v2) fun y47 =>
  bd (P_X7_own κ a0 v1 (v2 + 1)) fun y49 =>
  bd (P_X7_areAlike κ y47 y49) fun y51 =>
  if y51 = 0 then
  some 0
  else
  P_X7_isDue_46 κ a0 v1 n (v2 + 2)
def P_X7_isDue_2 (κ : jKt) (a0 : Nat) (v1 : Int32) : Nat → Int32 → Option (Int32)
  | 0, _ => none
  | n + 1, v2 =>
    bd (P_X7_sleeves κ a0 v1) fun y54 =>
  if y54 ≤ v2 then
  P_X7_isDue_46 κ a0 v1 4000 0
  else
  bd (P_X7_state κ a0 v1 v2) fun y57 =>
  if y57 = 2 then
  bd (P_X7_own κ a0 v1 v2) fun y60 =>
  bd (P_X7_wanted κ a0 v1 v2) fun y62 =>
  if y60 = y62 then
  P_X7_isDue_2 κ a0 v1 n (v2 + 1)
  else
  some 0
  else
  some 0
def P_X7_isDue (κ : jKt) (a0 : Nat) (x1 : Int32) : Option (Int32) :=
  P_X7_isDue_2 κ a0 x1 4000 0
def P_X7_delivers (κ : jKt) (a0 : Nat) (x1 : Int32) : Option (Int32 × jKt) :=
  if 0 ≤ x1 then
  bd (P_X7_isDue κ a0 x1) fun y53 =>
  if y53 = 0 then
  bd2 (P_X7_fail κ a0 2) fun y71 κ72 =>
  some (y71, κ72)
  else
  bd (P_X7_worth κ a0 x1) fun y56 =>
  bd (P_X7_cloth κ a0 x1) fun y59 =>
  bnd (kU κ (kR κ a0 5) (ix 5) (.int ((kI κ (kR κ a0 5) (ix 5)) + y59))) fun κ60 =>
  bnd (kU κ60 (kR κ60 a0 5) (ix 6) (.int ((kI κ60 (kR κ60 a0 5) (ix 6)) + y56))) fun κ63 =>
  bnd (kU κ63 (kR κ63 a0 5) (ix 7) (.int ((kI κ63 (kR κ63 a0 5) (ix 7)) + 1))) fun κ66 =>
  bd (P_X7_goes κ66 a0 x1) fun κ69 =>
  some (y56, κ69)
  else
  bd2 (P_X7_fail κ a0 1) fun y74 κ75 =>
  some (y74, κ75)
def P_X7_deliver (κ : jKt) (a0 : Nat) (x1 : Int32) : Option (Int32 × jKt) :=
  bd (P_X7_begins κ a0) fun κ22 =>
  bd (P_X7_find κ22 a0 x1) fun y24 =>
  bd2 (P_X7_delivers κ22 a0 y24) fun y26 κ27 =>
  bd2 (P_X7_ends κ27 a0 y26) fun y29 κ30 =>
  some (y29, κ30)
def P_X7_scrap (κ : jKt) (a0 : Nat) (x1 : Int32) : Option (Int32 × jKt) :=
  bd (P_X7_begins κ a0) fun κ22 =>
  bd (P_X7_find κ22 a0 x1) fun y24 =>
  bd2 (P_X7_scraps κ22 a0 y24) fun y26 κ27 =>
  bd2 (P_X7_ends κ27 a0 y26) fun y29 κ30 =>
  some (y29, κ30)
def P_X7_tellsOf_14 (κ : jKt) (a0 : Nat) (v1 : Int32) (v2 : Int32) (s0 : Int32) (a1 : Nat) : Option (Int32 × jKt) :=
  bnd (kU κ a1 0 (.int s0)) fun κ25 =>
  if (kI κ25 a0 0) = 0 then
  bd (P_X7_find κ25 a0 v1) fun y30 =>
  bd (P_X7_of κ25 y30 v2) fun y32 =>
  ck (jin y32 457) <|
  some (kI κ25 (kR κ25 a0 5) (ix y32), κ25)
  else
  some (0, κ25)
def P_X7_tellsOf (κ : jKt) (a0 : Nat) (x1 : Int32) (x2 : Int32) : Option (Int32 × jKt) :=
  bd (P_X7_find κ a0 x1) fun y35 =>
  if 0 ≤ y35 then
  P_X7_tellsOf_14 κ a0 x1 x2 0 a0
  else
  P_X7_tellsOf_14 κ a0 x1 x2 1 a0
def P_X7_customerOf (κ : jKt) (a0 : Nat) (x1 : Int32) : Option (Int32 × jKt) :=
  bd2 (P_X7_tellsOf κ a0 x1 1) fun y8 κ9 =>
  some (y8, κ9)
def P_X7_clothOf (κ : jKt) (a0 : Nat) (x1 : Int32) : Option (Int32 × jKt) :=
  bd2 (P_X7_tellsOf κ a0 x1 2) fun y8 κ9 =>
  some (y8, κ9)
def P_X7_looks (κ : jKt) (a0 : Nat) (x1 : Int32) (x2 : Int32) : Option (Int32 × jKt) :=
  bd (P_X7_find κ a0 x1) fun y30 =>
  if 0 ≤ y30 then
  bd (P_X7_find κ a0 x1) fun y33 =>
  bd (P_X7_isSleeve κ a0 y33 x2) fun y35 =>
  if y35 = 0 then
  bnd (kU κ a0 0 (.int 2)) fun κ37 =>
  some (kI κ37 a0 0, κ37)
  else
  bnd (kU κ a0 0 (.int 0)) fun κ39 =>
  some (kI κ39 a0 0, κ39)
  else
  bnd (kU κ a0 0 (.int 1)) fun κ41 =>
  some (kI κ41 a0 0, κ41)
def P_X7_sleeveState (κ : jKt) (a0 : Nat) (x1 : Int32) (x2 : Int32) : Option (Int32 × jKt) :=
  bd2 (P_X7_looks κ a0 x1 x2) fun y30 κ31 =>
  if y30 = 0 then
  bd (P_X7_find κ31 a0 x1) fun y34 =>
  bd (P_X7_state κ31 a0 y34 x2) fun y36 =>
  if y36 = 0 then
  ck (jch 112) <|
  some (112, κ31)
  else
  if y36 = 1 then
  ck (jch 99) <|
  some (99, κ31)
  else
  ck (jch 115) <|
  some (115, κ31)
  else
  ck (jch 97) <|
  some (97, κ31)
def P_X7_looksCut (κ : jKt) (a0 : Nat) (x1 : Int32) (x2 : Int32) : Option (Int32 × jKt) :=
  bd2 (P_X7_looks κ a0 x1 x2) fun y28 κ29 =>
  if y28 = 0 then
  bd (P_X7_find κ29 a0 x1) fun y32 =>
  bd (P_X7_state κ29 a0 y32 x2) fun y34 =>
  if y34 = 0 then
  bnd (kU κ29 a0 0 (.int 3)) fun κ38 =>
  some (kI κ38 a0 0, κ38)
  else
  bnd (kU κ29 a0 0 (.int 0)) fun κ36 =>
  some (kI κ36 a0 0, κ36)
  else
  some (kI κ29 a0 0, κ29)
def P_X7_sleeveLength (κ : jKt) (a0 : Nat) (x1 : Int32) (x2 : Int32) : Option (Int32 × jKt) :=
  bd2 (P_X7_looksCut κ a0 x1 x2) fun y18 κ19 =>
  if y18 = 0 then
  bd (P_X7_find κ19 a0 x1) fun y22 =>
  bd (P_X7_own κ19 a0 y22 x2) fun y24 =>
  some (y24, κ19)
  else
  some (0, κ19)
def P_X7_doesFit (κ : jKt) (a0 : Nat) (x1 : Int32) (x2 : Int32) : Option (Int32 × jKt) :=
  bd2 (P_X7_looksCut κ a0 x1 x2) fun y28 κ29 =>
  if y28 = 0 then
  bd (P_X7_find κ29 a0 x1) fun y32 =>
  bd (P_X7_own κ29 a0 y32 x2) fun y34 =>
  bd (P_X7_find κ29 a0 x1) fun y36 =>
  bd (P_X7_wanted κ29 a0 y36 x2) fun y38 =>
  if y34 = y38 then
  some (1, κ29)
  else
  some (0, κ29)
  else
  some (0, κ29)
def P_X7_sewnSleeves_14 (κ : jKt) (a0 : Nat) (v1 : Int32) (s0 : Int32) (a1 : Nat) : Option (Int32 × jKt) :=
  bnd (kU κ a1 0 (.int s0)) fun κ21 =>
  if (kI κ21 a0 0) = 0 then
  bd (P_X7_find κ21 a0 v1) fun y25 =>
  bd (P_X7_count κ21 a0 y25 2) fun y27 =>
  some (y27, κ21)
  else
  some (0, κ21)
def P_X7_sewnSleeves (κ : jKt) (a0 : Nat) (x1 : Int32) : Option (Int32 × jKt) :=
  bd (P_X7_find κ a0 x1) fun y29 =>
  if 0 ≤ y29 then
  P_X7_sewnSleeves_14 κ a0 x1 0 a0
  else
  P_X7_sewnSleeves_14 κ a0 x1 1 a0
def P_X7_demandCount (κ : jKt) (a0 : Nat) (x1 : Int32) : Option (Int32 × jKt) :=
  bd2 (P_X7_tellsOf κ a0 x1 3) fun y8 κ9 =>
  some (y8, κ9)
def P_X7_isBefore (κ : jKt) (a0 : Nat) (x1 : Int32) (x2 : Int32) (x3 : Int32) : Option (Int32 × jKt) :=
  bd2 (P_X7_looks κ a0 x1 x2) fun y28 κ29 =>
  if y28 = 0 then
  bd2 (P_X7_looks κ29 a0 x1 x3) fun y32 κ33 =>
  if y32 = 0 then
  bd (P_X7_find κ33 a0 x1) fun y36 =>
  bd (P_X7_behind κ33 a0 y36 x2) fun y38 =>
  if ((y38 >>> (x3 &&& 31)) &&& 1) = 1 then
  some (1, κ33)
  else
  some (0, κ33)
  else
  some (0, κ33)
  else
  some (0, κ29)
def P_X7_canDeliver_14 (κ : jKt) (a0 : Nat) (v1 : Int32) (s0 : Int32) (a1 : Nat) : Option (Int32 × jKt) :=
  bnd (kU κ a1 0 (.int s0)) fun κ23 =>
  if (kI κ23 a0 0) = 0 then
  bd (P_X7_find κ23 a0 v1) fun y27 =>
  bd (P_X7_isDue κ23 a0 y27) fun y29 =>
  if y29 = 0 then
  some (0, κ23)
  else
  some (1, κ23)
  else
  some (0, κ23)
def P_X7_canDeliver (κ : jKt) (a0 : Nat) (x1 : Int32) : Option (Int32 × jKt) :=
  bd (P_X7_find κ a0 x1) fun y32 =>
  if 0 ≤ y32 then
  P_X7_canDeliver_14 κ a0 x1 0 a0
  else
  P_X7_canDeliver_14 κ a0 x1 1 a0
def P_X7_price_14 (κ : jKt) (a0 : Nat) (v1 : Int32) (s0 : Int32) (a1 : Nat) : Option (Int32 × jKt) :=
  bnd (kU κ a1 0 (.int s0)) fun κ21 =>
  if (kI κ21 a0 0) = 0 then
  bd (P_X7_find κ21 a0 v1) fun y25 =>
  bd (P_X7_worth κ21 a0 y25) fun y27 =>
  some (y27, κ21)
  else
  some (0, κ21)
def P_X7_price (κ : jKt) (a0 : Nat) (x1 : Int32) : Option (Int32 × jKt) :=
  bd (P_X7_find κ a0 x1) fun y29 =>
  if 0 ≤ y29 then
  P_X7_price_14 κ a0 x1 0 a0
  else
  P_X7_price_14 κ a0 x1 1 a0
def P_X7_sleevesLeft_14 (κ : jKt) (a0 : Nat) (v1 : Int32) (s0 : Int32) (a1 : Nat) : Option (Int32 × jKt) :=
  bnd (kU κ a1 0 (.int s0)) fun κ29 =>
  if (kI κ29 a0 0) = 0 then
  bd (P_X7_find κ29 a0 v1) fun y33 =>
  bd (P_X7_sleeves κ29 a0 y33) fun y35 =>
  bd (P_X7_find κ29 a0 v1) fun y37 =>
  bd (P_X7_count κ29 a0 y37 2) fun y39 =>
  some (y35 - y39, κ29)
  else
  some (0, κ29)
def P_X7_sleevesLeft (κ : jKt) (a0 : Nat) (x1 : Int32) : Option (Int32 × jKt) :=
  bd (P_X7_find κ a0 x1) fun y41 =>
  if 0 ≤ y41 then
  P_X7_sleevesLeft_14 κ a0 x1 0 a0
  else
  P_X7_sleevesLeft_14 κ a0 x1 1 a0
def P_X7_sewingOrder_39 (κ : jKt) (a0 : Nat) (v2 : Int32) (s0 : Int32) (a1 : Nat) : Option (Int32 × jKt) :=
  bnd (kU κ a1 0 (.int s0)) fun κ39 =>
  if (kI κ39 a0 0) = 0 then
  ck (jin v2 16) <|
  some (kI κ39 (kR κ39 a0 9) (ix v2), κ39)
  else
  some (0, κ39)
def P_X7_sewingOrder (κ : jKt) (a0 : Nat) (x1 : Int32) (x2 : Int32) : Option (Int32 × jKt) :=
  bd (P_X7_find κ a0 x1) fun y45 =>
  if 0 ≤ y45 then
  bd (P_X7_find κ a0 x1) fun y48 =>
  bd2 (P_X7_sorts κ a0 y48) fun y50 κ51 =>
  bd (P_X7_isIn κ51 x2 0 (y50 - 1)) fun y53 =>
  if y53 = 0 then
  P_X7_sewingOrder_39 κ51 a0 x2 2 a0
  else
  P_X7_sewingOrder_39 κ51 a0 x2 0 a0
  else
  bd2 (P_X7_fail κ a0 1) fun y56 κ57 =>
  some (y56, κ57)
def P_X7_sewingOrderByQueue (κ : jKt) (a0 : Nat) (x1 : Int32) (x2 : Int32) : Option (Int32 × jKt) :=
  bd2 (P_X7_sewingOrder κ a0 x1 x2) fun y8 κ9 =>
  some (y8, κ9)
def P_X7_rounds_89 (a0 : Nat) (v2 : Int32) (v3 : Int32) (v4 : Int32) (v5 : Int32) (v6 : Int32) (K68 : jKt → Int32 → Int32 → Option (Int32 × jKt)) : Nat → jKt → Int32 → Int32 → Option (Int32 × jKt)
  | 0, _, _, _ => none
  | n + 1, κ, v7, v8 =>
    bd (P_X7_of κ v2 3) fun y93 =>
  ck (jin y93 457) <|
  if (kI κ (kR κ a0 5) (ix y93)) ≤ v8 then
  ck (jin v6 16) <|
  bnd (kU κ (kR κ a0 10) (ix v6) (.int v7)) fun κ98 =>
  if v7 ≤ v4 then
  K68 κ98 v4 (v5 + 1)
  else
  K68 κ98 v7 (v5 + 1)
  else
  bd (P_X7_second κ a0 v2 v8) fun y102 =>
  if y102 = v6 then
  bd (P_X7_first κ a0 v2 v8) fun y106 =>
  ck (jin y106 16) <|
  if (kI κ (kR κ a0 10) (ix y106)) < v7 then
  P_X7_rounds_89 a0 v2 v3 v4 v5 v6 K68 n κ v7 (v8 + 1)
  else
  bd (P_X7_first κ a0 v2 v8) fun y111 =>
  ck (jin y111 16) <|
  bnd ((kI κ (kR κ a0 10) (ix y111)) + 1) fun y113 =>
  P_X7_rounds_89 a0 v2 v3 v4 v5 v6 K68 n κ y113 (v8 + 1)
  else
  P_X7_rounds_89 a0 v2 v3 v4 v5 v6 K68 n κ v7 (v8 + 1)
def P_X7_rounds_68 (a0 : Nat) (v2 : Int32) (v3 : Int32) : Nat → jKt → Int32 → Int32 → Option (Int32 × jKt)
  | 0, _, _, _ => none
  | n + 1, κ, v4, v5 =>
    if v3 ≤ v5 then
  some (v4, κ)
  else
  ck (jin v5 16) <|
  bnd (kI κ (kR κ a0 9) (ix v5)) fun y118 =>
  P_X7_rounds_89 a0 v2 v3 v4 v5 y118 (P_X7_rounds_68 a0 v2 v3 n) 4000 κ 1 0
def P_X7_rounds_44 (a0 : Nat) (v2 : Int32) (v3 : Int32) (v4 : Int32) : Nat → jKt → Int32 → Option (Int32 × jKt)
  | 0, _, _ => none
  | n + 1, κ, v5 =>
    if 16 ≤ v5 then
  P_X7_rounds_68 a0 v2 v3 4000 κ v4 0
  else
  ck (jin v5 16) <|
  bnd (kU κ (kR κ a0 10) (ix v5) (.int 0)) fun κ123 =>
  P_X7_rounds_44 a0 v2 v3 v4 n κ123 (v5 + 1)
def P_X7_rounds_14 (κ : jKt) (a0 : Nat) (v1 : Int32) (s0 : Int32) (a1 : Nat) : Option (Int32 × jKt) :=
  bnd (kU κ a1 0 (.int s0)) fun κ125 =>
  if (kI κ125 a0 0) = 0 then
  bd (P_X7_find κ125 a0 v1) fun y129 =>
  bd2 (P_X7_sorts κ125 a0 y129) fun y131 κ132 =>
  P_X7_rounds_44 a0 y129 y131 0 4000 κ132 0
  else
  some (0, κ125)
def P_X7_rounds (κ : jKt) (a0 : Nat) (x1 : Int32) : Option (Int32 × jKt) :=
  bd (P_X7_find κ a0 x1) fun y134 =>
  if 0 ≤ y134 then
  P_X7_rounds_14 κ a0 x1 0 a0
  else
  P_X7_rounds_14 κ a0 x1 1 a0
def P_X7_clothNeeded_37 (a0 : Nat) (v2 : Int32) : Nat → jKt → Int32 → Int32 → Option (Int32 × jKt)
  | 0, _, _, _ => none
  | n + 1, κ, v3, v4 =>
    bd (P_X7_sleeves κ a0 v2) fun y34 =>
  if y34 ≤ v4 then
  some (v3, κ)
  else
  bd (P_X7_state κ a0 v2 v4) fun y37 =>
  if y37 = 0 then
  bd (P_X7_wanted κ a0 v2 v4) fun y40 =>
  P_X7_clothNeeded_37 a0 v2 n κ (v3 + (y40 + 2)) (v4 + 1)
  else
  P_X7_clothNeeded_37 a0 v2 n κ (v3 + 0) (v4 + 1)
def P_X7_clothNeeded_14 (κ : jKt) (a0 : Nat) (v1 : Int32) (s0 : Int32) (a1 : Nat) : Option (Int32 × jKt) :=
  bnd (kU κ a1 0 (.int s0)) fun κ41 =>
  if (kI κ41 a0 0) = 0 then
  bd (P_X7_find κ41 a0 v1) fun y45 =>
  P_X7_clothNeeded_37 a0 y45 4000 κ41 0 0
  else
  some (0, κ41)
def P_X7_clothNeeded (κ : jKt) (a0 : Nat) (x1 : Int32) : Option (Int32 × jKt) :=
  bd (P_X7_find κ a0 x1) fun y47 =>
  if 0 ≤ y47 then
  P_X7_clothNeeded_14 κ a0 x1 0 a0
  else
  P_X7_clothNeeded_14 κ a0 x1 1 a0
def P_X7_clothNeededByDifference (κ : jKt) (a0 : Nat) (x1 : Int32) : Option (Int32 × jKt) :=
  bd2 (P_X7_clothNeeded κ a0 x1) fun y8 κ9 =>
  some (y8, κ9)
def P_X7_renderSuit_70 (κ : jKt) (a0 : Nat) (v2 : Int32) (v3 : Int32) (K39 : jKt → Int32 → Option (Int32 × jKt)) : Option (Int32 × jKt) :=
  bd (P_X7_state κ a0 v2 v3) fun y68 =>
  if y68 = 0 then
  bd (P_X7_writes κ a0 46) fun κ82 =>
  K39 κ82 (v3 + 1)
  else
  bd (P_X7_own κ a0 v2 v3) fun y71 =>
  bd (P_X7_writesNumber κ a0 y71) fun κ73 =>
  bd (P_X7_state κ73 a0 v2 v3) fun y75 =>
  if y75 = 1 then
  bd (P_X7_writes κ73 a0 99) fun κ80 =>
  K39 κ80 (v3 + 1)
  else
  bd (P_X7_writes κ73 a0 115) fun κ78 =>
  K39 κ78 (v3 + 1)
def P_X7_renderSuit_67 (κ : jKt) (a0 : Nat) (v2 : Int32) (v3 : Int32) (s0 : Int32) (a1 : Nat) (K39 : jKt → Int32 → Option (Int32 × jKt)) : Option (Int32 × jKt) :=
  bd (P_X7_writes κ a1 s0) fun κ84 =>
  P_X7_renderSuit_70 κ84 a0 v2 v3 K39
def P_X7_renderSuit_39 (a0 : Nat) (v2 : Int32) : Nat → jKt → Int32 → Option (Int32 × jKt)
  | 0, _, _ => none
  | n + 1, κ, v3 =>
    bd (P_X7_sleeves κ a0 v2) fun y86 =>
  if y86 ≤ v3 then
  some (kI κ a0 19, κ)
  else
  if v3 ≤ 0 then
  P_X7_renderSuit_70 κ a0 v2 v3 (P_X7_renderSuit_39 a0 v2 n)
  else
  if (irem v3 2) = 1 then
  P_X7_renderSuit_67 κ a0 v2 v3 32 a0 (P_X7_renderSuit_39 a0 v2 n)
  else
  P_X7_renderSuit_67 κ a0 v2 v3 124 a0 (P_X7_renderSuit_39 a0 v2 n)
def P_X7_renderSuit_14 (κ : jKt) (a0 : Nat) (v1 : Int32) (s0 : Int32) (a1 : Nat) : Option (Int32 × jKt) :=
  bnd (kU κ a1 0 (.int s0)) fun κ90 =>
  if (kI κ90 a0 0) = 0 then
  bd (P_X7_find κ90 a0 v1) fun y94 =>
  bnd (kU κ90 a0 19 (.int 0)) fun κ95 =>
  P_X7_renderSuit_39 a0 y94 4000 κ95 0
  else
  some (0, κ90)
def P_X7_renderSuit (κ : jKt) (a0 : Nat) (x1 : Int32) : Option (Int32 × jKt) :=
  bd (P_X7_find κ a0 x1) fun y98 =>
  if 0 ≤ y98 then
  P_X7_renderSuit_14 κ a0 x1 0 a0
  else
  P_X7_renderSuit_14 κ a0 x1 1 a0
def P_X7_renderOrder_43 (a0 : Nat) (v2 : Int32) : Nat → jKt → Int32 → Option (Int32 × jKt)
  | 0, _, _ => none
  | n + 1, κ, v3 =>
    if v2 ≤ v3 then
  some (kI κ a0 19, κ)
  else
  if v3 ≤ 0 then
  ck (jin v3 16) <|
  bd (P_X7_writesNumber κ a0 (kI κ (kR κ a0 9) (ix v3))) fun κ56 =>
  P_X7_renderOrder_43 a0 v2 n κ56 (v3 + 1)
  else
  bd (P_X7_writes κ a0 44) fun κ58 =>
  ck (jin v3 16) <|
  bd (P_X7_writesNumber κ58 a0 (kI κ58 (kR κ58 a0 9) (ix v3))) fun κ62 =>
  P_X7_renderOrder_43 a0 v2 n κ62 (v3 + 1)
def P_X7_renderOrder_14 (κ : jKt) (a0 : Nat) (v1 : Int32) (s0 : Int32) (a1 : Nat) : Option (Int32 × jKt) :=
  bnd (kU κ a1 0 (.int s0)) fun κ63 =>
  if (kI κ63 a0 0) = 0 then
  bd (P_X7_find κ63 a0 v1) fun y67 =>
  bd2 (P_X7_sorts κ63 a0 y67) fun y69 κ70 =>
  bnd (kU κ70 a0 19 (.int 0)) fun κ71 =>
  P_X7_renderOrder_43 a0 y69 4000 κ71 0
  else
  some (0, κ63)
def P_X7_renderOrder (κ : jKt) (a0 : Nat) (x1 : Int32) : Option (Int32 × jKt) :=
  bd (P_X7_find κ a0 x1) fun y74 =>
  if 0 ≤ y74 then
  P_X7_renderOrder_14 κ a0 x1 0 a0
  else
  P_X7_renderOrder_14 κ a0 x1 1 a0
def P_X7_does (κ : jKt) (a0 : Nat) (x1 : Int32) (x2 : Int32) (x3 : Int32) (x4 : Int32) : Option (Int32 × jKt) :=
  if x1 = 0 then
  bd2 (P_X7_buys κ a0 x2 x3) fun y105 κ106 =>
  some (y105, κ106)
  else if x1 = 1 then
  bd2 (P_X7_adds κ a0 x2 x3) fun y109 κ110 =>
  some (y109, κ110)
  else if x1 = 2 then
  bd2 (P_X7_fits κ a0 x2 x3 x4) fun y113 κ114 =>
  some (y113, κ114)
  else if x1 = 3 then
  bd2 (P_X7_orders κ a0 x2 x3) fun y117 κ118 =>
  some (y117, κ118)
  else if x1 = 4 then
  bd (P_X7_find κ a0 x2) fun y121 =>
  bd2 (P_X7_cuts κ a0 y121 x3) fun y123 κ124 =>
  some (y123, κ124)
  else if x1 = 5 then
  bd (P_X7_find κ a0 x2) fun y127 =>
  bd2 (P_X7_sews κ a0 y127 x3) fun y129 κ130 =>
  some (y129, κ130)
  else if x1 = 6 then
  bd (P_X7_find κ a0 x2) fun y133 =>
  bd2 (P_X7_unpicks κ a0 y133 x3) fun y135 κ136 =>
  some (y135, κ136)
  else if x1 = 7 then
  bd (P_X7_find κ a0 x2) fun y139 =>
  bd2 (P_X7_demands κ a0 y139 x3 x4) fun y141 κ142 =>
  some (y141, κ142)
  else if x1 = 8 then
  bd (P_X7_find κ a0 x2) fun y145 =>
  bd2 (P_X7_delivers κ a0 y145) fun y147 κ148 =>
  some (y147, κ148)
  else bd (P_X7_find κ a0 x2) fun y150 =>
  bd2 (P_X7_scraps κ a0 y150) fun y152 κ153 =>
  some (y152, κ153)
def P_X7_command_99 (κ : jKt) (a0 : Nat) (v1 : Int32) (v2 : Int32) (v3 : Int32) (v4 : Int32) : Option (jKt) :=
  if (kI κ a0 20) = 0 then
  if (kI κ a0 21) = 0 then
  some κ
  else
  bd2 (P_X7_does κ a0 v1 v4 v2 v3) fun y56 κ57 =>
  some κ57
  else
  some κ
def P_X7_command_94 (κ : jKt) (a0 : Nat) (v1 : Int32) (v2 : Int32) (v4 : Int32) (s0 : Int32) (a1 : Nat) : Option (jKt) :=
  bd2 (P_X7_behindSign κ a1 s0 3) fun y59 κ60 =>
  P_X7_command_99 κ60 a0 v1 v2 y59 v4
def P_X7_command_74 (κ : jKt) (a0 : Nat) (v1 : Int32) (v2 : Int32) (v3 : Int32) (v4 : Int32) : Option (jKt) :=
  if (kI κ a0 20) = 0 then
  if v1 = 2 then
  P_X7_command_94 κ a0 v1 v2 v4 32 a0
  else
  P_X7_command_94 κ a0 v1 v2 v4 60 a0
  else
  P_X7_command_99 κ a0 v1 v2 v3 v4
def P_X7_command_63 (κ : jKt) (a0 : Nat) (v1 : Int32) (v2 : Int32) (v3 : Int32) (v4 : Int32) : Option (jKt) :=
  if v1 = 2 then
  P_X7_command_74 κ a0 v1 v2 v3 v4
  else
  if v1 = 7 then
  P_X7_command_74 κ a0 v1 v2 v3 v4
  else
  P_X7_command_99 κ a0 v1 v2 v3 v4
def P_X7_command_59 (κ : jKt) (a0 : Nat) (v1 : Int32) (v3 : Int32) (v4 : Int32) (s0 : Int32) (s1 : Int32) (a2 : Nat) : Option (jKt) :=
  bd2 (P_X7_behindSign κ a2 s1 s0) fun y66 κ67 =>
  P_X7_command_63 κ67 a0 v1 y66 v3 v4
def P_X7_command_28 (κ : jKt) (a0 : Nat) (v1 : Int32) (v2 : Int32) (v3 : Int32) (s0 : Int32) (a1 : Nat) : Option (jKt) :=
  bd2 (P_X7_digits κ a1 s0) fun y69 κ70 =>
  if 8 ≤ v1 then
  P_X7_command_63 κ70 a0 v1 v2 v3 y69
  else
  if (kI κ70 a0 20) = 0 then
  if v1 = 3 then
  P_X7_command_59 κ70 a0 v1 v3 y69 1 32 a0
  else
  P_X7_command_59 κ70 a0 v1 v3 y69 3 32 a0
  else
  P_X7_command_63 κ70 a0 v1 v2 v3 y69
def P_X7_command (κ : jKt) (a0 : Nat) : Option (jKt) :=
  bd2 (P_X7_word κ a0) fun y75 κ76 =>
  if (kI κ76 a0 20) = 0 then
  if 4 ≤ y75 then
  P_X7_command_28 κ76 a0 y75 0 0 3 a0
  else
  P_X7_command_28 κ76 a0 y75 0 0 1 a0
  else
  some κ76
def P_X7_commands_16 (a0 : Nat) : Nat → jKt → Int32 → Option (Int32 × jKt)
  | 0, _, _ => none
  | n + 1, κ, v1 =>
    if (kI κ a0 20) = 0 then
  if (kI κ a0 0) = 0 then
  if (kI κ a0 18) ≤ (kI κ a0 17) then
  some (v1, κ)
  else
  bd (P_X7_mark κ a0 59) fun κ33 =>
  if (kI κ33 a0 20) = 0 then
  bd (P_X7_command κ33 a0) fun κ36 =>
  P_X7_commands_16 a0 n κ36 (v1 + 1)
  else
  P_X7_commands_16 a0 n κ33 (v1 + 1)
  else
  some (v1, κ)
  else
  some (v1, κ)
def P_X7_commands (κ : jKt) (a0 : Nat) : Option (Int32 × jKt) :=
  bnd (kU κ a0 17 (.int 0)) fun κ37 =>
  bnd (kU κ37 a0 20 (.int 0)) fun κ39 =>
  bd (P_X7_command κ39 a0) fun κ42 =>
  P_X7_commands_16 a0 4000 κ42 1
def P_X7_runScript (κ : jKt) (a0 : Nat) : Option (Int32 × jKt) :=
  bd (P_X7_begins κ a0) fun κ68 =>
  bnd (kU κ68 a0 18 (.int (kI κ68 a0 16))) fun κ69 =>
  bnd (kU κ69 a0 16 (.int 0)) fun κ71 =>
  bnd (kU κ71 a0 21 (.int 0)) fun κ73 =>
  bd2 (P_X7_commands κ73 a0) fun y76 κ77 =>
  if (kI κ77 a0 20) = 0 then
  bnd (kU κ77 a0 21 (.int 1)) fun κ79 =>
  bd2 (P_X7_commands κ79 a0) fun y82 κ83 =>
  if (kI κ83 a0 0) = 0 then
  bd2 (P_X7_ends κ83 a0 y82) fun y86 κ87 =>
  some (y86, κ87)
  else
  bnd (kU κ83 a0 3 (.int (y82 - 1))) fun κ88 =>
  bnd (kU κ88 a0 0 (.int 2)) fun κ90 =>
  bd2 (P_X7_ends κ90 a0 y82) fun y93 κ94 =>
  some (y93, κ94)
  else
  bnd (kU κ77 a0 2 (.int (kI κ77 a0 17))) fun κ95 =>
  bd2 (P_X7_fail κ95 a0 1) fun y98 κ99 =>
  some (y98, κ99)
set_option maxRecDepth 20000 in
theorem w_X7_thrown_0 {F : jFm} (C : jB F RX7 cX7_thrown 1 (some .int) 0 0 0 0) {κ : jKt} {a0 : Nat} (ha0 : jSof F a0 = (1, 11, 22)) {r : Int32} (hq : jOut F (some (.int r)) κ) (h : P_X7_thrown κ a0 = some r) : jW F 1 0 0 κ 0 [(0, .ref a0)] [] := by
  unfold P_X7_thrown at h
  refine r_aload_n C.1 0 1 rfl dX7_thrown_0 rfl ?_
  refine r_getI C.1 0 fl_X7_50 rfl ha0 4 rfl dX7_thrown_1 ?_
  cases h
  exact r_zret C rfl rfl (Nat.le_of_ble_eq_true rfl) (Nat.le_of_ble_eq_true rfl) dX7_thrown_4 hq
theorem c_X7_thrown {l : Launch} {G : jG} {sh : jSh} {κ : jKt} {a0 : Nat} (ha0 : sh a0 = (1, 11, 22)) {r : Int32} (h : P_X7_thrown κ a0 = some r) : jM l G yX7_thrown cX7_thrown 1 (some .int) 0 0 0 0 [.ref a0] (sh, κ) (jIs (some (.int r)) (sh, κ)) jNo :=
  r_body (by decide) (Nat.le_of_ble_eq_true rfl) fun F C hl hG hs ho hx => by
    subst hs
    exact w_X7_thrown_0 C ha0 (by rw [ho]; exact ⟨rfl, rfl⟩) h
set_option maxRecDepth 20000 in
theorem w_X7_fail_0 {F : jFm} (C : jB F RX7 cX7_fail 2 (some .int) 0 0 0 0) {κ : jKt} {a0 : Nat} (ha0 : jSof F a0 = (1, 11, 22)) {x1 : Int32} {r : Int32 × jKt} (hq : jOut F (some (.int r.1)) r.2) (h : P_X7_fail κ a0 x1 = some r) : jW F 2 0 0 κ 0 [(0, .ref a0), (1, .int x1)] [] := by
  unfold P_X7_fail at h
  refine r_aload_n C.1 0 1 rfl dX7_fail_0 rfl ?_
  refine r_iload_n C.1 1 2 rfl dX7_fail_1 rfl ?_
  obtain ⟨κ5, e6, h⟩ := bnd_some h
  refine r_putI C.1 0 fw_X7_50 rfl rfl rfl ha0 e6 5 rfl dX7_fail_2 ?_
  refine r_iconst C.1 0 rfl 6 rfl dX7_fail_5 ?_
  cases h
  exact r_zret C rfl rfl (Nat.le_of_ble_eq_true rfl) (Nat.le_of_ble_eq_true rfl) dX7_fail_6 hq
theorem c_X7_fail {l : Launch} {G : jG} {sh : jSh} {κ : jKt} {a0 : Nat} (ha0 : sh a0 = (1, 11, 22)) {x1 : Int32} {r : Int32} {κr : jKt} (h : P_X7_fail κ a0 x1 = some (r, κr)) : jM l G yX7_fail cX7_fail 2 (some .int) 0 0 0 0 [.ref a0, .int x1] (sh, κ) (jIs (some (.int r)) (sh, κr)) jNo :=
  r_body (by decide) (Nat.le_of_ble_eq_true rfl) fun F C hl hG hs ho hx => by
    subst hs
    exact w_X7_fail_0 C ha0 (by rw [ho]; exact ⟨rfl, rfl⟩) h
set_option maxRecDepth 20000 in
theorem w_X7_isIn_0 {F : jFm} (C : jB F RX7 cX7_isIn 3 (some .boolean) 0 0 0 0) {κ : jKt} {x0 : Int32} {x1 : Int32} {x2 : Int32} {r : Int32} (hq : jOut F (some (.int r)) κ) (h : P_X7_isIn κ x0 x1 x2 = some r) : jW F 3 0 0 κ 0 [(0, .int x0), (1, .int x1), (2, .int x2)] [] := by
  unfold P_X7_isIn at h
  refine r_iload_n C.1 0 1 rfl dX7_isIn_0 rfl ?_
  refine r_iload_n C.1 1 2 rfl dX7_isIn_1 rfl ?_
  refine r_icmp_lt C.1 14 5 rfl dX7_isIn_2 rfl ⟨fun c5 => ?_, fun c5 => ?_⟩
  · have h := if_some_t c5 h
    refine r_iconst C.1 0 rfl 15 rfl dX7_isIn_14 ?_
    cases h
    exact r_zret C rfl rfl (Nat.le_of_ble_eq_true rfl) (Nat.le_of_ble_eq_true rfl) dX7_isIn_15 hq
  · have h := if_some_f c5 h
    refine r_iload_n C.1 0 6 rfl dX7_isIn_5 rfl ?_
    refine r_iload_n C.1 2 7 rfl dX7_isIn_6 rfl ?_
    refine r_icmp_gt C.1 14 10 rfl dX7_isIn_7 rfl ⟨fun c6 => ?_, fun c6 => ?_⟩
    · have h := if_some_t c6 h
      refine r_iconst C.1 0 rfl 15 rfl dX7_isIn_14 ?_
      cases h
      exact r_zret C rfl rfl (Nat.le_of_ble_eq_true rfl) (Nat.le_of_ble_eq_true rfl) dX7_isIn_15 hq
    · have h := if_some_f c6 h
      refine r_iconst C.1 1 rfl 11 rfl dX7_isIn_10 ?_
      refine r_goto C.1 15 dX7_isIn_11 rfl ?_
      cases h
      exact r_zret C rfl rfl (Nat.le_of_ble_eq_true rfl) (Nat.le_of_ble_eq_true rfl) dX7_isIn_15 hq
theorem c_X7_isIn {l : Launch} {G : jG} {sh : jSh} {κ : jKt} {x0 : Int32} {x1 : Int32} {x2 : Int32} {r : Int32} (h : P_X7_isIn κ x0 x1 x2 = some r) : jM l G yX7_isIn cX7_isIn 3 (some .boolean) 0 0 0 0 [.int x0, .int x1, .int x2] (sh, κ) (jIs (some (.int r)) (sh, κ)) jNo :=
  r_body (by decide) (Nat.le_of_ble_eq_true rfl) fun F C hl hG hs ho hx => by
    subst hs
    exact w_X7_isIn_0 C (by rw [ho]; exact ⟨rfl, rfl⟩) h
set_option maxRecDepth 20000 in
theorem w_X7_lays_2 {F : jFm} (C : jB F RX7 cX7_lays 3 none 0 0 0 0) {a0 : Nat} (ha0 : jSof F a0 = (2, 0, 457)) {a1 : Nat} (ha1 : jSof F a1 = (2, 0, 457)) {r : jKt} (hq : jOut F none r) : ∀ (n : Nat) (κ : jKt) (v2 : Int32), P_X7_lays_2 a0 a1 n κ v2 = some r → jW F 3 0 0 κ 2 [(0, .ref a0), (1, .ref a1), (2, .int v2)] [] := by
  intro n
  induction n with
  | zero => intro κ v2 h; cases h
  | succ n ih =>
    intro κ v2 h
    rw [P_X7_lays_2] at h
    refine r_iload_n C.1 2 3 rfl dX7_lays_2 rfl ?_
    refine r_sipush C.1 457 rfl 6 rfl dX7_lays_3 ?_
    refine r_icmp_ge C.1 21 9 rfl dX7_lays_6 rfl ⟨fun c11 => ?_, fun c11 => ?_⟩
    · have h := if_some_t c11 h
      cases h
      exact r_vret C rfl (Nat.le_of_ble_eq_true rfl) (Nat.le_of_ble_eq_true rfl) dX7_lays_21 hq
    · have h := if_some_f c11 h
      refine r_aload_n C.1 0 10 rfl dX7_lays_9 rfl ?_
      refine r_iload_n C.1 2 11 rfl dX7_lays_10 rfl ?_
      refine r_aload_n C.1 1 12 rfl dX7_lays_11 rfl ?_
      refine r_iload_n C.1 2 13 rfl dX7_lays_12 rfl ?_
      obtain ⟨i12, h⟩ := ck_some h
      refine r_iald C.1 ha1 i12 14 rfl dX7_lays_13 ?_
      obtain ⟨i13, h⟩ := ck_some h
      obtain ⟨κ14, e15, h⟩ := bnd_some h
      refine r_iast C.1 ha0 i13 e15 15 rfl dX7_lays_14 ?_
      refine r_iinc C.1 (lv' := [(0, .ref a0), (1, .ref a1), (2, .int (v2 + 1))]) 2 [1, 2, 0] 18 rfl dX7_lays_15 rfl (Nat.le_of_ble_eq_true rfl) rfl rfl ?_
      refine r_goto C.1 2 dX7_lays_18 rfl ?_
      exact ih κ14 (v2 + 1) h
set_option maxRecDepth 20000 in
theorem w_X7_lays_0 {F : jFm} (C : jB F RX7 cX7_lays 3 none 0 0 0 0) {κ : jKt} {a0 : Nat} (ha0 : jSof F a0 = (2, 0, 457)) {a1 : Nat} (ha1 : jSof F a1 = (2, 0, 457)) {r : jKt} (hq : jOut F none r) (h : P_X7_lays κ a0 a1 = some r) : jW F 3 0 0 κ 0 [(0, .ref a0), (1, .ref a1)] [] := by
  unfold P_X7_lays at h
  refine r_iconst C.1 0 rfl 1 rfl dX7_lays_0 ?_
  refine r_istore_n C.1 (lv' := [(0, .ref a0), (1, .ref a1), (2, .int 0)]) [1, 2, 0] 2 rfl dX7_lays_1 (Nat.le_of_ble_eq_true rfl) rfl ?_
  exact w_X7_lays_2 C ha0 ha1 hq 4000 κ 0 h
theorem c_X7_lays {l : Launch} {G : jG} {sh : jSh} {κ : jKt} {a0 : Nat} (ha0 : sh a0 = (2, 0, 457)) {a1 : Nat} (ha1 : sh a1 = (2, 0, 457))  {κr : jKt} (h : P_X7_lays κ a0 a1 = some κr) : jM l G yX7_lays cX7_lays 3 none 0 0 0 0 [.ref a0, .ref a1] (sh, κ) (jIs none (sh, κr)) jNo :=
  r_body (by decide) (Nat.le_of_ble_eq_true rfl) fun F C hl hG hs ho hx => by
    subst hs
    exact w_X7_lays_0 C ha0 ha1 (by rw [ho]; exact ⟨rfl, rfl⟩) h
set_option maxRecDepth 20000 in
theorem w_X7_begins_0 {F : jFm} (C : jB F RX7 cX7_begins 1 none 1 0 0 22) {κ : jKt} {a0 : Nat} (ha0 : jSof F a0 = (1, 11, 22)) {r : jKt} (hq : jOut F none r) (h : P_X7_begins κ a0 = some r) : jW F 1 0 0 κ 0 [(0, .ref a0)] [] := by
  unfold P_X7_begins at h
  refine r_aload_n C.1 0 1 rfl dX7_begins_0 rfl ?_
  refine r_iconst C.1 0 rfl 2 rfl dX7_begins_1 ?_
  obtain ⟨κ13, e14, h⟩ := bnd_some h
  refine r_putI C.1 0 fw_X7_50 rfl rfl rfl ha0 e14 5 rfl dX7_begins_2 ?_
  refine r_aload_n C.1 0 6 rfl dX7_begins_5 rfl ?_
  refine r_getR C.1 6 fl_X7_20 rfl ha0 9 rfl dX7_begins_6 (fun (h15 : jSof F (kR κ13 a0 6) = (2, 0, 457)) => ?_)
  refine r_aload_n C.1 0 10 rfl dX7_begins_9 rfl ?_
  refine r_getR C.1 5 fl_X7_16 rfl ha0 13 rfl dX7_begins_10 (fun (h16 : jSof F (kR κ13 a0 5) = (2, 0, 457)) => ?_)
  obtain ⟨κ18, e17, h⟩ := bd_some h
  refine r_cSv C.1 (st := []) (c_X7_lays h15 h16 e17) yv_X7_lays ml_X7_53 rfl ⟨Nat.le_of_ble_eq_true rfl, Nat.le_of_ble_eq_true rfl⟩ ⟨Nat.le_of_ble_eq_true rfl, Nat.le_of_ble_eq_true rfl⟩ (Nat.le_of_ble_eq_true rfl) rfl 0 0 rfl rfl 16 rfl dX7_begins_13 ?_
  cases h
  exact r_vret C rfl (Nat.le_of_ble_eq_true rfl) (Nat.le_of_ble_eq_true rfl) dX7_begins_16 hq
theorem c_X7_begins {l : Launch} {G : jG} {sh : jSh} {κ : jKt} {a0 : Nat} (ha0 : sh a0 = (1, 11, 22))  {κr : jKt} (h : P_X7_begins κ a0 = some κr) : jM l G yX7_begins cX7_begins 1 none 1 0 0 22 [.ref a0] (sh, κ) (jIs none (sh, κr)) jNo :=
  r_body (by decide) (Nat.le_of_ble_eq_true rfl) fun F C hl hG hs ho hx => by
    subst hs
    exact w_X7_begins_0 C ha0 (by rw [ho]; exact ⟨rfl, rfl⟩) h
set_option maxRecDepth 20000 in
theorem w_X7_ends_72 {F : jFm} (C : jB F RX7 cX7_ends 3 (some .int) 1 0 0 22) {a0 : Nat} (ha0 : jSof F a0 = (1, 11, 22)) {v1 : Int32} {r : Int32 × jKt} (hq : jOut F (some (.int r.1)) r.2) : ∀ (n : Nat) (κ : jKt) (v2 : Int32), P_X7_ends_72 a0 v1 n κ v2 = some r → jW F 3 0 0 κ 72 [(0, .ref a0), (1, .int v1), (2, .int v2)] [] := by
  intro n
  induction n with
  | zero => intro κ v2 h; cases h
  | succ n ih =>
    intro κ v2 h
    rw [P_X7_ends_72] at h
    refine r_iload_n C.1 2 73 rfl dX7_ends_72 rfl ?_
    refine r_sipush C.1 457 rfl 76 rfl dX7_ends_73 ?_
    refine r_icmp_ge C.1 106 79 rfl dX7_ends_76 rfl ⟨fun c49 => ?_, fun c49 => ?_⟩
    · have h := if_some_t c49 h
      refine r_aload_n C.1 0 107 rfl dX7_ends_106 rfl ?_
      refine r_dup C.1 rfl 108 rfl dX7_ends_107 ?_
      refine r_getI C.1 1 fl_X7_57 rfl ha0 111 rfl dX7_ends_108 ?_
      refine r_iconst C.1 1 rfl 112 rfl dX7_ends_111 ?_
      refine r_iadd C.1 113 rfl dX7_ends_112 ?_
      obtain ⟨κ50, e51, h⟩ := bnd_some h
      refine r_putI C.1 1 fw_X7_57 rfl rfl rfl ha0 e51 116 rfl dX7_ends_113 ?_
      refine r_iload_n C.1 1 117 rfl dX7_ends_116 rfl ?_
      cases h
      exact r_zret C rfl rfl (Nat.le_of_ble_eq_true rfl) (Nat.le_of_ble_eq_true rfl) dX7_ends_117 hq
    · have h := if_some_f c49 h
      refine r_aload_n C.1 0 80 rfl dX7_ends_79 rfl ?_
      refine r_getR C.1 8 fl_X7_26 rfl ha0 83 rfl dX7_ends_80 (fun (h52 : jSof F (kR κ a0 8) = (2, 0, 3656)) => ?_)
      refine r_aload_n C.1 0 84 rfl dX7_ends_83 rfl ?_
      refine r_getI C.1 1 fl_X7_57 rfl ha0 87 rfl dX7_ends_84 ?_
      refine r_sipush C.1 457 rfl 90 rfl dX7_ends_87 ?_
      refine r_imul C.1 91 rfl dX7_ends_90 ?_
      refine r_iload_n C.1 2 92 rfl dX7_ends_91 rfl ?_
      refine r_iadd C.1 93 rfl dX7_ends_92 ?_
      refine r_aload_n C.1 0 94 rfl dX7_ends_93 rfl ?_
      refine r_getR C.1 6 fl_X7_20 rfl ha0 97 rfl dX7_ends_94 (fun (h53 : jSof F (kR κ a0 6) = (2, 0, 457)) => ?_)
      refine r_iload_n C.1 2 98 rfl dX7_ends_97 rfl ?_
      obtain ⟨i54, h⟩ := ck_some h
      refine r_iald C.1 h53 i54 99 rfl dX7_ends_98 ?_
      obtain ⟨i55, h⟩ := ck_some h
      obtain ⟨κ56, e57, h⟩ := bnd_some h
      refine r_iast C.1 h52 i55 e57 100 rfl dX7_ends_99 ?_
      refine r_iinc C.1 (lv' := [(0, .ref a0), (1, .int v1), (2, .int (v2 + 1))]) 2 [1, 2, 0] 103 rfl dX7_ends_100 rfl (Nat.le_of_ble_eq_true rfl) rfl rfl ?_
      refine r_goto C.1 72 dX7_ends_103 rfl ?_
      exact ih κ56 (v2 + 1) h
set_option maxRecDepth 20000 in
theorem w_X7_ends_31 {F : jFm} (C : jB F RX7 cX7_ends 3 (some .int) 1 0 0 22) {a0 : Nat} (ha0 : jSof F a0 = (1, 11, 22)) {v1 : Int32} {r : Int32 × jKt} (hq : jOut F (some (.int r.1)) r.2) : ∀ (n : Nat) (κ : jKt) (v2 : Int32), P_X7_ends_31 a0 v1 n κ v2 = some r → jW F 3 0 0 κ 31 [(0, .ref a0), (1, .int v1), (2, .int v2)] [] := by
  intro n
  induction n with
  | zero => intro κ v2 h; cases h
  | succ n ih =>
    intro κ v2 h
    rw [P_X7_ends_31] at h
    refine r_iload_n C.1 2 32 rfl dX7_ends_31 rfl ?_
    refine r_sipush C.1 3199 rfl 35 rfl dX7_ends_32 ?_
    refine r_icmp_ge C.1 60 38 rfl dX7_ends_35 rfl ⟨fun c58 => ?_, fun c58 => ?_⟩
    · have h := if_some_t c58 h
      refine r_aload_n C.1 0 61 rfl dX7_ends_60 rfl ?_
      refine r_dup C.1 rfl 62 rfl dX7_ends_61 ?_
      refine r_getI C.1 1 fl_X7_57 rfl ha0 65 rfl dX7_ends_62 ?_
      refine r_iconst C.1 1 rfl 66 rfl dX7_ends_65 ?_
      refine r_isub C.1 67 rfl dX7_ends_66 ?_
      obtain ⟨κ59, e60, h⟩ := bnd_some h
      refine r_putI C.1 1 fw_X7_57 rfl rfl rfl ha0 e60 70 rfl dX7_ends_67 ?_
      refine r_iconst C.1 0 rfl 71 rfl dX7_ends_70 ?_
      refine r_istore_n C.1 (lv' := [(0, .ref a0), (1, .int v1), (2, .int 0)]) [1, 2, 0] 72 rfl dX7_ends_71 (Nat.le_of_ble_eq_true rfl) rfl ?_
      exact w_X7_ends_72 C ha0 hq 4000 κ59 0 h
    · have h := if_some_f c58 h
      refine r_aload_n C.1 0 39 rfl dX7_ends_38 rfl ?_
      refine r_getR C.1 8 fl_X7_26 rfl ha0 42 rfl dX7_ends_39 (fun (h61 : jSof F (kR κ a0 8) = (2, 0, 3656)) => ?_)
      refine r_iload_n C.1 2 43 rfl dX7_ends_42 rfl ?_
      refine r_aload_n C.1 0 44 rfl dX7_ends_43 rfl ?_
      refine r_getR C.1 8 fl_X7_26 rfl ha0 47 rfl dX7_ends_44 (fun (h62 : jSof F (kR κ a0 8) = (2, 0, 3656)) => ?_)
      refine r_iload_n C.1 2 48 rfl dX7_ends_47 rfl ?_
      refine r_sipush C.1 457 rfl 51 rfl dX7_ends_48 ?_
      refine r_iadd C.1 52 rfl dX7_ends_51 ?_
      obtain ⟨i63, h⟩ := ck_some h
      refine r_iald C.1 h62 i63 53 rfl dX7_ends_52 ?_
      obtain ⟨i64, h⟩ := ck_some h
      obtain ⟨κ65, e66, h⟩ := bnd_some h
      refine r_iast C.1 h61 i64 e66 54 rfl dX7_ends_53 ?_
      refine r_iinc C.1 (lv' := [(0, .ref a0), (1, .int v1), (2, .int (v2 + 1))]) 2 [1, 2, 0] 57 rfl dX7_ends_54 rfl (Nat.le_of_ble_eq_true rfl) rfl rfl ?_
      refine r_goto C.1 31 dX7_ends_57 rfl ?_
      exact ih κ65 (v2 + 1) h
set_option maxRecDepth 20000 in
theorem w_X7_ends_0 {F : jFm} (C : jB F RX7 cX7_ends 3 (some .int) 1 0 0 22) {κ : jKt} {a0 : Nat} (ha0 : jSof F a0 = (1, 11, 22)) {x1 : Int32} {r : Int32 × jKt} (hq : jOut F (some (.int r.1)) r.2) (h : P_X7_ends κ a0 x1 = some r) : jW F 3 0 0 κ 0 [(0, .ref a0), (1, .int x1)] [] := by
  unfold P_X7_ends at h
  refine r_aload_n C.1 0 1 rfl dX7_ends_0 rfl ?_
  refine r_getI C.1 0 fl_X7_50 rfl ha0 4 rfl dX7_ends_1 ?_
  refine r_if_eq C.1 20 7 rfl dX7_ends_4 rfl ⟨fun c67 => ?_, fun c67 => ?_⟩
  · have h := if_some_t c67 h
    refine r_aload_n C.1 0 21 rfl dX7_ends_20 rfl ?_
    refine r_getI C.1 1 fl_X7_57 rfl ha0 24 rfl dX7_ends_21 ?_
    refine r_bipush C.1 8 rfl 26 rfl dX7_ends_24 ?_
    refine r_icmp_ne C.1 70 29 rfl dX7_ends_26 rfl ⟨fun c68 => ?_, fun c68 => ?_⟩
    · have h := if_some_f c68 h
      refine r_iconst C.1 0 rfl 71 rfl dX7_ends_70 ?_
      refine r_istore_n C.1 (lv' := [(0, .ref a0), (1, .int x1), (2, .int 0)]) [1, 2, 0] 72 rfl dX7_ends_71 (Nat.le_of_ble_eq_true rfl) rfl ?_
      exact w_X7_ends_72 C ha0 hq 4000 κ 0 h
    · have h := if_some_t c68 h
      refine r_iconst C.1 0 rfl 30 rfl dX7_ends_29 ?_
      refine r_istore_n C.1 (lv' := [(0, .ref a0), (1, .int x1), (2, .int 0)]) [1, 2, 0] 31 rfl dX7_ends_30 (Nat.le_of_ble_eq_true rfl) rfl ?_
      exact w_X7_ends_31 C ha0 hq 4000 κ 0 h
  · have h := if_some_f c67 h
    refine r_aload_n C.1 0 8 rfl dX7_ends_7 rfl ?_
    refine r_getR C.1 5 fl_X7_16 rfl ha0 11 rfl dX7_ends_8 (fun (h69 : jSof F (kR κ a0 5) = (2, 0, 457)) => ?_)
    refine r_aload_n C.1 0 12 rfl dX7_ends_11 rfl ?_
    refine r_getR C.1 6 fl_X7_20 rfl ha0 15 rfl dX7_ends_12 (fun (h70 : jSof F (kR κ a0 6) = (2, 0, 457)) => ?_)
    obtain ⟨κ72, e71, h⟩ := bd_some h
    refine r_cSv C.1 (st := []) (c_X7_lays h69 h70 e71) yv_X7_lays ml_X7_53 rfl ⟨Nat.le_of_ble_eq_true rfl, Nat.le_of_ble_eq_true rfl⟩ ⟨Nat.le_of_ble_eq_true rfl, Nat.le_of_ble_eq_true rfl⟩ (Nat.le_of_ble_eq_true rfl) rfl 0 0 rfl rfl 18 rfl dX7_ends_15 ?_
    refine r_iconst C.1 0 rfl 19 rfl dX7_ends_18 ?_
    cases h
    exact r_zret C rfl rfl (Nat.le_of_ble_eq_true rfl) (Nat.le_of_ble_eq_true rfl) dX7_ends_19 hq
theorem c_X7_ends {l : Launch} {G : jG} {sh : jSh} {κ : jKt} {a0 : Nat} (ha0 : sh a0 = (1, 11, 22)) {x1 : Int32} {r : Int32} {κr : jKt} (h : P_X7_ends κ a0 x1 = some (r, κr)) : jM l G yX7_ends cX7_ends 3 (some .int) 1 0 0 22 [.ref a0, .int x1] (sh, κ) (jIs (some (.int r)) (sh, κr)) jNo :=
  r_body (by decide) (Nat.le_of_ble_eq_true rfl) fun F C hl hG hs ho hx => by
    subst hs
    exact w_X7_ends_0 C ha0 (by rw [ho]; exact ⟨rfl, rfl⟩) h
set_option maxRecDepth 20000 in
theorem w_X7_isCloth_0 {F : jFm} (C : jB F RX7 cX7_isCloth 1 (some .boolean) 1 0 0 22) {κ : jKt} {x0 : Int32} {r : Int32} (hq : jOut F (some (.int r)) κ) (h : P_X7_isCloth κ x0 = some r) : jW F 1 0 0 κ 0 [(0, .int x0)] [] := by
  unfold P_X7_isCloth at h
  refine r_iload_n C.1 0 1 rfl dX7_isCloth_0 rfl ?_
  refine r_iconst C.1 0 rfl 2 rfl dX7_isCloth_1 ?_
  refine r_iconst C.1 3 rfl 3 rfl dX7_isCloth_2 ?_
  obtain ⟨y8, e7, h⟩ := bd_some h
  refine r_cSi C.1 (st := []) (c_X7_isIn e7) yv_X7_isIn ml_X7_60 rfl ⟨Nat.le_of_ble_eq_true rfl, Nat.le_of_ble_eq_true rfl⟩ ⟨Nat.le_of_ble_eq_true rfl, Nat.le_of_ble_eq_true rfl⟩ (Nat.le_of_ble_eq_true rfl) rfl 0 0 rfl rfl 6 rfl dX7_isCloth_3 ?_
  obtain ⟨z9, h⟩ := ck_some h
  cases h
  exact r_zret C rfl (jz_narrow z9) (Nat.le_of_ble_eq_true rfl) (Nat.le_of_ble_eq_true rfl) dX7_isCloth_6 hq
theorem c_X7_isCloth {l : Launch} {G : jG} {sh : jSh} {κ : jKt} {x0 : Int32} {r : Int32} (h : P_X7_isCloth κ x0 = some r) : jM l G yX7_isCloth cX7_isCloth 1 (some .boolean) 1 0 0 22 [.int x0] (sh, κ) (jIs (some (.int r)) (sh, κ)) jNo :=
  r_body (by decide) (Nat.le_of_ble_eq_true rfl) fun F C hl hG hs ho hx => by
    subst hs
    exact w_X7_isCloth_0 C (by rw [ho]; exact ⟨rfl, rfl⟩) h
set_option maxRecDepth 20000 in
theorem w_X7_isCustomer_0 {F : jFm} (C : jB F RX7 cX7_isCustomer 2 (some .boolean) 1 0 0 22) {κ : jKt} {a0 : Nat} (ha0 : jSof F a0 = (1, 11, 22)) {x1 : Int32} {r : Int32} (hq : jOut F (some (.int r)) κ) (h : P_X7_isCustomer κ a0 x1 = some r) : jW F 2 0 0 κ 0 [(0, .ref a0), (1, .int x1)] [] := by
  unfold P_X7_isCustomer at h
  refine r_iload_n C.1 1 1 rfl dX7_isCustomer_0 rfl ?_
  refine r_iconst C.1 0 rfl 2 rfl dX7_isCustomer_1 ?_
  refine r_aload_n C.1 0 3 rfl dX7_isCustomer_2 rfl ?_
  refine r_getR C.1 5 fl_X7_16 rfl ha0 6 rfl dX7_isCustomer_3 (fun (h9 : jSof F (kR κ a0 5) = (2, 0, 457)) => ?_)
  refine r_iconst C.1 0 rfl 7 rfl dX7_isCustomer_6 ?_
  refine r_iald C.1 h9 (by decide) 8 rfl dX7_isCustomer_7 ?_
  refine r_iconst C.1 1 rfl 9 rfl dX7_isCustomer_8 ?_
  refine r_isub C.1 10 rfl dX7_isCustomer_9 ?_
  obtain ⟨y11, e10, h⟩ := bd_some h
  refine r_cSi C.1 (st := []) (c_X7_isIn e10) yv_X7_isIn ml_X7_60 rfl ⟨Nat.le_of_ble_eq_true rfl, Nat.le_of_ble_eq_true rfl⟩ ⟨Nat.le_of_ble_eq_true rfl, Nat.le_of_ble_eq_true rfl⟩ (Nat.le_of_ble_eq_true rfl) rfl 0 0 rfl rfl 13 rfl dX7_isCustomer_10 ?_
  obtain ⟨z12, h⟩ := ck_some h
  cases h
  exact r_zret C rfl (jz_narrow z12) (Nat.le_of_ble_eq_true rfl) (Nat.le_of_ble_eq_true rfl) dX7_isCustomer_13 hq
theorem c_X7_isCustomer {l : Launch} {G : jG} {sh : jSh} {κ : jKt} {a0 : Nat} (ha0 : sh a0 = (1, 11, 22)) {x1 : Int32} {r : Int32} (h : P_X7_isCustomer κ a0 x1 = some r) : jM l G yX7_isCustomer cX7_isCustomer 2 (some .boolean) 1 0 0 22 [.ref a0, .int x1] (sh, κ) (jIs (some (.int r)) (sh, κ)) jNo :=
  r_body (by decide) (Nat.le_of_ble_eq_true rfl) fun F C hl hG hs ho hx => by
    subst hs
    exact w_X7_isCustomer_0 C ha0 (by rw [ho]; exact ⟨rfl, rfl⟩) h
set_option maxRecDepth 20000 in
theorem w_X7_at_0 {F : jFm} (C : jB F RX7 cX7_at 1 (some .int) 0 0 0 0) {κ : jKt} {x0 : Int32} {r : Int32} (hq : jOut F (some (.int r)) κ) (h : P_X7_at κ x0 = some r) : jW F 1 0 0 κ 0 [(0, .int x0)] [] := by
  unfold P_X7_at at h
  refine r_bipush C.1 12 rfl 2 rfl dX7_at_0 ?_
  refine r_bipush C.1 17 rfl 4 rfl dX7_at_2 ?_
  refine r_iload_n C.1 0 5 rfl dX7_at_4 rfl ?_
  refine r_imul C.1 6 rfl dX7_at_5 ?_
  refine r_iadd C.1 7 rfl dX7_at_6 ?_
  cases h
  exact r_zret C rfl rfl (Nat.le_of_ble_eq_true rfl) (Nat.le_of_ble_eq_true rfl) dX7_at_7 hq
theorem c_X7_at {l : Launch} {G : jG} {sh : jSh} {κ : jKt} {x0 : Int32} {r : Int32} (h : P_X7_at κ x0 = some r) : jM l G yX7_at cX7_at 1 (some .int) 0 0 0 0 [.int x0] (sh, κ) (jIs (some (.int r)) (sh, κ)) jNo :=
  r_body (by decide) (Nat.le_of_ble_eq_true rfl) fun F C hl hG hs ho hx => by
    subst hs
    exact w_X7_at_0 C (by rw [ho]; exact ⟨rfl, rfl⟩) h
set_option maxRecDepth 20000 in
theorem w_X7_legs_0 {F : jFm} (C : jB F RX7 cX7_legs 2 (some .int) 1 0 0 20) {κ : jKt} {a0 : Nat} (ha0 : jSof F a0 = (1, 11, 22)) {x1 : Int32} {r : Int32} (hq : jOut F (some (.int r)) κ) (h : P_X7_legs κ a0 x1 = some r) : jW F 2 0 0 κ 0 [(0, .ref a0), (1, .int x1)] [] := by
  unfold P_X7_legs at h
  refine r_iconst C.1 2 rfl 1 rfl dX7_legs_0 ?_
  refine r_aload_n C.1 0 2 rfl dX7_legs_1 rfl ?_
  refine r_getR C.1 5 fl_X7_16 rfl ha0 5 rfl dX7_legs_2 (fun (h9 : jSof F (kR κ a0 5) = (2, 0, 457)) => ?_)
  refine r_iload_n C.1 1 6 rfl dX7_legs_5 rfl ?_
  obtain ⟨y11, e10, h⟩ := bd_some h
  refine r_cSi C.1 (st := [.ref (kR κ a0 5), .int 2]) (c_X7_at e10) yv_X7_at ml_X7_64 rfl ⟨Nat.le_of_ble_eq_true rfl, Nat.le_of_ble_eq_true rfl⟩ ⟨Nat.le_of_ble_eq_true rfl, Nat.le_of_ble_eq_true rfl⟩ (Nat.le_of_ble_eq_true rfl) rfl 0 0 rfl rfl 9 rfl dX7_legs_6 ?_
  obtain ⟨i12, h⟩ := ck_some h
  refine r_iald C.1 h9 i12 10 rfl dX7_legs_9 ?_
  refine r_imul C.1 11 rfl dX7_legs_10 ?_
  cases h
  exact r_zret C rfl rfl (Nat.le_of_ble_eq_true rfl) (Nat.le_of_ble_eq_true rfl) dX7_legs_11 hq
theorem c_X7_legs {l : Launch} {G : jG} {sh : jSh} {κ : jKt} {a0 : Nat} (ha0 : sh a0 = (1, 11, 22)) {x1 : Int32} {r : Int32} (h : P_X7_legs κ a0 x1 = some r) : jM l G yX7_legs cX7_legs 2 (some .int) 1 0 0 20 [.ref a0, .int x1] (sh, κ) (jIs (some (.int r)) (sh, κ)) jNo :=
  r_body (by decide) (Nat.le_of_ble_eq_true rfl) fun F C hl hG hs ho hx => by
    subst hs
    exact w_X7_legs_0 C ha0 (by rw [ho]; exact ⟨rfl, rfl⟩) h
set_option maxRecDepth 20000 in
theorem w_X7_leg_0 {F : jFm} (C : jB F RX7 cX7_leg 3 (some .int) 1 0 0 20) {κ : jKt} {a0 : Nat} (ha0 : jSof F a0 = (1, 11, 22)) {x1 : Int32} {x2 : Int32} {r : Int32} (hq : jOut F (some (.int r)) κ) (h : P_X7_leg κ a0 x1 x2 = some r) : jW F 3 0 0 κ 0 [(0, .ref a0), (1, .int x1), (2, .int x2)] [] := by
  unfold P_X7_leg at h
  refine r_aload_n C.1 0 1 rfl dX7_leg_0 rfl ?_
  refine r_getR C.1 5 fl_X7_16 rfl ha0 4 rfl dX7_leg_1 (fun (h9 : jSof F (kR κ a0 5) = (2, 0, 457)) => ?_)
  refine r_iload_n C.1 1 5 rfl dX7_leg_4 rfl ?_
  obtain ⟨y11, e10, h⟩ := bd_some h
  refine r_cSi C.1 (st := [.ref (kR κ a0 5)]) (c_X7_at e10) yv_X7_at ml_X7_64 rfl ⟨Nat.le_of_ble_eq_true rfl, Nat.le_of_ble_eq_true rfl⟩ ⟨Nat.le_of_ble_eq_true rfl, Nat.le_of_ble_eq_true rfl⟩ (Nat.le_of_ble_eq_true rfl) rfl 0 0 rfl rfl 8 rfl dX7_leg_5 ?_
  refine r_iconst C.1 1 rfl 9 rfl dX7_leg_8 ?_
  refine r_iadd C.1 10 rfl dX7_leg_9 ?_
  refine r_iload_n C.1 2 11 rfl dX7_leg_10 rfl ?_
  refine r_iadd C.1 12 rfl dX7_leg_11 ?_
  obtain ⟨i12, h⟩ := ck_some h
  refine r_iald C.1 h9 i12 13 rfl dX7_leg_12 ?_
  cases h
  exact r_zret C rfl rfl (Nat.le_of_ble_eq_true rfl) (Nat.le_of_ble_eq_true rfl) dX7_leg_13 hq
theorem c_X7_leg {l : Launch} {G : jG} {sh : jSh} {κ : jKt} {a0 : Nat} (ha0 : sh a0 = (1, 11, 22)) {x1 : Int32} {x2 : Int32} {r : Int32} (h : P_X7_leg κ a0 x1 x2 = some r) : jM l G yX7_leg cX7_leg 3 (some .int) 1 0 0 20 [.ref a0, .int x1, .int x2] (sh, κ) (jIs (some (.int r)) (sh, κ)) jNo :=
  r_body (by decide) (Nat.le_of_ble_eq_true rfl) fun F C hl hG hs ho hx => by
    subst hs
    exact w_X7_leg_0 C ha0 (by rw [ho]; exact ⟨rfl, rfl⟩) h
set_option maxRecDepth 20000 in
theorem w_X7_isLeg_0 {F : jFm} (C : jB F RX7 cX7_isLeg 3 (some .boolean) 2 0 0 43) {κ : jKt} {a0 : Nat} (ha0 : jSof F a0 = (1, 11, 22)) {x1 : Int32} {x2 : Int32} {r : Int32} (hq : jOut F (some (.int r)) κ) (h : P_X7_isLeg κ a0 x1 x2 = some r) : jW F 3 0 0 κ 0 [(0, .ref a0), (1, .int x1), (2, .int x2)] [] := by
  unfold P_X7_isLeg at h
  refine r_aload_n C.1 0 1 rfl dX7_isLeg_0 rfl ?_
  refine r_iload_n C.1 1 2 rfl dX7_isLeg_1 rfl ?_
  obtain ⟨y18, e17, h⟩ := bd_some h
  refine r_cVi C.1 (st := []) (c_X7_isCustomer ha0 e17) yv_X7_isCustomer ml_X7_68 rfl ha0 rfl ⟨Nat.le_of_ble_eq_true rfl, Nat.le_of_ble_eq_true rfl⟩ ⟨Nat.le_of_ble_eq_true rfl, Nat.le_of_ble_eq_true rfl⟩ (Nat.le_of_ble_eq_true rfl) rfl 0 0 rfl rfl 5 rfl dX7_isLeg_2 ?_
  refine r_if_eq C.1 27 8 rfl dX7_isLeg_5 rfl ⟨fun c19 => ?_, fun c19 => ?_⟩
  · have h := if_some_t c19 h
    refine r_iconst C.1 0 rfl 28 rfl dX7_isLeg_27 ?_
    cases h
    exact r_zret C rfl rfl (Nat.le_of_ble_eq_true rfl) (Nat.le_of_ble_eq_true rfl) dX7_isLeg_28 hq
  · have h := if_some_f c19 h
    refine r_iload_n C.1 2 9 rfl dX7_isLeg_8 rfl ?_
    refine r_iconst C.1 0 rfl 10 rfl dX7_isLeg_9 ?_
    refine r_aload_n C.1 0 11 rfl dX7_isLeg_10 rfl ?_
    refine r_iload_n C.1 1 12 rfl dX7_isLeg_11 rfl ?_
    obtain ⟨y21, e20, h⟩ := bd_some h
    refine r_cVi C.1 (st := [.int 0, .int x2]) (c_X7_legs ha0 e20) yv_X7_legs ml_X7_72 rfl ha0 rfl ⟨Nat.le_of_ble_eq_true rfl, Nat.le_of_ble_eq_true rfl⟩ ⟨Nat.le_of_ble_eq_true rfl, Nat.le_of_ble_eq_true rfl⟩ (Nat.le_of_ble_eq_true rfl) rfl 0 0 rfl rfl 15 rfl dX7_isLeg_12 ?_
    refine r_iconst C.1 1 rfl 16 rfl dX7_isLeg_15 ?_
    refine r_isub C.1 17 rfl dX7_isLeg_16 ?_
    obtain ⟨y23, e22, h⟩ := bd_some h
    refine r_cSi C.1 (st := []) (c_X7_isIn e22) yv_X7_isIn ml_X7_60 rfl ⟨Nat.le_of_ble_eq_true rfl, Nat.le_of_ble_eq_true rfl⟩ ⟨Nat.le_of_ble_eq_true rfl, Nat.le_of_ble_eq_true rfl⟩ (Nat.le_of_ble_eq_true rfl) rfl 0 0 rfl rfl 20 rfl dX7_isLeg_17 ?_
    refine r_if_eq C.1 27 23 rfl dX7_isLeg_20 rfl ⟨fun c24 => ?_, fun c24 => ?_⟩
    · have h := if_some_t c24 h
      refine r_iconst C.1 0 rfl 28 rfl dX7_isLeg_27 ?_
      cases h
      exact r_zret C rfl rfl (Nat.le_of_ble_eq_true rfl) (Nat.le_of_ble_eq_true rfl) dX7_isLeg_28 hq
    · have h := if_some_f c24 h
      refine r_iconst C.1 1 rfl 24 rfl dX7_isLeg_23 ?_
      refine r_goto C.1 28 dX7_isLeg_24 rfl ?_
      cases h
      exact r_zret C rfl rfl (Nat.le_of_ble_eq_true rfl) (Nat.le_of_ble_eq_true rfl) dX7_isLeg_28 hq
theorem c_X7_isLeg {l : Launch} {G : jG} {sh : jSh} {κ : jKt} {a0 : Nat} (ha0 : sh a0 = (1, 11, 22)) {x1 : Int32} {x2 : Int32} {r : Int32} (h : P_X7_isLeg κ a0 x1 x2 = some r) : jM l G yX7_isLeg cX7_isLeg 3 (some .boolean) 2 0 0 43 [.ref a0, .int x1, .int x2] (sh, κ) (jIs (some (.int r)) (sh, κ)) jNo :=
  r_body (by decide) (Nat.le_of_ble_eq_true rfl) fun F C hl hG hs ho hx => by
    subst hs
    exact w_X7_isLeg_0 C ha0 (by rw [ho]; exact ⟨rfl, rfl⟩) h
set_option maxRecDepth 20000 in
theorem w_X7_of_0 {F : jFm} (C : jB F RX7 cX7_of 2 (some .int) 0 0 0 0) {κ : jKt} {x0 : Int32} {x1 : Int32} {r : Int32} (hq : jOut F (some (.int r)) κ) (h : P_X7_of κ x0 x1 = some r) : jW F 2 0 0 κ 0 [(0, .int x0), (1, .int x1)] [] := by
  unfold P_X7_of at h
  refine r_bipush C.1 97 rfl 2 rfl dX7_of_0 ?_
  refine r_bipush C.1 60 rfl 4 rfl dX7_of_2 ?_
  refine r_iload_n C.1 0 5 rfl dX7_of_4 rfl ?_
  refine r_imul C.1 6 rfl dX7_of_5 ?_
  refine r_iadd C.1 7 rfl dX7_of_6 ?_
  refine r_iload_n C.1 1 8 rfl dX7_of_7 rfl ?_
  refine r_iadd C.1 9 rfl dX7_of_8 ?_
  cases h
  exact r_zret C rfl rfl (Nat.le_of_ble_eq_true rfl) (Nat.le_of_ble_eq_true rfl) dX7_of_9 hq
theorem c_X7_of {l : Launch} {G : jG} {sh : jSh} {κ : jKt} {x0 : Int32} {x1 : Int32} {r : Int32} (h : P_X7_of κ x0 x1 = some r) : jM l G yX7_of cX7_of 2 (some .int) 0 0 0 0 [.int x0, .int x1] (sh, κ) (jIs (some (.int r)) (sh, κ)) jNo :=
  r_body (by decide) (Nat.le_of_ble_eq_true rfl) fun F C hl hG hs ho hx => by
    subst hs
    exact w_X7_of_0 C (by rw [ho]; exact ⟨rfl, rfl⟩) h
set_option maxRecDepth 20000 in
theorem w_X7_sleeves_0 {F : jFm} (C : jB F RX7 cX7_sleeves 2 (some .int) 2 0 0 41) {κ : jKt} {a0 : Nat} (ha0 : jSof F a0 = (1, 11, 22)) {x1 : Int32} {r : Int32} (hq : jOut F (some (.int r)) κ) (h : P_X7_sleeves κ a0 x1 = some r) : jW F 2 0 0 κ 0 [(0, .ref a0), (1, .int x1)] [] := by
  unfold P_X7_sleeves at h
  refine r_aload_n C.1 0 1 rfl dX7_sleeves_0 rfl ?_
  refine r_aload_n C.1 0 2 rfl dX7_sleeves_1 rfl ?_
  refine r_getR C.1 5 fl_X7_16 rfl ha0 5 rfl dX7_sleeves_2 (fun (h13 : jSof F (kR κ a0 5) = (2, 0, 457)) => ?_)
  refine r_iload_n C.1 1 6 rfl dX7_sleeves_5 rfl ?_
  refine r_iconst C.1 1 rfl 7 rfl dX7_sleeves_6 ?_
  obtain ⟨y15, e14, h⟩ := bd_some h
  refine r_cSi C.1 (st := [.ref (kR κ a0 5), .ref a0]) (c_X7_of e14) yv_X7_of ml_X7_75 rfl ⟨Nat.le_of_ble_eq_true rfl, Nat.le_of_ble_eq_true rfl⟩ ⟨Nat.le_of_ble_eq_true rfl, Nat.le_of_ble_eq_true rfl⟩ (Nat.le_of_ble_eq_true rfl) rfl 0 0 rfl rfl 10 rfl dX7_sleeves_7 ?_
  obtain ⟨i16, h⟩ := ck_some h
  refine r_iald C.1 h13 i16 11 rfl dX7_sleeves_10 ?_
  obtain ⟨y18, e17, h⟩ := bd_some h
  refine r_cVi C.1 (st := []) (c_X7_legs ha0 e17) yv_X7_legs ml_X7_72 rfl ha0 rfl ⟨Nat.le_of_ble_eq_true rfl, Nat.le_of_ble_eq_true rfl⟩ ⟨Nat.le_of_ble_eq_true rfl, Nat.le_of_ble_eq_true rfl⟩ (Nat.le_of_ble_eq_true rfl) rfl 0 0 rfl rfl 14 rfl dX7_sleeves_11 ?_
  cases h
  exact r_zret C rfl rfl (Nat.le_of_ble_eq_true rfl) (Nat.le_of_ble_eq_true rfl) dX7_sleeves_14 hq
theorem c_X7_sleeves {l : Launch} {G : jG} {sh : jSh} {κ : jKt} {a0 : Nat} (ha0 : sh a0 = (1, 11, 22)) {x1 : Int32} {r : Int32} (h : P_X7_sleeves κ a0 x1 = some r) : jM l G yX7_sleeves cX7_sleeves 2 (some .int) 2 0 0 41 [.ref a0, .int x1] (sh, κ) (jIs (some (.int r)) (sh, κ)) jNo :=
  r_body (by decide) (Nat.le_of_ble_eq_true rfl) fun F C hl hG hs ho hx => by
    subst hs
    exact w_X7_sleeves_0 C ha0 (by rw [ho]; exact ⟨rfl, rfl⟩) h
set_option maxRecDepth 20000 in
theorem w_X7_isSleeve_0 {F : jFm} (C : jB F RX7 cX7_isSleeve 3 (some .boolean) 3 0 0 62) {κ : jKt} {a0 : Nat} (ha0 : jSof F a0 = (1, 11, 22)) {x1 : Int32} {x2 : Int32} {r : Int32} (hq : jOut F (some (.int r)) κ) (h : P_X7_isSleeve κ a0 x1 x2 = some r) : jW F 3 0 0 κ 0 [(0, .ref a0), (1, .int x1), (2, .int x2)] [] := by
  unfold P_X7_isSleeve at h
  refine r_iload_n C.1 2 1 rfl dX7_isSleeve_0 rfl ?_
  refine r_iconst C.1 0 rfl 2 rfl dX7_isSleeve_1 ?_
  refine r_aload_n C.1 0 3 rfl dX7_isSleeve_2 rfl ?_
  refine r_iload_n C.1 1 4 rfl dX7_isSleeve_3 rfl ?_
  obtain ⟨y12, e11, h⟩ := bd_some h
  refine r_cVi C.1 (st := [.int 0, .int x2]) (c_X7_sleeves ha0 e11) yv_X7_sleeves ml_X7_79 rfl ha0 rfl ⟨Nat.le_of_ble_eq_true rfl, Nat.le_of_ble_eq_true rfl⟩ ⟨Nat.le_of_ble_eq_true rfl, Nat.le_of_ble_eq_true rfl⟩ (Nat.le_of_ble_eq_true rfl) rfl 0 0 rfl rfl 7 rfl dX7_isSleeve_4 ?_
  refine r_iconst C.1 1 rfl 8 rfl dX7_isSleeve_7 ?_
  refine r_isub C.1 9 rfl dX7_isSleeve_8 ?_
  obtain ⟨y14, e13, h⟩ := bd_some h
  refine r_cSi C.1 (st := []) (c_X7_isIn e13) yv_X7_isIn ml_X7_60 rfl ⟨Nat.le_of_ble_eq_true rfl, Nat.le_of_ble_eq_true rfl⟩ ⟨Nat.le_of_ble_eq_true rfl, Nat.le_of_ble_eq_true rfl⟩ (Nat.le_of_ble_eq_true rfl) rfl 0 0 rfl rfl 12 rfl dX7_isSleeve_9 ?_
  obtain ⟨z15, h⟩ := ck_some h
  cases h
  exact r_zret C rfl (jz_narrow z15) (Nat.le_of_ble_eq_true rfl) (Nat.le_of_ble_eq_true rfl) dX7_isSleeve_12 hq
theorem c_X7_isSleeve {l : Launch} {G : jG} {sh : jSh} {κ : jKt} {a0 : Nat} (ha0 : sh a0 = (1, 11, 22)) {x1 : Int32} {x2 : Int32} {r : Int32} (h : P_X7_isSleeve κ a0 x1 x2 = some r) : jM l G yX7_isSleeve cX7_isSleeve 3 (some .boolean) 3 0 0 62 [.ref a0, .int x1, .int x2] (sh, κ) (jIs (some (.int r)) (sh, κ)) jNo :=
  r_body (by decide) (Nat.le_of_ble_eq_true rfl) fun F C hl hG hs ho hx => by
    subst hs
    exact w_X7_isSleeve_0 C ha0 (by rw [ho]; exact ⟨rfl, rfl⟩) h
set_option maxRecDepth 20000 in
theorem w_X7_state_0 {F : jFm} (C : jB F RX7 cX7_state 3 (some .int) 1 0 0 21) {κ : jKt} {a0 : Nat} (ha0 : jSof F a0 = (1, 11, 22)) {x1 : Int32} {x2 : Int32} {r : Int32} (hq : jOut F (some (.int r)) κ) (h : P_X7_state κ a0 x1 x2 = some r) : jW F 3 0 0 κ 0 [(0, .ref a0), (1, .int x1), (2, .int x2)] [] := by
  unfold P_X7_state at h
  refine r_aload_n C.1 0 1 rfl dX7_state_0 rfl ?_
  refine r_getR C.1 5 fl_X7_16 rfl ha0 4 rfl dX7_state_1 (fun (h9 : jSof F (kR κ a0 5) = (2, 0, 457)) => ?_)
  refine r_iload_n C.1 1 5 rfl dX7_state_4 rfl ?_
  refine r_iconst C.1 4 rfl 6 rfl dX7_state_5 ?_
  refine r_iload_n C.1 2 7 rfl dX7_state_6 rfl ?_
  refine r_iadd C.1 8 rfl dX7_state_7 ?_
  obtain ⟨y11, e10, h⟩ := bd_some h
  refine r_cSi C.1 (st := [.ref (kR κ a0 5)]) (c_X7_of e10) yv_X7_of ml_X7_75 rfl ⟨Nat.le_of_ble_eq_true rfl, Nat.le_of_ble_eq_true rfl⟩ ⟨Nat.le_of_ble_eq_true rfl, Nat.le_of_ble_eq_true rfl⟩ (Nat.le_of_ble_eq_true rfl) rfl 0 0 rfl rfl 11 rfl dX7_state_8 ?_
  obtain ⟨i12, h⟩ := ck_some h
  refine r_iald C.1 h9 i12 12 rfl dX7_state_11 ?_
  cases h
  exact r_zret C rfl rfl (Nat.le_of_ble_eq_true rfl) (Nat.le_of_ble_eq_true rfl) dX7_state_12 hq
theorem c_X7_state {l : Launch} {G : jG} {sh : jSh} {κ : jKt} {a0 : Nat} (ha0 : sh a0 = (1, 11, 22)) {x1 : Int32} {x2 : Int32} {r : Int32} (h : P_X7_state κ a0 x1 x2 = some r) : jM l G yX7_state cX7_state 3 (some .int) 1 0 0 21 [.ref a0, .int x1, .int x2] (sh, κ) (jIs (some (.int r)) (sh, κ)) jNo :=
  r_body (by decide) (Nat.le_of_ble_eq_true rfl) fun F C hl hG hs ho hx => by
    subst hs
    exact w_X7_state_0 C ha0 (by rw [ho]; exact ⟨rfl, rfl⟩) h
set_option maxRecDepth 20000 in
theorem w_X7_own_0 {F : jFm} (C : jB F RX7 cX7_own 3 (some .int) 1 0 0 21) {κ : jKt} {a0 : Nat} (ha0 : jSof F a0 = (1, 11, 22)) {x1 : Int32} {x2 : Int32} {r : Int32} (hq : jOut F (some (.int r)) κ) (h : P_X7_own κ a0 x1 x2 = some r) : jW F 3 0 0 κ 0 [(0, .ref a0), (1, .int x1), (2, .int x2)] [] := by
  unfold P_X7_own at h
  refine r_aload_n C.1 0 1 rfl dX7_own_0 rfl ?_
  refine r_getR C.1 5 fl_X7_16 rfl ha0 4 rfl dX7_own_1 (fun (h9 : jSof F (kR κ a0 5) = (2, 0, 457)) => ?_)
  refine r_iload_n C.1 1 5 rfl dX7_own_4 rfl ?_
  refine r_bipush C.1 20 rfl 7 rfl dX7_own_5 ?_
  refine r_iload_n C.1 2 8 rfl dX7_own_7 rfl ?_
  refine r_iadd C.1 9 rfl dX7_own_8 ?_
  obtain ⟨y11, e10, h⟩ := bd_some h
  refine r_cSi C.1 (st := [.ref (kR κ a0 5)]) (c_X7_of e10) yv_X7_of ml_X7_75 rfl ⟨Nat.le_of_ble_eq_true rfl, Nat.le_of_ble_eq_true rfl⟩ ⟨Nat.le_of_ble_eq_true rfl, Nat.le_of_ble_eq_true rfl⟩ (Nat.le_of_ble_eq_true rfl) rfl 0 0 rfl rfl 12 rfl dX7_own_9 ?_
  obtain ⟨i12, h⟩ := ck_some h
  refine r_iald C.1 h9 i12 13 rfl dX7_own_12 ?_
  cases h
  exact r_zret C rfl rfl (Nat.le_of_ble_eq_true rfl) (Nat.le_of_ble_eq_true rfl) dX7_own_13 hq
theorem c_X7_own {l : Launch} {G : jG} {sh : jSh} {κ : jKt} {a0 : Nat} (ha0 : sh a0 = (1, 11, 22)) {x1 : Int32} {x2 : Int32} {r : Int32} (h : P_X7_own κ a0 x1 x2 = some r) : jM l G yX7_own cX7_own 3 (some .int) 1 0 0 21 [.ref a0, .int x1, .int x2] (sh, κ) (jIs (some (.int r)) (sh, κ)) jNo :=
  r_body (by decide) (Nat.le_of_ble_eq_true rfl) fun F C hl hG hs ho hx => by
    subst hs
    exact w_X7_own_0 C ha0 (by rw [ho]; exact ⟨rfl, rfl⟩) h
set_option maxRecDepth 20000 in
theorem w_X7_wanted_0 {F : jFm} (C : jB F RX7 cX7_wanted 3 (some .int) 2 0 0 42) {κ : jKt} {a0 : Nat} (ha0 : jSof F a0 = (1, 11, 22)) {x1 : Int32} {x2 : Int32} {r : Int32} (hq : jOut F (some (.int r)) κ) (h : P_X7_wanted κ a0 x1 x2 = some r) : jW F 3 0 0 κ 0 [(0, .ref a0), (1, .int x1), (2, .int x2)] [] := by
  unfold P_X7_wanted at h
  refine r_aload_n C.1 0 1 rfl dX7_wanted_0 rfl ?_
  refine r_aload_n C.1 0 2 rfl dX7_wanted_1 rfl ?_
  refine r_getR C.1 5 fl_X7_16 rfl ha0 5 rfl dX7_wanted_2 (fun (h13 : jSof F (kR κ a0 5) = (2, 0, 457)) => ?_)
  refine r_iload_n C.1 1 6 rfl dX7_wanted_5 rfl ?_
  refine r_iconst C.1 1 rfl 7 rfl dX7_wanted_6 ?_
  obtain ⟨y15, e14, h⟩ := bd_some h
  refine r_cSi C.1 (st := [.ref (kR κ a0 5), .ref a0]) (c_X7_of e14) yv_X7_of ml_X7_75 rfl ⟨Nat.le_of_ble_eq_true rfl, Nat.le_of_ble_eq_true rfl⟩ ⟨Nat.le_of_ble_eq_true rfl, Nat.le_of_ble_eq_true rfl⟩ (Nat.le_of_ble_eq_true rfl) rfl 0 0 rfl rfl 10 rfl dX7_wanted_7 ?_
  obtain ⟨i16, h⟩ := ck_some h
  refine r_iald C.1 h13 i16 11 rfl dX7_wanted_10 ?_
  refine r_iload_n C.1 2 12 rfl dX7_wanted_11 rfl ?_
  obtain ⟨y18, e17, h⟩ := bd_some h
  refine r_cVi C.1 (st := []) (c_X7_leg ha0 e17) yv_X7_leg ml_X7_82 rfl ha0 rfl ⟨Nat.le_of_ble_eq_true rfl, Nat.le_of_ble_eq_true rfl⟩ ⟨Nat.le_of_ble_eq_true rfl, Nat.le_of_ble_eq_true rfl⟩ (Nat.le_of_ble_eq_true rfl) rfl 0 0 rfl rfl 15 rfl dX7_wanted_12 ?_
  cases h
  exact r_zret C rfl rfl (Nat.le_of_ble_eq_true rfl) (Nat.le_of_ble_eq_true rfl) dX7_wanted_15 hq
theorem c_X7_wanted {l : Launch} {G : jG} {sh : jSh} {κ : jKt} {a0 : Nat} (ha0 : sh a0 = (1, 11, 22)) {x1 : Int32} {x2 : Int32} {r : Int32} (h : P_X7_wanted κ a0 x1 x2 = some r) : jM l G yX7_wanted cX7_wanted 3 (some .int) 2 0 0 42 [.ref a0, .int x1, .int x2] (sh, κ) (jIs (some (.int r)) (sh, κ)) jNo :=
  r_body (by decide) (Nat.le_of_ble_eq_true rfl) fun F C hl hG hs ho hx => by
    subst hs
    exact w_X7_wanted_0 C ha0 (by rw [ho]; exact ⟨rfl, rfl⟩) h
set_option maxRecDepth 20000 in
theorem w_X7_first_0 {F : jFm} (C : jB F RX7 cX7_first 3 (some .int) 1 0 0 21) {κ : jKt} {a0 : Nat} (ha0 : jSof F a0 = (1, 11, 22)) {x1 : Int32} {x2 : Int32} {r : Int32} (hq : jOut F (some (.int r)) κ) (h : P_X7_first κ a0 x1 x2 = some r) : jW F 3 0 0 κ 0 [(0, .ref a0), (1, .int x1), (2, .int x2)] [] := by
  unfold P_X7_first at h
  refine r_aload_n C.1 0 1 rfl dX7_first_0 rfl ?_
  refine r_getR C.1 5 fl_X7_16 rfl ha0 4 rfl dX7_first_1 (fun (h9 : jSof F (kR κ a0 5) = (2, 0, 457)) => ?_)
  refine r_iload_n C.1 1 5 rfl dX7_first_4 rfl ?_
  refine r_bipush C.1 36 rfl 7 rfl dX7_first_5 ?_
  refine r_iconst C.1 2 rfl 8 rfl dX7_first_7 ?_
  refine r_iload_n C.1 2 9 rfl dX7_first_8 rfl ?_
  refine r_imul C.1 10 rfl dX7_first_9 ?_
  refine r_iadd C.1 11 rfl dX7_first_10 ?_
  obtain ⟨y11, e10, h⟩ := bd_some h
  refine r_cSi C.1 (st := [.ref (kR κ a0 5)]) (c_X7_of e10) yv_X7_of ml_X7_75 rfl ⟨Nat.le_of_ble_eq_true rfl, Nat.le_of_ble_eq_true rfl⟩ ⟨Nat.le_of_ble_eq_true rfl, Nat.le_of_ble_eq_true rfl⟩ (Nat.le_of_ble_eq_true rfl) rfl 0 0 rfl rfl 14 rfl dX7_first_11 ?_
  obtain ⟨i12, h⟩ := ck_some h
  refine r_iald C.1 h9 i12 15 rfl dX7_first_14 ?_
  cases h
  exact r_zret C rfl rfl (Nat.le_of_ble_eq_true rfl) (Nat.le_of_ble_eq_true rfl) dX7_first_15 hq
theorem c_X7_first {l : Launch} {G : jG} {sh : jSh} {κ : jKt} {a0 : Nat} (ha0 : sh a0 = (1, 11, 22)) {x1 : Int32} {x2 : Int32} {r : Int32} (h : P_X7_first κ a0 x1 x2 = some r) : jM l G yX7_first cX7_first 3 (some .int) 1 0 0 21 [.ref a0, .int x1, .int x2] (sh, κ) (jIs (some (.int r)) (sh, κ)) jNo :=
  r_body (by decide) (Nat.le_of_ble_eq_true rfl) fun F C hl hG hs ho hx => by
    subst hs
    exact w_X7_first_0 C ha0 (by rw [ho]; exact ⟨rfl, rfl⟩) h
set_option maxRecDepth 20000 in
theorem w_X7_second_0 {F : jFm} (C : jB F RX7 cX7_second 3 (some .int) 1 0 0 21) {κ : jKt} {a0 : Nat} (ha0 : jSof F a0 = (1, 11, 22)) {x1 : Int32} {x2 : Int32} {r : Int32} (hq : jOut F (some (.int r)) κ) (h : P_X7_second κ a0 x1 x2 = some r) : jW F 3 0 0 κ 0 [(0, .ref a0), (1, .int x1), (2, .int x2)] [] := by
  unfold P_X7_second at h
  refine r_aload_n C.1 0 1 rfl dX7_second_0 rfl ?_
  refine r_getR C.1 5 fl_X7_16 rfl ha0 4 rfl dX7_second_1 (fun (h9 : jSof F (kR κ a0 5) = (2, 0, 457)) => ?_)
  refine r_iload_n C.1 1 5 rfl dX7_second_4 rfl ?_
  refine r_bipush C.1 36 rfl 7 rfl dX7_second_5 ?_
  refine r_iconst C.1 2 rfl 8 rfl dX7_second_7 ?_
  refine r_iload_n C.1 2 9 rfl dX7_second_8 rfl ?_
  refine r_imul C.1 10 rfl dX7_second_9 ?_
  refine r_iadd C.1 11 rfl dX7_second_10 ?_
  refine r_iconst C.1 1 rfl 12 rfl dX7_second_11 ?_
  refine r_iadd C.1 13 rfl dX7_second_12 ?_
  obtain ⟨y11, e10, h⟩ := bd_some h
  refine r_cSi C.1 (st := [.ref (kR κ a0 5)]) (c_X7_of e10) yv_X7_of ml_X7_75 rfl ⟨Nat.le_of_ble_eq_true rfl, Nat.le_of_ble_eq_true rfl⟩ ⟨Nat.le_of_ble_eq_true rfl, Nat.le_of_ble_eq_true rfl⟩ (Nat.le_of_ble_eq_true rfl) rfl 0 0 rfl rfl 16 rfl dX7_second_13 ?_
  obtain ⟨i12, h⟩ := ck_some h
  refine r_iald C.1 h9 i12 17 rfl dX7_second_16 ?_
  cases h
  exact r_zret C rfl rfl (Nat.le_of_ble_eq_true rfl) (Nat.le_of_ble_eq_true rfl) dX7_second_17 hq
theorem c_X7_second {l : Launch} {G : jG} {sh : jSh} {κ : jKt} {a0 : Nat} (ha0 : sh a0 = (1, 11, 22)) {x1 : Int32} {x2 : Int32} {r : Int32} (h : P_X7_second κ a0 x1 x2 = some r) : jM l G yX7_second cX7_second 3 (some .int) 1 0 0 21 [.ref a0, .int x1, .int x2] (sh, κ) (jIs (some (.int r)) (sh, κ)) jNo :=
  r_body (by decide) (Nat.le_of_ble_eq_true rfl) fun F C hl hG hs ho hx => by
    subst hs
    exact w_X7_second_0 C ha0 (by rw [ho]; exact ⟨rfl, rfl⟩) h
set_option maxRecDepth 20000 in
theorem w_X7_count_5 {F : jFm} (C : jB F RX7 cX7_count 5 (some .int) 3 0 0 62) {κ : jKt} {a0 : Nat} (ha0 : jSof F a0 = (1, 11, 22)) {v1 : Int32} {v2 : Int32} {r : Int32} (hq : jOut F (some (.int r)) κ) : ∀ (n : Nat) (v3 : Int32) (v4 : Int32), P_X7_count_5 κ a0 v1 v2 n v3 v4 = some r → jW F 5 0 0 κ 5 [(0, .ref a0), (1, .int v1), (2, .int v2), (3, .int v3), (4, .int v4)] [] := by
  intro n
  induction n with
  | zero => intro v3 v4 h; cases h
  | succ n ih =>
    intro v3 v4 h
    rw [P_X7_count_5] at h
    refine r_iload C.1 4 7 rfl dX7_count_5 rfl ?_
    refine r_aload_n C.1 0 8 rfl dX7_count_7 rfl ?_
    refine r_iload_n C.1 1 9 rfl dX7_count_8 rfl ?_
    obtain ⟨y14, e13, h⟩ := bd_some h
    refine r_cVi C.1 (st := [.int v4]) (c_X7_sleeves ha0 e13) yv_X7_sleeves ml_X7_79 rfl ha0 rfl ⟨Nat.le_of_ble_eq_true rfl, Nat.le_of_ble_eq_true rfl⟩ ⟨Nat.le_of_ble_eq_true rfl, Nat.le_of_ble_eq_true rfl⟩ (Nat.le_of_ble_eq_true rfl) rfl 0 0 rfl rfl 12 rfl dX7_count_9 ?_
    refine r_icmp_ge C.1 40 15 rfl dX7_count_12 rfl ⟨fun c15 => ?_, fun c15 => ?_⟩
    · have h := if_some_t c15 h
      refine r_iload_n C.1 3 41 rfl dX7_count_40 rfl ?_
      cases h
      exact r_zret C rfl rfl (Nat.le_of_ble_eq_true rfl) (Nat.le_of_ble_eq_true rfl) dX7_count_41 hq
    · have h := if_some_f c15 h
      refine r_iload_n C.1 3 16 rfl dX7_count_15 rfl ?_
      refine r_aload_n C.1 0 17 rfl dX7_count_16 rfl ?_
      refine r_iload_n C.1 1 18 rfl dX7_count_17 rfl ?_
      refine r_iload C.1 4 20 rfl dX7_count_18 rfl ?_
      obtain ⟨y17, e16, h⟩ := bd_some h
      refine r_cVi C.1 (st := [.int v3]) (c_X7_state ha0 e16) yv_X7_state ml_X7_85 rfl ha0 rfl ⟨Nat.le_of_ble_eq_true rfl, Nat.le_of_ble_eq_true rfl⟩ ⟨Nat.le_of_ble_eq_true rfl, Nat.le_of_ble_eq_true rfl⟩ (Nat.le_of_ble_eq_true rfl) rfl 0 0 rfl rfl 23 rfl dX7_count_20 ?_
      refine r_iload_n C.1 2 24 rfl dX7_count_23 rfl ?_
      refine r_icmp_ne C.1 31 27 rfl dX7_count_24 rfl ⟨fun c18 => ?_, fun c18 => ?_⟩
      · have h := if_some_f c18 h
        refine r_iconst C.1 0 rfl 32 rfl dX7_count_31 ?_
        refine r_iadd C.1 33 rfl dX7_count_32 ?_
        refine r_istore_n C.1 (lv' := [(0, .ref a0), (1, .int v1), (2, .int v2), (3, .int (v3 + 0)), (4, .int v4)]) [1, 2, 3, 0, 4] 34 rfl dX7_count_33 (Nat.le_of_ble_eq_true rfl) rfl ?_
        refine r_iinc C.1 (lv' := [(0, .ref a0), (1, .int v1), (2, .int v2), (3, .int (v3 + 0)), (4, .int (v4 + 1))]) 4 [1, 2, 3, 4, 0] 37 rfl dX7_count_34 rfl (Nat.le_of_ble_eq_true rfl) rfl rfl ?_
        refine r_goto C.1 5 dX7_count_37 rfl ?_
        exact ih (v3 + 0) (v4 + 1) h
      · have h := if_some_t c18 h
        refine r_iconst C.1 1 rfl 28 rfl dX7_count_27 ?_
        refine r_goto C.1 32 dX7_count_28 rfl ?_
        refine r_iadd C.1 33 rfl dX7_count_32 ?_
        refine r_istore_n C.1 (lv' := [(0, .ref a0), (1, .int v1), (2, .int v2), (3, .int (v3 + 1)), (4, .int v4)]) [1, 2, 3, 0, 4] 34 rfl dX7_count_33 (Nat.le_of_ble_eq_true rfl) rfl ?_
        refine r_iinc C.1 (lv' := [(0, .ref a0), (1, .int v1), (2, .int v2), (3, .int (v3 + 1)), (4, .int (v4 + 1))]) 4 [1, 2, 3, 4, 0] 37 rfl dX7_count_34 rfl (Nat.le_of_ble_eq_true rfl) rfl rfl ?_
        refine r_goto C.1 5 dX7_count_37 rfl ?_
        exact ih (v3 + 1) (v4 + 1) h
set_option maxRecDepth 20000 in
theorem w_X7_count_0 {F : jFm} (C : jB F RX7 cX7_count 5 (some .int) 3 0 0 62) {κ : jKt} {a0 : Nat} (ha0 : jSof F a0 = (1, 11, 22)) {x1 : Int32} {x2 : Int32} {r : Int32} (hq : jOut F (some (.int r)) κ) (h : P_X7_count κ a0 x1 x2 = some r) : jW F 5 0 0 κ 0 [(0, .ref a0), (1, .int x1), (2, .int x2)] [] := by
  unfold P_X7_count at h
  refine r_iconst C.1 0 rfl 1 rfl dX7_count_0 ?_
  refine r_istore_n C.1 (lv' := [(0, .ref a0), (1, .int x1), (2, .int x2), (3, .int 0)]) [1, 2, 3, 0] 2 rfl dX7_count_1 (Nat.le_of_ble_eq_true rfl) rfl ?_
  refine r_iconst C.1 0 rfl 3 rfl dX7_count_2 ?_
  refine r_istore C.1 (lv' := [(0, .ref a0), (1, .int x1), (2, .int x2), (3, .int 0), (4, .int 0)]) [1, 2, 3, 4, 0] 5 rfl dX7_count_3 (Nat.le_of_ble_eq_true rfl) rfl ?_
  exact w_X7_count_5 C ha0 hq 4000 0 0 h
theorem c_X7_count {l : Launch} {G : jG} {sh : jSh} {κ : jKt} {a0 : Nat} (ha0 : sh a0 = (1, 11, 22)) {x1 : Int32} {x2 : Int32} {r : Int32} (h : P_X7_count κ a0 x1 x2 = some r) : jM l G yX7_count cX7_count 5 (some .int) 3 0 0 62 [.ref a0, .int x1, .int x2] (sh, κ) (jIs (some (.int r)) (sh, κ)) jNo :=
  r_body (by decide) (Nat.le_of_ble_eq_true rfl) fun F C hl hG hs ho hx => by
    subst hs
    exact w_X7_count_0 C ha0 (by rw [ho]; exact ⟨rfl, rfl⟩) h
set_option maxRecDepth 20000 in
theorem w_X7_buys_0 {F : jFm} (C : jB F RX7 cX7_buys 3 (some .int) 2 0 0 42) {κ : jKt} {a0 : Nat} (ha0 : jSof F a0 = (1, 11, 22)) {x1 : Int32} {x2 : Int32} {r : Int32 × jKt} (hq : jOut F (some (.int r.1)) r.2) (h : P_X7_buys κ a0 x1 x2 = some r) : jW F 3 0 0 κ 0 [(0, .ref a0), (1, .int x1), (2, .int x2)] [] := by
  unfold P_X7_buys at h
  refine r_iload_n C.1 1 1 rfl dX7_buys_0 rfl ?_
  obtain ⟨y58, e57, h⟩ := bd_some h
  refine r_cSi C.1 (st := []) (c_X7_isCloth e57) yv_X7_isCloth ml_X7_88 rfl ⟨Nat.le_of_ble_eq_true rfl, Nat.le_of_ble_eq_true rfl⟩ ⟨Nat.le_of_ble_eq_true rfl, Nat.le_of_ble_eq_true rfl⟩ (Nat.le_of_ble_eq_true rfl) rfl 0 0 rfl rfl 4 rfl dX7_buys_1 ?_
  refine r_if_ne C.1 13 7 rfl dX7_buys_4 rfl ⟨fun c59 => ?_, fun c59 => ?_⟩
  · have h := if_some_f c59 h
    refine r_iload_n C.1 2 14 rfl dX7_buys_13 rfl ?_
    refine r_iconst C.1 1 rfl 15 rfl dX7_buys_14 ?_
    refine r_sipush C.1 999 rfl 18 rfl dX7_buys_15 ?_
    obtain ⟨y61, e60, h⟩ := bd_some h
    refine r_cSi C.1 (st := []) (c_X7_isIn e60) yv_X7_isIn ml_X7_60 rfl ⟨Nat.le_of_ble_eq_true rfl, Nat.le_of_ble_eq_true rfl⟩ ⟨Nat.le_of_ble_eq_true rfl, Nat.le_of_ble_eq_true rfl⟩ (Nat.le_of_ble_eq_true rfl) rfl 0 0 rfl rfl 21 rfl dX7_buys_18 ?_
    refine r_if_ne C.1 30 24 rfl dX7_buys_21 rfl ⟨fun c62 => ?_, fun c62 => ?_⟩
    · have h := if_some_f c62 h
      refine r_aload_n C.1 0 31 rfl dX7_buys_30 rfl ?_
      refine r_getR C.1 5 fl_X7_16 rfl ha0 34 rfl dX7_buys_31 (fun (h63 : jSof F (kR κ a0 5) = (2, 0, 457)) => ?_)
      refine r_bipush C.1 8 rfl 36 rfl dX7_buys_34 ?_
      refine r_iload_n C.1 1 37 rfl dX7_buys_36 rfl ?_
      refine r_iadd C.1 38 rfl dX7_buys_37 ?_
      obtain ⟨i64, h⟩ := ck_some h
      refine r_iald C.1 h63 i64 39 rfl dX7_buys_38 ?_
      refine r_iload_n C.1 2 40 rfl dX7_buys_39 rfl ?_
      refine r_iadd C.1 41 rfl dX7_buys_40 ?_
      refine r_sipush C.1 2000 rfl 44 rfl dX7_buys_41 ?_
      refine r_icmp_le C.1 53 47 rfl dX7_buys_44 rfl ⟨fun c65 => ?_, fun c65 => ?_⟩
      · have h := if_some_t c65 h
        refine r_aload_n C.1 0 54 rfl dX7_buys_53 rfl ?_
        refine r_getR C.1 5 fl_X7_16 rfl ha0 57 rfl dX7_buys_54 (fun (h66 : jSof F (kR κ a0 5) = (2, 0, 457)) => ?_)
        refine r_bipush C.1 8 rfl 59 rfl dX7_buys_57 ?_
        refine r_iload_n C.1 1 60 rfl dX7_buys_59 rfl ?_
        refine r_iadd C.1 61 rfl dX7_buys_60 ?_
        refine r_dup2 C.1 rfl rfl 62 rfl dX7_buys_61 ?_
        obtain ⟨i67, h⟩ := ck_some h
        refine r_iald C.1 h66 i67 63 rfl dX7_buys_62 ?_
        refine r_iload_n C.1 2 64 rfl dX7_buys_63 rfl ?_
        refine r_iadd C.1 65 rfl dX7_buys_64 ?_
        obtain ⟨i68, h⟩ := ck_some h
        obtain ⟨κ69, e70, h⟩ := bnd_some h
        refine r_iast C.1 h66 i68 e70 66 rfl dX7_buys_65 ?_
        refine r_aload_n C.1 0 67 rfl dX7_buys_66 rfl ?_
        refine r_getR C.1 5 fl_X7_16 rfl ha0 70 rfl dX7_buys_67 (fun (h71 : jSof F (kR κ69 a0 5) = (2, 0, 457)) => ?_)
        refine r_iconst C.1 3 rfl 71 rfl dX7_buys_70 ?_
        refine r_dup2 C.1 rfl rfl 72 rfl dX7_buys_71 ?_
        refine r_iald C.1 h71 (by decide) 73 rfl dX7_buys_72 ?_
        refine r_iload_n C.1 2 74 rfl dX7_buys_73 rfl ?_
        refine r_iadd C.1 75 rfl dX7_buys_74 ?_
        obtain ⟨κ72, e73, h⟩ := bnd_some h
        refine r_iast C.1 h71 (by decide) e73 76 rfl dX7_buys_75 ?_
        refine r_aload_n C.1 0 77 rfl dX7_buys_76 rfl ?_
        refine r_getR C.1 5 fl_X7_16 rfl ha0 80 rfl dX7_buys_77 (fun (h74 : jSof F (kR κ72 a0 5) = (2, 0, 457)) => ?_)
        refine r_bipush C.1 8 rfl 82 rfl dX7_buys_80 ?_
        refine r_iload_n C.1 1 83 rfl dX7_buys_82 rfl ?_
        refine r_iadd C.1 84 rfl dX7_buys_83 ?_
        obtain ⟨i75, h⟩ := ck_some h
        refine r_iald C.1 h74 i75 85 rfl dX7_buys_84 ?_
        cases h
        exact r_zret C rfl rfl (Nat.le_of_ble_eq_true rfl) (Nat.le_of_ble_eq_true rfl) dX7_buys_85 hq
      · have h := if_some_f c65 h
        refine r_aload_n C.1 0 48 rfl dX7_buys_47 rfl ?_
        refine r_iconst C.1 3 rfl 49 rfl dX7_buys_48 ?_
        obtain ⟨y77, κ78, e76, h⟩ := bd2_some h
        refine r_cVi C.1 (st := []) (c_X7_fail ha0 e76) yv_X7_fail ml_X7_91 rfl ha0 rfl ⟨Nat.le_of_ble_eq_true rfl, Nat.le_of_ble_eq_true rfl⟩ ⟨Nat.le_of_ble_eq_true rfl, Nat.le_of_ble_eq_true rfl⟩ (Nat.le_of_ble_eq_true rfl) rfl 0 0 rfl rfl 52 rfl dX7_buys_49 ?_
        cases h
        exact r_zret C rfl rfl (Nat.le_of_ble_eq_true rfl) (Nat.le_of_ble_eq_true rfl) dX7_buys_52 hq
    · have h := if_some_t c62 h
      refine r_aload_n C.1 0 25 rfl dX7_buys_24 rfl ?_
      refine r_iconst C.1 2 rfl 26 rfl dX7_buys_25 ?_
      obtain ⟨y80, κ81, e79, h⟩ := bd2_some h
      refine r_cVi C.1 (st := []) (c_X7_fail ha0 e79) yv_X7_fail ml_X7_91 rfl ha0 rfl ⟨Nat.le_of_ble_eq_true rfl, Nat.le_of_ble_eq_true rfl⟩ ⟨Nat.le_of_ble_eq_true rfl, Nat.le_of_ble_eq_true rfl⟩ (Nat.le_of_ble_eq_true rfl) rfl 0 0 rfl rfl 29 rfl dX7_buys_26 ?_
      cases h
      exact r_zret C rfl rfl (Nat.le_of_ble_eq_true rfl) (Nat.le_of_ble_eq_true rfl) dX7_buys_29 hq
  · have h := if_some_t c59 h
    refine r_aload_n C.1 0 8 rfl dX7_buys_7 rfl ?_
    refine r_iconst C.1 1 rfl 9 rfl dX7_buys_8 ?_
    obtain ⟨y83, κ84, e82, h⟩ := bd2_some h
    refine r_cVi C.1 (st := []) (c_X7_fail ha0 e82) yv_X7_fail ml_X7_91 rfl ha0 rfl ⟨Nat.le_of_ble_eq_true rfl, Nat.le_of_ble_eq_true rfl⟩ ⟨Nat.le_of_ble_eq_true rfl, Nat.le_of_ble_eq_true rfl⟩ (Nat.le_of_ble_eq_true rfl) rfl 0 0 rfl rfl 12 rfl dX7_buys_9 ?_
    cases h
    exact r_zret C rfl rfl (Nat.le_of_ble_eq_true rfl) (Nat.le_of_ble_eq_true rfl) dX7_buys_12 hq
theorem c_X7_buys {l : Launch} {G : jG} {sh : jSh} {κ : jKt} {a0 : Nat} (ha0 : sh a0 = (1, 11, 22)) {x1 : Int32} {x2 : Int32} {r : Int32} {κr : jKt} (h : P_X7_buys κ a0 x1 x2 = some (r, κr)) : jM l G yX7_buys cX7_buys 3 (some .int) 2 0 0 42 [.ref a0, .int x1, .int x2] (sh, κ) (jIs (some (.int r)) (sh, κr)) jNo :=
  r_body (by decide) (Nat.le_of_ble_eq_true rfl) fun F C hl hG hs ho hx => by
    subst hs
    exact w_X7_buys_0 C ha0 (by rw [ho]; exact ⟨rfl, rfl⟩) h
set_option maxRecDepth 20000 in
theorem w_X7_buyCloth_0 {F : jFm} (C : jB F RX7 cX7_buyCloth 3 (some .int) 3 0 0 64) {κ : jKt} {a0 : Nat} (ha0 : jSof F a0 = (1, 11, 22)) {x1 : Int32} {x2 : Int32} {r : Int32 × jKt} (hq : jOut F (some (.int r.1)) r.2) (h : P_X7_buyCloth κ a0 x1 x2 = some r) : jW F 3 0 0 κ 0 [(0, .ref a0), (1, .int x1), (2, .int x2)] [] := by
  unfold P_X7_buyCloth at h
  refine r_aload_n C.1 0 1 rfl dX7_buyCloth_0 rfl ?_
  obtain ⟨κ18, e17, h⟩ := bd_some h
  refine r_cVv C.1 (st := []) (c_X7_begins ha0 e17) yv_X7_begins ml_X7_94 rfl ha0 rfl ⟨Nat.le_of_ble_eq_true rfl, Nat.le_of_ble_eq_true rfl⟩ ⟨Nat.le_of_ble_eq_true rfl, Nat.le_of_ble_eq_true rfl⟩ (Nat.le_of_ble_eq_true rfl) rfl 0 0 rfl rfl 4 rfl dX7_buyCloth_1 ?_
  refine r_aload_n C.1 0 5 rfl dX7_buyCloth_4 rfl ?_
  refine r_aload_n C.1 0 6 rfl dX7_buyCloth_5 rfl ?_
  refine r_iload_n C.1 1 7 rfl dX7_buyCloth_6 rfl ?_
  refine r_iload_n C.1 2 8 rfl dX7_buyCloth_7 rfl ?_
  obtain ⟨y20, κ21, e19, h⟩ := bd2_some h
  refine r_cVi C.1 (st := [.ref a0]) (c_X7_buys ha0 e19) yv_X7_buys ml_X7_97 rfl ha0 rfl ⟨Nat.le_of_ble_eq_true rfl, Nat.le_of_ble_eq_true rfl⟩ ⟨Nat.le_of_ble_eq_true rfl, Nat.le_of_ble_eq_true rfl⟩ (Nat.le_of_ble_eq_true rfl) rfl 0 0 rfl rfl 11 rfl dX7_buyCloth_8 ?_
  obtain ⟨y23, κ24, e22, h⟩ := bd2_some h
  refine r_cVi C.1 (st := []) (c_X7_ends ha0 e22) yv_X7_ends ml_X7_100 rfl ha0 rfl ⟨Nat.le_of_ble_eq_true rfl, Nat.le_of_ble_eq_true rfl⟩ ⟨Nat.le_of_ble_eq_true rfl, Nat.le_of_ble_eq_true rfl⟩ (Nat.le_of_ble_eq_true rfl) rfl 0 0 rfl rfl 14 rfl dX7_buyCloth_11 ?_
  cases h
  exact r_zret C rfl rfl (Nat.le_of_ble_eq_true rfl) (Nat.le_of_ble_eq_true rfl) dX7_buyCloth_14 hq
theorem c_X7_buyCloth {l : Launch} {G : jG} {sh : jSh} {κ : jKt} {a0 : Nat} (ha0 : sh a0 = (1, 11, 22)) {x1 : Int32} {x2 : Int32} {r : Int32} {κr : jKt} (h : P_X7_buyCloth κ a0 x1 x2 = some (r, κr)) : jM l G yX7_buyCloth cX7_buyCloth 3 (some .int) 3 0 0 64 [.ref a0, .int x1, .int x2] (sh, κ) (jIs (some (.int r)) (sh, κr)) jNo :=
  r_body (by decide) (Nat.le_of_ble_eq_true rfl) fun F C hl hG hs ho hx => by
    subst hs
    exact w_X7_buyCloth_0 C ha0 (by rw [ho]; exact ⟨rfl, rfl⟩) h
set_option maxRecDepth 20000 in
theorem w_X7_adds_58 {F : jFm} (C : jB F RX7 cX7_adds 5 (some .int) 1 0 0 22) {a0 : Nat} (ha0 : jSof F a0 = (1, 11, 22)) {v1 : Int32} {v2 : Int32} {v3 : Int32} {r : Int32 × jKt} (hq : jOut F (some (.int r.1)) r.2) : ∀ (n : Nat) (κ : jKt) (v4 : Int32), P_X7_adds_58 a0 v1 v2 v3 n κ v4 = some r → jW F 5 0 0 κ 58 [(0, .ref a0), (1, .int v1), (2, .int v2), (3, .int v3), (4, .int v4)] [] := by
  intro n
  induction n with
  | zero => intro κ v4 h; cases h
  | succ n ih =>
    intro κ v4 h
    rw [P_X7_adds_58] at h
    refine r_iload C.1 4 60 rfl dX7_adds_58 rfl ?_
    refine r_bipush C.1 16 rfl 62 rfl dX7_adds_60 ?_
    refine r_icmp_ge C.1 98 65 rfl dX7_adds_62 rfl ⟨fun c79 => ?_, fun c79 => ?_⟩
    · have h := if_some_t c79 h
      refine r_aload_n C.1 0 99 rfl dX7_adds_98 rfl ?_
      refine r_getR C.1 5 fl_X7_16 rfl ha0 102 rfl dX7_adds_99 (fun (h80 : jSof F (kR κ a0 5) = (2, 0, 457)) => ?_)
      refine r_iconst C.1 0 rfl 103 rfl dX7_adds_102 ?_
      refine r_dup2 C.1 rfl rfl 104 rfl dX7_adds_103 ?_
      refine r_iald C.1 h80 (by decide) 105 rfl dX7_adds_104 ?_
      refine r_iconst C.1 1 rfl 106 rfl dX7_adds_105 ?_
      refine r_iadd C.1 107 rfl dX7_adds_106 ?_
      obtain ⟨κ81, e82, h⟩ := bnd_some h
      refine r_iast C.1 h80 (by decide) e82 108 rfl dX7_adds_107 ?_
      refine r_iload_n C.1 3 109 rfl dX7_adds_108 rfl ?_
      cases h
      exact r_zret C rfl rfl (Nat.le_of_ble_eq_true rfl) (Nat.le_of_ble_eq_true rfl) dX7_adds_109 hq
    · have h := if_some_f c79 h
      refine r_aload_n C.1 0 66 rfl dX7_adds_65 rfl ?_
      refine r_getR C.1 5 fl_X7_16 rfl ha0 69 rfl dX7_adds_66 (fun (h83 : jSof F (kR κ a0 5) = (2, 0, 457)) => ?_)
      refine r_iload_n C.1 3 70 rfl dX7_adds_69 rfl ?_
      obtain ⟨y85, e84, h⟩ := bd_some h
      refine r_cSi C.1 (st := [.ref (kR κ a0 5)]) (c_X7_at e84) yv_X7_at ml_X7_64 rfl ⟨Nat.le_of_ble_eq_true rfl, Nat.le_of_ble_eq_true rfl⟩ ⟨Nat.le_of_ble_eq_true rfl, Nat.le_of_ble_eq_true rfl⟩ (Nat.le_of_ble_eq_true rfl) rfl 0 0 rfl rfl 73 rfl dX7_adds_70 ?_
      refine r_iconst C.1 1 rfl 74 rfl dX7_adds_73 ?_
      refine r_iadd C.1 75 rfl dX7_adds_74 ?_
      refine r_iload C.1 4 77 rfl dX7_adds_75 rfl ?_
      refine r_iadd C.1 78 rfl dX7_adds_77 ?_
      refine r_iload C.1 4 80 rfl dX7_adds_78 rfl ?_
      refine r_iconst C.1 2 rfl 81 rfl dX7_adds_80 ?_
      refine r_iload_n C.1 1 82 rfl dX7_adds_81 rfl ?_
      refine r_imul C.1 83 rfl dX7_adds_82 ?_
      refine r_icmp_ge C.1 90 86 rfl dX7_adds_83 rfl ⟨fun c86 => ?_, fun c86 => ?_⟩
      · have h := if_some_t c86 h
        refine r_iconst C.1 0 rfl 91 rfl dX7_adds_90 ?_
        obtain ⟨i87, h⟩ := ck_some h
        obtain ⟨κ88, e89, h⟩ := bnd_some h
        refine r_iast C.1 h83 i87 e89 92 rfl dX7_adds_91 ?_
        refine r_iinc C.1 (lv' := [(0, .ref a0), (1, .int v1), (2, .int v2), (3, .int v3), (4, .int (v4 + 1))]) 4 [1, 2, 3, 4, 0] 95 rfl dX7_adds_92 rfl (Nat.le_of_ble_eq_true rfl) rfl rfl ?_
        refine r_goto C.1 58 dX7_adds_95 rfl ?_
        exact ih κ88 (v4 + 1) h
      · have h := if_some_f c86 h
        refine r_iload_n C.1 2 87 rfl dX7_adds_86 rfl ?_
        refine r_goto C.1 91 dX7_adds_87 rfl ?_
        obtain ⟨i90, h⟩ := ck_some h
        obtain ⟨κ91, e92, h⟩ := bnd_some h
        refine r_iast C.1 h83 i90 e92 92 rfl dX7_adds_91 ?_
        refine r_iinc C.1 (lv' := [(0, .ref a0), (1, .int v1), (2, .int v2), (3, .int v3), (4, .int (v4 + 1))]) 4 [1, 2, 3, 4, 0] 95 rfl dX7_adds_92 rfl (Nat.le_of_ble_eq_true rfl) rfl rfl ?_
        refine r_goto C.1 58 dX7_adds_95 rfl ?_
        exact ih κ91 (v4 + 1) h
set_option maxRecDepth 20000 in
theorem w_X7_adds_0 {F : jFm} (C : jB F RX7 cX7_adds 5 (some .int) 1 0 0 22) {κ : jKt} {a0 : Nat} (ha0 : jSof F a0 = (1, 11, 22)) {x1 : Int32} {x2 : Int32} {r : Int32 × jKt} (hq : jOut F (some (.int r.1)) r.2) (h : P_X7_adds κ a0 x1 x2 = some r) : jW F 5 0 0 κ 0 [(0, .ref a0), (1, .int x1), (2, .int x2)] [] := by
  unfold P_X7_adds at h
  refine r_iload_n C.1 1 1 rfl dX7_adds_0 rfl ?_
  refine r_iconst C.1 1 rfl 2 rfl dX7_adds_1 ?_
  refine r_bipush C.1 8 rfl 4 rfl dX7_adds_2 ?_
  obtain ⟨y94, e93, h⟩ := bd_some h
  refine r_cSi C.1 (st := []) (c_X7_isIn e93) yv_X7_isIn ml_X7_60 rfl ⟨Nat.le_of_ble_eq_true rfl, Nat.le_of_ble_eq_true rfl⟩ ⟨Nat.le_of_ble_eq_true rfl, Nat.le_of_ble_eq_true rfl⟩ (Nat.le_of_ble_eq_true rfl) rfl 0 0 rfl rfl 7 rfl dX7_adds_4 ?_
  refine r_if_eq C.1 21 10 rfl dX7_adds_7 rfl ⟨fun c95 => ?_, fun c95 => ?_⟩
  · have h := if_some_t c95 h
    refine r_aload_n C.1 0 22 rfl dX7_adds_21 rfl ?_
    refine r_iconst C.1 1 rfl 23 rfl dX7_adds_22 ?_
    obtain ⟨y97, κ98, e96, h⟩ := bd2_some h
    refine r_cVi C.1 (st := []) (c_X7_fail ha0 e96) yv_X7_fail ml_X7_91 rfl ha0 rfl ⟨Nat.le_of_ble_eq_true rfl, Nat.le_of_ble_eq_true rfl⟩ ⟨Nat.le_of_ble_eq_true rfl, Nat.le_of_ble_eq_true rfl⟩ (Nat.le_of_ble_eq_true rfl) rfl 0 0 rfl rfl 26 rfl dX7_adds_23 ?_
    cases h
    exact r_zret C rfl rfl (Nat.le_of_ble_eq_true rfl) (Nat.le_of_ble_eq_true rfl) dX7_adds_26 hq
  · have h := if_some_f c95 h
    refine r_iload_n C.1 2 11 rfl dX7_adds_10 rfl ?_
    refine r_bipush C.1 10 rfl 13 rfl dX7_adds_11 ?_
    refine r_bipush C.1 60 rfl 15 rfl dX7_adds_13 ?_
    obtain ⟨y100, e99, h⟩ := bd_some h
    refine r_cSi C.1 (st := []) (c_X7_isIn e99) yv_X7_isIn ml_X7_60 rfl ⟨Nat.le_of_ble_eq_true rfl, Nat.le_of_ble_eq_true rfl⟩ ⟨Nat.le_of_ble_eq_true rfl, Nat.le_of_ble_eq_true rfl⟩ (Nat.le_of_ble_eq_true rfl) rfl 0 0 rfl rfl 18 rfl dX7_adds_15 ?_
    refine r_if_ne C.1 27 21 rfl dX7_adds_18 rfl ⟨fun c101 => ?_, fun c101 => ?_⟩
    · have h := if_some_f c101 h
      refine r_aload_n C.1 0 28 rfl dX7_adds_27 rfl ?_
      refine r_getR C.1 5 fl_X7_16 rfl ha0 31 rfl dX7_adds_28 (fun (h102 : jSof F (kR κ a0 5) = (2, 0, 457)) => ?_)
      refine r_iconst C.1 0 rfl 32 rfl dX7_adds_31 ?_
      refine r_iald C.1 h102 (by decide) 33 rfl dX7_adds_32 ?_
      obtain ⟨y103, e104, h⟩ := bnd_some h
      refine r_top e104 ?_
      refine r_istore_n C.1 (lv' := [(0, .ref a0), (1, .int x1), (2, .int x2), (3, .int y103)]) [1, 2, 3, 0] 34 rfl dX7_adds_33 (Nat.le_of_ble_eq_true rfl) rfl ?_
      refine r_iload_n C.1 3 35 rfl dX7_adds_34 rfl ?_
      refine r_iconst C.1 5 rfl 36 rfl dX7_adds_35 ?_
      refine r_icmp_ne C.1 45 39 rfl dX7_adds_36 rfl ⟨fun c105 => ?_, fun c105 => ?_⟩
      · have h := if_some_f c105 h
        refine r_aload_n C.1 0 46 rfl dX7_adds_45 rfl ?_
        refine r_getR C.1 5 fl_X7_16 rfl ha0 49 rfl dX7_adds_46 (fun (h106 : jSof F (kR κ a0 5) = (2, 0, 457)) => ?_)
        refine r_iload_n C.1 3 50 rfl dX7_adds_49 rfl ?_
        obtain ⟨y108, e107, h⟩ := bd_some h
        refine r_cSi C.1 (st := [.ref (kR κ a0 5)]) (c_X7_at e107) yv_X7_at ml_X7_64 rfl ⟨Nat.le_of_ble_eq_true rfl, Nat.le_of_ble_eq_true rfl⟩ ⟨Nat.le_of_ble_eq_true rfl, Nat.le_of_ble_eq_true rfl⟩ (Nat.le_of_ble_eq_true rfl) rfl 0 0 rfl rfl 53 rfl dX7_adds_50 ?_
        refine r_iload_n C.1 1 54 rfl dX7_adds_53 rfl ?_
        obtain ⟨i109, h⟩ := ck_some h
        obtain ⟨κ110, e111, h⟩ := bnd_some h
        refine r_iast C.1 h106 i109 e111 55 rfl dX7_adds_54 ?_
        refine r_iconst C.1 0 rfl 56 rfl dX7_adds_55 ?_
        refine r_istore C.1 (lv' := [(0, .ref a0), (1, .int x1), (2, .int x2), (3, .int y103), (4, .int 0)]) [1, 2, 3, 4, 0] 58 rfl dX7_adds_56 (Nat.le_of_ble_eq_true rfl) rfl ?_
        exact w_X7_adds_58 C ha0 hq 4000 κ110 0 h
      · have h := if_some_t c105 h
        refine r_aload_n C.1 0 40 rfl dX7_adds_39 rfl ?_
        refine r_iconst C.1 2 rfl 41 rfl dX7_adds_40 ?_
        obtain ⟨y113, κ114, e112, h⟩ := bd2_some h
        refine r_cVi C.1 (st := []) (c_X7_fail ha0 e112) yv_X7_fail ml_X7_91 rfl ha0 rfl ⟨Nat.le_of_ble_eq_true rfl, Nat.le_of_ble_eq_true rfl⟩ ⟨Nat.le_of_ble_eq_true rfl, Nat.le_of_ble_eq_true rfl⟩ (Nat.le_of_ble_eq_true rfl) rfl 0 0 rfl rfl 44 rfl dX7_adds_41 ?_
        cases h
        exact r_zret C rfl rfl (Nat.le_of_ble_eq_true rfl) (Nat.le_of_ble_eq_true rfl) dX7_adds_44 hq
    · have h := if_some_t c101 h
      refine r_aload_n C.1 0 22 rfl dX7_adds_21 rfl ?_
      refine r_iconst C.1 1 rfl 23 rfl dX7_adds_22 ?_
      obtain ⟨y116, κ117, e115, h⟩ := bd2_some h
      refine r_cVi C.1 (st := []) (c_X7_fail ha0 e115) yv_X7_fail ml_X7_91 rfl ha0 rfl ⟨Nat.le_of_ble_eq_true rfl, Nat.le_of_ble_eq_true rfl⟩ ⟨Nat.le_of_ble_eq_true rfl, Nat.le_of_ble_eq_true rfl⟩ (Nat.le_of_ble_eq_true rfl) rfl 0 0 rfl rfl 26 rfl dX7_adds_23 ?_
      cases h
      exact r_zret C rfl rfl (Nat.le_of_ble_eq_true rfl) (Nat.le_of_ble_eq_true rfl) dX7_adds_26 hq
theorem c_X7_adds {l : Launch} {G : jG} {sh : jSh} {κ : jKt} {a0 : Nat} (ha0 : sh a0 = (1, 11, 22)) {x1 : Int32} {x2 : Int32} {r : Int32} {κr : jKt} (h : P_X7_adds κ a0 x1 x2 = some (r, κr)) : jM l G yX7_adds cX7_adds 5 (some .int) 1 0 0 22 [.ref a0, .int x1, .int x2] (sh, κ) (jIs (some (.int r)) (sh, κr)) jNo :=
  r_body (by decide) (Nat.le_of_ble_eq_true rfl) fun F C hl hG hs ho hx => by
    subst hs
    exact w_X7_adds_0 C ha0 (by rw [ho]; exact ⟨rfl, rfl⟩) h
set_option maxRecDepth 20000 in
theorem w_X7_addCustomer_0 {F : jFm} (C : jB F RX7 cX7_addCustomer 3 (some .int) 2 0 0 46) {κ : jKt} {a0 : Nat} (ha0 : jSof F a0 = (1, 11, 22)) {x1 : Int32} {x2 : Int32} {r : Int32 × jKt} (hq : jOut F (some (.int r.1)) r.2) (h : P_X7_addCustomer κ a0 x1 x2 = some r) : jW F 3 0 0 κ 0 [(0, .ref a0), (1, .int x1), (2, .int x2)] [] := by
  unfold P_X7_addCustomer at h
  refine r_aload_n C.1 0 1 rfl dX7_addCustomer_0 rfl ?_
  obtain ⟨κ18, e17, h⟩ := bd_some h
  refine r_cVv C.1 (st := []) (c_X7_begins ha0 e17) yv_X7_begins ml_X7_94 rfl ha0 rfl ⟨Nat.le_of_ble_eq_true rfl, Nat.le_of_ble_eq_true rfl⟩ ⟨Nat.le_of_ble_eq_true rfl, Nat.le_of_ble_eq_true rfl⟩ (Nat.le_of_ble_eq_true rfl) rfl 0 0 rfl rfl 4 rfl dX7_addCustomer_1 ?_
  refine r_aload_n C.1 0 5 rfl dX7_addCustomer_4 rfl ?_
  refine r_aload_n C.1 0 6 rfl dX7_addCustomer_5 rfl ?_
  refine r_iload_n C.1 1 7 rfl dX7_addCustomer_6 rfl ?_
  refine r_iload_n C.1 2 8 rfl dX7_addCustomer_7 rfl ?_
  obtain ⟨y20, κ21, e19, h⟩ := bd2_some h
  refine r_cVi C.1 (st := [.ref a0]) (c_X7_adds ha0 e19) yv_X7_adds ml_X7_103 rfl ha0 rfl ⟨Nat.le_of_ble_eq_true rfl, Nat.le_of_ble_eq_true rfl⟩ ⟨Nat.le_of_ble_eq_true rfl, Nat.le_of_ble_eq_true rfl⟩ (Nat.le_of_ble_eq_true rfl) rfl 0 0 rfl rfl 11 rfl dX7_addCustomer_8 ?_
  obtain ⟨y23, κ24, e22, h⟩ := bd2_some h
  refine r_cVi C.1 (st := []) (c_X7_ends ha0 e22) yv_X7_ends ml_X7_100 rfl ha0 rfl ⟨Nat.le_of_ble_eq_true rfl, Nat.le_of_ble_eq_true rfl⟩ ⟨Nat.le_of_ble_eq_true rfl, Nat.le_of_ble_eq_true rfl⟩ (Nat.le_of_ble_eq_true rfl) rfl 0 0 rfl rfl 14 rfl dX7_addCustomer_11 ?_
  cases h
  exact r_zret C rfl rfl (Nat.le_of_ble_eq_true rfl) (Nat.le_of_ble_eq_true rfl) dX7_addCustomer_14 hq
theorem c_X7_addCustomer {l : Launch} {G : jG} {sh : jSh} {κ : jKt} {a0 : Nat} (ha0 : sh a0 = (1, 11, 22)) {x1 : Int32} {x2 : Int32} {r : Int32} {κr : jKt} (h : P_X7_addCustomer κ a0 x1 x2 = some (r, κr)) : jM l G yX7_addCustomer cX7_addCustomer 3 (some .int) 2 0 0 46 [.ref a0, .int x1, .int x2] (sh, κ) (jIs (some (.int r)) (sh, κr)) jNo :=
  r_body (by decide) (Nat.le_of_ble_eq_true rfl) fun F C hl hG hs ho hx => by
    subst hs
    exact w_X7_addCustomer_0 C ha0 (by rw [ho]; exact ⟨rfl, rfl⟩) h
set_option maxRecDepth 20000 in
theorem w_X7_fits_0 {F : jFm} (C : jB F RX7 cX7_fits 5 (some .int) 3 0 0 65) {κ : jKt} {a0 : Nat} (ha0 : jSof F a0 = (1, 11, 22)) {x1 : Int32} {x2 : Int32} {x3 : Int32} {r : Int32 × jKt} (hq : jOut F (some (.int r.1)) r.2) (h : P_X7_fits κ a0 x1 x2 x3 = some r) : jW F 5 0 0 κ 0 [(0, .ref a0), (1, .int x1), (2, .int x2), (3, .int x3)] [] := by
  unfold P_X7_fits at h
  refine r_aload_n C.1 0 1 rfl dX7_fits_0 rfl ?_
  refine r_iload_n C.1 1 2 rfl dX7_fits_1 rfl ?_
  refine r_iload_n C.1 2 3 rfl dX7_fits_2 rfl ?_
  obtain ⟨y42, e41, h⟩ := bd_some h
  refine r_cVi C.1 (st := []) (c_X7_isLeg ha0 e41) yv_X7_isLeg ml_X7_106 rfl ha0 rfl ⟨Nat.le_of_ble_eq_true rfl, Nat.le_of_ble_eq_true rfl⟩ ⟨Nat.le_of_ble_eq_true rfl, Nat.le_of_ble_eq_true rfl⟩ (Nat.le_of_ble_eq_true rfl) rfl 0 0 rfl rfl 6 rfl dX7_fits_3 ?_
  refine r_if_ne C.1 15 9 rfl dX7_fits_6 rfl ⟨fun c43 => ?_, fun c43 => ?_⟩
  · have h := if_some_f c43 h
    refine r_iload_n C.1 3 16 rfl dX7_fits_15 rfl ?_
    refine r_bipush C.1 10 rfl 18 rfl dX7_fits_16 ?_
    refine r_bipush C.1 60 rfl 20 rfl dX7_fits_18 ?_
    obtain ⟨y45, e44, h⟩ := bd_some h
    refine r_cSi C.1 (st := []) (c_X7_isIn e44) yv_X7_isIn ml_X7_60 rfl ⟨Nat.le_of_ble_eq_true rfl, Nat.le_of_ble_eq_true rfl⟩ ⟨Nat.le_of_ble_eq_true rfl, Nat.le_of_ble_eq_true rfl⟩ (Nat.le_of_ble_eq_true rfl) rfl 0 0 rfl rfl 23 rfl dX7_fits_20 ?_
    refine r_if_ne C.1 32 26 rfl dX7_fits_23 rfl ⟨fun c46 => ?_, fun c46 => ?_⟩
    · have h := if_some_f c46 h
      refine r_aload_n C.1 0 33 rfl dX7_fits_32 rfl ?_
      refine r_iload_n C.1 1 34 rfl dX7_fits_33 rfl ?_
      refine r_iload_n C.1 2 35 rfl dX7_fits_34 rfl ?_
      obtain ⟨y48, e47, h⟩ := bd_some h
      refine r_cVi C.1 (st := []) (c_X7_leg ha0 e47) yv_X7_leg ml_X7_82 rfl ha0 rfl ⟨Nat.le_of_ble_eq_true rfl, Nat.le_of_ble_eq_true rfl⟩ ⟨Nat.le_of_ble_eq_true rfl, Nat.le_of_ble_eq_true rfl⟩ (Nat.le_of_ble_eq_true rfl) rfl 0 0 rfl rfl 38 rfl dX7_fits_35 ?_
      refine r_istore C.1 (lv' := [(0, .ref a0), (1, .int x1), (2, .int x2), (3, .int x3), (4, .int y48)]) [1, 2, 3, 4, 0] 40 rfl dX7_fits_38 (Nat.le_of_ble_eq_true rfl) rfl ?_
      refine r_aload_n C.1 0 41 rfl dX7_fits_40 rfl ?_
      refine r_getR C.1 5 fl_X7_16 rfl ha0 44 rfl dX7_fits_41 (fun (h49 : jSof F (kR κ a0 5) = (2, 0, 457)) => ?_)
      refine r_iload_n C.1 1 45 rfl dX7_fits_44 rfl ?_
      obtain ⟨y51, e50, h⟩ := bd_some h
      refine r_cSi C.1 (st := [.ref (kR κ a0 5)]) (c_X7_at e50) yv_X7_at ml_X7_64 rfl ⟨Nat.le_of_ble_eq_true rfl, Nat.le_of_ble_eq_true rfl⟩ ⟨Nat.le_of_ble_eq_true rfl, Nat.le_of_ble_eq_true rfl⟩ (Nat.le_of_ble_eq_true rfl) rfl 0 0 rfl rfl 48 rfl dX7_fits_45 ?_
      refine r_iconst C.1 1 rfl 49 rfl dX7_fits_48 ?_
      refine r_iadd C.1 50 rfl dX7_fits_49 ?_
      refine r_iload_n C.1 2 51 rfl dX7_fits_50 rfl ?_
      refine r_iadd C.1 52 rfl dX7_fits_51 ?_
      refine r_iload_n C.1 3 53 rfl dX7_fits_52 rfl ?_
      obtain ⟨i52, h⟩ := ck_some h
      obtain ⟨κ53, e54, h⟩ := bnd_some h
      refine r_iast C.1 h49 i52 e54 54 rfl dX7_fits_53 ?_
      refine r_iload C.1 4 56 rfl dX7_fits_54 rfl ?_
      cases h
      exact r_zret C rfl rfl (Nat.le_of_ble_eq_true rfl) (Nat.le_of_ble_eq_true rfl) dX7_fits_56 hq
    · have h := if_some_t c46 h
      refine r_aload_n C.1 0 27 rfl dX7_fits_26 rfl ?_
      refine r_iconst C.1 2 rfl 28 rfl dX7_fits_27 ?_
      obtain ⟨y56, κ57, e55, h⟩ := bd2_some h
      refine r_cVi C.1 (st := []) (c_X7_fail ha0 e55) yv_X7_fail ml_X7_91 rfl ha0 rfl ⟨Nat.le_of_ble_eq_true rfl, Nat.le_of_ble_eq_true rfl⟩ ⟨Nat.le_of_ble_eq_true rfl, Nat.le_of_ble_eq_true rfl⟩ (Nat.le_of_ble_eq_true rfl) rfl 0 0 rfl rfl 31 rfl dX7_fits_28 ?_
      cases h
      exact r_zret C rfl rfl (Nat.le_of_ble_eq_true rfl) (Nat.le_of_ble_eq_true rfl) dX7_fits_31 hq
  · have h := if_some_t c43 h
    refine r_aload_n C.1 0 10 rfl dX7_fits_9 rfl ?_
    refine r_iconst C.1 1 rfl 11 rfl dX7_fits_10 ?_
    obtain ⟨y59, κ60, e58, h⟩ := bd2_some h
    refine r_cVi C.1 (st := []) (c_X7_fail ha0 e58) yv_X7_fail ml_X7_91 rfl ha0 rfl ⟨Nat.le_of_ble_eq_true rfl, Nat.le_of_ble_eq_true rfl⟩ ⟨Nat.le_of_ble_eq_true rfl, Nat.le_of_ble_eq_true rfl⟩ (Nat.le_of_ble_eq_true rfl) rfl 0 0 rfl rfl 14 rfl dX7_fits_11 ?_
    cases h
    exact r_zret C rfl rfl (Nat.le_of_ble_eq_true rfl) (Nat.le_of_ble_eq_true rfl) dX7_fits_14 hq
theorem c_X7_fits {l : Launch} {G : jG} {sh : jSh} {κ : jKt} {a0 : Nat} (ha0 : sh a0 = (1, 11, 22)) {x1 : Int32} {x2 : Int32} {x3 : Int32} {r : Int32} {κr : jKt} (h : P_X7_fits κ a0 x1 x2 x3 = some (r, κr)) : jM l G yX7_fits cX7_fits 5 (some .int) 3 0 0 65 [.ref a0, .int x1, .int x2, .int x3] (sh, κ) (jIs (some (.int r)) (sh, κr)) jNo :=
  r_body (by decide) (Nat.le_of_ble_eq_true rfl) fun F C hl hG hs ho hx => by
    subst hs
    exact w_X7_fits_0 C ha0 (by rw [ho]; exact ⟨rfl, rfl⟩) h
set_option maxRecDepth 20000 in
theorem w_X7_fit_0 {F : jFm} (C : jB F RX7 cX7_fit 4 (some .int) 4 0 0 89) {κ : jKt} {a0 : Nat} (ha0 : jSof F a0 = (1, 11, 22)) {x1 : Int32} {x2 : Int32} {x3 : Int32} {r : Int32 × jKt} (hq : jOut F (some (.int r.1)) r.2) (h : P_X7_fit κ a0 x1 x2 x3 = some r) : jW F 4 0 0 κ 0 [(0, .ref a0), (1, .int x1), (2, .int x2), (3, .int x3)] [] := by
  unfold P_X7_fit at h
  refine r_aload_n C.1 0 1 rfl dX7_fit_0 rfl ?_
  obtain ⟨κ18, e17, h⟩ := bd_some h
  refine r_cVv C.1 (st := []) (c_X7_begins ha0 e17) yv_X7_begins ml_X7_94 rfl ha0 rfl ⟨Nat.le_of_ble_eq_true rfl, Nat.le_of_ble_eq_true rfl⟩ ⟨Nat.le_of_ble_eq_true rfl, Nat.le_of_ble_eq_true rfl⟩ (Nat.le_of_ble_eq_true rfl) rfl 0 0 rfl rfl 4 rfl dX7_fit_1 ?_
  refine r_aload_n C.1 0 5 rfl dX7_fit_4 rfl ?_
  refine r_aload_n C.1 0 6 rfl dX7_fit_5 rfl ?_
  refine r_iload_n C.1 1 7 rfl dX7_fit_6 rfl ?_
  refine r_iload_n C.1 2 8 rfl dX7_fit_7 rfl ?_
  refine r_iload_n C.1 3 9 rfl dX7_fit_8 rfl ?_
  obtain ⟨y20, κ21, e19, h⟩ := bd2_some h
  refine r_cVi C.1 (st := [.ref a0]) (c_X7_fits ha0 e19) yv_X7_fits ml_X7_110 rfl ha0 rfl ⟨Nat.le_of_ble_eq_true rfl, Nat.le_of_ble_eq_true rfl⟩ ⟨Nat.le_of_ble_eq_true rfl, Nat.le_of_ble_eq_true rfl⟩ (Nat.le_of_ble_eq_true rfl) rfl 0 0 rfl rfl 12 rfl dX7_fit_9 ?_
  obtain ⟨y23, κ24, e22, h⟩ := bd2_some h
  refine r_cVi C.1 (st := []) (c_X7_ends ha0 e22) yv_X7_ends ml_X7_100 rfl ha0 rfl ⟨Nat.le_of_ble_eq_true rfl, Nat.le_of_ble_eq_true rfl⟩ ⟨Nat.le_of_ble_eq_true rfl, Nat.le_of_ble_eq_true rfl⟩ (Nat.le_of_ble_eq_true rfl) rfl 0 0 rfl rfl 15 rfl dX7_fit_12 ?_
  cases h
  exact r_zret C rfl rfl (Nat.le_of_ble_eq_true rfl) (Nat.le_of_ble_eq_true rfl) dX7_fit_15 hq
theorem c_X7_fit {l : Launch} {G : jG} {sh : jSh} {κ : jKt} {a0 : Nat} (ha0 : sh a0 = (1, 11, 22)) {x1 : Int32} {x2 : Int32} {x3 : Int32} {r : Int32} {κr : jKt} (h : P_X7_fit κ a0 x1 x2 x3 = some (r, κr)) : jM l G yX7_fit cX7_fit 4 (some .int) 4 0 0 89 [.ref a0, .int x1, .int x2, .int x3] (sh, κ) (jIs (some (.int r)) (sh, κr)) jNo :=
  r_body (by decide) (Nat.le_of_ble_eq_true rfl) fun F C hl hG hs ho hx => by
    subst hs
    exact w_X7_fit_0 C ha0 (by rw [ho]; exact ⟨rfl, rfl⟩) h
set_option maxRecDepth 20000 in
theorem w_X7_orders_43 {F : jFm} (C : jB F RX7 cX7_orders 5 (some .int) 2 0 0 43) {a0 : Nat} (ha0 : jSof F a0 = (1, 11, 22)) {v1 : Int32} {v2 : Int32} {v3 : Int32} {r : Int32 × jKt} (hq : jOut F (some (.int r.1)) r.2) : ∀ (n : Nat) (κ : jKt) (v4 : Int32), P_X7_orders_43 a0 v1 v2 v3 n κ v4 = some r → jW F 5 0 0 κ 43 [(0, .ref a0), (1, .int v1), (2, .int v2), (3, .int v3), (4, .int v4)] [] := by
  intro n
  induction n with
  | zero => intro κ v4 h; cases h
  | succ n ih =>
    intro κ v4 h
    rw [P_X7_orders_43] at h
    refine r_iload C.1 4 45 rfl dX7_orders_43 rfl ?_
    refine r_bipush C.1 60 rfl 47 rfl dX7_orders_45 ?_
    refine r_icmp_ge C.1 68 50 rfl dX7_orders_47 rfl ⟨fun c111 => ?_, fun c111 => ?_⟩
    · have h := if_some_t c111 h
      refine r_aload_n C.1 0 69 rfl dX7_orders_68 rfl ?_
      refine r_getR C.1 5 fl_X7_16 rfl ha0 72 rfl dX7_orders_69 (fun (h112 : jSof F (kR κ a0 5) = (2, 0, 457)) => ?_)
      refine r_iload_n C.1 3 73 rfl dX7_orders_72 rfl ?_
      refine r_iconst C.1 0 rfl 74 rfl dX7_orders_73 ?_
      obtain ⟨y114, e113, h⟩ := bd_some h
      refine r_cSi C.1 (st := [.ref (kR κ a0 5)]) (c_X7_of e113) yv_X7_of ml_X7_75 rfl ⟨Nat.le_of_ble_eq_true rfl, Nat.le_of_ble_eq_true rfl⟩ ⟨Nat.le_of_ble_eq_true rfl, Nat.le_of_ble_eq_true rfl⟩ (Nat.le_of_ble_eq_true rfl) rfl 0 0 rfl rfl 77 rfl dX7_orders_74 ?_
      refine r_aload_n C.1 0 78 rfl dX7_orders_77 rfl ?_
      refine r_getR C.1 5 fl_X7_16 rfl ha0 81 rfl dX7_orders_78 (fun (h115 : jSof F (kR κ a0 5) = (2, 0, 457)) => ?_)
      refine r_iconst C.1 2 rfl 82 rfl dX7_orders_81 ?_
      refine r_iald C.1 h115 (by decide) 83 rfl dX7_orders_82 ?_
      obtain ⟨i116, h⟩ := ck_some h
      obtain ⟨κ117, e118, h⟩ := bnd_some h
      refine r_iast C.1 h112 i116 e118 84 rfl dX7_orders_83 ?_
      refine r_aload_n C.1 0 85 rfl dX7_orders_84 rfl ?_
      refine r_getR C.1 5 fl_X7_16 rfl ha0 88 rfl dX7_orders_85 (fun (h119 : jSof F (kR κ117 a0 5) = (2, 0, 457)) => ?_)
      refine r_iload_n C.1 3 89 rfl dX7_orders_88 rfl ?_
      refine r_iconst C.1 1 rfl 90 rfl dX7_orders_89 ?_
      obtain ⟨y121, e120, h⟩ := bd_some h
      refine r_cSi C.1 (st := [.ref (kR κ117 a0 5)]) (c_X7_of e120) yv_X7_of ml_X7_75 rfl ⟨Nat.le_of_ble_eq_true rfl, Nat.le_of_ble_eq_true rfl⟩ ⟨Nat.le_of_ble_eq_true rfl, Nat.le_of_ble_eq_true rfl⟩ (Nat.le_of_ble_eq_true rfl) rfl 0 0 rfl rfl 93 rfl dX7_orders_90 ?_
      refine r_iload_n C.1 1 94 rfl dX7_orders_93 rfl ?_
      obtain ⟨i122, h⟩ := ck_some h
      obtain ⟨κ123, e124, h⟩ := bnd_some h
      refine r_iast C.1 h119 i122 e124 95 rfl dX7_orders_94 ?_
      refine r_aload_n C.1 0 96 rfl dX7_orders_95 rfl ?_
      refine r_getR C.1 5 fl_X7_16 rfl ha0 99 rfl dX7_orders_96 (fun (h125 : jSof F (kR κ123 a0 5) = (2, 0, 457)) => ?_)
      refine r_iload_n C.1 3 100 rfl dX7_orders_99 rfl ?_
      refine r_iconst C.1 2 rfl 101 rfl dX7_orders_100 ?_
      obtain ⟨y127, e126, h⟩ := bd_some h
      refine r_cSi C.1 (st := [.ref (kR κ123 a0 5)]) (c_X7_of e126) yv_X7_of ml_X7_75 rfl ⟨Nat.le_of_ble_eq_true rfl, Nat.le_of_ble_eq_true rfl⟩ ⟨Nat.le_of_ble_eq_true rfl, Nat.le_of_ble_eq_true rfl⟩ (Nat.le_of_ble_eq_true rfl) rfl 0 0 rfl rfl 104 rfl dX7_orders_101 ?_
      refine r_iload_n C.1 2 105 rfl dX7_orders_104 rfl ?_
      obtain ⟨i128, h⟩ := ck_some h
      obtain ⟨κ129, e130, h⟩ := bnd_some h
      refine r_iast C.1 h125 i128 e130 106 rfl dX7_orders_105 ?_
      refine r_aload_n C.1 0 107 rfl dX7_orders_106 rfl ?_
      refine r_getR C.1 5 fl_X7_16 rfl ha0 110 rfl dX7_orders_107 (fun (h131 : jSof F (kR κ129 a0 5) = (2, 0, 457)) => ?_)
      refine r_iconst C.1 1 rfl 111 rfl dX7_orders_110 ?_
      refine r_dup2 C.1 rfl rfl 112 rfl dX7_orders_111 ?_
      refine r_iald C.1 h131 (by decide) 113 rfl dX7_orders_112 ?_
      refine r_iconst C.1 1 rfl 114 rfl dX7_orders_113 ?_
      refine r_iadd C.1 115 rfl dX7_orders_114 ?_
      obtain ⟨κ132, e133, h⟩ := bnd_some h
      refine r_iast C.1 h131 (by decide) e133 116 rfl dX7_orders_115 ?_
      refine r_aload_n C.1 0 117 rfl dX7_orders_116 rfl ?_
      refine r_getR C.1 5 fl_X7_16 rfl ha0 120 rfl dX7_orders_117 (fun (h134 : jSof F (kR κ132 a0 5) = (2, 0, 457)) => ?_)
      refine r_iconst C.1 2 rfl 121 rfl dX7_orders_120 ?_
      refine r_dup2 C.1 rfl rfl 122 rfl dX7_orders_121 ?_
      refine r_iald C.1 h134 (by decide) 123 rfl dX7_orders_122 ?_
      refine r_iconst C.1 1 rfl 124 rfl dX7_orders_123 ?_
      refine r_iadd C.1 125 rfl dX7_orders_124 ?_
      obtain ⟨κ135, e136, h⟩ := bnd_some h
      refine r_iast C.1 h134 (by decide) e136 126 rfl dX7_orders_125 ?_
      refine r_aload_n C.1 0 127 rfl dX7_orders_126 rfl ?_
      refine r_getR C.1 5 fl_X7_16 rfl ha0 130 rfl dX7_orders_127 (fun (h137 : jSof F (kR κ135 a0 5) = (2, 0, 457)) => ?_)
      refine r_iload_n C.1 3 131 rfl dX7_orders_130 rfl ?_
      refine r_iconst C.1 0 rfl 132 rfl dX7_orders_131 ?_
      obtain ⟨y139, e138, h⟩ := bd_some h
      refine r_cSi C.1 (st := [.ref (kR κ135 a0 5)]) (c_X7_of e138) yv_X7_of ml_X7_75 rfl ⟨Nat.le_of_ble_eq_true rfl, Nat.le_of_ble_eq_true rfl⟩ ⟨Nat.le_of_ble_eq_true rfl, Nat.le_of_ble_eq_true rfl⟩ (Nat.le_of_ble_eq_true rfl) rfl 0 0 rfl rfl 135 rfl dX7_orders_132 ?_
      obtain ⟨i140, h⟩ := ck_some h
      refine r_iald C.1 h137 i140 136 rfl dX7_orders_135 ?_
      cases h
      exact r_zret C rfl rfl (Nat.le_of_ble_eq_true rfl) (Nat.le_of_ble_eq_true rfl) dX7_orders_136 hq
    · have h := if_some_f c111 h
      refine r_aload_n C.1 0 51 rfl dX7_orders_50 rfl ?_
      refine r_getR C.1 5 fl_X7_16 rfl ha0 54 rfl dX7_orders_51 (fun (h141 : jSof F (kR κ a0 5) = (2, 0, 457)) => ?_)
      refine r_iload_n C.1 3 55 rfl dX7_orders_54 rfl ?_
      refine r_iload C.1 4 57 rfl dX7_orders_55 rfl ?_
      obtain ⟨y143, e142, h⟩ := bd_some h
      refine r_cSi C.1 (st := [.ref (kR κ a0 5)]) (c_X7_of e142) yv_X7_of ml_X7_75 rfl ⟨Nat.le_of_ble_eq_true rfl, Nat.le_of_ble_eq_true rfl⟩ ⟨Nat.le_of_ble_eq_true rfl, Nat.le_of_ble_eq_true rfl⟩ (Nat.le_of_ble_eq_true rfl) rfl 0 0 rfl rfl 60 rfl dX7_orders_57 ?_
      refine r_iconst C.1 0 rfl 61 rfl dX7_orders_60 ?_
      obtain ⟨i144, h⟩ := ck_some h
      obtain ⟨κ145, e146, h⟩ := bnd_some h
      refine r_iast C.1 h141 i144 e146 62 rfl dX7_orders_61 ?_
      refine r_iinc C.1 (lv' := [(0, .ref a0), (1, .int v1), (2, .int v2), (3, .int v3), (4, .int (v4 + 1))]) 4 [1, 2, 3, 4, 0] 65 rfl dX7_orders_62 rfl (Nat.le_of_ble_eq_true rfl) rfl rfl ?_
      refine r_goto C.1 43 dX7_orders_65 rfl ?_
      exact ih κ145 (v4 + 1) h
set_option maxRecDepth 20000 in
theorem w_X7_orders_0 {F : jFm} (C : jB F RX7 cX7_orders 5 (some .int) 2 0 0 43) {κ : jKt} {a0 : Nat} (ha0 : jSof F a0 = (1, 11, 22)) {x1 : Int32} {x2 : Int32} {r : Int32 × jKt} (hq : jOut F (some (.int r.1)) r.2) (h : P_X7_orders κ a0 x1 x2 = some r) : jW F 5 0 0 κ 0 [(0, .ref a0), (1, .int x1), (2, .int x2)] [] := by
  unfold P_X7_orders at h
  refine r_aload_n C.1 0 1 rfl dX7_orders_0 rfl ?_
  refine r_iload_n C.1 1 2 rfl dX7_orders_1 rfl ?_
  obtain ⟨y148, e147, h⟩ := bd_some h
  refine r_cVi C.1 (st := []) (c_X7_isCustomer ha0 e147) yv_X7_isCustomer ml_X7_68 rfl ha0 rfl ⟨Nat.le_of_ble_eq_true rfl, Nat.le_of_ble_eq_true rfl⟩ ⟨Nat.le_of_ble_eq_true rfl, Nat.le_of_ble_eq_true rfl⟩ (Nat.le_of_ble_eq_true rfl) rfl 0 0 rfl rfl 5 rfl dX7_orders_2 ?_
  refine r_if_eq C.1 15 8 rfl dX7_orders_5 rfl ⟨fun c149 => ?_, fun c149 => ?_⟩
  · have h := if_some_t c149 h
    refine r_aload_n C.1 0 16 rfl dX7_orders_15 rfl ?_
    refine r_iconst C.1 1 rfl 17 rfl dX7_orders_16 ?_
    obtain ⟨y151, κ152, e150, h⟩ := bd2_some h
    refine r_cVi C.1 (st := []) (c_X7_fail ha0 e150) yv_X7_fail ml_X7_91 rfl ha0 rfl ⟨Nat.le_of_ble_eq_true rfl, Nat.le_of_ble_eq_true rfl⟩ ⟨Nat.le_of_ble_eq_true rfl, Nat.le_of_ble_eq_true rfl⟩ (Nat.le_of_ble_eq_true rfl) rfl 0 0 rfl rfl 20 rfl dX7_orders_17 ?_
    cases h
    exact r_zret C rfl rfl (Nat.le_of_ble_eq_true rfl) (Nat.le_of_ble_eq_true rfl) dX7_orders_20 hq
  · have h := if_some_f c149 h
    refine r_iload_n C.1 2 9 rfl dX7_orders_8 rfl ?_
    obtain ⟨y154, e153, h⟩ := bd_some h
    refine r_cSi C.1 (st := []) (c_X7_isCloth e153) yv_X7_isCloth ml_X7_88 rfl ⟨Nat.le_of_ble_eq_true rfl, Nat.le_of_ble_eq_true rfl⟩ ⟨Nat.le_of_ble_eq_true rfl, Nat.le_of_ble_eq_true rfl⟩ (Nat.le_of_ble_eq_true rfl) rfl 0 0 rfl rfl 12 rfl dX7_orders_9 ?_
    refine r_if_ne C.1 21 15 rfl dX7_orders_12 rfl ⟨fun c155 => ?_, fun c155 => ?_⟩
    · have h := if_some_f c155 h
      refine r_aload_n C.1 0 22 rfl dX7_orders_21 rfl ?_
      refine r_getR C.1 5 fl_X7_16 rfl ha0 25 rfl dX7_orders_22 (fun (h156 : jSof F (kR κ a0 5) = (2, 0, 457)) => ?_)
      refine r_iconst C.1 1 rfl 26 rfl dX7_orders_25 ?_
      refine r_iald C.1 h156 (by decide) 27 rfl dX7_orders_26 ?_
      obtain ⟨y157, e158, h⟩ := bnd_some h
      refine r_top e158 ?_
      refine r_istore_n C.1 (lv' := [(0, .ref a0), (1, .int x1), (2, .int x2), (3, .int y157)]) [1, 2, 3, 0] 28 rfl dX7_orders_27 (Nat.le_of_ble_eq_true rfl) rfl ?_
      refine r_iload_n C.1 3 29 rfl dX7_orders_28 rfl ?_
      refine r_bipush C.1 6 rfl 31 rfl dX7_orders_29 ?_
      refine r_icmp_ne C.1 40 34 rfl dX7_orders_31 rfl ⟨fun c159 => ?_, fun c159 => ?_⟩
      · have h := if_some_f c159 h
        refine r_iconst C.1 0 rfl 41 rfl dX7_orders_40 ?_
        refine r_istore C.1 (lv' := [(0, .ref a0), (1, .int x1), (2, .int x2), (3, .int y157), (4, .int 0)]) [1, 2, 3, 4, 0] 43 rfl dX7_orders_41 (Nat.le_of_ble_eq_true rfl) rfl ?_
        exact w_X7_orders_43 C ha0 hq 4000 κ 0 h
      · have h := if_some_t c159 h
        refine r_aload_n C.1 0 35 rfl dX7_orders_34 rfl ?_
        refine r_iconst C.1 2 rfl 36 rfl dX7_orders_35 ?_
        obtain ⟨y161, κ162, e160, h⟩ := bd2_some h
        refine r_cVi C.1 (st := []) (c_X7_fail ha0 e160) yv_X7_fail ml_X7_91 rfl ha0 rfl ⟨Nat.le_of_ble_eq_true rfl, Nat.le_of_ble_eq_true rfl⟩ ⟨Nat.le_of_ble_eq_true rfl, Nat.le_of_ble_eq_true rfl⟩ (Nat.le_of_ble_eq_true rfl) rfl 0 0 rfl rfl 39 rfl dX7_orders_36 ?_
        cases h
        exact r_zret C rfl rfl (Nat.le_of_ble_eq_true rfl) (Nat.le_of_ble_eq_true rfl) dX7_orders_39 hq
    · have h := if_some_t c155 h
      refine r_aload_n C.1 0 16 rfl dX7_orders_15 rfl ?_
      refine r_iconst C.1 1 rfl 17 rfl dX7_orders_16 ?_
      obtain ⟨y164, κ165, e163, h⟩ := bd2_some h
      refine r_cVi C.1 (st := []) (c_X7_fail ha0 e163) yv_X7_fail ml_X7_91 rfl ha0 rfl ⟨Nat.le_of_ble_eq_true rfl, Nat.le_of_ble_eq_true rfl⟩ ⟨Nat.le_of_ble_eq_true rfl, Nat.le_of_ble_eq_true rfl⟩ (Nat.le_of_ble_eq_true rfl) rfl 0 0 rfl rfl 20 rfl dX7_orders_17 ?_
      cases h
      exact r_zret C rfl rfl (Nat.le_of_ble_eq_true rfl) (Nat.le_of_ble_eq_true rfl) dX7_orders_20 hq
theorem c_X7_orders {l : Launch} {G : jG} {sh : jSh} {κ : jKt} {a0 : Nat} (ha0 : sh a0 = (1, 11, 22)) {x1 : Int32} {x2 : Int32} {r : Int32} {κr : jKt} (h : P_X7_orders κ a0 x1 x2 = some (r, κr)) : jM l G yX7_orders cX7_orders 5 (some .int) 2 0 0 43 [.ref a0, .int x1, .int x2] (sh, κ) (jIs (some (.int r)) (sh, κr)) jNo :=
  r_body (by decide) (Nat.le_of_ble_eq_true rfl) fun F C hl hG hs ho hx => by
    subst hs
    exact w_X7_orders_0 C ha0 (by rw [ho]; exact ⟨rfl, rfl⟩) h
set_option maxRecDepth 20000 in
theorem w_X7_orderSuit_0 {F : jFm} (C : jB F RX7 cX7_orderSuit 3 (some .int) 3 0 0 67) {κ : jKt} {a0 : Nat} (ha0 : jSof F a0 = (1, 11, 22)) {x1 : Int32} {x2 : Int32} {r : Int32 × jKt} (hq : jOut F (some (.int r.1)) r.2) (h : P_X7_orderSuit κ a0 x1 x2 = some r) : jW F 3 0 0 κ 0 [(0, .ref a0), (1, .int x1), (2, .int x2)] [] := by
  unfold P_X7_orderSuit at h
  refine r_aload_n C.1 0 1 rfl dX7_orderSuit_0 rfl ?_
  obtain ⟨κ18, e17, h⟩ := bd_some h
  refine r_cVv C.1 (st := []) (c_X7_begins ha0 e17) yv_X7_begins ml_X7_94 rfl ha0 rfl ⟨Nat.le_of_ble_eq_true rfl, Nat.le_of_ble_eq_true rfl⟩ ⟨Nat.le_of_ble_eq_true rfl, Nat.le_of_ble_eq_true rfl⟩ (Nat.le_of_ble_eq_true rfl) rfl 0 0 rfl rfl 4 rfl dX7_orderSuit_1 ?_
  refine r_aload_n C.1 0 5 rfl dX7_orderSuit_4 rfl ?_
  refine r_aload_n C.1 0 6 rfl dX7_orderSuit_5 rfl ?_
  refine r_iload_n C.1 1 7 rfl dX7_orderSuit_6 rfl ?_
  refine r_iload_n C.1 2 8 rfl dX7_orderSuit_7 rfl ?_
  obtain ⟨y20, κ21, e19, h⟩ := bd2_some h
  refine r_cVi C.1 (st := [.ref a0]) (c_X7_orders ha0 e19) yv_X7_orders ml_X7_114 rfl ha0 rfl ⟨Nat.le_of_ble_eq_true rfl, Nat.le_of_ble_eq_true rfl⟩ ⟨Nat.le_of_ble_eq_true rfl, Nat.le_of_ble_eq_true rfl⟩ (Nat.le_of_ble_eq_true rfl) rfl 0 0 rfl rfl 11 rfl dX7_orderSuit_8 ?_
  obtain ⟨y23, κ24, e22, h⟩ := bd2_some h
  refine r_cVi C.1 (st := []) (c_X7_ends ha0 e22) yv_X7_ends ml_X7_100 rfl ha0 rfl ⟨Nat.le_of_ble_eq_true rfl, Nat.le_of_ble_eq_true rfl⟩ ⟨Nat.le_of_ble_eq_true rfl, Nat.le_of_ble_eq_true rfl⟩ (Nat.le_of_ble_eq_true rfl) rfl 0 0 rfl rfl 14 rfl dX7_orderSuit_11 ?_
  cases h
  exact r_zret C rfl rfl (Nat.le_of_ble_eq_true rfl) (Nat.le_of_ble_eq_true rfl) dX7_orderSuit_14 hq
theorem c_X7_orderSuit {l : Launch} {G : jG} {sh : jSh} {κ : jKt} {a0 : Nat} (ha0 : sh a0 = (1, 11, 22)) {x1 : Int32} {x2 : Int32} {r : Int32} {κr : jKt} (h : P_X7_orderSuit κ a0 x1 x2 = some (r, κr)) : jM l G yX7_orderSuit cX7_orderSuit 3 (some .int) 3 0 0 67 [.ref a0, .int x1, .int x2] (sh, κ) (jIs (some (.int r)) (sh, κr)) jNo :=
  r_body (by decide) (Nat.le_of_ble_eq_true rfl) fun F C hl hG hs ho hx => by
    subst hs
    exact w_X7_orderSuit_0 C ha0 (by rw [ho]; exact ⟨rfl, rfl⟩) h
set_option maxRecDepth 20000 in
theorem w_X7_cuts_0 {F : jFm} (C : jB F RX7 cX7_cuts 5 (some .int) 4 0 0 84) {κ : jKt} {a0 : Nat} (ha0 : jSof F a0 = (1, 11, 22)) {x1 : Int32} {x2 : Int32} {r : Int32 × jKt} (hq : jOut F (some (.int r.1)) r.2) (h : P_X7_cuts κ a0 x1 x2 = some r) : jW F 5 0 0 κ 0 [(0, .ref a0), (1, .int x1), (2, .int x2)] [] := by
  unfold P_X7_cuts at h
  refine r_iload_n C.1 1 1 rfl dX7_cuts_0 rfl ?_
  refine r_if_ge C.1 10 4 rfl dX7_cuts_1 rfl ⟨fun c99 => ?_, fun c99 => ?_⟩
  · have h := if_some_t c99 h
    refine r_aload_n C.1 0 11 rfl dX7_cuts_10 rfl ?_
    refine r_iload_n C.1 1 12 rfl dX7_cuts_11 rfl ?_
    refine r_iload_n C.1 2 13 rfl dX7_cuts_12 rfl ?_
    obtain ⟨y101, e100, h⟩ := bd_some h
    refine r_cVi C.1 (st := []) (c_X7_isSleeve ha0 e100) yv_X7_isSleeve ml_X7_117 rfl ha0 rfl ⟨Nat.le_of_ble_eq_true rfl, Nat.le_of_ble_eq_true rfl⟩ ⟨Nat.le_of_ble_eq_true rfl, Nat.le_of_ble_eq_true rfl⟩ (Nat.le_of_ble_eq_true rfl) rfl 0 0 rfl rfl 16 rfl dX7_cuts_13 ?_
    refine r_if_ne C.1 25 19 rfl dX7_cuts_16 rfl ⟨fun c102 => ?_, fun c102 => ?_⟩
    · have h := if_some_f c102 h
      refine r_aload_n C.1 0 26 rfl dX7_cuts_25 rfl ?_
      refine r_iload_n C.1 1 27 rfl dX7_cuts_26 rfl ?_
      refine r_iload_n C.1 2 28 rfl dX7_cuts_27 rfl ?_
      obtain ⟨y104, e103, h⟩ := bd_some h
      refine r_cVi C.1 (st := []) (c_X7_state ha0 e103) yv_X7_state ml_X7_85 rfl ha0 rfl ⟨Nat.le_of_ble_eq_true rfl, Nat.le_of_ble_eq_true rfl⟩ ⟨Nat.le_of_ble_eq_true rfl, Nat.le_of_ble_eq_true rfl⟩ (Nat.le_of_ble_eq_true rfl) rfl 0 0 rfl rfl 31 rfl dX7_cuts_28 ?_
      refine r_if_eq C.1 40 34 rfl dX7_cuts_31 rfl ⟨fun c105 => ?_, fun c105 => ?_⟩
      · have h := if_some_t c105 h
        refine r_aload_n C.1 0 41 rfl dX7_cuts_40 rfl ?_
        refine r_iload_n C.1 1 42 rfl dX7_cuts_41 rfl ?_
        refine r_iload_n C.1 2 43 rfl dX7_cuts_42 rfl ?_
        obtain ⟨y107, e106, h⟩ := bd_some h
        refine r_cVi C.1 (st := []) (c_X7_wanted ha0 e106) yv_X7_wanted ml_X7_120 rfl ha0 rfl ⟨Nat.le_of_ble_eq_true rfl, Nat.le_of_ble_eq_true rfl⟩ ⟨Nat.le_of_ble_eq_true rfl, Nat.le_of_ble_eq_true rfl⟩ (Nat.le_of_ble_eq_true rfl) rfl 0 0 rfl rfl 46 rfl dX7_cuts_43 ?_
        refine r_iconst C.1 2 rfl 47 rfl dX7_cuts_46 ?_
        refine r_iadd C.1 48 rfl dX7_cuts_47 ?_
        refine r_istore_n C.1 (lv' := [(0, .ref a0), (1, .int x1), (2, .int x2), (3, .int (y107 + 2))]) [1, 2, 3, 0] 49 rfl dX7_cuts_48 (Nat.le_of_ble_eq_true rfl) rfl ?_
        refine r_aload_n C.1 0 50 rfl dX7_cuts_49 rfl ?_
        refine r_getR C.1 5 fl_X7_16 rfl ha0 53 rfl dX7_cuts_50 (fun (h108 : jSof F (kR κ a0 5) = (2, 0, 457)) => ?_)
        refine r_iload_n C.1 1 54 rfl dX7_cuts_53 rfl ?_
        refine r_iconst C.1 2 rfl 55 rfl dX7_cuts_54 ?_
        obtain ⟨y110, e109, h⟩ := bd_some h
        refine r_cSi C.1 (st := [.ref (kR κ a0 5)]) (c_X7_of e109) yv_X7_of ml_X7_75 rfl ⟨Nat.le_of_ble_eq_true rfl, Nat.le_of_ble_eq_true rfl⟩ ⟨Nat.le_of_ble_eq_true rfl, Nat.le_of_ble_eq_true rfl⟩ (Nat.le_of_ble_eq_true rfl) rfl 0 0 rfl rfl 58 rfl dX7_cuts_55 ?_
        obtain ⟨i111, h⟩ := ck_some h
        refine r_iald C.1 h108 i111 59 rfl dX7_cuts_58 ?_
        obtain ⟨y112, e113, h⟩ := bnd_some h
        refine r_top e113 ?_
        refine r_istore C.1 (lv' := [(0, .ref a0), (1, .int x1), (2, .int x2), (3, .int (y107 + 2)), (4, .int y112)]) [1, 2, 3, 4, 0] 61 rfl dX7_cuts_59 (Nat.le_of_ble_eq_true rfl) rfl ?_
        refine r_aload_n C.1 0 62 rfl dX7_cuts_61 rfl ?_
        refine r_getR C.1 5 fl_X7_16 rfl ha0 65 rfl dX7_cuts_62 (fun (h114 : jSof F (kR κ a0 5) = (2, 0, 457)) => ?_)
        refine r_bipush C.1 8 rfl 67 rfl dX7_cuts_65 ?_
        refine r_iload C.1 4 69 rfl dX7_cuts_67 rfl ?_
        refine r_iadd C.1 70 rfl dX7_cuts_69 ?_
        obtain ⟨i115, h⟩ := ck_some h
        refine r_iald C.1 h114 i115 71 rfl dX7_cuts_70 ?_
        refine r_iload_n C.1 3 72 rfl dX7_cuts_71 rfl ?_
        refine r_icmp_ge C.1 81 75 rfl dX7_cuts_72 rfl ⟨fun c116 => ?_, fun c116 => ?_⟩
        · have h := if_some_t c116 h
          refine r_aload_n C.1 0 82 rfl dX7_cuts_81 rfl ?_
          refine r_getR C.1 5 fl_X7_16 rfl ha0 85 rfl dX7_cuts_82 (fun (h117 : jSof F (kR κ a0 5) = (2, 0, 457)) => ?_)
          refine r_bipush C.1 8 rfl 87 rfl dX7_cuts_85 ?_
          refine r_iload C.1 4 89 rfl dX7_cuts_87 rfl ?_
          refine r_iadd C.1 90 rfl dX7_cuts_89 ?_
          refine r_dup2 C.1 rfl rfl 91 rfl dX7_cuts_90 ?_
          obtain ⟨i118, h⟩ := ck_some h
          refine r_iald C.1 h117 i118 92 rfl dX7_cuts_91 ?_
          refine r_iload_n C.1 3 93 rfl dX7_cuts_92 rfl ?_
          refine r_isub C.1 94 rfl dX7_cuts_93 ?_
          obtain ⟨i119, h⟩ := ck_some h
          obtain ⟨κ120, e121, h⟩ := bnd_some h
          refine r_iast C.1 h117 i119 e121 95 rfl dX7_cuts_94 ?_
          refine r_aload_n C.1 0 96 rfl dX7_cuts_95 rfl ?_
          refine r_getR C.1 5 fl_X7_16 rfl ha0 99 rfl dX7_cuts_96 (fun (h122 : jSof F (kR κ120 a0 5) = (2, 0, 457)) => ?_)
          refine r_iload_n C.1 1 100 rfl dX7_cuts_99 rfl ?_
          refine r_iconst C.1 4 rfl 101 rfl dX7_cuts_100 ?_
          refine r_iload_n C.1 2 102 rfl dX7_cuts_101 rfl ?_
          refine r_iadd C.1 103 rfl dX7_cuts_102 ?_
          obtain ⟨y124, e123, h⟩ := bd_some h
          refine r_cSi C.1 (st := [.ref (kR κ120 a0 5)]) (c_X7_of e123) yv_X7_of ml_X7_75 rfl ⟨Nat.le_of_ble_eq_true rfl, Nat.le_of_ble_eq_true rfl⟩ ⟨Nat.le_of_ble_eq_true rfl, Nat.le_of_ble_eq_true rfl⟩ (Nat.le_of_ble_eq_true rfl) rfl 0 0 rfl rfl 106 rfl dX7_cuts_103 ?_
          refine r_iconst C.1 1 rfl 107 rfl dX7_cuts_106 ?_
          obtain ⟨i125, h⟩ := ck_some h
          obtain ⟨κ126, e127, h⟩ := bnd_some h
          refine r_iast C.1 h122 i125 e127 108 rfl dX7_cuts_107 ?_
          refine r_aload_n C.1 0 109 rfl dX7_cuts_108 rfl ?_
          refine r_getR C.1 5 fl_X7_16 rfl ha0 112 rfl dX7_cuts_109 (fun (h128 : jSof F (kR κ126 a0 5) = (2, 0, 457)) => ?_)
          refine r_iload_n C.1 1 113 rfl dX7_cuts_112 rfl ?_
          refine r_bipush C.1 20 rfl 115 rfl dX7_cuts_113 ?_
          refine r_iload_n C.1 2 116 rfl dX7_cuts_115 rfl ?_
          refine r_iadd C.1 117 rfl dX7_cuts_116 ?_
          obtain ⟨y130, e129, h⟩ := bd_some h
          refine r_cSi C.1 (st := [.ref (kR κ126 a0 5)]) (c_X7_of e129) yv_X7_of ml_X7_75 rfl ⟨Nat.le_of_ble_eq_true rfl, Nat.le_of_ble_eq_true rfl⟩ ⟨Nat.le_of_ble_eq_true rfl, Nat.le_of_ble_eq_true rfl⟩ (Nat.le_of_ble_eq_true rfl) rfl 0 0 rfl rfl 120 rfl dX7_cuts_117 ?_
          refine r_iload_n C.1 3 121 rfl dX7_cuts_120 rfl ?_
          refine r_iconst C.1 2 rfl 122 rfl dX7_cuts_121 ?_
          refine r_isub C.1 123 rfl dX7_cuts_122 ?_
          obtain ⟨i131, h⟩ := ck_some h
          obtain ⟨κ132, e133, h⟩ := bnd_some h
          refine r_iast C.1 h128 i131 e133 124 rfl dX7_cuts_123 ?_
          refine r_aload_n C.1 0 125 rfl dX7_cuts_124 rfl ?_
          refine r_getR C.1 5 fl_X7_16 rfl ha0 128 rfl dX7_cuts_125 (fun (h134 : jSof F (kR κ132 a0 5) = (2, 0, 457)) => ?_)
          refine r_bipush C.1 8 rfl 130 rfl dX7_cuts_128 ?_
          refine r_iload C.1 4 132 rfl dX7_cuts_130 rfl ?_
          refine r_iadd C.1 133 rfl dX7_cuts_132 ?_
          obtain ⟨i135, h⟩ := ck_some h
          refine r_iald C.1 h134 i135 134 rfl dX7_cuts_133 ?_
          cases h
          exact r_zret C rfl rfl (Nat.le_of_ble_eq_true rfl) (Nat.le_of_ble_eq_true rfl) dX7_cuts_134 hq
        · have h := if_some_f c116 h
          refine r_aload_n C.1 0 76 rfl dX7_cuts_75 rfl ?_
          refine r_iconst C.1 4 rfl 77 rfl dX7_cuts_76 ?_
          obtain ⟨y137, κ138, e136, h⟩ := bd2_some h
          refine r_cVi C.1 (st := []) (c_X7_fail ha0 e136) yv_X7_fail ml_X7_91 rfl ha0 rfl ⟨Nat.le_of_ble_eq_true rfl, Nat.le_of_ble_eq_true rfl⟩ ⟨Nat.le_of_ble_eq_true rfl, Nat.le_of_ble_eq_true rfl⟩ (Nat.le_of_ble_eq_true rfl) rfl 0 0 rfl rfl 80 rfl dX7_cuts_77 ?_
          cases h
          exact r_zret C rfl rfl (Nat.le_of_ble_eq_true rfl) (Nat.le_of_ble_eq_true rfl) dX7_cuts_80 hq
      · have h := if_some_f c105 h
        refine r_aload_n C.1 0 35 rfl dX7_cuts_34 rfl ?_
        refine r_iconst C.1 3 rfl 36 rfl dX7_cuts_35 ?_
        obtain ⟨y140, κ141, e139, h⟩ := bd2_some h
        refine r_cVi C.1 (st := []) (c_X7_fail ha0 e139) yv_X7_fail ml_X7_91 rfl ha0 rfl ⟨Nat.le_of_ble_eq_true rfl, Nat.le_of_ble_eq_true rfl⟩ ⟨Nat.le_of_ble_eq_true rfl, Nat.le_of_ble_eq_true rfl⟩ (Nat.le_of_ble_eq_true rfl) rfl 0 0 rfl rfl 39 rfl dX7_cuts_36 ?_
        cases h
        exact r_zret C rfl rfl (Nat.le_of_ble_eq_true rfl) (Nat.le_of_ble_eq_true rfl) dX7_cuts_39 hq
    · have h := if_some_t c102 h
      refine r_aload_n C.1 0 20 rfl dX7_cuts_19 rfl ?_
      refine r_iconst C.1 2 rfl 21 rfl dX7_cuts_20 ?_
      obtain ⟨y143, κ144, e142, h⟩ := bd2_some h
      refine r_cVi C.1 (st := []) (c_X7_fail ha0 e142) yv_X7_fail ml_X7_91 rfl ha0 rfl ⟨Nat.le_of_ble_eq_true rfl, Nat.le_of_ble_eq_true rfl⟩ ⟨Nat.le_of_ble_eq_true rfl, Nat.le_of_ble_eq_true rfl⟩ (Nat.le_of_ble_eq_true rfl) rfl 0 0 rfl rfl 24 rfl dX7_cuts_21 ?_
      cases h
      exact r_zret C rfl rfl (Nat.le_of_ble_eq_true rfl) (Nat.le_of_ble_eq_true rfl) dX7_cuts_24 hq
  · have h := if_some_f c99 h
    refine r_aload_n C.1 0 5 rfl dX7_cuts_4 rfl ?_
    refine r_iconst C.1 1 rfl 6 rfl dX7_cuts_5 ?_
    obtain ⟨y146, κ147, e145, h⟩ := bd2_some h
    refine r_cVi C.1 (st := []) (c_X7_fail ha0 e145) yv_X7_fail ml_X7_91 rfl ha0 rfl ⟨Nat.le_of_ble_eq_true rfl, Nat.le_of_ble_eq_true rfl⟩ ⟨Nat.le_of_ble_eq_true rfl, Nat.le_of_ble_eq_true rfl⟩ (Nat.le_of_ble_eq_true rfl) rfl 0 0 rfl rfl 9 rfl dX7_cuts_6 ?_
    cases h
    exact r_zret C rfl rfl (Nat.le_of_ble_eq_true rfl) (Nat.le_of_ble_eq_true rfl) dX7_cuts_9 hq
theorem c_X7_cuts {l : Launch} {G : jG} {sh : jSh} {κ : jKt} {a0 : Nat} (ha0 : sh a0 = (1, 11, 22)) {x1 : Int32} {x2 : Int32} {r : Int32} {κr : jKt} (h : P_X7_cuts κ a0 x1 x2 = some (r, κr)) : jM l G yX7_cuts cX7_cuts 5 (some .int) 4 0 0 84 [.ref a0, .int x1, .int x2] (sh, κ) (jIs (some (.int r)) (sh, κr)) jNo :=
  r_body (by decide) (Nat.le_of_ble_eq_true rfl) fun F C hl hG hs ho hx => by
    subst hs
    exact w_X7_cuts_0 C ha0 (by rw [ho]; exact ⟨rfl, rfl⟩) h
set_option maxRecDepth 20000 in
theorem w_X7_sews_43 {F : jFm} (C : jB F RX7 cX7_sews 4 (some .int) 4 0 0 86) {a0 : Nat} (ha0 : jSof F a0 = (1, 11, 22)) {v1 : Int32} {v2 : Int32} {r : Int32 × jKt} (hq : jOut F (some (.int r.1)) r.2) : ∀ (n : Nat) (κ : jKt) (v3 : Int32), P_X7_sews_43 a0 v1 v2 n κ v3 = some r → jW F 4 0 0 κ 43 [(0, .ref a0), (1, .int v1), (2, .int v2), (3, .int v3)] [] := by
  intro n
  induction n with
  | zero => intro κ v3 h; cases h
  | succ n ih =>
    intro κ v3 h
    rw [P_X7_sews_43] at h
    refine r_iload_n C.1 3 44 rfl dX7_sews_43 rfl ?_
    refine r_aload_n C.1 0 45 rfl dX7_sews_44 rfl ?_
    refine r_getR C.1 5 fl_X7_16 rfl ha0 48 rfl dX7_sews_45 (fun (h81 : jSof F (kR κ a0 5) = (2, 0, 457)) => ?_)
    refine r_iload_n C.1 1 49 rfl dX7_sews_48 rfl ?_
    refine r_iconst C.1 3 rfl 50 rfl dX7_sews_49 ?_
    obtain ⟨y83, e82, h⟩ := bd_some h
    refine r_cSi C.1 (st := [.ref (kR κ a0 5), .int v3]) (c_X7_of e82) yv_X7_of ml_X7_75 rfl ⟨Nat.le_of_ble_eq_true rfl, Nat.le_of_ble_eq_true rfl⟩ ⟨Nat.le_of_ble_eq_true rfl, Nat.le_of_ble_eq_true rfl⟩ (Nat.le_of_ble_eq_true rfl) rfl 0 0 rfl rfl 53 rfl dX7_sews_50 ?_
    obtain ⟨i84, h⟩ := ck_some h
    refine r_iald C.1 h81 i84 54 rfl dX7_sews_53 ?_
    refine r_icmp_ge C.1 94 57 rfl dX7_sews_54 rfl ⟨fun c85 => ?_, fun c85 => ?_⟩
    · have h := if_some_t c85 h
      refine r_aload_n C.1 0 95 rfl dX7_sews_94 rfl ?_
      refine r_getR C.1 5 fl_X7_16 rfl ha0 98 rfl dX7_sews_95 (fun (h86 : jSof F (kR κ a0 5) = (2, 0, 457)) => ?_)
      refine r_iload_n C.1 1 99 rfl dX7_sews_98 rfl ?_
      refine r_iconst C.1 4 rfl 100 rfl dX7_sews_99 ?_
      refine r_iload_n C.1 2 101 rfl dX7_sews_100 rfl ?_
      refine r_iadd C.1 102 rfl dX7_sews_101 ?_
      obtain ⟨y88, e87, h⟩ := bd_some h
      refine r_cSi C.1 (st := [.ref (kR κ a0 5)]) (c_X7_of e87) yv_X7_of ml_X7_75 rfl ⟨Nat.le_of_ble_eq_true rfl, Nat.le_of_ble_eq_true rfl⟩ ⟨Nat.le_of_ble_eq_true rfl, Nat.le_of_ble_eq_true rfl⟩ (Nat.le_of_ble_eq_true rfl) rfl 0 0 rfl rfl 105 rfl dX7_sews_102 ?_
      refine r_iconst C.1 2 rfl 106 rfl dX7_sews_105 ?_
      obtain ⟨i89, h⟩ := ck_some h
      obtain ⟨κ90, e91, h⟩ := bnd_some h
      refine r_iast C.1 h86 i89 e91 107 rfl dX7_sews_106 ?_
      refine r_aload_n C.1 0 108 rfl dX7_sews_107 rfl ?_
      refine r_iload_n C.1 1 109 rfl dX7_sews_108 rfl ?_
      refine r_iconst C.1 2 rfl 110 rfl dX7_sews_109 ?_
      obtain ⟨y93, e92, h⟩ := bd_some h
      refine r_cVi C.1 (st := []) (c_X7_count ha0 e92) yv_X7_count ml_X7_135 rfl ha0 rfl ⟨Nat.le_of_ble_eq_true rfl, Nat.le_of_ble_eq_true rfl⟩ ⟨Nat.le_of_ble_eq_true rfl, Nat.le_of_ble_eq_true rfl⟩ (Nat.le_of_ble_eq_true rfl) rfl 0 0 rfl rfl 113 rfl dX7_sews_110 ?_
      cases h
      exact r_zret C rfl rfl (Nat.le_of_ble_eq_true rfl) (Nat.le_of_ble_eq_true rfl) dX7_sews_113 hq
    · have h := if_some_f c85 h
      refine r_aload_n C.1 0 58 rfl dX7_sews_57 rfl ?_
      refine r_iload_n C.1 1 59 rfl dX7_sews_58 rfl ?_
      refine r_iload_n C.1 3 60 rfl dX7_sews_59 rfl ?_
      obtain ⟨y95, e94, h⟩ := bd_some h
      refine r_cVi C.1 (st := []) (c_X7_second ha0 e94) yv_X7_second ml_X7_129 rfl ha0 rfl ⟨Nat.le_of_ble_eq_true rfl, Nat.le_of_ble_eq_true rfl⟩ ⟨Nat.le_of_ble_eq_true rfl, Nat.le_of_ble_eq_true rfl⟩ (Nat.le_of_ble_eq_true rfl) rfl 0 0 rfl rfl 63 rfl dX7_sews_60 ?_
      refine r_iload_n C.1 2 64 rfl dX7_sews_63 rfl ?_
      refine r_icmp_ne C.1 88 67 rfl dX7_sews_64 rfl ⟨fun c96 => ?_, fun c96 => ?_⟩
      · have h := if_some_f c96 h
        refine r_iinc C.1 (lv' := [(0, .ref a0), (1, .int v1), (2, .int v2), (3, .int (v3 + 1))]) 3 [1, 2, 3, 0] 91 rfl dX7_sews_88 rfl (Nat.le_of_ble_eq_true rfl) rfl rfl ?_
        refine r_goto C.1 43 dX7_sews_91 rfl ?_
        exact ih κ (v3 + 1) h
      · have h := if_some_t c96 h
        refine r_aload_n C.1 0 68 rfl dX7_sews_67 rfl ?_
        refine r_iload_n C.1 1 69 rfl dX7_sews_68 rfl ?_
        refine r_aload_n C.1 0 70 rfl dX7_sews_69 rfl ?_
        refine r_iload_n C.1 1 71 rfl dX7_sews_70 rfl ?_
        refine r_iload_n C.1 3 72 rfl dX7_sews_71 rfl ?_
        obtain ⟨y98, e97, h⟩ := bd_some h
        refine r_cVi C.1 (st := [.int v1, .ref a0]) (c_X7_first ha0 e97) yv_X7_first ml_X7_132 rfl ha0 rfl ⟨Nat.le_of_ble_eq_true rfl, Nat.le_of_ble_eq_true rfl⟩ ⟨Nat.le_of_ble_eq_true rfl, Nat.le_of_ble_eq_true rfl⟩ (Nat.le_of_ble_eq_true rfl) rfl 0 0 rfl rfl 75 rfl dX7_sews_72 ?_
        obtain ⟨y100, e99, h⟩ := bd_some h
        refine r_cVi C.1 (st := []) (c_X7_state ha0 e99) yv_X7_state ml_X7_85 rfl ha0 rfl ⟨Nat.le_of_ble_eq_true rfl, Nat.le_of_ble_eq_true rfl⟩ ⟨Nat.le_of_ble_eq_true rfl, Nat.le_of_ble_eq_true rfl⟩ (Nat.le_of_ble_eq_true rfl) rfl 0 0 rfl rfl 78 rfl dX7_sews_75 ?_
        refine r_iconst C.1 2 rfl 79 rfl dX7_sews_78 ?_
        refine r_icmp_eq C.1 88 82 rfl dX7_sews_79 rfl ⟨fun c101 => ?_, fun c101 => ?_⟩
        · have h := if_some_t c101 h
          refine r_iinc C.1 (lv' := [(0, .ref a0), (1, .int v1), (2, .int v2), (3, .int (v3 + 1))]) 3 [1, 2, 3, 0] 91 rfl dX7_sews_88 rfl (Nat.le_of_ble_eq_true rfl) rfl rfl ?_
          refine r_goto C.1 43 dX7_sews_91 rfl ?_
          exact ih κ (v3 + 1) h
        · have h := if_some_f c101 h
          refine r_aload_n C.1 0 83 rfl dX7_sews_82 rfl ?_
          refine r_iconst C.1 4 rfl 84 rfl dX7_sews_83 ?_
          obtain ⟨y103, κ104, e102, h⟩ := bd2_some h
          refine r_cVi C.1 (st := []) (c_X7_fail ha0 e102) yv_X7_fail ml_X7_91 rfl ha0 rfl ⟨Nat.le_of_ble_eq_true rfl, Nat.le_of_ble_eq_true rfl⟩ ⟨Nat.le_of_ble_eq_true rfl, Nat.le_of_ble_eq_true rfl⟩ (Nat.le_of_ble_eq_true rfl) rfl 0 0 rfl rfl 87 rfl dX7_sews_84 ?_
          cases h
          exact r_zret C rfl rfl (Nat.le_of_ble_eq_true rfl) (Nat.le_of_ble_eq_true rfl) dX7_sews_87 hq
set_option maxRecDepth 20000 in
theorem w_X7_sews_0 {F : jFm} (C : jB F RX7 cX7_sews 4 (some .int) 4 0 0 86) {κ : jKt} {a0 : Nat} (ha0 : jSof F a0 = (1, 11, 22)) {x1 : Int32} {x2 : Int32} {r : Int32 × jKt} (hq : jOut F (some (.int r.1)) r.2) (h : P_X7_sews κ a0 x1 x2 = some r) : jW F 4 0 0 κ 0 [(0, .ref a0), (1, .int x1), (2, .int x2)] [] := by
  unfold P_X7_sews at h
  refine r_iload_n C.1 1 1 rfl dX7_sews_0 rfl ?_
  refine r_if_ge C.1 10 4 rfl dX7_sews_1 rfl ⟨fun c105 => ?_, fun c105 => ?_⟩
  · have h := if_some_t c105 h
    refine r_aload_n C.1 0 11 rfl dX7_sews_10 rfl ?_
    refine r_iload_n C.1 1 12 rfl dX7_sews_11 rfl ?_
    refine r_iload_n C.1 2 13 rfl dX7_sews_12 rfl ?_
    obtain ⟨y107, e106, h⟩ := bd_some h
    refine r_cVi C.1 (st := []) (c_X7_isSleeve ha0 e106) yv_X7_isSleeve ml_X7_117 rfl ha0 rfl ⟨Nat.le_of_ble_eq_true rfl, Nat.le_of_ble_eq_true rfl⟩ ⟨Nat.le_of_ble_eq_true rfl, Nat.le_of_ble_eq_true rfl⟩ (Nat.le_of_ble_eq_true rfl) rfl 0 0 rfl rfl 16 rfl dX7_sews_13 ?_
    refine r_if_ne C.1 25 19 rfl dX7_sews_16 rfl ⟨fun c108 => ?_, fun c108 => ?_⟩
    · have h := if_some_f c108 h
      refine r_aload_n C.1 0 26 rfl dX7_sews_25 rfl ?_
      refine r_iload_n C.1 1 27 rfl dX7_sews_26 rfl ?_
      refine r_iload_n C.1 2 28 rfl dX7_sews_27 rfl ?_
      obtain ⟨y110, e109, h⟩ := bd_some h
      refine r_cVi C.1 (st := []) (c_X7_state ha0 e109) yv_X7_state ml_X7_85 rfl ha0 rfl ⟨Nat.le_of_ble_eq_true rfl, Nat.le_of_ble_eq_true rfl⟩ ⟨Nat.le_of_ble_eq_true rfl, Nat.le_of_ble_eq_true rfl⟩ (Nat.le_of_ble_eq_true rfl) rfl 0 0 rfl rfl 31 rfl dX7_sews_28 ?_
      refine r_iconst C.1 1 rfl 32 rfl dX7_sews_31 ?_
      refine r_icmp_eq C.1 41 35 rfl dX7_sews_32 rfl ⟨fun c111 => ?_, fun c111 => ?_⟩
      · have h := if_some_t c111 h
        refine r_iconst C.1 0 rfl 42 rfl dX7_sews_41 ?_
        refine r_istore_n C.1 (lv' := [(0, .ref a0), (1, .int x1), (2, .int x2), (3, .int 0)]) [1, 2, 3, 0] 43 rfl dX7_sews_42 (Nat.le_of_ble_eq_true rfl) rfl ?_
        exact w_X7_sews_43 C ha0 hq 4000 κ 0 h
      · have h := if_some_f c111 h
        refine r_aload_n C.1 0 36 rfl dX7_sews_35 rfl ?_
        refine r_iconst C.1 3 rfl 37 rfl dX7_sews_36 ?_
        obtain ⟨y113, κ114, e112, h⟩ := bd2_some h
        refine r_cVi C.1 (st := []) (c_X7_fail ha0 e112) yv_X7_fail ml_X7_91 rfl ha0 rfl ⟨Nat.le_of_ble_eq_true rfl, Nat.le_of_ble_eq_true rfl⟩ ⟨Nat.le_of_ble_eq_true rfl, Nat.le_of_ble_eq_true rfl⟩ (Nat.le_of_ble_eq_true rfl) rfl 0 0 rfl rfl 40 rfl dX7_sews_37 ?_
        cases h
        exact r_zret C rfl rfl (Nat.le_of_ble_eq_true rfl) (Nat.le_of_ble_eq_true rfl) dX7_sews_40 hq
    · have h := if_some_t c108 h
      refine r_aload_n C.1 0 20 rfl dX7_sews_19 rfl ?_
      refine r_iconst C.1 2 rfl 21 rfl dX7_sews_20 ?_
      obtain ⟨y116, κ117, e115, h⟩ := bd2_some h
      refine r_cVi C.1 (st := []) (c_X7_fail ha0 e115) yv_X7_fail ml_X7_91 rfl ha0 rfl ⟨Nat.le_of_ble_eq_true rfl, Nat.le_of_ble_eq_true rfl⟩ ⟨Nat.le_of_ble_eq_true rfl, Nat.le_of_ble_eq_true rfl⟩ (Nat.le_of_ble_eq_true rfl) rfl 0 0 rfl rfl 24 rfl dX7_sews_21 ?_
      cases h
      exact r_zret C rfl rfl (Nat.le_of_ble_eq_true rfl) (Nat.le_of_ble_eq_true rfl) dX7_sews_24 hq
  · have h := if_some_f c105 h
    refine r_aload_n C.1 0 5 rfl dX7_sews_4 rfl ?_
    refine r_iconst C.1 1 rfl 6 rfl dX7_sews_5 ?_
    obtain ⟨y119, κ120, e118, h⟩ := bd2_some h
    refine r_cVi C.1 (st := []) (c_X7_fail ha0 e118) yv_X7_fail ml_X7_91 rfl ha0 rfl ⟨Nat.le_of_ble_eq_true rfl, Nat.le_of_ble_eq_true rfl⟩ ⟨Nat.le_of_ble_eq_true rfl, Nat.le_of_ble_eq_true rfl⟩ (Nat.le_of_ble_eq_true rfl) rfl 0 0 rfl rfl 9 rfl dX7_sews_6 ?_
    cases h
    exact r_zret C rfl rfl (Nat.le_of_ble_eq_true rfl) (Nat.le_of_ble_eq_true rfl) dX7_sews_9 hq
theorem c_X7_sews {l : Launch} {G : jG} {sh : jSh} {κ : jKt} {a0 : Nat} (ha0 : sh a0 = (1, 11, 22)) {x1 : Int32} {x2 : Int32} {r : Int32} {κr : jKt} (h : P_X7_sews κ a0 x1 x2 = some (r, κr)) : jM l G yX7_sews cX7_sews 4 (some .int) 4 0 0 86 [.ref a0, .int x1, .int x2] (sh, κ) (jIs (some (.int r)) (sh, κr)) jNo :=
  r_body (by decide) (Nat.le_of_ble_eq_true rfl) fun F C hl hG hs ho hx => by
    subst hs
    exact w_X7_sews_0 C ha0 (by rw [ho]; exact ⟨rfl, rfl⟩) h
set_option maxRecDepth 20000 in
theorem w_X7_unpicks_42 {F : jFm} (C : jB F RX7 cX7_unpicks 4 (some .int) 4 0 0 84) {a0 : Nat} (ha0 : jSof F a0 = (1, 11, 22)) {v1 : Int32} {v2 : Int32} {r : Int32 × jKt} (hq : jOut F (some (.int r.1)) r.2) : ∀ (n : Nat) (κ : jKt) (v3 : Int32), P_X7_unpicks_42 a0 v1 v2 n κ v3 = some r → jW F 4 0 0 κ 42 [(0, .ref a0), (1, .int v1), (2, .int v2), (3, .int v3)] [] := by
  intro n
  induction n with
  | zero => intro κ v3 h; cases h
  | succ n ih =>
    intro κ v3 h
    rw [P_X7_unpicks_42] at h
    refine r_iload_n C.1 3 43 rfl dX7_unpicks_42 rfl ?_
    refine r_aload_n C.1 0 44 rfl dX7_unpicks_43 rfl ?_
    refine r_getR C.1 5 fl_X7_16 rfl ha0 47 rfl dX7_unpicks_44 (fun (h99 : jSof F (kR κ a0 5) = (2, 0, 457)) => ?_)
    refine r_iload_n C.1 1 48 rfl dX7_unpicks_47 rfl ?_
    refine r_iconst C.1 3 rfl 49 rfl dX7_unpicks_48 ?_
    obtain ⟨y101, e100, h⟩ := bd_some h
    refine r_cSi C.1 (st := [.ref (kR κ a0 5), .int v3]) (c_X7_of e100) yv_X7_of ml_X7_75 rfl ⟨Nat.le_of_ble_eq_true rfl, Nat.le_of_ble_eq_true rfl⟩ ⟨Nat.le_of_ble_eq_true rfl, Nat.le_of_ble_eq_true rfl⟩ (Nat.le_of_ble_eq_true rfl) rfl 0 0 rfl rfl 52 rfl dX7_unpicks_49 ?_
    obtain ⟨i102, h⟩ := ck_some h
    refine r_iald C.1 h99 i102 53 rfl dX7_unpicks_52 ?_
    refine r_icmp_ge C.1 93 56 rfl dX7_unpicks_53 rfl ⟨fun c103 => ?_, fun c103 => ?_⟩
    · have h := if_some_t c103 h
      refine r_aload_n C.1 0 94 rfl dX7_unpicks_93 rfl ?_
      refine r_iload_n C.1 1 95 rfl dX7_unpicks_94 rfl ?_
      refine r_iload_n C.1 2 96 rfl dX7_unpicks_95 rfl ?_
      obtain ⟨y105, e104, h⟩ := bd_some h
      refine r_cVi C.1 (st := []) (c_X7_own ha0 e104) yv_X7_own ml_X7_141 rfl ha0 rfl ⟨Nat.le_of_ble_eq_true rfl, Nat.le_of_ble_eq_true rfl⟩ ⟨Nat.le_of_ble_eq_true rfl, Nat.le_of_ble_eq_true rfl⟩ (Nat.le_of_ble_eq_true rfl) rfl 0 0 rfl rfl 99 rfl dX7_unpicks_96 ?_
      refine r_iconst C.1 2 rfl 100 rfl dX7_unpicks_99 ?_
      refine r_iadd C.1 101 rfl dX7_unpicks_100 ?_
      refine r_istore_n C.1 (lv' := [(0, .ref a0), (1, .int v1), (2, .int v2), (3, .int (y105 + 2))]) [1, 2, 3, 0] 102 rfl dX7_unpicks_101 (Nat.le_of_ble_eq_true rfl) rfl ?_
      refine r_aload_n C.1 0 103 rfl dX7_unpicks_102 rfl ?_
      refine r_getR C.1 5 fl_X7_16 rfl ha0 106 rfl dX7_unpicks_103 (fun (h106 : jSof F (kR κ a0 5) = (2, 0, 457)) => ?_)
      refine r_iload_n C.1 1 107 rfl dX7_unpicks_106 rfl ?_
      refine r_iconst C.1 4 rfl 108 rfl dX7_unpicks_107 ?_
      refine r_iload_n C.1 2 109 rfl dX7_unpicks_108 rfl ?_
      refine r_iadd C.1 110 rfl dX7_unpicks_109 ?_
      obtain ⟨y108, e107, h⟩ := bd_some h
      refine r_cSi C.1 (st := [.ref (kR κ a0 5)]) (c_X7_of e107) yv_X7_of ml_X7_75 rfl ⟨Nat.le_of_ble_eq_true rfl, Nat.le_of_ble_eq_true rfl⟩ ⟨Nat.le_of_ble_eq_true rfl, Nat.le_of_ble_eq_true rfl⟩ (Nat.le_of_ble_eq_true rfl) rfl 0 0 rfl rfl 113 rfl dX7_unpicks_110 ?_
      refine r_iconst C.1 0 rfl 114 rfl dX7_unpicks_113 ?_
      obtain ⟨i109, h⟩ := ck_some h
      obtain ⟨κ110, e111, h⟩ := bnd_some h
      refine r_iast C.1 h106 i109 e111 115 rfl dX7_unpicks_114 ?_
      refine r_aload_n C.1 0 116 rfl dX7_unpicks_115 rfl ?_
      refine r_getR C.1 5 fl_X7_16 rfl ha0 119 rfl dX7_unpicks_116 (fun (h112 : jSof F (kR κ110 a0 5) = (2, 0, 457)) => ?_)
      refine r_iload_n C.1 1 120 rfl dX7_unpicks_119 rfl ?_
      refine r_bipush C.1 20 rfl 122 rfl dX7_unpicks_120 ?_
      refine r_iload_n C.1 2 123 rfl dX7_unpicks_122 rfl ?_
      refine r_iadd C.1 124 rfl dX7_unpicks_123 ?_
      obtain ⟨y114, e113, h⟩ := bd_some h
      refine r_cSi C.1 (st := [.ref (kR κ110 a0 5)]) (c_X7_of e113) yv_X7_of ml_X7_75 rfl ⟨Nat.le_of_ble_eq_true rfl, Nat.le_of_ble_eq_true rfl⟩ ⟨Nat.le_of_ble_eq_true rfl, Nat.le_of_ble_eq_true rfl⟩ (Nat.le_of_ble_eq_true rfl) rfl 0 0 rfl rfl 127 rfl dX7_unpicks_124 ?_
      refine r_iconst C.1 0 rfl 128 rfl dX7_unpicks_127 ?_
      obtain ⟨i115, h⟩ := ck_some h
      obtain ⟨κ116, e117, h⟩ := bnd_some h
      refine r_iast C.1 h112 i115 e117 129 rfl dX7_unpicks_128 ?_
      refine r_aload_n C.1 0 130 rfl dX7_unpicks_129 rfl ?_
      refine r_getR C.1 5 fl_X7_16 rfl ha0 133 rfl dX7_unpicks_130 (fun (h118 : jSof F (kR κ116 a0 5) = (2, 0, 457)) => ?_)
      refine r_iconst C.1 4 rfl 134 rfl dX7_unpicks_133 ?_
      refine r_dup2 C.1 rfl rfl 135 rfl dX7_unpicks_134 ?_
      refine r_iald C.1 h118 (by decide) 136 rfl dX7_unpicks_135 ?_
      refine r_iload_n C.1 3 137 rfl dX7_unpicks_136 rfl ?_
      refine r_iadd C.1 138 rfl dX7_unpicks_137 ?_
      obtain ⟨κ119, e120, h⟩ := bnd_some h
      refine r_iast C.1 h118 (by decide) e120 139 rfl dX7_unpicks_138 ?_
      refine r_iload_n C.1 3 140 rfl dX7_unpicks_139 rfl ?_
      cases h
      exact r_zret C rfl rfl (Nat.le_of_ble_eq_true rfl) (Nat.le_of_ble_eq_true rfl) dX7_unpicks_140 hq
    · have h := if_some_f c103 h
      refine r_aload_n C.1 0 57 rfl dX7_unpicks_56 rfl ?_
      refine r_iload_n C.1 1 58 rfl dX7_unpicks_57 rfl ?_
      refine r_iload_n C.1 3 59 rfl dX7_unpicks_58 rfl ?_
      obtain ⟨y122, e121, h⟩ := bd_some h
      refine r_cVi C.1 (st := []) (c_X7_first ha0 e121) yv_X7_first ml_X7_132 rfl ha0 rfl ⟨Nat.le_of_ble_eq_true rfl, Nat.le_of_ble_eq_true rfl⟩ ⟨Nat.le_of_ble_eq_true rfl, Nat.le_of_ble_eq_true rfl⟩ (Nat.le_of_ble_eq_true rfl) rfl 0 0 rfl rfl 62 rfl dX7_unpicks_59 ?_
      refine r_iload_n C.1 2 63 rfl dX7_unpicks_62 rfl ?_
      refine r_icmp_ne C.1 87 66 rfl dX7_unpicks_63 rfl ⟨fun c123 => ?_, fun c123 => ?_⟩
      · have h := if_some_f c123 h
        refine r_iinc C.1 (lv' := [(0, .ref a0), (1, .int v1), (2, .int v2), (3, .int (v3 + 1))]) 3 [1, 2, 3, 0] 90 rfl dX7_unpicks_87 rfl (Nat.le_of_ble_eq_true rfl) rfl rfl ?_
        refine r_goto C.1 42 dX7_unpicks_90 rfl ?_
        exact ih κ (v3 + 1) h
      · have h := if_some_t c123 h
        refine r_aload_n C.1 0 67 rfl dX7_unpicks_66 rfl ?_
        refine r_iload_n C.1 1 68 rfl dX7_unpicks_67 rfl ?_
        refine r_aload_n C.1 0 69 rfl dX7_unpicks_68 rfl ?_
        refine r_iload_n C.1 1 70 rfl dX7_unpicks_69 rfl ?_
        refine r_iload_n C.1 3 71 rfl dX7_unpicks_70 rfl ?_
        obtain ⟨y125, e124, h⟩ := bd_some h
        refine r_cVi C.1 (st := [.int v1, .ref a0]) (c_X7_second ha0 e124) yv_X7_second ml_X7_129 rfl ha0 rfl ⟨Nat.le_of_ble_eq_true rfl, Nat.le_of_ble_eq_true rfl⟩ ⟨Nat.le_of_ble_eq_true rfl, Nat.le_of_ble_eq_true rfl⟩ (Nat.le_of_ble_eq_true rfl) rfl 0 0 rfl rfl 74 rfl dX7_unpicks_71 ?_
        obtain ⟨y127, e126, h⟩ := bd_some h
        refine r_cVi C.1 (st := []) (c_X7_state ha0 e126) yv_X7_state ml_X7_85 rfl ha0 rfl ⟨Nat.le_of_ble_eq_true rfl, Nat.le_of_ble_eq_true rfl⟩ ⟨Nat.le_of_ble_eq_true rfl, Nat.le_of_ble_eq_true rfl⟩ (Nat.le_of_ble_eq_true rfl) rfl 0 0 rfl rfl 77 rfl dX7_unpicks_74 ?_
        refine r_iconst C.1 2 rfl 78 rfl dX7_unpicks_77 ?_
        refine r_icmp_ne C.1 87 81 rfl dX7_unpicks_78 rfl ⟨fun c128 => ?_, fun c128 => ?_⟩
        · have h := if_some_f c128 h
          refine r_iinc C.1 (lv' := [(0, .ref a0), (1, .int v1), (2, .int v2), (3, .int (v3 + 1))]) 3 [1, 2, 3, 0] 90 rfl dX7_unpicks_87 rfl (Nat.le_of_ble_eq_true rfl) rfl rfl ?_
          refine r_goto C.1 42 dX7_unpicks_90 rfl ?_
          exact ih κ (v3 + 1) h
        · have h := if_some_t c128 h
          refine r_aload_n C.1 0 82 rfl dX7_unpicks_81 rfl ?_
          refine r_iconst C.1 4 rfl 83 rfl dX7_unpicks_82 ?_
          obtain ⟨y130, κ131, e129, h⟩ := bd2_some h
          refine r_cVi C.1 (st := []) (c_X7_fail ha0 e129) yv_X7_fail ml_X7_91 rfl ha0 rfl ⟨Nat.le_of_ble_eq_true rfl, Nat.le_of_ble_eq_true rfl⟩ ⟨Nat.le_of_ble_eq_true rfl, Nat.le_of_ble_eq_true rfl⟩ (Nat.le_of_ble_eq_true rfl) rfl 0 0 rfl rfl 86 rfl dX7_unpicks_83 ?_
          cases h
          exact r_zret C rfl rfl (Nat.le_of_ble_eq_true rfl) (Nat.le_of_ble_eq_true rfl) dX7_unpicks_86 hq
set_option maxRecDepth 20000 in
theorem w_X7_unpicks_0 {F : jFm} (C : jB F RX7 cX7_unpicks 4 (some .int) 4 0 0 84) {κ : jKt} {a0 : Nat} (ha0 : jSof F a0 = (1, 11, 22)) {x1 : Int32} {x2 : Int32} {r : Int32 × jKt} (hq : jOut F (some (.int r.1)) r.2) (h : P_X7_unpicks κ a0 x1 x2 = some r) : jW F 4 0 0 κ 0 [(0, .ref a0), (1, .int x1), (2, .int x2)] [] := by
  unfold P_X7_unpicks at h
  refine r_iload_n C.1 1 1 rfl dX7_unpicks_0 rfl ?_
  refine r_if_ge C.1 10 4 rfl dX7_unpicks_1 rfl ⟨fun c132 => ?_, fun c132 => ?_⟩
  · have h := if_some_t c132 h
    refine r_aload_n C.1 0 11 rfl dX7_unpicks_10 rfl ?_
    refine r_iload_n C.1 1 12 rfl dX7_unpicks_11 rfl ?_
    refine r_iload_n C.1 2 13 rfl dX7_unpicks_12 rfl ?_
    obtain ⟨y134, e133, h⟩ := bd_some h
    refine r_cVi C.1 (st := []) (c_X7_isSleeve ha0 e133) yv_X7_isSleeve ml_X7_117 rfl ha0 rfl ⟨Nat.le_of_ble_eq_true rfl, Nat.le_of_ble_eq_true rfl⟩ ⟨Nat.le_of_ble_eq_true rfl, Nat.le_of_ble_eq_true rfl⟩ (Nat.le_of_ble_eq_true rfl) rfl 0 0 rfl rfl 16 rfl dX7_unpicks_13 ?_
    refine r_if_ne C.1 25 19 rfl dX7_unpicks_16 rfl ⟨fun c135 => ?_, fun c135 => ?_⟩
    · have h := if_some_f c135 h
      refine r_aload_n C.1 0 26 rfl dX7_unpicks_25 rfl ?_
      refine r_iload_n C.1 1 27 rfl dX7_unpicks_26 rfl ?_
      refine r_iload_n C.1 2 28 rfl dX7_unpicks_27 rfl ?_
      obtain ⟨y137, e136, h⟩ := bd_some h
      refine r_cVi C.1 (st := []) (c_X7_state ha0 e136) yv_X7_state ml_X7_85 rfl ha0 rfl ⟨Nat.le_of_ble_eq_true rfl, Nat.le_of_ble_eq_true rfl⟩ ⟨Nat.le_of_ble_eq_true rfl, Nat.le_of_ble_eq_true rfl⟩ (Nat.le_of_ble_eq_true rfl) rfl 0 0 rfl rfl 31 rfl dX7_unpicks_28 ?_
      refine r_if_ne C.1 40 34 rfl dX7_unpicks_31 rfl ⟨fun c138 => ?_, fun c138 => ?_⟩
      · have h := if_some_f c138 h
        refine r_iconst C.1 0 rfl 41 rfl dX7_unpicks_40 ?_
        refine r_istore_n C.1 (lv' := [(0, .ref a0), (1, .int x1), (2, .int x2), (3, .int 0)]) [1, 2, 3, 0] 42 rfl dX7_unpicks_41 (Nat.le_of_ble_eq_true rfl) rfl ?_
        exact w_X7_unpicks_42 C ha0 hq 4000 κ 0 h
      · have h := if_some_t c138 h
        refine r_aload_n C.1 0 35 rfl dX7_unpicks_34 rfl ?_
        refine r_iconst C.1 3 rfl 36 rfl dX7_unpicks_35 ?_
        obtain ⟨y140, κ141, e139, h⟩ := bd2_some h
        refine r_cVi C.1 (st := []) (c_X7_fail ha0 e139) yv_X7_fail ml_X7_91 rfl ha0 rfl ⟨Nat.le_of_ble_eq_true rfl, Nat.le_of_ble_eq_true rfl⟩ ⟨Nat.le_of_ble_eq_true rfl, Nat.le_of_ble_eq_true rfl⟩ (Nat.le_of_ble_eq_true rfl) rfl 0 0 rfl rfl 39 rfl dX7_unpicks_36 ?_
        cases h
        exact r_zret C rfl rfl (Nat.le_of_ble_eq_true rfl) (Nat.le_of_ble_eq_true rfl) dX7_unpicks_39 hq
    · have h := if_some_t c135 h
      refine r_aload_n C.1 0 20 rfl dX7_unpicks_19 rfl ?_
      refine r_iconst C.1 2 rfl 21 rfl dX7_unpicks_20 ?_
      obtain ⟨y143, κ144, e142, h⟩ := bd2_some h
      refine r_cVi C.1 (st := []) (c_X7_fail ha0 e142) yv_X7_fail ml_X7_91 rfl ha0 rfl ⟨Nat.le_of_ble_eq_true rfl, Nat.le_of_ble_eq_true rfl⟩ ⟨Nat.le_of_ble_eq_true rfl, Nat.le_of_ble_eq_true rfl⟩ (Nat.le_of_ble_eq_true rfl) rfl 0 0 rfl rfl 24 rfl dX7_unpicks_21 ?_
      cases h
      exact r_zret C rfl rfl (Nat.le_of_ble_eq_true rfl) (Nat.le_of_ble_eq_true rfl) dX7_unpicks_24 hq
  · have h := if_some_f c132 h
    refine r_aload_n C.1 0 5 rfl dX7_unpicks_4 rfl ?_
    refine r_iconst C.1 1 rfl 6 rfl dX7_unpicks_5 ?_
    obtain ⟨y146, κ147, e145, h⟩ := bd2_some h
    refine r_cVi C.1 (st := []) (c_X7_fail ha0 e145) yv_X7_fail ml_X7_91 rfl ha0 rfl ⟨Nat.le_of_ble_eq_true rfl, Nat.le_of_ble_eq_true rfl⟩ ⟨Nat.le_of_ble_eq_true rfl, Nat.le_of_ble_eq_true rfl⟩ (Nat.le_of_ble_eq_true rfl) rfl 0 0 rfl rfl 9 rfl dX7_unpicks_6 ?_
    cases h
    exact r_zret C rfl rfl (Nat.le_of_ble_eq_true rfl) (Nat.le_of_ble_eq_true rfl) dX7_unpicks_9 hq
theorem c_X7_unpicks {l : Launch} {G : jG} {sh : jSh} {κ : jKt} {a0 : Nat} (ha0 : sh a0 = (1, 11, 22)) {x1 : Int32} {x2 : Int32} {r : Int32} {κr : jKt} (h : P_X7_unpicks κ a0 x1 x2 = some (r, κr)) : jM l G yX7_unpicks cX7_unpicks 4 (some .int) 4 0 0 84 [.ref a0, .int x1, .int x2] (sh, κ) (jIs (some (.int r)) (sh, κr)) jNo :=
  r_body (by decide) (Nat.le_of_ble_eq_true rfl) fun F C hl hG hs ho hx => by
    subst hs
    exact w_X7_unpicks_0 C ha0 (by rw [ho]; exact ⟨rfl, rfl⟩) h
set_option maxRecDepth 20000 in
theorem w_X7_behind_63 {F : jFm} (C : jB F RX7 cX7_behind 7 (some .int) 2 0 0 43) {κ : jKt} {a0 : Nat} (ha0 : jSof F a0 = (1, 11, 22)) {v1 : Int32} {v2 : Int32} {v3 : Int32} {v4 : Int32} {v5 : Int32} {s0 : Int32} {r : Int32} (hq : jOut F (some (.int r)) κ) {K5 : Int32 → Int32 → Option (Int32)} (hK5 : ∀ (u3 : Int32) (u4 : Int32), K5 u3 u4 = some r → jW F 7 0 0 κ 5 [(0, .ref a0), (1, .int v1), (2, .int v2), (3, .int u3), (4, .int u4)] []) {K17 : Int32 → Int32 → Option (Int32)} (hK17 : ∀ (u3 : Int32) (u5 : Int32), K17 u3 u5 = some r → jW F 7 0 0 κ 17 [(0, .ref a0), (1, .int v1), (2, .int v2), (3, .int u3), (4, .int v4), (5, .int u5)] []) (h : P_X7_behind_63 κ a0 v1 v2 v3 v4 v5 s0 K5 K17 = some r) : jW F 7 0 0 κ 63 [(0, .ref a0), (1, .int v1), (2, .int v2), (3, .int v3), (4, .int v4), (5, .int v5)] [.int s0] := by
  unfold P_X7_behind_63 at h
  refine r_istore C.1 (lv' := [(0, .ref a0), (1, .int v1), (2, .int v2), (3, .int v3), (4, .int v4), (5, .int v5), (6, .int s0)]) [1, 2, 3, 4, 5, 6, 0] 65 rfl dX7_behind_63 (Nat.le_of_ble_eq_true rfl) rfl ?_
  refine r_iload_n C.1 3 66 rfl dX7_behind_65 rfl ?_
  refine r_iload C.1 6 68 rfl dX7_behind_66 rfl ?_
  refine r_if_eq C.1 83 71 rfl dX7_behind_68 rfl ⟨fun c31 => ?_, fun c31 => ?_⟩
  · have h := if_some_t c31 h
    refine r_iconst C.1 0 rfl 84 rfl dX7_behind_83 ?_
    refine r_ior C.1 85 rfl dX7_behind_84 ?_
    refine r_istore_n C.1 (lv' := [(0, .ref a0), (1, .int v1), (2, .int v2), (3, .int (v3 ||| 0)), (4, .int v4), (5, .int v5), (6, .int s0)]) [1, 2, 3, 0, 4, 5, 6] 86 rfl dX7_behind_85 (Nat.le_of_ble_eq_true rfl) rfl ?_
    refine r_iinc C.1 (lv' := [(0, .ref a0), (1, .int v1), (2, .int v2), (3, .int (v3 ||| 0)), (4, .int v4), (5, .int (v5 + 1)), (6, .int s0)]) 5 [1, 2, 3, 4, 5, 0, 6] 89 rfl dX7_behind_86 rfl (Nat.le_of_ble_eq_true rfl) rfl rfl ?_
    refine r_goto C.1 17 dX7_behind_89 rfl ?_
    refine r_lv [0, 1, 2, 3, 4, 5] rfl ?_
    exact hK17 (v3 ||| 0) (v5 + 1) h
  · have h := if_some_f c31 h
    refine r_iconst C.1 1 rfl 72 rfl dX7_behind_71 ?_
    refine r_aload_n C.1 0 73 rfl dX7_behind_72 rfl ?_
    refine r_iload_n C.1 1 74 rfl dX7_behind_73 rfl ?_
    refine r_iload C.1 5 76 rfl dX7_behind_74 rfl ?_
    obtain ⟨y33, e32, h⟩ := bd_some h
    refine r_cVi C.1 (st := [.int 1, .int v3]) (c_X7_second ha0 e32) yv_X7_second ml_X7_129 rfl ha0 rfl ⟨Nat.le_of_ble_eq_true rfl, Nat.le_of_ble_eq_true rfl⟩ ⟨Nat.le_of_ble_eq_true rfl, Nat.le_of_ble_eq_true rfl⟩ (Nat.le_of_ble_eq_true rfl) rfl 0 0 rfl rfl 79 rfl dX7_behind_76 ?_
    refine r_ishl C.1 80 rfl dX7_behind_79 ?_
    refine r_goto C.1 84 dX7_behind_80 rfl ?_
    refine r_ior C.1 85 rfl dX7_behind_84 ?_
    refine r_istore_n C.1 (lv' := [(0, .ref a0), (1, .int v1), (2, .int v2), (3, .int (v3 ||| (1 <<< (y33 &&& 31)))), (4, .int v4), (5, .int v5), (6, .int s0)]) [1, 2, 3, 0, 4, 5, 6] 86 rfl dX7_behind_85 (Nat.le_of_ble_eq_true rfl) rfl ?_
    refine r_iinc C.1 (lv' := [(0, .ref a0), (1, .int v1), (2, .int v2), (3, .int (v3 ||| (1 <<< (y33 &&& 31)))), (4, .int v4), (5, .int (v5 + 1)), (6, .int s0)]) 5 [1, 2, 3, 4, 5, 0, 6] 89 rfl dX7_behind_86 rfl (Nat.le_of_ble_eq_true rfl) rfl rfl ?_
    refine r_goto C.1 17 dX7_behind_89 rfl ?_
    refine r_lv [0, 1, 2, 3, 4, 5] rfl ?_
    exact hK17 (v3 ||| (1 <<< (y33 &&& 31))) (v5 + 1) h
set_option maxRecDepth 20000 in
theorem w_X7_behind_58 {F : jFm} (C : jB F RX7 cX7_behind 7 (some .int) 2 0 0 43) {κ : jKt} {a0 : Nat} (ha0 : jSof F a0 = (1, 11, 22)) {v1 : Int32} {v2 : Int32} {v3 : Int32} {v4 : Int32} {v5 : Int32} {r : Int32} (hq : jOut F (some (.int r)) κ) {K5 : Int32 → Int32 → Option (Int32)} (hK5 : ∀ (u3 : Int32) (u4 : Int32), K5 u3 u4 = some r → jW F 7 0 0 κ 5 [(0, .ref a0), (1, .int v1), (2, .int v2), (3, .int u3), (4, .int u4)] []) {K17 : Int32 → Int32 → Option (Int32)} (hK17 : ∀ (u3 : Int32) (u5 : Int32), K17 u3 u5 = some r → jW F 7 0 0 κ 17 [(0, .ref a0), (1, .int v1), (2, .int v2), (3, .int u3), (4, .int v4), (5, .int u5)] []) (h : P_X7_behind_58 κ a0 v1 v2 v3 v4 v5 K5 K17 = some r) : jW F 7 0 0 κ 58 [(0, .ref a0), (1, .int v1), (2, .int v2), (3, .int v3), (4, .int v4), (5, .int v5)] [] := by
  unfold P_X7_behind_58 at h
  refine r_iconst C.1 1 rfl 59 rfl dX7_behind_58 ?_
  refine r_goto C.1 63 dX7_behind_59 rfl ?_
  exact w_X7_behind_63 C ha0 hq hK5 hK17 h
set_option maxRecDepth 20000 in
theorem w_X7_behind_17 {F : jFm} (C : jB F RX7 cX7_behind 7 (some .int) 2 0 0 43) {κ : jKt} {a0 : Nat} (ha0 : jSof F a0 = (1, 11, 22)) {v1 : Int32} {v2 : Int32} {v4 : Int32} {r : Int32} (hq : jOut F (some (.int r)) κ) {K5 : Int32 → Int32 → Option (Int32)} (hK5 : ∀ (u3 : Int32) (u4 : Int32), K5 u3 u4 = some r → jW F 7 0 0 κ 5 [(0, .ref a0), (1, .int v1), (2, .int v2), (3, .int u3), (4, .int u4)] []) : ∀ (n : Nat) (v3 : Int32) (v5 : Int32), P_X7_behind_17 κ a0 v1 v2 v4 K5 n v3 v5 = some r → jW F 7 0 0 κ 17 [(0, .ref a0), (1, .int v1), (2, .int v2), (3, .int v3), (4, .int v4), (5, .int v5)] [] := by
  intro n
  induction n with
  | zero => intro v3 v5 h; cases h
  | succ n ih =>
    intro v3 v5 h
    rw [P_X7_behind_17] at h
    refine r_iload C.1 5 19 rfl dX7_behind_17 rfl ?_
    refine r_aload_n C.1 0 20 rfl dX7_behind_19 rfl ?_
    refine r_getR C.1 5 fl_X7_16 rfl ha0 23 rfl dX7_behind_20 (fun (h34 : jSof F (kR κ a0 5) = (2, 0, 457)) => ?_)
    refine r_iload_n C.1 1 24 rfl dX7_behind_23 rfl ?_
    refine r_iconst C.1 3 rfl 25 rfl dX7_behind_24 ?_
    obtain ⟨y36, e35, h⟩ := bd_some h
    refine r_cSi C.1 (st := [.ref (kR κ a0 5), .int v5]) (c_X7_of e35) yv_X7_of ml_X7_75 rfl ⟨Nat.le_of_ble_eq_true rfl, Nat.le_of_ble_eq_true rfl⟩ ⟨Nat.le_of_ble_eq_true rfl, Nat.le_of_ble_eq_true rfl⟩ (Nat.le_of_ble_eq_true rfl) rfl 0 0 rfl rfl 28 rfl dX7_behind_25 ?_
    obtain ⟨i37, h⟩ := ck_some h
    refine r_iald C.1 h34 i37 29 rfl dX7_behind_28 ?_
    refine r_icmp_ge C.1 92 32 rfl dX7_behind_29 rfl ⟨fun c38 => ?_, fun c38 => ?_⟩
    · have h := if_some_t c38 h
      refine r_goto C.1 5 dX7_behind_92 rfl ?_
      refine r_lv [0, 1, 2, 3, 4] rfl ?_
      exact hK5 v3 v4 h
    · have h := if_some_f c38 h
      refine r_aload_n C.1 0 33 rfl dX7_behind_32 rfl ?_
      refine r_iload_n C.1 1 34 rfl dX7_behind_33 rfl ?_
      refine r_iload C.1 5 36 rfl dX7_behind_34 rfl ?_
      obtain ⟨y40, e39, h⟩ := bd_some h
      refine r_cVi C.1 (st := []) (c_X7_first ha0 e39) yv_X7_first ml_X7_132 rfl ha0 rfl ⟨Nat.le_of_ble_eq_true rfl, Nat.le_of_ble_eq_true rfl⟩ ⟨Nat.le_of_ble_eq_true rfl, Nat.le_of_ble_eq_true rfl⟩ (Nat.le_of_ble_eq_true rfl) rfl 0 0 rfl rfl 39 rfl dX7_behind_36 ?_
      refine r_iload_n C.1 2 40 rfl dX7_behind_39 rfl ?_
      refine r_icmp_eq C.1 58 43 rfl dX7_behind_40 rfl ⟨fun c41 => ?_, fun c41 => ?_⟩
      · have h := if_some_t c41 h
        exact w_X7_behind_58 C ha0 hq hK5 ih h
      · have h := if_some_f c41 h
        refine r_iload_n C.1 3 44 rfl dX7_behind_43 rfl ?_
        refine r_aload_n C.1 0 45 rfl dX7_behind_44 rfl ?_
        refine r_iload_n C.1 1 46 rfl dX7_behind_45 rfl ?_
        refine r_iload C.1 5 48 rfl dX7_behind_46 rfl ?_
        obtain ⟨y43, e42, h⟩ := bd_some h
        refine r_cVi C.1 (st := [.int v3]) (c_X7_first ha0 e42) yv_X7_first ml_X7_132 rfl ha0 rfl ⟨Nat.le_of_ble_eq_true rfl, Nat.le_of_ble_eq_true rfl⟩ ⟨Nat.le_of_ble_eq_true rfl, Nat.le_of_ble_eq_true rfl⟩ (Nat.le_of_ble_eq_true rfl) rfl 0 0 rfl rfl 51 rfl dX7_behind_48 ?_
        refine r_ishr C.1 52 rfl dX7_behind_51 ?_
        refine r_iconst C.1 1 rfl 53 rfl dX7_behind_52 ?_
        refine r_iand C.1 54 rfl dX7_behind_53 ?_
        refine r_iconst C.1 1 rfl 55 rfl dX7_behind_54 ?_
        refine r_icmp_ne C.1 62 58 rfl dX7_behind_55 rfl ⟨fun c44 => ?_, fun c44 => ?_⟩
        · have h := if_some_f c44 h
          refine r_iconst C.1 0 rfl 63 rfl dX7_behind_62 ?_
          exact w_X7_behind_63 C ha0 hq hK5 ih h
        · have h := if_some_t c44 h
          exact w_X7_behind_58 C ha0 hq hK5 ih h
set_option maxRecDepth 20000 in
theorem w_X7_behind_5 {F : jFm} (C : jB F RX7 cX7_behind 7 (some .int) 2 0 0 43) {κ : jKt} {a0 : Nat} (ha0 : jSof F a0 = (1, 11, 22)) {v1 : Int32} {v2 : Int32} {r : Int32} (hq : jOut F (some (.int r)) κ) : ∀ (n : Nat) (v3 : Int32) (v4 : Int32), P_X7_behind_5 κ a0 v1 v2 n v3 v4 = some r → jW F 7 0 0 κ 5 [(0, .ref a0), (1, .int v1), (2, .int v2), (3, .int v3), (4, .int v4)] [] := by
  intro n
  induction n with
  | zero => intro v3 v4 h; cases h
  | succ n ih =>
    intro v3 v4 h
    rw [P_X7_behind_5] at h
    refine r_iload_n C.1 3 6 rfl dX7_behind_5 rfl ?_
    refine r_iload C.1 4 8 rfl dX7_behind_6 rfl ?_
    refine r_icmp_eq C.1 95 11 rfl dX7_behind_8 rfl ⟨fun c45 => ?_, fun c45 => ?_⟩
    · have h := if_some_t c45 h
      refine r_iload_n C.1 3 96 rfl dX7_behind_95 rfl ?_
      cases h
      exact r_zret C rfl rfl (Nat.le_of_ble_eq_true rfl) (Nat.le_of_ble_eq_true rfl) dX7_behind_96 hq
    · have h := if_some_f c45 h
      refine r_iload_n C.1 3 12 rfl dX7_behind_11 rfl ?_
      refine r_istore C.1 (lv' := [(0, .ref a0), (1, .int v1), (2, .int v2), (3, .int v3), (4, .int v3)]) [1, 2, 3, 4, 0] 14 rfl dX7_behind_12 (Nat.le_of_ble_eq_true rfl) rfl ?_
      refine r_iconst C.1 0 rfl 15 rfl dX7_behind_14 ?_
      refine r_istore C.1 (lv' := [(0, .ref a0), (1, .int v1), (2, .int v2), (3, .int v3), (4, .int v3), (5, .int 0)]) [1, 2, 3, 4, 5, 0] 17 rfl dX7_behind_15 (Nat.le_of_ble_eq_true rfl) rfl ?_
      exact w_X7_behind_17 C ha0 hq ih 4000 v3 0 h
set_option maxRecDepth 20000 in
theorem w_X7_behind_0 {F : jFm} (C : jB F RX7 cX7_behind 7 (some .int) 2 0 0 43) {κ : jKt} {a0 : Nat} (ha0 : jSof F a0 = (1, 11, 22)) {x1 : Int32} {x2 : Int32} {r : Int32} (hq : jOut F (some (.int r)) κ) (h : P_X7_behind κ a0 x1 x2 = some r) : jW F 7 0 0 κ 0 [(0, .ref a0), (1, .int x1), (2, .int x2)] [] := by
  unfold P_X7_behind at h
  refine r_iconst C.1 0 rfl 1 rfl dX7_behind_0 ?_
  refine r_istore_n C.1 (lv' := [(0, .ref a0), (1, .int x1), (2, .int x2), (3, .int 0)]) [1, 2, 3, 0] 2 rfl dX7_behind_1 (Nat.le_of_ble_eq_true rfl) rfl ?_
  refine r_iconst C.1 (-1) rfl 3 rfl dX7_behind_2 ?_
  refine r_istore C.1 (lv' := [(0, .ref a0), (1, .int x1), (2, .int x2), (3, .int 0), (4, .int (-1))]) [1, 2, 3, 4, 0] 5 rfl dX7_behind_3 (Nat.le_of_ble_eq_true rfl) rfl ?_
  exact w_X7_behind_5 C ha0 hq 4000 0 (-1) h
theorem c_X7_behind {l : Launch} {G : jG} {sh : jSh} {κ : jKt} {a0 : Nat} (ha0 : sh a0 = (1, 11, 22)) {x1 : Int32} {x2 : Int32} {r : Int32} (h : P_X7_behind κ a0 x1 x2 = some r) : jM l G yX7_behind cX7_behind 7 (some .int) 2 0 0 43 [.ref a0, .int x1, .int x2] (sh, κ) (jIs (some (.int r)) (sh, κ)) jNo :=
  r_body (by decide) (Nat.le_of_ble_eq_true rfl) fun F C hl hG hs ho hx => by
    subst hs
    exact w_X7_behind_0 C ha0 (by rw [ho]; exact ⟨rfl, rfl⟩) h
set_option maxRecDepth 20000 in
theorem w_X7_isAsked_3 {F : jFm} (C : jB F RX7 cX7_isAsked 5 (some .boolean) 2 0 0 43) {κ : jKt} {a0 : Nat} (ha0 : jSof F a0 = (1, 11, 22)) {v1 : Int32} {v2 : Int32} {v3 : Int32} {r : Int32} (hq : jOut F (some (.int r)) κ) : ∀ (n : Nat) (v4 : Int32), P_X7_isAsked_3 κ a0 v1 v2 v3 n v4 = some r → jW F 5 0 0 κ 3 [(0, .ref a0), (1, .int v1), (2, .int v2), (3, .int v3), (4, .int v4)] [] := by
  intro n
  induction n with
  | zero => intro v4 h; cases h
  | succ n ih =>
    intro v4 h
    rw [P_X7_isAsked_3] at h
    refine r_iload C.1 4 5 rfl dX7_isAsked_3 rfl ?_
    refine r_aload_n C.1 0 6 rfl dX7_isAsked_5 rfl ?_
    refine r_getR C.1 5 fl_X7_16 rfl ha0 9 rfl dX7_isAsked_6 (fun (h23 : jSof F (kR κ a0 5) = (2, 0, 457)) => ?_)
    refine r_iload_n C.1 1 10 rfl dX7_isAsked_9 rfl ?_
    refine r_iconst C.1 3 rfl 11 rfl dX7_isAsked_10 ?_
    obtain ⟨y25, e24, h⟩ := bd_some h
    refine r_cSi C.1 (st := [.ref (kR κ a0 5), .int v4]) (c_X7_of e24) yv_X7_of ml_X7_75 rfl ⟨Nat.le_of_ble_eq_true rfl, Nat.le_of_ble_eq_true rfl⟩ ⟨Nat.le_of_ble_eq_true rfl, Nat.le_of_ble_eq_true rfl⟩ (Nat.le_of_ble_eq_true rfl) rfl 0 0 rfl rfl 14 rfl dX7_isAsked_11 ?_
    obtain ⟨i26, h⟩ := ck_some h
    refine r_iald C.1 h23 i26 15 rfl dX7_isAsked_14 ?_
    refine r_icmp_ge C.1 48 18 rfl dX7_isAsked_15 rfl ⟨fun c27 => ?_, fun c27 => ?_⟩
    · have h := if_some_t c27 h
      refine r_iconst C.1 0 rfl 49 rfl dX7_isAsked_48 ?_
      cases h
      exact r_zret C rfl rfl (Nat.le_of_ble_eq_true rfl) (Nat.le_of_ble_eq_true rfl) dX7_isAsked_49 hq
    · have h := if_some_f c27 h
      refine r_aload_n C.1 0 19 rfl dX7_isAsked_18 rfl ?_
      refine r_iload_n C.1 1 20 rfl dX7_isAsked_19 rfl ?_
      refine r_iload C.1 4 22 rfl dX7_isAsked_20 rfl ?_
      obtain ⟨y29, e28, h⟩ := bd_some h
      refine r_cVi C.1 (st := []) (c_X7_first ha0 e28) yv_X7_first ml_X7_132 rfl ha0 rfl ⟨Nat.le_of_ble_eq_true rfl, Nat.le_of_ble_eq_true rfl⟩ ⟨Nat.le_of_ble_eq_true rfl, Nat.le_of_ble_eq_true rfl⟩ (Nat.le_of_ble_eq_true rfl) rfl 0 0 rfl rfl 25 rfl dX7_isAsked_22 ?_
      refine r_iload_n C.1 2 26 rfl dX7_isAsked_25 rfl ?_
      refine r_icmp_ne C.1 42 29 rfl dX7_isAsked_26 rfl ⟨fun c30 => ?_, fun c30 => ?_⟩
      · have h := if_some_f c30 h
        refine r_iinc C.1 (lv' := [(0, .ref a0), (1, .int v1), (2, .int v2), (3, .int v3), (4, .int (v4 + 1))]) 4 [1, 2, 3, 4, 0] 45 rfl dX7_isAsked_42 rfl (Nat.le_of_ble_eq_true rfl) rfl rfl ?_
        refine r_goto C.1 3 dX7_isAsked_45 rfl ?_
        exact ih (v4 + 1) h
      · have h := if_some_t c30 h
        refine r_aload_n C.1 0 30 rfl dX7_isAsked_29 rfl ?_
        refine r_iload_n C.1 1 31 rfl dX7_isAsked_30 rfl ?_
        refine r_iload C.1 4 33 rfl dX7_isAsked_31 rfl ?_
        obtain ⟨y32, e31, h⟩ := bd_some h
        refine r_cVi C.1 (st := []) (c_X7_second ha0 e31) yv_X7_second ml_X7_129 rfl ha0 rfl ⟨Nat.le_of_ble_eq_true rfl, Nat.le_of_ble_eq_true rfl⟩ ⟨Nat.le_of_ble_eq_true rfl, Nat.le_of_ble_eq_true rfl⟩ (Nat.le_of_ble_eq_true rfl) rfl 0 0 rfl rfl 36 rfl dX7_isAsked_33 ?_
        refine r_iload_n C.1 3 37 rfl dX7_isAsked_36 rfl ?_
        refine r_icmp_ne C.1 42 40 rfl dX7_isAsked_37 rfl ⟨fun c33 => ?_, fun c33 => ?_⟩
        · have h := if_some_f c33 h
          refine r_iinc C.1 (lv' := [(0, .ref a0), (1, .int v1), (2, .int v2), (3, .int v3), (4, .int (v4 + 1))]) 4 [1, 2, 3, 4, 0] 45 rfl dX7_isAsked_42 rfl (Nat.le_of_ble_eq_true rfl) rfl rfl ?_
          refine r_goto C.1 3 dX7_isAsked_45 rfl ?_
          exact ih (v4 + 1) h
        · have h := if_some_t c33 h
          refine r_iconst C.1 1 rfl 41 rfl dX7_isAsked_40 ?_
          cases h
          exact r_zret C rfl rfl (Nat.le_of_ble_eq_true rfl) (Nat.le_of_ble_eq_true rfl) dX7_isAsked_41 hq
set_option maxRecDepth 20000 in
theorem w_X7_isAsked_0 {F : jFm} (C : jB F RX7 cX7_isAsked 5 (some .boolean) 2 0 0 43) {κ : jKt} {a0 : Nat} (ha0 : jSof F a0 = (1, 11, 22)) {x1 : Int32} {x2 : Int32} {x3 : Int32} {r : Int32} (hq : jOut F (some (.int r)) κ) (h : P_X7_isAsked κ a0 x1 x2 x3 = some r) : jW F 5 0 0 κ 0 [(0, .ref a0), (1, .int x1), (2, .int x2), (3, .int x3)] [] := by
  unfold P_X7_isAsked at h
  refine r_iconst C.1 0 rfl 1 rfl dX7_isAsked_0 ?_
  refine r_istore C.1 (lv' := [(0, .ref a0), (1, .int x1), (2, .int x2), (3, .int x3), (4, .int 0)]) [1, 2, 3, 4, 0] 3 rfl dX7_isAsked_1 (Nat.le_of_ble_eq_true rfl) rfl ?_
  exact w_X7_isAsked_3 C ha0 hq 4000 0 h
theorem c_X7_isAsked {l : Launch} {G : jG} {sh : jSh} {κ : jKt} {a0 : Nat} (ha0 : sh a0 = (1, 11, 22)) {x1 : Int32} {x2 : Int32} {x3 : Int32} {r : Int32} (h : P_X7_isAsked κ a0 x1 x2 x3 = some r) : jM l G yX7_isAsked cX7_isAsked 5 (some .boolean) 2 0 0 43 [.ref a0, .int x1, .int x2, .int x3] (sh, κ) (jIs (some (.int r)) (sh, κ)) jNo :=
  r_body (by decide) (Nat.le_of_ble_eq_true rfl) fun F C hl hG hs ho hx => by
    subst hs
    exact w_X7_isAsked_0 C ha0 (by rw [ho]; exact ⟨rfl, rfl⟩) h
set_option maxRecDepth 20000 in
theorem w_X7_demands_70 {F : jFm} (C : jB F RX7 cX7_demands 6 (some .int) 4 0 0 84) {κ : jKt} {a0 : Nat} (ha0 : jSof F a0 = (1, 11, 22)) {v1 : Int32} {v2 : Int32} {v3 : Int32} {s0 : Int32} {r : Int32 × jKt} (hq : jOut F (some (.int r.1)) r.2) (h : P_X7_demands_70 κ a0 v1 v2 v3 s0 = some r) : jW F 6 0 0 κ 70 [(0, .ref a0), (1, .int v1), (2, .int v2), (3, .int v3)] [.int s0] := by
  unfold P_X7_demands_70 at h
  refine r_istore C.1 (lv' := [(0, .ref a0), (1, .int v1), (2, .int v2), (3, .int v3), (4, .int s0)]) [1, 2, 3, 4, 0] 72 rfl dX7_demands_70 (Nat.le_of_ble_eq_true rfl) rfl ?_
  refine r_aload_n C.1 0 73 rfl dX7_demands_72 rfl ?_
  refine r_iload_n C.1 1 74 rfl dX7_demands_73 rfl ?_
  refine r_iload_n C.1 2 75 rfl dX7_demands_74 rfl ?_
  refine r_iload_n C.1 3 76 rfl dX7_demands_75 rfl ?_
  obtain ⟨y160, e159, h⟩ := bd_some h
  refine r_cVi C.1 (st := []) (c_X7_isAsked ha0 e159) yv_X7_isAsked ml_X7_147 rfl ha0 rfl ⟨Nat.le_of_ble_eq_true rfl, Nat.le_of_ble_eq_true rfl⟩ ⟨Nat.le_of_ble_eq_true rfl, Nat.le_of_ble_eq_true rfl⟩ (Nat.le_of_ble_eq_true rfl) rfl 0 0 rfl rfl 79 rfl dX7_demands_76 ?_
  refine r_if_ne C.1 102 82 rfl dX7_demands_79 rfl ⟨fun c161 => ?_, fun c161 => ?_⟩
  · have h := if_some_f c161 h
    refine r_aload_n C.1 0 103 rfl dX7_demands_102 rfl ?_
    refine r_iconst C.1 4 rfl 104 rfl dX7_demands_103 ?_
    obtain ⟨y163, κ164, e162, h⟩ := bd2_some h
    refine r_cVi C.1 (st := []) (c_X7_fail ha0 e162) yv_X7_fail ml_X7_91 rfl ha0 rfl ⟨Nat.le_of_ble_eq_true rfl, Nat.le_of_ble_eq_true rfl⟩ ⟨Nat.le_of_ble_eq_true rfl, Nat.le_of_ble_eq_true rfl⟩ (Nat.le_of_ble_eq_true rfl) rfl 0 0 rfl rfl 107 rfl dX7_demands_104 ?_
    cases h
    exact r_zret C rfl rfl (Nat.le_of_ble_eq_true rfl) (Nat.le_of_ble_eq_true rfl) dX7_demands_107 hq
  · have h := if_some_t c161 h
    refine r_aload_n C.1 0 83 rfl dX7_demands_82 rfl ?_
    refine r_getR C.1 5 fl_X7_16 rfl ha0 86 rfl dX7_demands_83 (fun (h165 : jSof F (kR κ a0 5) = (2, 0, 457)) => ?_)
    refine r_iload_n C.1 1 87 rfl dX7_demands_86 rfl ?_
    refine r_iconst C.1 3 rfl 88 rfl dX7_demands_87 ?_
    obtain ⟨y167, e166, h⟩ := bd_some h
    refine r_cSi C.1 (st := [.ref (kR κ a0 5)]) (c_X7_of e166) yv_X7_of ml_X7_75 rfl ⟨Nat.le_of_ble_eq_true rfl, Nat.le_of_ble_eq_true rfl⟩ ⟨Nat.le_of_ble_eq_true rfl, Nat.le_of_ble_eq_true rfl⟩ (Nat.le_of_ble_eq_true rfl) rfl 0 0 rfl rfl 91 rfl dX7_demands_88 ?_
    obtain ⟨i168, h⟩ := ck_some h
    refine r_iald C.1 h165 i168 92 rfl dX7_demands_91 ?_
    refine r_bipush C.1 12 rfl 94 rfl dX7_demands_92 ?_
    refine r_icmp_eq C.1 102 97 rfl dX7_demands_94 rfl ⟨fun c169 => ?_, fun c169 => ?_⟩
    · have h := if_some_t c169 h
      refine r_aload_n C.1 0 103 rfl dX7_demands_102 rfl ?_
      refine r_iconst C.1 4 rfl 104 rfl dX7_demands_103 ?_
      obtain ⟨y171, κ172, e170, h⟩ := bd2_some h
      refine r_cVi C.1 (st := []) (c_X7_fail ha0 e170) yv_X7_fail ml_X7_91 rfl ha0 rfl ⟨Nat.le_of_ble_eq_true rfl, Nat.le_of_ble_eq_true rfl⟩ ⟨Nat.le_of_ble_eq_true rfl, Nat.le_of_ble_eq_true rfl⟩ (Nat.le_of_ble_eq_true rfl) rfl 0 0 rfl rfl 107 rfl dX7_demands_104 ?_
      cases h
      exact r_zret C rfl rfl (Nat.le_of_ble_eq_true rfl) (Nat.le_of_ble_eq_true rfl) dX7_demands_107 hq
    · have h := if_some_f c169 h
      refine r_iload C.1 4 99 rfl dX7_demands_97 rfl ?_
      refine r_if_eq C.1 108 102 rfl dX7_demands_99 rfl ⟨fun c173 => ?_, fun c173 => ?_⟩
      · have h := if_some_t c173 h
        refine r_aload_n C.1 0 109 rfl dX7_demands_108 rfl ?_
        refine r_iload_n C.1 1 110 rfl dX7_demands_109 rfl ?_
        refine r_iload_n C.1 3 111 rfl dX7_demands_110 rfl ?_
        obtain ⟨y175, e174, h⟩ := bd_some h
        refine r_cVi C.1 (st := []) (c_X7_behind ha0 e174) yv_X7_behind ml_X7_150 rfl ha0 rfl ⟨Nat.le_of_ble_eq_true rfl, Nat.le_of_ble_eq_true rfl⟩ ⟨Nat.le_of_ble_eq_true rfl, Nat.le_of_ble_eq_true rfl⟩ (Nat.le_of_ble_eq_true rfl) rfl 0 0 rfl rfl 114 rfl dX7_demands_111 ?_
        refine r_iload_n C.1 2 115 rfl dX7_demands_114 rfl ?_
        refine r_ishr C.1 116 rfl dX7_demands_115 ?_
        refine r_iconst C.1 1 rfl 117 rfl dX7_demands_116 ?_
        refine r_iand C.1 118 rfl dX7_demands_117 ?_
        refine r_iconst C.1 1 rfl 119 rfl dX7_demands_118 ?_
        refine r_icmp_ne C.1 128 122 rfl dX7_demands_119 rfl ⟨fun c176 => ?_, fun c176 => ?_⟩
        · have h := if_some_f c176 h
          refine r_aload_n C.1 0 129 rfl dX7_demands_128 rfl ?_
          refine r_getR C.1 5 fl_X7_16 rfl ha0 132 rfl dX7_demands_129 (fun (h177 : jSof F (kR κ a0 5) = (2, 0, 457)) => ?_)
          refine r_iload_n C.1 1 133 rfl dX7_demands_132 rfl ?_
          refine r_iconst C.1 3 rfl 134 rfl dX7_demands_133 ?_
          obtain ⟨y179, e178, h⟩ := bd_some h
          refine r_cSi C.1 (st := [.ref (kR κ a0 5)]) (c_X7_of e178) yv_X7_of ml_X7_75 rfl ⟨Nat.le_of_ble_eq_true rfl, Nat.le_of_ble_eq_true rfl⟩ ⟨Nat.le_of_ble_eq_true rfl, Nat.le_of_ble_eq_true rfl⟩ (Nat.le_of_ble_eq_true rfl) rfl 0 0 rfl rfl 137 rfl dX7_demands_134 ?_
          obtain ⟨i180, h⟩ := ck_some h
          refine r_iald C.1 h177 i180 138 rfl dX7_demands_137 ?_
          obtain ⟨y181, e182, h⟩ := bnd_some h
          refine r_top e182 ?_
          refine r_istore C.1 (lv' := [(0, .ref a0), (1, .int v1), (2, .int v2), (3, .int v3), (4, .int s0), (5, .int y181)]) [1, 2, 3, 4, 5, 0] 140 rfl dX7_demands_138 (Nat.le_of_ble_eq_true rfl) rfl ?_
          refine r_aload_n C.1 0 141 rfl dX7_demands_140 rfl ?_
          refine r_getR C.1 5 fl_X7_16 rfl ha0 144 rfl dX7_demands_141 (fun (h183 : jSof F (kR κ a0 5) = (2, 0, 457)) => ?_)
          refine r_iload_n C.1 1 145 rfl dX7_demands_144 rfl ?_
          refine r_bipush C.1 36 rfl 147 rfl dX7_demands_145 ?_
          refine r_iconst C.1 2 rfl 148 rfl dX7_demands_147 ?_
          refine r_iload C.1 5 150 rfl dX7_demands_148 rfl ?_
          refine r_imul C.1 151 rfl dX7_demands_150 ?_
          refine r_iadd C.1 152 rfl dX7_demands_151 ?_
          obtain ⟨y185, e184, h⟩ := bd_some h
          refine r_cSi C.1 (st := [.ref (kR κ a0 5)]) (c_X7_of e184) yv_X7_of ml_X7_75 rfl ⟨Nat.le_of_ble_eq_true rfl, Nat.le_of_ble_eq_true rfl⟩ ⟨Nat.le_of_ble_eq_true rfl, Nat.le_of_ble_eq_true rfl⟩ (Nat.le_of_ble_eq_true rfl) rfl 0 0 rfl rfl 155 rfl dX7_demands_152 ?_
          refine r_iload_n C.1 2 156 rfl dX7_demands_155 rfl ?_
          obtain ⟨i186, h⟩ := ck_some h
          obtain ⟨κ187, e188, h⟩ := bnd_some h
          refine r_iast C.1 h183 i186 e188 157 rfl dX7_demands_156 ?_
          refine r_aload_n C.1 0 158 rfl dX7_demands_157 rfl ?_
          refine r_getR C.1 5 fl_X7_16 rfl ha0 161 rfl dX7_demands_158 (fun (h189 : jSof F (kR κ187 a0 5) = (2, 0, 457)) => ?_)
          refine r_iload_n C.1 1 162 rfl dX7_demands_161 rfl ?_
          refine r_bipush C.1 36 rfl 164 rfl dX7_demands_162 ?_
          refine r_iconst C.1 2 rfl 165 rfl dX7_demands_164 ?_
          refine r_iload C.1 5 167 rfl dX7_demands_165 rfl ?_
          refine r_imul C.1 168 rfl dX7_demands_167 ?_
          refine r_iadd C.1 169 rfl dX7_demands_168 ?_
          refine r_iconst C.1 1 rfl 170 rfl dX7_demands_169 ?_
          refine r_iadd C.1 171 rfl dX7_demands_170 ?_
          obtain ⟨y191, e190, h⟩ := bd_some h
          refine r_cSi C.1 (st := [.ref (kR κ187 a0 5)]) (c_X7_of e190) yv_X7_of ml_X7_75 rfl ⟨Nat.le_of_ble_eq_true rfl, Nat.le_of_ble_eq_true rfl⟩ ⟨Nat.le_of_ble_eq_true rfl, Nat.le_of_ble_eq_true rfl⟩ (Nat.le_of_ble_eq_true rfl) rfl 0 0 rfl rfl 174 rfl dX7_demands_171 ?_
          refine r_iload_n C.1 3 175 rfl dX7_demands_174 rfl ?_
          obtain ⟨i192, h⟩ := ck_some h
          obtain ⟨κ193, e194, h⟩ := bnd_some h
          refine r_iast C.1 h189 i192 e194 176 rfl dX7_demands_175 ?_
          refine r_aload_n C.1 0 177 rfl dX7_demands_176 rfl ?_
          refine r_getR C.1 5 fl_X7_16 rfl ha0 180 rfl dX7_demands_177 (fun (h195 : jSof F (kR κ193 a0 5) = (2, 0, 457)) => ?_)
          refine r_iload_n C.1 1 181 rfl dX7_demands_180 rfl ?_
          refine r_iconst C.1 3 rfl 182 rfl dX7_demands_181 ?_
          obtain ⟨y197, e196, h⟩ := bd_some h
          refine r_cSi C.1 (st := [.ref (kR κ193 a0 5)]) (c_X7_of e196) yv_X7_of ml_X7_75 rfl ⟨Nat.le_of_ble_eq_true rfl, Nat.le_of_ble_eq_true rfl⟩ ⟨Nat.le_of_ble_eq_true rfl, Nat.le_of_ble_eq_true rfl⟩ (Nat.le_of_ble_eq_true rfl) rfl 0 0 rfl rfl 185 rfl dX7_demands_182 ?_
          refine r_dup2 C.1 rfl rfl 186 rfl dX7_demands_185 ?_
          obtain ⟨i198, h⟩ := ck_some h
          refine r_iald C.1 h195 i198 187 rfl dX7_demands_186 ?_
          refine r_iconst C.1 1 rfl 188 rfl dX7_demands_187 ?_
          refine r_iadd C.1 189 rfl dX7_demands_188 ?_
          obtain ⟨i199, h⟩ := ck_some h
          obtain ⟨κ200, e201, h⟩ := bnd_some h
          refine r_iast C.1 h195 i199 e201 190 rfl dX7_demands_189 ?_
          refine r_aload_n C.1 0 191 rfl dX7_demands_190 rfl ?_
          refine r_getR C.1 5 fl_X7_16 rfl ha0 194 rfl dX7_demands_191 (fun (h202 : jSof F (kR κ200 a0 5) = (2, 0, 457)) => ?_)
          refine r_iload_n C.1 1 195 rfl dX7_demands_194 rfl ?_
          refine r_iconst C.1 3 rfl 196 rfl dX7_demands_195 ?_
          obtain ⟨y204, e203, h⟩ := bd_some h
          refine r_cSi C.1 (st := [.ref (kR κ200 a0 5)]) (c_X7_of e203) yv_X7_of ml_X7_75 rfl ⟨Nat.le_of_ble_eq_true rfl, Nat.le_of_ble_eq_true rfl⟩ ⟨Nat.le_of_ble_eq_true rfl, Nat.le_of_ble_eq_true rfl⟩ (Nat.le_of_ble_eq_true rfl) rfl 0 0 rfl rfl 199 rfl dX7_demands_196 ?_
          obtain ⟨i205, h⟩ := ck_some h
          refine r_iald C.1 h202 i205 200 rfl dX7_demands_199 ?_
          cases h
          exact r_zret C rfl rfl (Nat.le_of_ble_eq_true rfl) (Nat.le_of_ble_eq_true rfl) dX7_demands_200 hq
        · have h := if_some_t c176 h
          refine r_aload_n C.1 0 123 rfl dX7_demands_122 rfl ?_
          refine r_iconst C.1 5 rfl 124 rfl dX7_demands_123 ?_
          obtain ⟨y207, κ208, e206, h⟩ := bd2_some h
          refine r_cVi C.1 (st := []) (c_X7_fail ha0 e206) yv_X7_fail ml_X7_91 rfl ha0 rfl ⟨Nat.le_of_ble_eq_true rfl, Nat.le_of_ble_eq_true rfl⟩ ⟨Nat.le_of_ble_eq_true rfl, Nat.le_of_ble_eq_true rfl⟩ (Nat.le_of_ble_eq_true rfl) rfl 0 0 rfl rfl 127 rfl dX7_demands_124 ?_
          cases h
          exact r_zret C rfl rfl (Nat.le_of_ble_eq_true rfl) (Nat.le_of_ble_eq_true rfl) dX7_demands_127 hq
      · have h := if_some_f c173 h
        refine r_aload_n C.1 0 103 rfl dX7_demands_102 rfl ?_
        refine r_iconst C.1 4 rfl 104 rfl dX7_demands_103 ?_
        obtain ⟨y210, κ211, e209, h⟩ := bd2_some h
        refine r_cVi C.1 (st := []) (c_X7_fail ha0 e209) yv_X7_fail ml_X7_91 rfl ha0 rfl ⟨Nat.le_of_ble_eq_true rfl, Nat.le_of_ble_eq_true rfl⟩ ⟨Nat.le_of_ble_eq_true rfl, Nat.le_of_ble_eq_true rfl⟩ (Nat.le_of_ble_eq_true rfl) rfl 0 0 rfl rfl 107 rfl dX7_demands_104 ?_
        cases h
        exact r_zret C rfl rfl (Nat.le_of_ble_eq_true rfl) (Nat.le_of_ble_eq_true rfl) dX7_demands_107 hq
set_option maxRecDepth 20000 in
theorem w_X7_demands_69 {F : jFm} (C : jB F RX7 cX7_demands 6 (some .int) 4 0 0 84) {κ : jKt} {a0 : Nat} (ha0 : jSof F a0 = (1, 11, 22)) {v1 : Int32} {v2 : Int32} {v3 : Int32} {r : Int32 × jKt} (hq : jOut F (some (.int r.1)) r.2) (h : P_X7_demands_69 κ a0 v1 v2 v3 = some r) : jW F 6 0 0 κ 69 [(0, .ref a0), (1, .int v1), (2, .int v2), (3, .int v3)] [] := by
  unfold P_X7_demands_69 at h
  refine r_iconst C.1 0 rfl 70 rfl dX7_demands_69 ?_
  exact w_X7_demands_70 C ha0 hq h
set_option maxRecDepth 20000 in
theorem w_X7_demands_0 {F : jFm} (C : jB F RX7 cX7_demands 6 (some .int) 4 0 0 84) {κ : jKt} {a0 : Nat} (ha0 : jSof F a0 = (1, 11, 22)) {x1 : Int32} {x2 : Int32} {x3 : Int32} {r : Int32 × jKt} (hq : jOut F (some (.int r.1)) r.2) (h : P_X7_demands κ a0 x1 x2 x3 = some r) : jW F 6 0 0 κ 0 [(0, .ref a0), (1, .int x1), (2, .int x2), (3, .int x3)] [] := by
  unfold P_X7_demands at h
  refine r_iload_n C.1 1 1 rfl dX7_demands_0 rfl ?_
  refine r_if_ge C.1 10 4 rfl dX7_demands_1 rfl ⟨fun c212 => ?_, fun c212 => ?_⟩
  · have h := if_some_t c212 h
    refine r_aload_n C.1 0 11 rfl dX7_demands_10 rfl ?_
    refine r_iload_n C.1 1 12 rfl dX7_demands_11 rfl ?_
    refine r_iload_n C.1 2 13 rfl dX7_demands_12 rfl ?_
    obtain ⟨y214, e213, h⟩ := bd_some h
    refine r_cVi C.1 (st := []) (c_X7_isSleeve ha0 e213) yv_X7_isSleeve ml_X7_117 rfl ha0 rfl ⟨Nat.le_of_ble_eq_true rfl, Nat.le_of_ble_eq_true rfl⟩ ⟨Nat.le_of_ble_eq_true rfl, Nat.le_of_ble_eq_true rfl⟩ (Nat.le_of_ble_eq_true rfl) rfl 0 0 rfl rfl 16 rfl dX7_demands_13 ?_
    refine r_if_eq C.1 28 19 rfl dX7_demands_16 rfl ⟨fun c215 => ?_, fun c215 => ?_⟩
    · have h := if_some_t c215 h
      refine r_aload_n C.1 0 29 rfl dX7_demands_28 rfl ?_
      refine r_iconst C.1 2 rfl 30 rfl dX7_demands_29 ?_
      obtain ⟨y217, κ218, e216, h⟩ := bd2_some h
      refine r_cVi C.1 (st := []) (c_X7_fail ha0 e216) yv_X7_fail ml_X7_91 rfl ha0 rfl ⟨Nat.le_of_ble_eq_true rfl, Nat.le_of_ble_eq_true rfl⟩ ⟨Nat.le_of_ble_eq_true rfl, Nat.le_of_ble_eq_true rfl⟩ (Nat.le_of_ble_eq_true rfl) rfl 0 0 rfl rfl 33 rfl dX7_demands_30 ?_
      cases h
      exact r_zret C rfl rfl (Nat.le_of_ble_eq_true rfl) (Nat.le_of_ble_eq_true rfl) dX7_demands_33 hq
    · have h := if_some_f c215 h
      refine r_aload_n C.1 0 20 rfl dX7_demands_19 rfl ?_
      refine r_iload_n C.1 1 21 rfl dX7_demands_20 rfl ?_
      refine r_iload_n C.1 3 22 rfl dX7_demands_21 rfl ?_
      obtain ⟨y220, e219, h⟩ := bd_some h
      refine r_cVi C.1 (st := []) (c_X7_isSleeve ha0 e219) yv_X7_isSleeve ml_X7_117 rfl ha0 rfl ⟨Nat.le_of_ble_eq_true rfl, Nat.le_of_ble_eq_true rfl⟩ ⟨Nat.le_of_ble_eq_true rfl, Nat.le_of_ble_eq_true rfl⟩ (Nat.le_of_ble_eq_true rfl) rfl 0 0 rfl rfl 25 rfl dX7_demands_22 ?_
      refine r_if_ne C.1 34 28 rfl dX7_demands_25 rfl ⟨fun c221 => ?_, fun c221 => ?_⟩
      · have h := if_some_f c221 h
        refine r_iload_n C.1 2 35 rfl dX7_demands_34 rfl ?_
        refine r_iload_n C.1 3 36 rfl dX7_demands_35 rfl ?_
        refine r_icmp_ne C.1 45 39 rfl dX7_demands_36 rfl ⟨fun c222 => ?_, fun c222 => ?_⟩
        · have h := if_some_f c222 h
          refine r_aload_n C.1 0 46 rfl dX7_demands_45 rfl ?_
          refine r_iload_n C.1 1 47 rfl dX7_demands_46 rfl ?_
          refine r_iload_n C.1 3 48 rfl dX7_demands_47 rfl ?_
          obtain ⟨y224, e223, h⟩ := bd_some h
          refine r_cVi C.1 (st := []) (c_X7_state ha0 e223) yv_X7_state ml_X7_85 rfl ha0 rfl ⟨Nat.le_of_ble_eq_true rfl, Nat.le_of_ble_eq_true rfl⟩ ⟨Nat.le_of_ble_eq_true rfl, Nat.le_of_ble_eq_true rfl⟩ (Nat.le_of_ble_eq_true rfl) rfl 0 0 rfl rfl 51 rfl dX7_demands_48 ?_
          refine r_iconst C.1 2 rfl 52 rfl dX7_demands_51 ?_
          refine r_icmp_ne C.1 69 55 rfl dX7_demands_52 rfl ⟨fun c225 => ?_, fun c225 => ?_⟩
          · have h := if_some_f c225 h
            exact w_X7_demands_69 C ha0 hq h
          · have h := if_some_t c225 h
            refine r_aload_n C.1 0 56 rfl dX7_demands_55 rfl ?_
            refine r_iload_n C.1 1 57 rfl dX7_demands_56 rfl ?_
            refine r_iload_n C.1 2 58 rfl dX7_demands_57 rfl ?_
            obtain ⟨y227, e226, h⟩ := bd_some h
            refine r_cVi C.1 (st := []) (c_X7_state ha0 e226) yv_X7_state ml_X7_85 rfl ha0 rfl ⟨Nat.le_of_ble_eq_true rfl, Nat.le_of_ble_eq_true rfl⟩ ⟨Nat.le_of_ble_eq_true rfl, Nat.le_of_ble_eq_true rfl⟩ (Nat.le_of_ble_eq_true rfl) rfl 0 0 rfl rfl 61 rfl dX7_demands_58 ?_
            refine r_iconst C.1 2 rfl 62 rfl dX7_demands_61 ?_
            refine r_icmp_eq C.1 69 65 rfl dX7_demands_62 rfl ⟨fun c228 => ?_, fun c228 => ?_⟩
            · have h := if_some_t c228 h
              exact w_X7_demands_69 C ha0 hq h
            · have h := if_some_f c228 h
              refine r_iconst C.1 1 rfl 66 rfl dX7_demands_65 ?_
              refine r_goto C.1 70 dX7_demands_66 rfl ?_
              exact w_X7_demands_70 C ha0 hq h
        · have h := if_some_t c222 h
          refine r_aload_n C.1 0 40 rfl dX7_demands_39 rfl ?_
          refine r_iconst C.1 3 rfl 41 rfl dX7_demands_40 ?_
          obtain ⟨y230, κ231, e229, h⟩ := bd2_some h
          refine r_cVi C.1 (st := []) (c_X7_fail ha0 e229) yv_X7_fail ml_X7_91 rfl ha0 rfl ⟨Nat.le_of_ble_eq_true rfl, Nat.le_of_ble_eq_true rfl⟩ ⟨Nat.le_of_ble_eq_true rfl, Nat.le_of_ble_eq_true rfl⟩ (Nat.le_of_ble_eq_true rfl) rfl 0 0 rfl rfl 44 rfl dX7_demands_41 ?_
          cases h
          exact r_zret C rfl rfl (Nat.le_of_ble_eq_true rfl) (Nat.le_of_ble_eq_true rfl) dX7_demands_44 hq
      · have h := if_some_t c221 h
        refine r_aload_n C.1 0 29 rfl dX7_demands_28 rfl ?_
        refine r_iconst C.1 2 rfl 30 rfl dX7_demands_29 ?_
        obtain ⟨y233, κ234, e232, h⟩ := bd2_some h
        refine r_cVi C.1 (st := []) (c_X7_fail ha0 e232) yv_X7_fail ml_X7_91 rfl ha0 rfl ⟨Nat.le_of_ble_eq_true rfl, Nat.le_of_ble_eq_true rfl⟩ ⟨Nat.le_of_ble_eq_true rfl, Nat.le_of_ble_eq_true rfl⟩ (Nat.le_of_ble_eq_true rfl) rfl 0 0 rfl rfl 33 rfl dX7_demands_30 ?_
        cases h
        exact r_zret C rfl rfl (Nat.le_of_ble_eq_true rfl) (Nat.le_of_ble_eq_true rfl) dX7_demands_33 hq
  · have h := if_some_f c212 h
    refine r_aload_n C.1 0 5 rfl dX7_demands_4 rfl ?_
    refine r_iconst C.1 1 rfl 6 rfl dX7_demands_5 ?_
    obtain ⟨y236, κ237, e235, h⟩ := bd2_some h
    refine r_cVi C.1 (st := []) (c_X7_fail ha0 e235) yv_X7_fail ml_X7_91 rfl ha0 rfl ⟨Nat.le_of_ble_eq_true rfl, Nat.le_of_ble_eq_true rfl⟩ ⟨Nat.le_of_ble_eq_true rfl, Nat.le_of_ble_eq_true rfl⟩ (Nat.le_of_ble_eq_true rfl) rfl 0 0 rfl rfl 9 rfl dX7_demands_6 ?_
    cases h
    exact r_zret C rfl rfl (Nat.le_of_ble_eq_true rfl) (Nat.le_of_ble_eq_true rfl) dX7_demands_9 hq
theorem c_X7_demands {l : Launch} {G : jG} {sh : jSh} {κ : jKt} {a0 : Nat} (ha0 : sh a0 = (1, 11, 22)) {x1 : Int32} {x2 : Int32} {x3 : Int32} {r : Int32} {κr : jKt} (h : P_X7_demands κ a0 x1 x2 x3 = some (r, κr)) : jM l G yX7_demands cX7_demands 6 (some .int) 4 0 0 84 [.ref a0, .int x1, .int x2, .int x3] (sh, κ) (jIs (some (.int r)) (sh, κr)) jNo :=
  r_body (by decide) (Nat.le_of_ble_eq_true rfl) fun F C hl hG hs ho hx => by
    subst hs
    exact w_X7_demands_0 C ha0 (by rw [ho]; exact ⟨rfl, rfl⟩) h
set_option maxRecDepth 20000 in
theorem w_X7_areAlike_0 {F : jFm} (C : jB F RX7 cX7_areAlike 2 (some .boolean) 0 0 0 0) {κ : jKt} {x0 : Int32} {x1 : Int32} {r : Int32} (hq : jOut F (some (.int r)) κ) (h : P_X7_areAlike κ x0 x1 = some r) : jW F 2 0 0 κ 0 [(0, .int x0), (1, .int x1)] [] := by
  unfold P_X7_areAlike at h
  refine r_iload_n C.1 0 1 rfl dX7_areAlike_0 rfl ?_
  refine r_iload_n C.1 1 2 rfl dX7_areAlike_1 rfl ?_
  refine r_isub C.1 3 rfl dX7_areAlike_2 ?_
  refine r_iconst C.1 1 rfl 4 rfl dX7_areAlike_3 ?_
  refine r_icmp_gt C.1 18 7 rfl dX7_areAlike_4 rfl ⟨fun c5 => ?_, fun c5 => ?_⟩
  · have h := if_some_t c5 h
    refine r_iconst C.1 0 rfl 19 rfl dX7_areAlike_18 ?_
    cases h
    exact r_zret C rfl rfl (Nat.le_of_ble_eq_true rfl) (Nat.le_of_ble_eq_true rfl) dX7_areAlike_19 hq
  · have h := if_some_f c5 h
    refine r_iload_n C.1 1 8 rfl dX7_areAlike_7 rfl ?_
    refine r_iload_n C.1 0 9 rfl dX7_areAlike_8 rfl ?_
    refine r_isub C.1 10 rfl dX7_areAlike_9 ?_
    refine r_iconst C.1 1 rfl 11 rfl dX7_areAlike_10 ?_
    refine r_icmp_gt C.1 18 14 rfl dX7_areAlike_11 rfl ⟨fun c6 => ?_, fun c6 => ?_⟩
    · have h := if_some_t c6 h
      refine r_iconst C.1 0 rfl 19 rfl dX7_areAlike_18 ?_
      cases h
      exact r_zret C rfl rfl (Nat.le_of_ble_eq_true rfl) (Nat.le_of_ble_eq_true rfl) dX7_areAlike_19 hq
    · have h := if_some_f c6 h
      refine r_iconst C.1 1 rfl 15 rfl dX7_areAlike_14 ?_
      refine r_goto C.1 19 dX7_areAlike_15 rfl ?_
      cases h
      exact r_zret C rfl rfl (Nat.le_of_ble_eq_true rfl) (Nat.le_of_ble_eq_true rfl) dX7_areAlike_19 hq
theorem c_X7_areAlike {l : Launch} {G : jG} {sh : jSh} {κ : jKt} {x0 : Int32} {x1 : Int32} {r : Int32} (h : P_X7_areAlike κ x0 x1 = some r) : jM l G yX7_areAlike cX7_areAlike 2 (some .boolean) 0 0 0 0 [.int x0, .int x1] (sh, κ) (jIs (some (.int r)) (sh, κ)) jNo :=
  r_body (by decide) (Nat.le_of_ble_eq_true rfl) fun F C hl hG hs ho hx => by
    subst hs
    exact w_X7_areAlike_0 C (by rw [ho]; exact ⟨rfl, rfl⟩) h
set_option maxRecDepth 20000 in
theorem w_X7_worth_15 {F : jFm} (C : jB F RX7 cX7_worth 4 (some .int) 3 0 0 64) {κ : jKt} {a0 : Nat} (ha0 : jSof F a0 = (1, 11, 22)) {v1 : Int32} {r : Int32} (hq : jOut F (some (.int r)) κ) : ∀ (n : Nat) (v2 : Int32) (v3 : Int32), P_X7_worth_15 κ a0 v1 n v2 v3 = some r → jW F 4 0 0 κ 15 [(0, .ref a0), (1, .int v1), (2, .int v2), (3, .int v3)] [] := by
  intro n
  induction n with
  | zero => intro v2 v3 h; cases h
  | succ n ih =>
    intro v2 v3 h
    rw [P_X7_worth_15] at h
    refine r_iload_n C.1 3 16 rfl dX7_worth_15 rfl ?_
    refine r_aload_n C.1 0 17 rfl dX7_worth_16 rfl ?_
    refine r_iload_n C.1 1 18 rfl dX7_worth_17 rfl ?_
    obtain ⟨y34, e33, h⟩ := bd_some h
    refine r_cVi C.1 (st := [.int v3]) (c_X7_sleeves ha0 e33) yv_X7_sleeves ml_X7_79 rfl ha0 rfl ⟨Nat.le_of_ble_eq_true rfl, Nat.le_of_ble_eq_true rfl⟩ ⟨Nat.le_of_ble_eq_true rfl, Nat.le_of_ble_eq_true rfl⟩ (Nat.le_of_ble_eq_true rfl) rfl 0 0 rfl rfl 21 rfl dX7_worth_18 ?_
    refine r_icmp_ge C.1 57 24 rfl dX7_worth_21 rfl ⟨fun c35 => ?_, fun c35 => ?_⟩
    · have h := if_some_t c35 h
      refine r_iload_n C.1 2 58 rfl dX7_worth_57 rfl ?_
      cases h
      exact r_zret C rfl rfl (Nat.le_of_ble_eq_true rfl) (Nat.le_of_ble_eq_true rfl) dX7_worth_58 hq
    · have h := if_some_f c35 h
      refine r_iload_n C.1 2 25 rfl dX7_worth_24 rfl ?_
      refine r_aload_n C.1 0 26 rfl dX7_worth_25 rfl ?_
      refine r_iload_n C.1 1 27 rfl dX7_worth_26 rfl ?_
      refine r_iload_n C.1 3 28 rfl dX7_worth_27 rfl ?_
      obtain ⟨y37, e36, h⟩ := bd_some h
      refine r_cVi C.1 (st := [.int v2]) (c_X7_state ha0 e36) yv_X7_state ml_X7_85 rfl ha0 rfl ⟨Nat.le_of_ble_eq_true rfl, Nat.le_of_ble_eq_true rfl⟩ ⟨Nat.le_of_ble_eq_true rfl, Nat.le_of_ble_eq_true rfl⟩ (Nat.le_of_ble_eq_true rfl) rfl 0 0 rfl rfl 31 rfl dX7_worth_28 ?_
      refine r_if_ne C.1 43 34 rfl dX7_worth_31 rfl ⟨fun c38 => ?_, fun c38 => ?_⟩
      · have h := if_some_f c38 h
        refine r_aload_n C.1 0 44 rfl dX7_worth_43 rfl ?_
        refine r_iload_n C.1 1 45 rfl dX7_worth_44 rfl ?_
        refine r_iload_n C.1 3 46 rfl dX7_worth_45 rfl ?_
        obtain ⟨y40, e39, h⟩ := bd_some h
        refine r_cVi C.1 (st := [.int v2]) (c_X7_own ha0 e39) yv_X7_own ml_X7_141 rfl ha0 rfl ⟨Nat.le_of_ble_eq_true rfl, Nat.le_of_ble_eq_true rfl⟩ ⟨Nat.le_of_ble_eq_true rfl, Nat.le_of_ble_eq_true rfl⟩ (Nat.le_of_ble_eq_true rfl) rfl 0 0 rfl rfl 49 rfl dX7_worth_46 ?_
        refine r_iadd C.1 50 rfl dX7_worth_49 ?_
        refine r_istore_n C.1 (lv' := [(0, .ref a0), (1, .int v1), (2, .int (v2 + y40)), (3, .int v3)]) [1, 2, 0, 3] 51 rfl dX7_worth_50 (Nat.le_of_ble_eq_true rfl) rfl ?_
        refine r_iinc C.1 (lv' := [(0, .ref a0), (1, .int v1), (2, .int (v2 + y40)), (3, .int (v3 + 1))]) 3 [1, 2, 3, 0] 54 rfl dX7_worth_51 rfl (Nat.le_of_ble_eq_true rfl) rfl rfl ?_
        refine r_goto C.1 15 dX7_worth_54 rfl ?_
        exact ih (v2 + y40) (v3 + 1) h
      · have h := if_some_t c38 h
        refine r_aload_n C.1 0 35 rfl dX7_worth_34 rfl ?_
        refine r_iload_n C.1 1 36 rfl dX7_worth_35 rfl ?_
        refine r_iload_n C.1 3 37 rfl dX7_worth_36 rfl ?_
        obtain ⟨y42, e41, h⟩ := bd_some h
        refine r_cVi C.1 (st := [.int v2]) (c_X7_wanted ha0 e41) yv_X7_wanted ml_X7_120 rfl ha0 rfl ⟨Nat.le_of_ble_eq_true rfl, Nat.le_of_ble_eq_true rfl⟩ ⟨Nat.le_of_ble_eq_true rfl, Nat.le_of_ble_eq_true rfl⟩ (Nat.le_of_ble_eq_true rfl) rfl 0 0 rfl rfl 40 rfl dX7_worth_37 ?_
        refine r_goto C.1 49 dX7_worth_40 rfl ?_
        refine r_iadd C.1 50 rfl dX7_worth_49 ?_
        refine r_istore_n C.1 (lv' := [(0, .ref a0), (1, .int v1), (2, .int (v2 + y42)), (3, .int v3)]) [1, 2, 0, 3] 51 rfl dX7_worth_50 (Nat.le_of_ble_eq_true rfl) rfl ?_
        refine r_iinc C.1 (lv' := [(0, .ref a0), (1, .int v1), (2, .int (v2 + y42)), (3, .int (v3 + 1))]) 3 [1, 2, 3, 0] 54 rfl dX7_worth_51 rfl (Nat.le_of_ble_eq_true rfl) rfl rfl ?_
        refine r_goto C.1 15 dX7_worth_54 rfl ?_
        exact ih (v2 + y42) (v3 + 1) h
set_option maxRecDepth 20000 in
theorem w_X7_worth_0 {F : jFm} (C : jB F RX7 cX7_worth 4 (some .int) 3 0 0 64) {κ : jKt} {a0 : Nat} (ha0 : jSof F a0 = (1, 11, 22)) {x1 : Int32} {r : Int32} (hq : jOut F (some (.int r)) κ) (h : P_X7_worth κ a0 x1 = some r) : jW F 4 0 0 κ 0 [(0, .ref a0), (1, .int x1)] [] := by
  unfold P_X7_worth at h
  refine r_iconst C.1 3 rfl 1 rfl dX7_worth_0 ?_
  refine r_aload_n C.1 0 2 rfl dX7_worth_1 rfl ?_
  refine r_getR C.1 5 fl_X7_16 rfl ha0 5 rfl dX7_worth_2 (fun (h43 : jSof F (kR κ a0 5) = (2, 0, 457)) => ?_)
  refine r_iload_n C.1 1 6 rfl dX7_worth_5 rfl ?_
  refine r_iconst C.1 3 rfl 7 rfl dX7_worth_6 ?_
  obtain ⟨y45, e44, h⟩ := bd_some h
  refine r_cSi C.1 (st := [.ref (kR κ a0 5), .int 3]) (c_X7_of e44) yv_X7_of ml_X7_75 rfl ⟨Nat.le_of_ble_eq_true rfl, Nat.le_of_ble_eq_true rfl⟩ ⟨Nat.le_of_ble_eq_true rfl, Nat.le_of_ble_eq_true rfl⟩ (Nat.le_of_ble_eq_true rfl) rfl 0 0 rfl rfl 10 rfl dX7_worth_7 ?_
  obtain ⟨i46, h⟩ := ck_some h
  refine r_iald C.1 h43 i46 11 rfl dX7_worth_10 ?_
  refine r_imul C.1 12 rfl dX7_worth_11 ?_
  obtain ⟨y47, e48, h⟩ := bnd_some h
  refine r_top e48 ?_
  refine r_istore_n C.1 (lv' := [(0, .ref a0), (1, .int x1), (2, .int y47)]) [1, 2, 0] 13 rfl dX7_worth_12 (Nat.le_of_ble_eq_true rfl) rfl ?_
  refine r_iconst C.1 0 rfl 14 rfl dX7_worth_13 ?_
  refine r_istore_n C.1 (lv' := [(0, .ref a0), (1, .int x1), (2, .int y47), (3, .int 0)]) [1, 2, 3, 0] 15 rfl dX7_worth_14 (Nat.le_of_ble_eq_true rfl) rfl ?_
  exact w_X7_worth_15 C ha0 hq 4000 y47 0 h
theorem c_X7_worth {l : Launch} {G : jG} {sh : jSh} {κ : jKt} {a0 : Nat} (ha0 : sh a0 = (1, 11, 22)) {x1 : Int32} {r : Int32} (h : P_X7_worth κ a0 x1 = some r) : jM l G yX7_worth cX7_worth 4 (some .int) 3 0 0 64 [.ref a0, .int x1] (sh, κ) (jIs (some (.int r)) (sh, κ)) jNo :=
  r_body (by decide) (Nat.le_of_ble_eq_true rfl) fun F C hl hG hs ho hx => by
    subst hs
    exact w_X7_worth_0 C ha0 (by rw [ho]; exact ⟨rfl, rfl⟩) h
set_option maxRecDepth 20000 in
theorem w_X7_cloth_4 {F : jFm} (C : jB F RX7 cX7_cloth 4 (some .int) 3 0 0 62) {κ : jKt} {a0 : Nat} (ha0 : jSof F a0 = (1, 11, 22)) {v1 : Int32} {r : Int32} (hq : jOut F (some (.int r)) κ) : ∀ (n : Nat) (v2 : Int32) (v3 : Int32), P_X7_cloth_4 κ a0 v1 n v2 v3 = some r → jW F 4 0 0 κ 4 [(0, .ref a0), (1, .int v1), (2, .int v2), (3, .int v3)] [] := by
  intro n
  induction n with
  | zero => intro v2 v3 h; cases h
  | succ n ih =>
    intro v2 v3 h
    rw [P_X7_cloth_4] at h
    refine r_iload_n C.1 3 5 rfl dX7_cloth_4 rfl ?_
    refine r_aload_n C.1 0 6 rfl dX7_cloth_5 rfl ?_
    refine r_iload_n C.1 1 7 rfl dX7_cloth_6 rfl ?_
    obtain ⟨y18, e17, h⟩ := bd_some h
    refine r_cVi C.1 (st := [.int v3]) (c_X7_sleeves ha0 e17) yv_X7_sleeves ml_X7_79 rfl ha0 rfl ⟨Nat.le_of_ble_eq_true rfl, Nat.le_of_ble_eq_true rfl⟩ ⟨Nat.le_of_ble_eq_true rfl, Nat.le_of_ble_eq_true rfl⟩ (Nat.le_of_ble_eq_true rfl) rfl 0 0 rfl rfl 10 rfl dX7_cloth_7 ?_
    refine r_icmp_ge C.1 43 13 rfl dX7_cloth_10 rfl ⟨fun c19 => ?_, fun c19 => ?_⟩
    · have h := if_some_t c19 h
      refine r_iload_n C.1 2 44 rfl dX7_cloth_43 rfl ?_
      cases h
      exact r_zret C rfl rfl (Nat.le_of_ble_eq_true rfl) (Nat.le_of_ble_eq_true rfl) dX7_cloth_44 hq
    · have h := if_some_f c19 h
      refine r_iload_n C.1 2 14 rfl dX7_cloth_13 rfl ?_
      refine r_aload_n C.1 0 15 rfl dX7_cloth_14 rfl ?_
      refine r_iload_n C.1 1 16 rfl dX7_cloth_15 rfl ?_
      refine r_iload_n C.1 3 17 rfl dX7_cloth_16 rfl ?_
      obtain ⟨y21, e20, h⟩ := bd_some h
      refine r_cVi C.1 (st := [.int v2]) (c_X7_state ha0 e20) yv_X7_state ml_X7_85 rfl ha0 rfl ⟨Nat.le_of_ble_eq_true rfl, Nat.le_of_ble_eq_true rfl⟩ ⟨Nat.le_of_ble_eq_true rfl, Nat.le_of_ble_eq_true rfl⟩ (Nat.le_of_ble_eq_true rfl) rfl 0 0 rfl rfl 20 rfl dX7_cloth_17 ?_
      refine r_if_ne C.1 27 23 rfl dX7_cloth_20 rfl ⟨fun c22 => ?_, fun c22 => ?_⟩
      · have h := if_some_f c22 h
        refine r_aload_n C.1 0 28 rfl dX7_cloth_27 rfl ?_
        refine r_iload_n C.1 1 29 rfl dX7_cloth_28 rfl ?_
        refine r_iload_n C.1 3 30 rfl dX7_cloth_29 rfl ?_
        obtain ⟨y24, e23, h⟩ := bd_some h
        refine r_cVi C.1 (st := [.int v2]) (c_X7_own ha0 e23) yv_X7_own ml_X7_141 rfl ha0 rfl ⟨Nat.le_of_ble_eq_true rfl, Nat.le_of_ble_eq_true rfl⟩ ⟨Nat.le_of_ble_eq_true rfl, Nat.le_of_ble_eq_true rfl⟩ (Nat.le_of_ble_eq_true rfl) rfl 0 0 rfl rfl 33 rfl dX7_cloth_30 ?_
        refine r_iconst C.1 2 rfl 34 rfl dX7_cloth_33 ?_
        refine r_iadd C.1 35 rfl dX7_cloth_34 ?_
        refine r_iadd C.1 36 rfl dX7_cloth_35 ?_
        refine r_istore_n C.1 (lv' := [(0, .ref a0), (1, .int v1), (2, .int (v2 + (y24 + 2))), (3, .int v3)]) [1, 2, 0, 3] 37 rfl dX7_cloth_36 (Nat.le_of_ble_eq_true rfl) rfl ?_
        refine r_iinc C.1 (lv' := [(0, .ref a0), (1, .int v1), (2, .int (v2 + (y24 + 2))), (3, .int (v3 + 1))]) 3 [1, 2, 3, 0] 40 rfl dX7_cloth_37 rfl (Nat.le_of_ble_eq_true rfl) rfl rfl ?_
        refine r_goto C.1 4 dX7_cloth_40 rfl ?_
        exact ih (v2 + (y24 + 2)) (v3 + 1) h
      · have h := if_some_t c22 h
        refine r_iconst C.1 0 rfl 24 rfl dX7_cloth_23 ?_
        refine r_goto C.1 35 dX7_cloth_24 rfl ?_
        refine r_iadd C.1 36 rfl dX7_cloth_35 ?_
        refine r_istore_n C.1 (lv' := [(0, .ref a0), (1, .int v1), (2, .int (v2 + 0)), (3, .int v3)]) [1, 2, 0, 3] 37 rfl dX7_cloth_36 (Nat.le_of_ble_eq_true rfl) rfl ?_
        refine r_iinc C.1 (lv' := [(0, .ref a0), (1, .int v1), (2, .int (v2 + 0)), (3, .int (v3 + 1))]) 3 [1, 2, 3, 0] 40 rfl dX7_cloth_37 rfl (Nat.le_of_ble_eq_true rfl) rfl rfl ?_
        refine r_goto C.1 4 dX7_cloth_40 rfl ?_
        exact ih (v2 + 0) (v3 + 1) h
set_option maxRecDepth 20000 in
theorem w_X7_cloth_0 {F : jFm} (C : jB F RX7 cX7_cloth 4 (some .int) 3 0 0 62) {κ : jKt} {a0 : Nat} (ha0 : jSof F a0 = (1, 11, 22)) {x1 : Int32} {r : Int32} (hq : jOut F (some (.int r)) κ) (h : P_X7_cloth κ a0 x1 = some r) : jW F 4 0 0 κ 0 [(0, .ref a0), (1, .int x1)] [] := by
  unfold P_X7_cloth at h
  refine r_iconst C.1 0 rfl 1 rfl dX7_cloth_0 ?_
  refine r_istore_n C.1 (lv' := [(0, .ref a0), (1, .int x1), (2, .int 0)]) [1, 2, 0] 2 rfl dX7_cloth_1 (Nat.le_of_ble_eq_true rfl) rfl ?_
  refine r_iconst C.1 0 rfl 3 rfl dX7_cloth_2 ?_
  refine r_istore_n C.1 (lv' := [(0, .ref a0), (1, .int x1), (2, .int 0), (3, .int 0)]) [1, 2, 3, 0] 4 rfl dX7_cloth_3 (Nat.le_of_ble_eq_true rfl) rfl ?_
  exact w_X7_cloth_4 C ha0 hq 4000 0 0 h
theorem c_X7_cloth {l : Launch} {G : jG} {sh : jSh} {κ : jKt} {a0 : Nat} (ha0 : sh a0 = (1, 11, 22)) {x1 : Int32} {r : Int32} (h : P_X7_cloth κ a0 x1 = some r) : jM l G yX7_cloth cX7_cloth 4 (some .int) 3 0 0 62 [.ref a0, .int x1] (sh, κ) (jIs (some (.int r)) (sh, κ)) jNo :=
  r_body (by decide) (Nat.le_of_ble_eq_true rfl) fun F C hl hG hs ho hx => by
    subst hs
    exact w_X7_cloth_0 C ha0 (by rw [ho]; exact ⟨rfl, rfl⟩) h
set_option maxRecDepth 20000 in
theorem w_X7_goes_6 {F : jFm} (C : jB F RX7 cX7_goes 3 none 1 0 0 21) {a0 : Nat} (ha0 : jSof F a0 = (1, 11, 22)) {r : jKt} (hq : jOut F none r) : ∀ (n : Nat) (κ : jKt) (v2 : Int32), P_X7_goes_6 a0 n κ v2 = some r → jW F 3 0 0 κ 6 [(0, .ref a0), (2, .int v2)] [] := by
  intro n
  induction n with
  | zero => intro κ v2 h; cases h
  | succ n ih =>
    intro κ v2 h
    rw [P_X7_goes_6] at h
    refine r_iload_n C.1 1 7 rfl dX7_goes_6 rfl ?_
    refine r_sipush C.1 457 rfl 10 rfl dX7_goes_7 ?_
    refine r_icmp_ge C.1 48 13 rfl dX7_goes_10 rfl ⟨fun c33 => ?_, fun c33 => ?_⟩
    · have h := if_some_t c33 h
      refine r_aload_n C.1 0 49 rfl dX7_goes_48 rfl ?_
      refine r_getR C.1 5 fl_X7_16 rfl ha0 52 rfl dX7_goes_49 (fun (h34 : jSof F (kR κ a0 5) = (2, 0, 457)) => ?_)
      refine r_iconst C.1 1 rfl 53 rfl dX7_goes_52 ?_
      refine r_dup2 C.1 rfl rfl 54 rfl dX7_goes_53 ?_
      refine r_iald C.1 h34 (by decide) 55 rfl dX7_goes_54 ?_
      refine r_iconst C.1 1 rfl 56 rfl dX7_goes_55 ?_
      refine r_isub C.1 57 rfl dX7_goes_56 ?_
      obtain ⟨κ35, e36, h⟩ := bnd_some h
      refine r_iast C.1 h34 (by decide) e36 58 rfl dX7_goes_57 ?_
      cases h
      exact r_vret C rfl (Nat.le_of_ble_eq_true rfl) (Nat.le_of_ble_eq_true rfl) dX7_goes_58 hq
    · have h := if_some_f c33 h
      refine r_aload_n C.1 0 14 rfl dX7_goes_13 rfl ?_
      refine r_getR C.1 5 fl_X7_16 rfl ha0 17 rfl dX7_goes_14 (fun (h37 : jSof F (kR κ a0 5) = (2, 0, 457)) => ?_)
      refine r_iload_n C.1 1 18 rfl dX7_goes_17 rfl ?_
      refine r_iload_n C.1 1 19 rfl dX7_goes_18 rfl ?_
      refine r_bipush C.1 60 rfl 21 rfl dX7_goes_19 ?_
      refine r_iadd C.1 22 rfl dX7_goes_21 ?_
      refine r_sipush C.1 457 rfl 25 rfl dX7_goes_22 ?_
      refine r_icmp_ge C.1 40 28 rfl dX7_goes_25 rfl ⟨fun c38 => ?_, fun c38 => ?_⟩
      · have h := if_some_t c38 h
        refine r_iconst C.1 0 rfl 41 rfl dX7_goes_40 ?_
        obtain ⟨i39, h⟩ := ck_some h
        obtain ⟨κ40, e41, h⟩ := bnd_some h
        refine r_iast C.1 h37 i39 e41 42 rfl dX7_goes_41 ?_
        refine r_iinc C.1 (lv' := [(0, .ref a0), (2, .int (v2 + 1))]) 1 [1, 0] 45 rfl dX7_goes_42 rfl (Nat.le_of_ble_eq_true rfl) rfl rfl ?_
        refine r_goto C.1 6 dX7_goes_45 rfl ?_
        exact ih κ40 (v2 + 1) h
      · have h := if_some_f c38 h
        refine r_aload_n C.1 0 29 rfl dX7_goes_28 rfl ?_
        refine r_getR C.1 5 fl_X7_16 rfl ha0 32 rfl dX7_goes_29 (fun (h42 : jSof F (kR κ a0 5) = (2, 0, 457)) => ?_)
        refine r_iload_n C.1 1 33 rfl dX7_goes_32 rfl ?_
        refine r_bipush C.1 60 rfl 35 rfl dX7_goes_33 ?_
        refine r_iadd C.1 36 rfl dX7_goes_35 ?_
        obtain ⟨i43, h⟩ := ck_some h
        refine r_iald C.1 h42 i43 37 rfl dX7_goes_36 ?_
        refine r_goto C.1 41 dX7_goes_37 rfl ?_
        obtain ⟨i44, h⟩ := ck_some h
        obtain ⟨κ45, e46, h⟩ := bnd_some h
        refine r_iast C.1 h37 i44 e46 42 rfl dX7_goes_41 ?_
        refine r_iinc C.1 (lv' := [(0, .ref a0), (2, .int (v2 + 1))]) 1 [1, 0] 45 rfl dX7_goes_42 rfl (Nat.le_of_ble_eq_true rfl) rfl rfl ?_
        refine r_goto C.1 6 dX7_goes_45 rfl ?_
        exact ih κ45 (v2 + 1) h
set_option maxRecDepth 20000 in
theorem w_X7_goes_0 {F : jFm} (C : jB F RX7 cX7_goes 3 none 1 0 0 21) {κ : jKt} {a0 : Nat} (ha0 : jSof F a0 = (1, 11, 22)) {x1 : Int32} {r : jKt} (hq : jOut F none r) (h : P_X7_goes κ a0 x1 = some r) : jW F 3 0 0 κ 0 [(0, .ref a0), (1, .int x1)] [] := by
  unfold P_X7_goes at h
  refine r_iload_n C.1 1 1 rfl dX7_goes_0 rfl ?_
  refine r_iconst C.1 0 rfl 2 rfl dX7_goes_1 ?_
  obtain ⟨y48, e47, h⟩ := bd_some h
  refine r_cSi C.1 (st := []) (c_X7_of e47) yv_X7_of ml_X7_75 rfl ⟨Nat.le_of_ble_eq_true rfl, Nat.le_of_ble_eq_true rfl⟩ ⟨Nat.le_of_ble_eq_true rfl, Nat.le_of_ble_eq_true rfl⟩ (Nat.le_of_ble_eq_true rfl) rfl 0 0 rfl rfl 5 rfl dX7_goes_2 ?_
  refine r_istore_n C.1 (lv' := [(0, .ref a0), (1, .int x1), (2, .int y48)]) [1, 2, 0] 6 rfl dX7_goes_5 (Nat.le_of_ble_eq_true rfl) rfl ?_
  refine r_lv [0, 2] rfl ?_
  exact w_X7_goes_6 C ha0 hq 4000 κ y48 h
theorem c_X7_goes {l : Launch} {G : jG} {sh : jSh} {κ : jKt} {a0 : Nat} (ha0 : sh a0 = (1, 11, 22)) {x1 : Int32}  {κr : jKt} (h : P_X7_goes κ a0 x1 = some κr) : jM l G yX7_goes cX7_goes 3 none 1 0 0 21 [.ref a0, .int x1] (sh, κ) (jIs none (sh, κr)) jNo :=
  r_body (by decide) (Nat.le_of_ble_eq_true rfl) fun F C hl hG hs ho hx => by
    subst hs
    exact w_X7_goes_0 C ha0 (by rw [ho]; exact ⟨rfl, rfl⟩) h
set_option maxRecDepth 20000 in
theorem w_X7_scraps_0 {F : jFm} (C : jB F RX7 cX7_scraps 3 (some .int) 4 0 0 85) {κ : jKt} {a0 : Nat} (ha0 : jSof F a0 = (1, 11, 22)) {x1 : Int32} {r : Int32 × jKt} (hq : jOut F (some (.int r.1)) r.2) (h : P_X7_scraps κ a0 x1 = some r) : jW F 3 0 0 κ 0 [(0, .ref a0), (1, .int x1)] [] := by
  unfold P_X7_scraps at h
  refine r_iload_n C.1 1 1 rfl dX7_scraps_0 rfl ?_
  refine r_if_ge C.1 10 4 rfl dX7_scraps_1 rfl ⟨fun c23 => ?_, fun c23 => ?_⟩
  · have h := if_some_t c23 h
    refine r_aload_n C.1 0 11 rfl dX7_scraps_10 rfl ?_
    refine r_iload_n C.1 1 12 rfl dX7_scraps_11 rfl ?_
    obtain ⟨y25, e24, h⟩ := bd_some h
    refine r_cVi C.1 (st := []) (c_X7_cloth ha0 e24) yv_X7_cloth ml_X7_165 rfl ha0 rfl ⟨Nat.le_of_ble_eq_true rfl, Nat.le_of_ble_eq_true rfl⟩ ⟨Nat.le_of_ble_eq_true rfl, Nat.le_of_ble_eq_true rfl⟩ (Nat.le_of_ble_eq_true rfl) rfl 0 0 rfl rfl 15 rfl dX7_scraps_12 ?_
    refine r_istore_n C.1 (lv' := [(0, .ref a0), (1, .int x1), (2, .int y25)]) [1, 2, 0] 16 rfl dX7_scraps_15 (Nat.le_of_ble_eq_true rfl) rfl ?_
    refine r_aload_n C.1 0 17 rfl dX7_scraps_16 rfl ?_
    refine r_getR C.1 5 fl_X7_16 rfl ha0 20 rfl dX7_scraps_17 (fun (h26 : jSof F (kR κ a0 5) = (2, 0, 457)) => ?_)
    refine r_iconst C.1 4 rfl 21 rfl dX7_scraps_20 ?_
    refine r_dup2 C.1 rfl rfl 22 rfl dX7_scraps_21 ?_
    refine r_iald C.1 h26 (by decide) 23 rfl dX7_scraps_22 ?_
    refine r_iload_n C.1 2 24 rfl dX7_scraps_23 rfl ?_
    refine r_iadd C.1 25 rfl dX7_scraps_24 ?_
    obtain ⟨κ27, e28, h⟩ := bnd_some h
    refine r_iast C.1 h26 (by decide) e28 26 rfl dX7_scraps_25 ?_
    refine r_aload_n C.1 0 27 rfl dX7_scraps_26 rfl ?_
    refine r_iload_n C.1 1 28 rfl dX7_scraps_27 rfl ?_
    obtain ⟨κ30, e29, h⟩ := bd_some h
    refine r_cVv C.1 (st := []) (c_X7_goes ha0 e29) yv_X7_goes ml_X7_168 rfl ha0 rfl ⟨Nat.le_of_ble_eq_true rfl, Nat.le_of_ble_eq_true rfl⟩ ⟨Nat.le_of_ble_eq_true rfl, Nat.le_of_ble_eq_true rfl⟩ (Nat.le_of_ble_eq_true rfl) rfl 0 0 rfl rfl 31 rfl dX7_scraps_28 ?_
    refine r_iload_n C.1 2 32 rfl dX7_scraps_31 rfl ?_
    cases h
    exact r_zret C rfl rfl (Nat.le_of_ble_eq_true rfl) (Nat.le_of_ble_eq_true rfl) dX7_scraps_32 hq
  · have h := if_some_f c23 h
    refine r_aload_n C.1 0 5 rfl dX7_scraps_4 rfl ?_
    refine r_iconst C.1 1 rfl 6 rfl dX7_scraps_5 ?_
    obtain ⟨y32, κ33, e31, h⟩ := bd2_some h
    refine r_cVi C.1 (st := []) (c_X7_fail ha0 e31) yv_X7_fail ml_X7_91 rfl ha0 rfl ⟨Nat.le_of_ble_eq_true rfl, Nat.le_of_ble_eq_true rfl⟩ ⟨Nat.le_of_ble_eq_true rfl, Nat.le_of_ble_eq_true rfl⟩ (Nat.le_of_ble_eq_true rfl) rfl 0 0 rfl rfl 9 rfl dX7_scraps_6 ?_
    cases h
    exact r_zret C rfl rfl (Nat.le_of_ble_eq_true rfl) (Nat.le_of_ble_eq_true rfl) dX7_scraps_9 hq
theorem c_X7_scraps {l : Launch} {G : jG} {sh : jSh} {κ : jKt} {a0 : Nat} (ha0 : sh a0 = (1, 11, 22)) {x1 : Int32} {r : Int32} {κr : jKt} (h : P_X7_scraps κ a0 x1 = some (r, κr)) : jM l G yX7_scraps cX7_scraps 3 (some .int) 4 0 0 85 [.ref a0, .int x1] (sh, κ) (jIs (some (.int r)) (sh, κr)) jNo :=
  r_body (by decide) (Nat.le_of_ble_eq_true rfl) fun F C hl hG hs ho hx => by
    subst hs
    exact w_X7_scraps_0 C ha0 (by rw [ho]; exact ⟨rfl, rfl⟩) h
set_option maxRecDepth 20000 in
theorem w_X7_stock_13 {F : jFm} (C : jB F RX7 cX7_stock 2 (some .int) 2 0 0 42) {κ : jKt} {a0 : Nat} (ha0 : jSof F a0 = (1, 11, 22)) {v1 : Int32} {s0 : Int32} {a1 : Nat} (ha1 : jSof F a1 = (1, 11, 22)) {r : Int32 × jKt} (hq : jOut F (some (.int r.1)) r.2) (h : P_X7_stock_13 κ a0 v1 s0 a1 = some r) : jW F 2 0 0 κ 13 [(0, .ref a0), (1, .int v1)] [.int s0, .ref a1] := by
  unfold P_X7_stock_13 at h
  obtain ⟨κ17, e18, h⟩ := bnd_some h
  refine r_putI C.1 0 fw_X7_50 rfl rfl rfl ha1 e18 16 rfl dX7_stock_13 ?_
  refine r_aload_n C.1 0 17 rfl dX7_stock_16 rfl ?_
  refine r_getI C.1 0 fl_X7_50 rfl ha0 20 rfl dX7_stock_17 ?_
  refine r_if_ne C.1 35 23 rfl dX7_stock_20 rfl ⟨fun c19 => ?_, fun c19 => ?_⟩
  · have h := if_some_f c19 h
    refine r_iconst C.1 0 rfl 36 rfl dX7_stock_35 ?_
    cases h
    exact r_zret C rfl rfl (Nat.le_of_ble_eq_true rfl) (Nat.le_of_ble_eq_true rfl) dX7_stock_36 hq
  · have h := if_some_t c19 h
    refine r_aload_n C.1 0 24 rfl dX7_stock_23 rfl ?_
    refine r_getR C.1 5 fl_X7_16 rfl ha0 27 rfl dX7_stock_24 (fun (h20 : jSof F (kR κ17 a0 5) = (2, 0, 457)) => ?_)
    refine r_bipush C.1 8 rfl 29 rfl dX7_stock_27 ?_
    refine r_iload_n C.1 1 30 rfl dX7_stock_29 rfl ?_
    refine r_iadd C.1 31 rfl dX7_stock_30 ?_
    obtain ⟨i21, h⟩ := ck_some h
    refine r_iald C.1 h20 i21 32 rfl dX7_stock_31 ?_
    refine r_goto C.1 36 dX7_stock_32 rfl ?_
    cases h
    exact r_zret C rfl rfl (Nat.le_of_ble_eq_true rfl) (Nat.le_of_ble_eq_true rfl) dX7_stock_36 hq
set_option maxRecDepth 20000 in
theorem w_X7_stock_0 {F : jFm} (C : jB F RX7 cX7_stock 2 (some .int) 2 0 0 42) {κ : jKt} {a0 : Nat} (ha0 : jSof F a0 = (1, 11, 22)) {x1 : Int32} {r : Int32 × jKt} (hq : jOut F (some (.int r.1)) r.2) (h : P_X7_stock κ a0 x1 = some r) : jW F 2 0 0 κ 0 [(0, .ref a0), (1, .int x1)] [] := by
  unfold P_X7_stock at h
  refine r_aload_n C.1 0 1 rfl dX7_stock_0 rfl ?_
  refine r_iload_n C.1 1 2 rfl dX7_stock_1 rfl ?_
  obtain ⟨y23, e22, h⟩ := bd_some h
  refine r_cSi C.1 (st := [.ref a0]) (c_X7_isCloth e22) yv_X7_isCloth ml_X7_88 rfl ⟨Nat.le_of_ble_eq_true rfl, Nat.le_of_ble_eq_true rfl⟩ ⟨Nat.le_of_ble_eq_true rfl, Nat.le_of_ble_eq_true rfl⟩ (Nat.le_of_ble_eq_true rfl) rfl 0 0 rfl rfl 5 rfl dX7_stock_2 ?_
  refine r_if_eq C.1 12 8 rfl dX7_stock_5 rfl ⟨fun c24 => ?_, fun c24 => ?_⟩
  · have h := if_some_t c24 h
    refine r_iconst C.1 1 rfl 13 rfl dX7_stock_12 ?_
    exact w_X7_stock_13 C ha0 ha0 hq h
  · have h := if_some_f c24 h
    refine r_iconst C.1 0 rfl 9 rfl dX7_stock_8 ?_
    refine r_goto C.1 13 dX7_stock_9 rfl ?_
    exact w_X7_stock_13 C ha0 ha0 hq h
theorem c_X7_stock {l : Launch} {G : jG} {sh : jSh} {κ : jKt} {a0 : Nat} (ha0 : sh a0 = (1, 11, 22)) {x1 : Int32} {r : Int32} {κr : jKt} (h : P_X7_stock κ a0 x1 = some (r, κr)) : jM l G yX7_stock cX7_stock 2 (some .int) 2 0 0 42 [.ref a0, .int x1] (sh, κ) (jIs (some (.int r)) (sh, κr)) jNo :=
  r_body (by decide) (Nat.le_of_ble_eq_true rfl) fun F C hl hG hs ho hx => by
    subst hs
    exact w_X7_stock_0 C ha0 (by rw [ho]; exact ⟨rfl, rfl⟩) h
set_option maxRecDepth 20000 in
theorem w_X7_tells_0 {F : jFm} (C : jB F RX7 cX7_tells 2 (some .int) 0 0 0 0) {κ : jKt} {a0 : Nat} (ha0 : jSof F a0 = (1, 11, 22)) {x1 : Int32} {r : Int32 × jKt} (hq : jOut F (some (.int r.1)) r.2) (h : P_X7_tells κ a0 x1 = some r) : jW F 2 0 0 κ 0 [(0, .ref a0), (1, .int x1)] [] := by
  unfold P_X7_tells at h
  refine r_aload_n C.1 0 1 rfl dX7_tells_0 rfl ?_
  refine r_iconst C.1 0 rfl 2 rfl dX7_tells_1 ?_
  obtain ⟨κ9, e10, h⟩ := bnd_some h
  refine r_putI C.1 0 fw_X7_50 rfl rfl rfl ha0 e10 5 rfl dX7_tells_2 ?_
  refine r_aload_n C.1 0 6 rfl dX7_tells_5 rfl ?_
  refine r_getR C.1 5 fl_X7_16 rfl ha0 9 rfl dX7_tells_6 (fun (h11 : jSof F (kR κ9 a0 5) = (2, 0, 457)) => ?_)
  refine r_iload_n C.1 1 10 rfl dX7_tells_9 rfl ?_
  obtain ⟨i12, h⟩ := ck_some h
  refine r_iald C.1 h11 i12 11 rfl dX7_tells_10 ?_
  cases h
  exact r_zret C rfl rfl (Nat.le_of_ble_eq_true rfl) (Nat.le_of_ble_eq_true rfl) dX7_tells_11 hq
theorem c_X7_tells {l : Launch} {G : jG} {sh : jSh} {κ : jKt} {a0 : Nat} (ha0 : sh a0 = (1, 11, 22)) {x1 : Int32} {r : Int32} {κr : jKt} (h : P_X7_tells κ a0 x1 = some (r, κr)) : jM l G yX7_tells cX7_tells 2 (some .int) 0 0 0 0 [.ref a0, .int x1] (sh, κ) (jIs (some (.int r)) (sh, κr)) jNo :=
  r_body (by decide) (Nat.le_of_ble_eq_true rfl) fun F C hl hG hs ho hx => by
    subst hs
    exact w_X7_tells_0 C ha0 (by rw [ho]; exact ⟨rfl, rfl⟩) h
set_option maxRecDepth 20000 in
theorem w_X7_customerCount_0 {F : jFm} (C : jB F RX7 cX7_customerCount 1 (some .int) 1 0 0 21) {κ : jKt} {a0 : Nat} (ha0 : jSof F a0 = (1, 11, 22)) {r : Int32 × jKt} (hq : jOut F (some (.int r.1)) r.2) (h : P_X7_customerCount κ a0 = some r) : jW F 1 0 0 κ 0 [(0, .ref a0)] [] := by
  unfold P_X7_customerCount at h
  refine r_aload_n C.1 0 1 rfl dX7_customerCount_0 rfl ?_
  refine r_iconst C.1 0 rfl 2 rfl dX7_customerCount_1 ?_
  obtain ⟨y8, κ9, e7, h⟩ := bd2_some h
  refine r_cVi C.1 (st := []) (c_X7_tells ha0 e7) yv_X7_tells ml_X7_178 rfl ha0 rfl ⟨Nat.le_of_ble_eq_true rfl, Nat.le_of_ble_eq_true rfl⟩ ⟨Nat.le_of_ble_eq_true rfl, Nat.le_of_ble_eq_true rfl⟩ (Nat.le_of_ble_eq_true rfl) rfl 0 0 rfl rfl 5 rfl dX7_customerCount_2 ?_
  cases h
  exact r_zret C rfl rfl (Nat.le_of_ble_eq_true rfl) (Nat.le_of_ble_eq_true rfl) dX7_customerCount_5 hq
theorem c_X7_customerCount {l : Launch} {G : jG} {sh : jSh} {κ : jKt} {a0 : Nat} (ha0 : sh a0 = (1, 11, 22)) {r : Int32} {κr : jKt} (h : P_X7_customerCount κ a0 = some (r, κr)) : jM l G yX7_customerCount cX7_customerCount 1 (some .int) 1 0 0 21 [.ref a0] (sh, κ) (jIs (some (.int r)) (sh, κr)) jNo :=
  r_body (by decide) (Nat.le_of_ble_eq_true rfl) fun F C hl hG hs ho hx => by
    subst hs
    exact w_X7_customerCount_0 C ha0 (by rw [ho]; exact ⟨rfl, rfl⟩) h
set_option maxRecDepth 20000 in
theorem w_X7_pairs_14 {F : jFm} (C : jB F RX7 cX7_pairs 2 (some .int) 2 0 0 43) {κ : jKt} {a0 : Nat} (ha0 : jSof F a0 = (1, 11, 22)) {v1 : Int32} {s0 : Int32} {a1 : Nat} (ha1 : jSof F a1 = (1, 11, 22)) {r : Int32 × jKt} (hq : jOut F (some (.int r.1)) r.2) (h : P_X7_pairs_14 κ a0 v1 s0 a1 = some r) : jW F 2 0 0 κ 14 [(0, .ref a0), (1, .int v1)] [.int s0, .ref a1] := by
  unfold P_X7_pairs_14 at h
  obtain ⟨κ21, e22, h⟩ := bnd_some h
  refine r_putI C.1 0 fw_X7_50 rfl rfl rfl ha1 e22 17 rfl dX7_pairs_14 ?_
  refine r_aload_n C.1 0 18 rfl dX7_pairs_17 rfl ?_
  refine r_getI C.1 0 fl_X7_50 rfl ha0 21 rfl dX7_pairs_18 ?_
  refine r_if_ne C.1 36 24 rfl dX7_pairs_21 rfl ⟨fun c23 => ?_, fun c23 => ?_⟩
  · have h := if_some_f c23 h
    refine r_iconst C.1 0 rfl 37 rfl dX7_pairs_36 ?_
    cases h
    exact r_zret C rfl rfl (Nat.le_of_ble_eq_true rfl) (Nat.le_of_ble_eq_true rfl) dX7_pairs_37 hq
  · have h := if_some_t c23 h
    refine r_aload_n C.1 0 25 rfl dX7_pairs_24 rfl ?_
    refine r_getR C.1 5 fl_X7_16 rfl ha0 28 rfl dX7_pairs_25 (fun (h24 : jSof F (kR κ21 a0 5) = (2, 0, 457)) => ?_)
    refine r_iload_n C.1 1 29 rfl dX7_pairs_28 rfl ?_
    obtain ⟨y26, e25, h⟩ := bd_some h
    refine r_cSi C.1 (st := [.ref (kR κ21 a0 5)]) (c_X7_at e25) yv_X7_at ml_X7_64 rfl ⟨Nat.le_of_ble_eq_true rfl, Nat.le_of_ble_eq_true rfl⟩ ⟨Nat.le_of_ble_eq_true rfl, Nat.le_of_ble_eq_true rfl⟩ (Nat.le_of_ble_eq_true rfl) rfl 0 0 rfl rfl 32 rfl dX7_pairs_29 ?_
    obtain ⟨i27, h⟩ := ck_some h
    refine r_iald C.1 h24 i27 33 rfl dX7_pairs_32 ?_
    refine r_goto C.1 37 dX7_pairs_33 rfl ?_
    cases h
    exact r_zret C rfl rfl (Nat.le_of_ble_eq_true rfl) (Nat.le_of_ble_eq_true rfl) dX7_pairs_37 hq
set_option maxRecDepth 20000 in
theorem w_X7_pairs_0 {F : jFm} (C : jB F RX7 cX7_pairs 2 (some .int) 2 0 0 43) {κ : jKt} {a0 : Nat} (ha0 : jSof F a0 = (1, 11, 22)) {x1 : Int32} {r : Int32 × jKt} (hq : jOut F (some (.int r.1)) r.2) (h : P_X7_pairs κ a0 x1 = some r) : jW F 2 0 0 κ 0 [(0, .ref a0), (1, .int x1)] [] := by
  unfold P_X7_pairs at h
  refine r_aload_n C.1 0 1 rfl dX7_pairs_0 rfl ?_
  refine r_aload_n C.1 0 2 rfl dX7_pairs_1 rfl ?_
  refine r_iload_n C.1 1 3 rfl dX7_pairs_2 rfl ?_
  obtain ⟨y29, e28, h⟩ := bd_some h
  refine r_cVi C.1 (st := [.ref a0]) (c_X7_isCustomer ha0 e28) yv_X7_isCustomer ml_X7_68 rfl ha0 rfl ⟨Nat.le_of_ble_eq_true rfl, Nat.le_of_ble_eq_true rfl⟩ ⟨Nat.le_of_ble_eq_true rfl, Nat.le_of_ble_eq_true rfl⟩ (Nat.le_of_ble_eq_true rfl) rfl 0 0 rfl rfl 6 rfl dX7_pairs_3 ?_
  refine r_if_eq C.1 13 9 rfl dX7_pairs_6 rfl ⟨fun c30 => ?_, fun c30 => ?_⟩
  · have h := if_some_t c30 h
    refine r_iconst C.1 1 rfl 14 rfl dX7_pairs_13 ?_
    exact w_X7_pairs_14 C ha0 ha0 hq h
  · have h := if_some_f c30 h
    refine r_iconst C.1 0 rfl 10 rfl dX7_pairs_9 ?_
    refine r_goto C.1 14 dX7_pairs_10 rfl ?_
    exact w_X7_pairs_14 C ha0 ha0 hq h
theorem c_X7_pairs {l : Launch} {G : jG} {sh : jSh} {κ : jKt} {a0 : Nat} (ha0 : sh a0 = (1, 11, 22)) {x1 : Int32} {r : Int32} {κr : jKt} (h : P_X7_pairs κ a0 x1 = some (r, κr)) : jM l G yX7_pairs cX7_pairs 2 (some .int) 2 0 0 43 [.ref a0, .int x1] (sh, κ) (jIs (some (.int r)) (sh, κr)) jNo :=
  r_body (by decide) (Nat.le_of_ble_eq_true rfl) fun F C hl hG hs ho hx => by
    subst hs
    exact w_X7_pairs_0 C ha0 (by rw [ho]; exact ⟨rfl, rfl⟩) h
set_option maxRecDepth 20000 in
theorem w_X7_legLength_15 {F : jFm} (C : jB F RX7 cX7_legLength 3 (some .int) 3 0 0 65) {κ : jKt} {a0 : Nat} (ha0 : jSof F a0 = (1, 11, 22)) {v1 : Int32} {v2 : Int32} {s0 : Int32} {a1 : Nat} (ha1 : jSof F a1 = (1, 11, 22)) {r : Int32 × jKt} (hq : jOut F (some (.int r.1)) r.2) (h : P_X7_legLength_15 κ a0 v1 v2 s0 a1 = some r) : jW F 3 0 0 κ 15 [(0, .ref a0), (1, .int v1), (2, .int v2)] [.int s0, .ref a1] := by
  unfold P_X7_legLength_15 at h
  obtain ⟨κ17, e18, h⟩ := bnd_some h
  refine r_putI C.1 0 fw_X7_50 rfl rfl rfl ha1 e18 18 rfl dX7_legLength_15 ?_
  refine r_aload_n C.1 0 19 rfl dX7_legLength_18 rfl ?_
  refine r_getI C.1 0 fl_X7_50 rfl ha0 22 rfl dX7_legLength_19 ?_
  refine r_if_ne C.1 34 25 rfl dX7_legLength_22 rfl ⟨fun c19 => ?_, fun c19 => ?_⟩
  · have h := if_some_f c19 h
    refine r_iconst C.1 0 rfl 35 rfl dX7_legLength_34 ?_
    cases h
    exact r_zret C rfl rfl (Nat.le_of_ble_eq_true rfl) (Nat.le_of_ble_eq_true rfl) dX7_legLength_35 hq
  · have h := if_some_t c19 h
    refine r_aload_n C.1 0 26 rfl dX7_legLength_25 rfl ?_
    refine r_iload_n C.1 1 27 rfl dX7_legLength_26 rfl ?_
    refine r_iload_n C.1 2 28 rfl dX7_legLength_27 rfl ?_
    obtain ⟨y21, e20, h⟩ := bd_some h
    refine r_cVi C.1 (st := []) (c_X7_leg ha0 e20) yv_X7_leg ml_X7_82 rfl ha0 rfl ⟨Nat.le_of_ble_eq_true rfl, Nat.le_of_ble_eq_true rfl⟩ ⟨Nat.le_of_ble_eq_true rfl, Nat.le_of_ble_eq_true rfl⟩ (Nat.le_of_ble_eq_true rfl) rfl 0 0 rfl rfl 31 rfl dX7_legLength_28 ?_
    refine r_goto C.1 35 dX7_legLength_31 rfl ?_
    cases h
    exact r_zret C rfl rfl (Nat.le_of_ble_eq_true rfl) (Nat.le_of_ble_eq_true rfl) dX7_legLength_35 hq
set_option maxRecDepth 20000 in
theorem w_X7_legLength_0 {F : jFm} (C : jB F RX7 cX7_legLength 3 (some .int) 3 0 0 65) {κ : jKt} {a0 : Nat} (ha0 : jSof F a0 = (1, 11, 22)) {x1 : Int32} {x2 : Int32} {r : Int32 × jKt} (hq : jOut F (some (.int r.1)) r.2) (h : P_X7_legLength κ a0 x1 x2 = some r) : jW F 3 0 0 κ 0 [(0, .ref a0), (1, .int x1), (2, .int x2)] [] := by
  unfold P_X7_legLength at h
  refine r_aload_n C.1 0 1 rfl dX7_legLength_0 rfl ?_
  refine r_aload_n C.1 0 2 rfl dX7_legLength_1 rfl ?_
  refine r_iload_n C.1 1 3 rfl dX7_legLength_2 rfl ?_
  refine r_iload_n C.1 2 4 rfl dX7_legLength_3 rfl ?_
  obtain ⟨y23, e22, h⟩ := bd_some h
  refine r_cVi C.1 (st := [.ref a0]) (c_X7_isLeg ha0 e22) yv_X7_isLeg ml_X7_106 rfl ha0 rfl ⟨Nat.le_of_ble_eq_true rfl, Nat.le_of_ble_eq_true rfl⟩ ⟨Nat.le_of_ble_eq_true rfl, Nat.le_of_ble_eq_true rfl⟩ (Nat.le_of_ble_eq_true rfl) rfl 0 0 rfl rfl 7 rfl dX7_legLength_4 ?_
  refine r_if_eq C.1 14 10 rfl dX7_legLength_7 rfl ⟨fun c24 => ?_, fun c24 => ?_⟩
  · have h := if_some_t c24 h
    refine r_iconst C.1 1 rfl 15 rfl dX7_legLength_14 ?_
    exact w_X7_legLength_15 C ha0 ha0 hq h
  · have h := if_some_f c24 h
    refine r_iconst C.1 0 rfl 11 rfl dX7_legLength_10 ?_
    refine r_goto C.1 15 dX7_legLength_11 rfl ?_
    exact w_X7_legLength_15 C ha0 ha0 hq h
theorem c_X7_legLength {l : Launch} {G : jG} {sh : jSh} {κ : jKt} {a0 : Nat} (ha0 : sh a0 = (1, 11, 22)) {x1 : Int32} {x2 : Int32} {r : Int32} {κr : jKt} (h : P_X7_legLength κ a0 x1 x2 = some (r, κr)) : jM l G yX7_legLength cX7_legLength 3 (some .int) 3 0 0 65 [.ref a0, .int x1, .int x2] (sh, κ) (jIs (some (.int r)) (sh, κr)) jNo :=
  r_body (by decide) (Nat.le_of_ble_eq_true rfl) fun F C hl hG hs ho hx => by
    subst hs
    exact w_X7_legLength_0 C ha0 (by rw [ho]; exact ⟨rfl, rfl⟩) h
set_option maxRecDepth 20000 in
theorem w_X7_mirrorLeg_15 {F : jFm} (C : jB F RX7 cX7_mirrorLeg 3 (some .int) 3 0 0 65) {κ : jKt} {a0 : Nat} (ha0 : jSof F a0 = (1, 11, 22)) {v2 : Int32} {s0 : Int32} {a1 : Nat} (ha1 : jSof F a1 = (1, 11, 22)) {r : Int32 × jKt} (hq : jOut F (some (.int r.1)) r.2) (h : P_X7_mirrorLeg_15 κ a0 v2 s0 a1 = some r) : jW F 3 0 0 κ 15 [(0, .ref a0), (2, .int v2)] [.int s0, .ref a1] := by
  unfold P_X7_mirrorLeg_15 at h
  obtain ⟨κ13, e14, h⟩ := bnd_some h
  refine r_putI C.1 0 fw_X7_50 rfl rfl rfl ha1 e14 18 rfl dX7_mirrorLeg_15 ?_
  refine r_aload_n C.1 0 19 rfl dX7_mirrorLeg_18 rfl ?_
  refine r_getI C.1 0 fl_X7_50 rfl ha0 22 rfl dX7_mirrorLeg_19 ?_
  refine r_if_ne C.1 31 25 rfl dX7_mirrorLeg_22 rfl ⟨fun c15 => ?_, fun c15 => ?_⟩
  · have h := if_some_f c15 h
    refine r_iconst C.1 0 rfl 32 rfl dX7_mirrorLeg_31 ?_
    cases h
    exact r_zret C rfl rfl (Nat.le_of_ble_eq_true rfl) (Nat.le_of_ble_eq_true rfl) dX7_mirrorLeg_32 hq
  · have h := if_some_t c15 h
    refine r_iload_n C.1 1 26 rfl dX7_mirrorLeg_25 rfl ?_
    refine r_iconst C.1 1 rfl 27 rfl dX7_mirrorLeg_26 ?_
    refine r_ixor C.1 28 rfl dX7_mirrorLeg_27 ?_
    refine r_goto C.1 32 dX7_mirrorLeg_28 rfl ?_
    cases h
    exact r_zret C rfl rfl (Nat.le_of_ble_eq_true rfl) (Nat.le_of_ble_eq_true rfl) dX7_mirrorLeg_32 hq
set_option maxRecDepth 20000 in
theorem w_X7_mirrorLeg_0 {F : jFm} (C : jB F RX7 cX7_mirrorLeg 3 (some .int) 3 0 0 65) {κ : jKt} {a0 : Nat} (ha0 : jSof F a0 = (1, 11, 22)) {x1 : Int32} {x2 : Int32} {r : Int32 × jKt} (hq : jOut F (some (.int r.1)) r.2) (h : P_X7_mirrorLeg κ a0 x1 x2 = some r) : jW F 3 0 0 κ 0 [(0, .ref a0), (1, .int x1), (2, .int x2)] [] := by
  unfold P_X7_mirrorLeg at h
  refine r_aload_n C.1 0 1 rfl dX7_mirrorLeg_0 rfl ?_
  refine r_aload_n C.1 0 2 rfl dX7_mirrorLeg_1 rfl ?_
  refine r_iload_n C.1 1 3 rfl dX7_mirrorLeg_2 rfl ?_
  refine r_iload_n C.1 2 4 rfl dX7_mirrorLeg_3 rfl ?_
  obtain ⟨y17, e16, h⟩ := bd_some h
  refine r_cVi C.1 (st := [.ref a0]) (c_X7_isLeg ha0 e16) yv_X7_isLeg ml_X7_106 rfl ha0 rfl ⟨Nat.le_of_ble_eq_true rfl, Nat.le_of_ble_eq_true rfl⟩ ⟨Nat.le_of_ble_eq_true rfl, Nat.le_of_ble_eq_true rfl⟩ (Nat.le_of_ble_eq_true rfl) rfl 0 0 rfl rfl 7 rfl dX7_mirrorLeg_4 ?_
  refine r_if_eq C.1 14 10 rfl dX7_mirrorLeg_7 rfl ⟨fun c18 => ?_, fun c18 => ?_⟩
  · have h := if_some_t c18 h
    refine r_iconst C.1 1 rfl 15 rfl dX7_mirrorLeg_14 ?_
    refine r_lv [0, 2] rfl ?_
    exact w_X7_mirrorLeg_15 C ha0 ha0 hq h
  · have h := if_some_f c18 h
    refine r_iconst C.1 0 rfl 11 rfl dX7_mirrorLeg_10 ?_
    refine r_goto C.1 15 dX7_mirrorLeg_11 rfl ?_
    refine r_lv [0, 2] rfl ?_
    exact w_X7_mirrorLeg_15 C ha0 ha0 hq h
theorem c_X7_mirrorLeg {l : Launch} {G : jG} {sh : jSh} {κ : jKt} {a0 : Nat} (ha0 : sh a0 = (1, 11, 22)) {x1 : Int32} {x2 : Int32} {r : Int32} {κr : jKt} (h : P_X7_mirrorLeg κ a0 x1 x2 = some (r, κr)) : jM l G yX7_mirrorLeg cX7_mirrorLeg 3 (some .int) 3 0 0 65 [.ref a0, .int x1, .int x2] (sh, κ) (jIs (some (.int r)) (sh, κr)) jNo :=
  r_body (by decide) (Nat.le_of_ble_eq_true rfl) fun F C hl hG hs ho hx => by
    subst hs
    exact w_X7_mirrorLeg_0 C ha0 (by rw [ho]; exact ⟨rfl, rfl⟩) h
set_option maxRecDepth 20000 in
theorem w_X7_isMirrored_28 {F : jFm} (C : jB F RX7 cX7_isMirrored 3 (some .boolean) 2 0 0 43) {a0 : Nat} (ha0 : jSof F a0 = (1, 11, 22)) {v1 : Int32} {r : Int32 × jKt} (hq : jOut F (some (.int r.1)) r.2) : ∀ (n : Nat) (κ : jKt) (v2 : Int32), P_X7_isMirrored_28 a0 v1 n κ v2 = some r → jW F 3 0 0 κ 28 [(0, .ref a0), (1, .int v1), (2, .int v2)] [] := by
  intro n
  induction n with
  | zero => intro κ v2 h; cases h
  | succ n ih =>
    intro κ v2 h
    rw [P_X7_isMirrored_28] at h
    refine r_iload_n C.1 2 29 rfl dX7_isMirrored_28 rfl ?_
    refine r_aload_n C.1 0 30 rfl dX7_isMirrored_29 rfl ?_
    refine r_iload_n C.1 1 31 rfl dX7_isMirrored_30 rfl ?_
    obtain ⟨y34, e33, h⟩ := bd_some h
    refine r_cVi C.1 (st := [.int v2]) (c_X7_legs ha0 e33) yv_X7_legs ml_X7_72 rfl ha0 rfl ⟨Nat.le_of_ble_eq_true rfl, Nat.le_of_ble_eq_true rfl⟩ ⟨Nat.le_of_ble_eq_true rfl, Nat.le_of_ble_eq_true rfl⟩ (Nat.le_of_ble_eq_true rfl) rfl 0 0 rfl rfl 34 rfl dX7_isMirrored_31 ?_
    refine r_icmp_ge C.1 65 37 rfl dX7_isMirrored_34 rfl ⟨fun c35 => ?_, fun c35 => ?_⟩
    · have h := if_some_t c35 h
      refine r_iconst C.1 1 rfl 66 rfl dX7_isMirrored_65 ?_
      cases h
      exact r_zret C rfl rfl (Nat.le_of_ble_eq_true rfl) (Nat.le_of_ble_eq_true rfl) dX7_isMirrored_66 hq
    · have h := if_some_f c35 h
      refine r_aload_n C.1 0 38 rfl dX7_isMirrored_37 rfl ?_
      refine r_iload_n C.1 1 39 rfl dX7_isMirrored_38 rfl ?_
      refine r_iload_n C.1 2 40 rfl dX7_isMirrored_39 rfl ?_
      obtain ⟨y37, e36, h⟩ := bd_some h
      refine r_cVi C.1 (st := []) (c_X7_leg ha0 e36) yv_X7_leg ml_X7_82 rfl ha0 rfl ⟨Nat.le_of_ble_eq_true rfl, Nat.le_of_ble_eq_true rfl⟩ ⟨Nat.le_of_ble_eq_true rfl, Nat.le_of_ble_eq_true rfl⟩ (Nat.le_of_ble_eq_true rfl) rfl 0 0 rfl rfl 43 rfl dX7_isMirrored_40 ?_
      refine r_aload_n C.1 0 44 rfl dX7_isMirrored_43 rfl ?_
      refine r_iload_n C.1 1 45 rfl dX7_isMirrored_44 rfl ?_
      refine r_iload_n C.1 2 46 rfl dX7_isMirrored_45 rfl ?_
      refine r_iconst C.1 1 rfl 47 rfl dX7_isMirrored_46 ?_
      refine r_iadd C.1 48 rfl dX7_isMirrored_47 ?_
      obtain ⟨y39, e38, h⟩ := bd_some h
      refine r_cVi C.1 (st := [.int y37]) (c_X7_leg ha0 e38) yv_X7_leg ml_X7_82 rfl ha0 rfl ⟨Nat.le_of_ble_eq_true rfl, Nat.le_of_ble_eq_true rfl⟩ ⟨Nat.le_of_ble_eq_true rfl, Nat.le_of_ble_eq_true rfl⟩ (Nat.le_of_ble_eq_true rfl) rfl 0 0 rfl rfl 51 rfl dX7_isMirrored_48 ?_
      obtain ⟨y41, e40, h⟩ := bd_some h
      refine r_cSi C.1 (st := []) (c_X7_areAlike e40) yv_X7_areAlike ml_X7_156 rfl ⟨Nat.le_of_ble_eq_true rfl, Nat.le_of_ble_eq_true rfl⟩ ⟨Nat.le_of_ble_eq_true rfl, Nat.le_of_ble_eq_true rfl⟩ (Nat.le_of_ble_eq_true rfl) rfl 0 0 rfl rfl 54 rfl dX7_isMirrored_51 ?_
      refine r_if_ne C.1 59 57 rfl dX7_isMirrored_54 rfl ⟨fun c42 => ?_, fun c42 => ?_⟩
      · have h := if_some_f c42 h
        refine r_iinc C.1 (lv' := [(0, .ref a0), (1, .int v1), (2, .int (v2 + 2))]) 2 [1, 2, 0] 62 rfl dX7_isMirrored_59 rfl (Nat.le_of_ble_eq_true rfl) rfl rfl ?_
        refine r_goto C.1 28 dX7_isMirrored_62 rfl ?_
        exact ih κ (v2 + 2) h
      · have h := if_some_t c42 h
        refine r_iconst C.1 0 rfl 58 rfl dX7_isMirrored_57 ?_
        cases h
        exact r_zret C rfl rfl (Nat.le_of_ble_eq_true rfl) (Nat.le_of_ble_eq_true rfl) dX7_isMirrored_58 hq
set_option maxRecDepth 20000 in
theorem w_X7_isMirrored_14 {F : jFm} (C : jB F RX7 cX7_isMirrored 3 (some .boolean) 2 0 0 43) {κ : jKt} {a0 : Nat} (ha0 : jSof F a0 = (1, 11, 22)) {v1 : Int32} {s0 : Int32} {a1 : Nat} (ha1 : jSof F a1 = (1, 11, 22)) {r : Int32 × jKt} (hq : jOut F (some (.int r.1)) r.2) (h : P_X7_isMirrored_14 κ a0 v1 s0 a1 = some r) : jW F 3 0 0 κ 14 [(0, .ref a0), (1, .int v1)] [.int s0, .ref a1] := by
  unfold P_X7_isMirrored_14 at h
  obtain ⟨κ43, e44, h⟩ := bnd_some h
  refine r_putI C.1 0 fw_X7_50 rfl rfl rfl ha1 e44 17 rfl dX7_isMirrored_14 ?_
  refine r_aload_n C.1 0 18 rfl dX7_isMirrored_17 rfl ?_
  refine r_getI C.1 0 fl_X7_50 rfl ha0 21 rfl dX7_isMirrored_18 ?_
  refine r_if_eq C.1 26 24 rfl dX7_isMirrored_21 rfl ⟨fun c45 => ?_, fun c45 => ?_⟩
  · have h := if_some_t c45 h
    refine r_iconst C.1 0 rfl 27 rfl dX7_isMirrored_26 ?_
    refine r_istore_n C.1 (lv' := [(0, .ref a0), (1, .int v1), (2, .int 0)]) [1, 2, 0] 28 rfl dX7_isMirrored_27 (Nat.le_of_ble_eq_true rfl) rfl ?_
    exact w_X7_isMirrored_28 C ha0 hq 4000 κ43 0 h
  · have h := if_some_f c45 h
    refine r_iconst C.1 0 rfl 25 rfl dX7_isMirrored_24 ?_
    cases h
    exact r_zret C rfl rfl (Nat.le_of_ble_eq_true rfl) (Nat.le_of_ble_eq_true rfl) dX7_isMirrored_25 hq
set_option maxRecDepth 20000 in
theorem w_X7_isMirrored_0 {F : jFm} (C : jB F RX7 cX7_isMirrored 3 (some .boolean) 2 0 0 43) {κ : jKt} {a0 : Nat} (ha0 : jSof F a0 = (1, 11, 22)) {x1 : Int32} {r : Int32 × jKt} (hq : jOut F (some (.int r.1)) r.2) (h : P_X7_isMirrored κ a0 x1 = some r) : jW F 3 0 0 κ 0 [(0, .ref a0), (1, .int x1)] [] := by
  unfold P_X7_isMirrored at h
  refine r_aload_n C.1 0 1 rfl dX7_isMirrored_0 rfl ?_
  refine r_aload_n C.1 0 2 rfl dX7_isMirrored_1 rfl ?_
  refine r_iload_n C.1 1 3 rfl dX7_isMirrored_2 rfl ?_
  obtain ⟨y47, e46, h⟩ := bd_some h
  refine r_cVi C.1 (st := [.ref a0]) (c_X7_isCustomer ha0 e46) yv_X7_isCustomer ml_X7_68 rfl ha0 rfl ⟨Nat.le_of_ble_eq_true rfl, Nat.le_of_ble_eq_true rfl⟩ ⟨Nat.le_of_ble_eq_true rfl, Nat.le_of_ble_eq_true rfl⟩ (Nat.le_of_ble_eq_true rfl) rfl 0 0 rfl rfl 6 rfl dX7_isMirrored_3 ?_
  refine r_if_eq C.1 13 9 rfl dX7_isMirrored_6 rfl ⟨fun c48 => ?_, fun c48 => ?_⟩
  · have h := if_some_t c48 h
    refine r_iconst C.1 1 rfl 14 rfl dX7_isMirrored_13 ?_
    exact w_X7_isMirrored_14 C ha0 ha0 hq h
  · have h := if_some_f c48 h
    refine r_iconst C.1 0 rfl 10 rfl dX7_isMirrored_9 ?_
    refine r_goto C.1 14 dX7_isMirrored_10 rfl ?_
    exact w_X7_isMirrored_14 C ha0 ha0 hq h
theorem c_X7_isMirrored {l : Launch} {G : jG} {sh : jSh} {κ : jKt} {a0 : Nat} (ha0 : sh a0 = (1, 11, 22)) {x1 : Int32} {r : Int32} {κr : jKt} (h : P_X7_isMirrored κ a0 x1 = some (r, κr)) : jM l G yX7_isMirrored cX7_isMirrored 3 (some .boolean) 2 0 0 43 [.ref a0, .int x1] (sh, κ) (jIs (some (.int r)) (sh, κr)) jNo :=
  r_body (by decide) (Nat.le_of_ble_eq_true rfl) fun F C hl hG hs ho hx => by
    subst hs
    exact w_X7_isMirrored_0 C ha0 (by rw [ho]; exact ⟨rfl, rfl⟩) h
set_option maxRecDepth 20000 in
theorem w_X7_all_4 {F : jFm} (C : jB F RX7 cX7_all 4 (some .int) 2 0 0 42) {κ : jKt} {a0 : Nat} (ha0 : jSof F a0 = (1, 11, 22)) {v1 : Int32} {r : Int32} (hq : jOut F (some (.int r)) κ) : ∀ (n : Nat) (v2 : Int32) (v3 : Int32), P_X7_all_4 κ a0 v1 n v2 v3 = some r → jW F 4 0 0 κ 4 [(0, .ref a0), (1, .int v1), (2, .int v2), (3, .int v3)] [] := by
  intro n
  induction n with
  | zero => intro v2 v3 h; cases h
  | succ n ih =>
    intro v2 v3 h
    rw [P_X7_all_4] at h
    refine r_iload_n C.1 3 5 rfl dX7_all_4 rfl ?_
    refine r_aload_n C.1 0 6 rfl dX7_all_5 rfl ?_
    refine r_iload_n C.1 1 7 rfl dX7_all_6 rfl ?_
    obtain ⟨y12, e11, h⟩ := bd_some h
    refine r_cVi C.1 (st := [.int v3]) (c_X7_legs ha0 e11) yv_X7_legs ml_X7_72 rfl ha0 rfl ⟨Nat.le_of_ble_eq_true rfl, Nat.le_of_ble_eq_true rfl⟩ ⟨Nat.le_of_ble_eq_true rfl, Nat.le_of_ble_eq_true rfl⟩ (Nat.le_of_ble_eq_true rfl) rfl 0 0 rfl rfl 10 rfl dX7_all_7 ?_
    refine r_icmp_ge C.1 28 13 rfl dX7_all_10 rfl ⟨fun c13 => ?_, fun c13 => ?_⟩
    · have h := if_some_t c13 h
      refine r_iload_n C.1 2 29 rfl dX7_all_28 rfl ?_
      cases h
      exact r_zret C rfl rfl (Nat.le_of_ble_eq_true rfl) (Nat.le_of_ble_eq_true rfl) dX7_all_29 hq
    · have h := if_some_f c13 h
      refine r_iload_n C.1 2 14 rfl dX7_all_13 rfl ?_
      refine r_aload_n C.1 0 15 rfl dX7_all_14 rfl ?_
      refine r_iload_n C.1 1 16 rfl dX7_all_15 rfl ?_
      refine r_iload_n C.1 3 17 rfl dX7_all_16 rfl ?_
      obtain ⟨y15, e14, h⟩ := bd_some h
      refine r_cVi C.1 (st := [.int v2]) (c_X7_leg ha0 e14) yv_X7_leg ml_X7_82 rfl ha0 rfl ⟨Nat.le_of_ble_eq_true rfl, Nat.le_of_ble_eq_true rfl⟩ ⟨Nat.le_of_ble_eq_true rfl, Nat.le_of_ble_eq_true rfl⟩ (Nat.le_of_ble_eq_true rfl) rfl 0 0 rfl rfl 20 rfl dX7_all_17 ?_
      refine r_iadd C.1 21 rfl dX7_all_20 ?_
      refine r_istore_n C.1 (lv' := [(0, .ref a0), (1, .int v1), (2, .int (v2 + y15)), (3, .int v3)]) [1, 2, 0, 3] 22 rfl dX7_all_21 (Nat.le_of_ble_eq_true rfl) rfl ?_
      refine r_iinc C.1 (lv' := [(0, .ref a0), (1, .int v1), (2, .int (v2 + y15)), (3, .int (v3 + 1))]) 3 [1, 2, 3, 0] 25 rfl dX7_all_22 rfl (Nat.le_of_ble_eq_true rfl) rfl rfl ?_
      refine r_goto C.1 4 dX7_all_25 rfl ?_
      exact ih (v2 + y15) (v3 + 1) h
set_option maxRecDepth 20000 in
theorem w_X7_all_0 {F : jFm} (C : jB F RX7 cX7_all 4 (some .int) 2 0 0 42) {κ : jKt} {a0 : Nat} (ha0 : jSof F a0 = (1, 11, 22)) {x1 : Int32} {r : Int32} (hq : jOut F (some (.int r)) κ) (h : P_X7_all κ a0 x1 = some r) : jW F 4 0 0 κ 0 [(0, .ref a0), (1, .int x1)] [] := by
  unfold P_X7_all at h
  refine r_iconst C.1 0 rfl 1 rfl dX7_all_0 ?_
  refine r_istore_n C.1 (lv' := [(0, .ref a0), (1, .int x1), (2, .int 0)]) [1, 2, 0] 2 rfl dX7_all_1 (Nat.le_of_ble_eq_true rfl) rfl ?_
  refine r_iconst C.1 0 rfl 3 rfl dX7_all_2 ?_
  refine r_istore_n C.1 (lv' := [(0, .ref a0), (1, .int x1), (2, .int 0), (3, .int 0)]) [1, 2, 3, 0] 4 rfl dX7_all_3 (Nat.le_of_ble_eq_true rfl) rfl ?_
  exact w_X7_all_4 C ha0 hq 4000 0 0 h
theorem c_X7_all {l : Launch} {G : jG} {sh : jSh} {κ : jKt} {a0 : Nat} (ha0 : sh a0 = (1, 11, 22)) {x1 : Int32} {r : Int32} (h : P_X7_all κ a0 x1 = some r) : jM l G yX7_all cX7_all 4 (some .int) 2 0 0 42 [.ref a0, .int x1] (sh, κ) (jIs (some (.int r)) (sh, κ)) jNo :=
  r_body (by decide) (Nat.le_of_ble_eq_true rfl) fun F C hl hG hs ho hx => by
    subst hs
    exact w_X7_all_0 C ha0 (by rw [ho]; exact ⟨rfl, rfl⟩) h
set_option maxRecDepth 20000 in
theorem w_X7_customerByLegs_22 {F : jFm} (C : jB F RX7 cX7_customerByLegs 5 (some .int) 3 0 0 65) {a0 : Nat} (ha0 : jSof F a0 = (1, 11, 22)) {v1 : Int32} {v2 : Int32} {r : Int32 × jKt} (hq : jOut F (some (.int r.1)) r.2) {K7 : jKt → Int32 → Option (Int32 × jKt)} (hK7 : ∀ (κ : jKt) (u2 : Int32), K7 κ u2 = some r → jW F 5 0 0 κ 7 [(0, .ref a0), (1, .int v1), (2, .int u2)] []) : ∀ (n : Nat) (κ : jKt) (v3 : Int32) (v4 : Int32), P_X7_customerByLegs_22 a0 v1 v2 K7 n κ v3 v4 = some r → jW F 5 0 0 κ 22 [(0, .ref a0), (1, .int v1), (2, .int v2), (3, .int v3), (4, .int v4)] [] := by
  intro n
  induction n with
  | zero => intro κ v3 v4 h; cases h
  | succ n ih =>
    intro κ v3 v4 h
    rw [P_X7_customerByLegs_22] at h
    refine r_iload C.1 4 24 rfl dX7_customerByLegs_22 rfl ?_
    refine r_aload_n C.1 0 25 rfl dX7_customerByLegs_24 rfl ?_
    refine r_getR C.1 5 fl_X7_16 rfl ha0 28 rfl dX7_customerByLegs_25 (fun (h43 : jSof F (kR κ a0 5) = (2, 0, 457)) => ?_)
    refine r_iconst C.1 0 rfl 29 rfl dX7_customerByLegs_28 ?_
    refine r_iald C.1 h43 (by decide) 30 rfl dX7_customerByLegs_29 ?_
    refine r_icmp_ge C.1 81 33 rfl dX7_customerByLegs_30 rfl ⟨fun c44 => ?_, fun c44 => ?_⟩
    · have h := if_some_t c44 h
      refine r_iload_n C.1 3 82 rfl dX7_customerByLegs_81 rfl ?_
      refine r_iload_n C.1 1 83 rfl dX7_customerByLegs_82 rfl ?_
      refine r_icmp_ne C.1 88 86 rfl dX7_customerByLegs_83 rfl ⟨fun c45 => ?_, fun c45 => ?_⟩
      · have h := if_some_f c45 h
        refine r_iinc C.1 (lv' := [(0, .ref a0), (1, .int v1), (2, .int (v2 + 1)), (3, .int v3), (4, .int v4)]) 2 [1, 2, 0, 3, 4] 91 rfl dX7_customerByLegs_88 rfl (Nat.le_of_ble_eq_true rfl) rfl rfl ?_
        refine r_goto C.1 7 dX7_customerByLegs_91 rfl ?_
        refine r_lv [0, 1, 2] rfl ?_
        exact hK7 κ (v2 + 1) h
      · have h := if_some_t c45 h
        refine r_iload_n C.1 2 87 rfl dX7_customerByLegs_86 rfl ?_
        cases h
        exact r_zret C rfl rfl (Nat.le_of_ble_eq_true rfl) (Nat.le_of_ble_eq_true rfl) dX7_customerByLegs_87 hq
    · have h := if_some_f c44 h
      refine r_iload_n C.1 3 34 rfl dX7_customerByLegs_33 rfl ?_
      refine r_aload_n C.1 0 35 rfl dX7_customerByLegs_34 rfl ?_
      refine r_iload C.1 4 37 rfl dX7_customerByLegs_35 rfl ?_
      obtain ⟨y47, e46, h⟩ := bd_some h
      refine r_cVi C.1 (st := [.int v3]) (c_X7_all ha0 e46) yv_X7_all ml_X7_181 rfl ha0 rfl ⟨Nat.le_of_ble_eq_true rfl, Nat.le_of_ble_eq_true rfl⟩ ⟨Nat.le_of_ble_eq_true rfl, Nat.le_of_ble_eq_true rfl⟩ (Nat.le_of_ble_eq_true rfl) rfl 0 0 rfl rfl 40 rfl dX7_customerByLegs_37 ?_
      refine r_aload_n C.1 0 41 rfl dX7_customerByLegs_40 rfl ?_
      refine r_iload_n C.1 2 42 rfl dX7_customerByLegs_41 rfl ?_
      obtain ⟨y49, e48, h⟩ := bd_some h
      refine r_cVi C.1 (st := [.int y47, .int v3]) (c_X7_all ha0 e48) yv_X7_all ml_X7_181 rfl ha0 rfl ⟨Nat.le_of_ble_eq_true rfl, Nat.le_of_ble_eq_true rfl⟩ ⟨Nat.le_of_ble_eq_true rfl, Nat.le_of_ble_eq_true rfl⟩ (Nat.le_of_ble_eq_true rfl) rfl 0 0 rfl rfl 45 rfl dX7_customerByLegs_42 ?_
      refine r_icmp_gt C.1 68 48 rfl dX7_customerByLegs_45 rfl ⟨fun c50 => ?_, fun c50 => ?_⟩
      · have h := if_some_t c50 h
        refine r_iconst C.1 1 rfl 69 rfl dX7_customerByLegs_68 ?_
        refine r_goto C.1 73 dX7_customerByLegs_69 rfl ?_
        refine r_iadd C.1 74 rfl dX7_customerByLegs_73 ?_
        refine r_istore_n C.1 (lv' := [(0, .ref a0), (1, .int v1), (2, .int v2), (3, .int (v3 + 1)), (4, .int v4)]) [1, 2, 3, 0, 4] 75 rfl dX7_customerByLegs_74 (Nat.le_of_ble_eq_true rfl) rfl ?_
        refine r_iinc C.1 (lv' := [(0, .ref a0), (1, .int v1), (2, .int v2), (3, .int (v3 + 1)), (4, .int (v4 + 1))]) 4 [1, 2, 3, 4, 0] 78 rfl dX7_customerByLegs_75 rfl (Nat.le_of_ble_eq_true rfl) rfl rfl ?_
        refine r_goto C.1 22 dX7_customerByLegs_78 rfl ?_
        exact ih κ (v3 + 1) (v4 + 1) h
      · have h := if_some_f c50 h
        refine r_aload_n C.1 0 49 rfl dX7_customerByLegs_48 rfl ?_
        refine r_iload C.1 4 51 rfl dX7_customerByLegs_49 rfl ?_
        obtain ⟨y52, e51, h⟩ := bd_some h
        refine r_cVi C.1 (st := [.int v3]) (c_X7_all ha0 e51) yv_X7_all ml_X7_181 rfl ha0 rfl ⟨Nat.le_of_ble_eq_true rfl, Nat.le_of_ble_eq_true rfl⟩ ⟨Nat.le_of_ble_eq_true rfl, Nat.le_of_ble_eq_true rfl⟩ (Nat.le_of_ble_eq_true rfl) rfl 0 0 rfl rfl 54 rfl dX7_customerByLegs_51 ?_
        refine r_aload_n C.1 0 55 rfl dX7_customerByLegs_54 rfl ?_
        refine r_iload_n C.1 2 56 rfl dX7_customerByLegs_55 rfl ?_
        obtain ⟨y54, e53, h⟩ := bd_some h
        refine r_cVi C.1 (st := [.int y52, .int v3]) (c_X7_all ha0 e53) yv_X7_all ml_X7_181 rfl ha0 rfl ⟨Nat.le_of_ble_eq_true rfl, Nat.le_of_ble_eq_true rfl⟩ ⟨Nat.le_of_ble_eq_true rfl, Nat.le_of_ble_eq_true rfl⟩ (Nat.le_of_ble_eq_true rfl) rfl 0 0 rfl rfl 59 rfl dX7_customerByLegs_56 ?_
        refine r_icmp_ne C.1 72 62 rfl dX7_customerByLegs_59 rfl ⟨fun c55 => ?_, fun c55 => ?_⟩
        · have h := if_some_f c55 h
          refine r_iconst C.1 0 rfl 73 rfl dX7_customerByLegs_72 ?_
          refine r_iadd C.1 74 rfl dX7_customerByLegs_73 ?_
          refine r_istore_n C.1 (lv' := [(0, .ref a0), (1, .int v1), (2, .int v2), (3, .int (v3 + 0)), (4, .int v4)]) [1, 2, 3, 0, 4] 75 rfl dX7_customerByLegs_74 (Nat.le_of_ble_eq_true rfl) rfl ?_
          refine r_iinc C.1 (lv' := [(0, .ref a0), (1, .int v1), (2, .int v2), (3, .int (v3 + 0)), (4, .int (v4 + 1))]) 4 [1, 2, 3, 4, 0] 78 rfl dX7_customerByLegs_75 rfl (Nat.le_of_ble_eq_true rfl) rfl rfl ?_
          refine r_goto C.1 22 dX7_customerByLegs_78 rfl ?_
          exact ih κ (v3 + 0) (v4 + 1) h
        · have h := if_some_t c55 h
          refine r_iload C.1 4 64 rfl dX7_customerByLegs_62 rfl ?_
          refine r_iload_n C.1 2 65 rfl dX7_customerByLegs_64 rfl ?_
          refine r_icmp_ge C.1 72 68 rfl dX7_customerByLegs_65 rfl ⟨fun c56 => ?_, fun c56 => ?_⟩
          · have h := if_some_t c56 h
            refine r_iconst C.1 0 rfl 73 rfl dX7_customerByLegs_72 ?_
            refine r_iadd C.1 74 rfl dX7_customerByLegs_73 ?_
            refine r_istore_n C.1 (lv' := [(0, .ref a0), (1, .int v1), (2, .int v2), (3, .int (v3 + 0)), (4, .int v4)]) [1, 2, 3, 0, 4] 75 rfl dX7_customerByLegs_74 (Nat.le_of_ble_eq_true rfl) rfl ?_
            refine r_iinc C.1 (lv' := [(0, .ref a0), (1, .int v1), (2, .int v2), (3, .int (v3 + 0)), (4, .int (v4 + 1))]) 4 [1, 2, 3, 4, 0] 78 rfl dX7_customerByLegs_75 rfl (Nat.le_of_ble_eq_true rfl) rfl rfl ?_
            refine r_goto C.1 22 dX7_customerByLegs_78 rfl ?_
            exact ih κ (v3 + 0) (v4 + 1) h
          · have h := if_some_f c56 h
            refine r_iconst C.1 1 rfl 69 rfl dX7_customerByLegs_68 ?_
            refine r_goto C.1 73 dX7_customerByLegs_69 rfl ?_
            refine r_iadd C.1 74 rfl dX7_customerByLegs_73 ?_
            refine r_istore_n C.1 (lv' := [(0, .ref a0), (1, .int v1), (2, .int v2), (3, .int (v3 + 1)), (4, .int v4)]) [1, 2, 3, 0, 4] 75 rfl dX7_customerByLegs_74 (Nat.le_of_ble_eq_true rfl) rfl ?_
            refine r_iinc C.1 (lv' := [(0, .ref a0), (1, .int v1), (2, .int v2), (3, .int (v3 + 1)), (4, .int (v4 + 1))]) 4 [1, 2, 3, 4, 0] 78 rfl dX7_customerByLegs_75 rfl (Nat.le_of_ble_eq_true rfl) rfl rfl ?_
            refine r_goto C.1 22 dX7_customerByLegs_78 rfl ?_
            exact ih κ (v3 + 1) (v4 + 1) h
set_option maxRecDepth 20000 in
theorem w_X7_customerByLegs_7 {F : jFm} (C : jB F RX7 cX7_customerByLegs 5 (some .int) 3 0 0 65) {a0 : Nat} (ha0 : jSof F a0 = (1, 11, 22)) {v1 : Int32} {r : Int32 × jKt} (hq : jOut F (some (.int r.1)) r.2) : ∀ (n : Nat) (κ : jKt) (v2 : Int32), P_X7_customerByLegs_7 a0 v1 n κ v2 = some r → jW F 5 0 0 κ 7 [(0, .ref a0), (1, .int v1), (2, .int v2)] [] := by
  intro n
  induction n with
  | zero => intro κ v2 h; cases h
  | succ n ih =>
    intro κ v2 h
    rw [P_X7_customerByLegs_7] at h
    refine r_iload_n C.1 2 8 rfl dX7_customerByLegs_7 rfl ?_
    refine r_aload_n C.1 0 9 rfl dX7_customerByLegs_8 rfl ?_
    refine r_getR C.1 5 fl_X7_16 rfl ha0 12 rfl dX7_customerByLegs_9 (fun (h57 : jSof F (kR κ a0 5) = (2, 0, 457)) => ?_)
    refine r_iconst C.1 0 rfl 13 rfl dX7_customerByLegs_12 ?_
    refine r_iald C.1 h57 (by decide) 14 rfl dX7_customerByLegs_13 ?_
    refine r_icmp_ge C.1 94 17 rfl dX7_customerByLegs_14 rfl ⟨fun c58 => ?_, fun c58 => ?_⟩
    · have h := if_some_t c58 h
      refine r_aload_n C.1 0 95 rfl dX7_customerByLegs_94 rfl ?_
      refine r_iconst C.1 1 rfl 96 rfl dX7_customerByLegs_95 ?_
      obtain ⟨y60, κ61, e59, h⟩ := bd2_some h
      refine r_cVi C.1 (st := []) (c_X7_fail ha0 e59) yv_X7_fail ml_X7_91 rfl ha0 rfl ⟨Nat.le_of_ble_eq_true rfl, Nat.le_of_ble_eq_true rfl⟩ ⟨Nat.le_of_ble_eq_true rfl, Nat.le_of_ble_eq_true rfl⟩ (Nat.le_of_ble_eq_true rfl) rfl 0 0 rfl rfl 99 rfl dX7_customerByLegs_96 ?_
      cases h
      exact r_zret C rfl rfl (Nat.le_of_ble_eq_true rfl) (Nat.le_of_ble_eq_true rfl) dX7_customerByLegs_99 hq
    · have h := if_some_f c58 h
      refine r_iconst C.1 0 rfl 18 rfl dX7_customerByLegs_17 ?_
      refine r_istore_n C.1 (lv' := [(0, .ref a0), (1, .int v1), (2, .int v2), (3, .int 0)]) [1, 2, 3, 0] 19 rfl dX7_customerByLegs_18 (Nat.le_of_ble_eq_true rfl) rfl ?_
      refine r_iconst C.1 0 rfl 20 rfl dX7_customerByLegs_19 ?_
      refine r_istore C.1 (lv' := [(0, .ref a0), (1, .int v1), (2, .int v2), (3, .int 0), (4, .int 0)]) [1, 2, 3, 4, 0] 22 rfl dX7_customerByLegs_20 (Nat.le_of_ble_eq_true rfl) rfl ?_
      exact w_X7_customerByLegs_22 C ha0 hq ih 4000 κ 0 0 h
set_option maxRecDepth 20000 in
theorem w_X7_customerByLegs_0 {F : jFm} (C : jB F RX7 cX7_customerByLegs 5 (some .int) 3 0 0 65) {κ : jKt} {a0 : Nat} (ha0 : jSof F a0 = (1, 11, 22)) {x1 : Int32} {r : Int32 × jKt} (hq : jOut F (some (.int r.1)) r.2) (h : P_X7_customerByLegs κ a0 x1 = some r) : jW F 5 0 0 κ 0 [(0, .ref a0), (1, .int x1)] [] := by
  unfold P_X7_customerByLegs at h
  refine r_aload_n C.1 0 1 rfl dX7_customerByLegs_0 rfl ?_
  refine r_iconst C.1 0 rfl 2 rfl dX7_customerByLegs_1 ?_
  obtain ⟨κ62, e63, h⟩ := bnd_some h
  refine r_putI C.1 0 fw_X7_50 rfl rfl rfl ha0 e63 5 rfl dX7_customerByLegs_2 ?_
  refine r_iconst C.1 0 rfl 6 rfl dX7_customerByLegs_5 ?_
  refine r_istore_n C.1 (lv' := [(0, .ref a0), (1, .int x1), (2, .int 0)]) [1, 2, 0] 7 rfl dX7_customerByLegs_6 (Nat.le_of_ble_eq_true rfl) rfl ?_
  exact w_X7_customerByLegs_7 C ha0 hq 4000 κ62 0 h
theorem c_X7_customerByLegs {l : Launch} {G : jG} {sh : jSh} {κ : jKt} {a0 : Nat} (ha0 : sh a0 = (1, 11, 22)) {x1 : Int32} {r : Int32} {κr : jKt} (h : P_X7_customerByLegs κ a0 x1 = some (r, κr)) : jM l G yX7_customerByLegs cX7_customerByLegs 5 (some .int) 3 0 0 65 [.ref a0, .int x1] (sh, κ) (jIs (some (.int r)) (sh, κr)) jNo :=
  r_body (by decide) (Nat.le_of_ble_eq_true rfl) fun F C hl hG hs ho hx => by
    subst hs
    exact w_X7_customerByLegs_0 C ha0 (by rw [ho]; exact ⟨rfl, rfl⟩) h
set_option maxRecDepth 20000 in
theorem w_X7_suitCount_0 {F : jFm} (C : jB F RX7 cX7_suitCount 1 (some .int) 1 0 0 21) {κ : jKt} {a0 : Nat} (ha0 : jSof F a0 = (1, 11, 22)) {r : Int32 × jKt} (hq : jOut F (some (.int r.1)) r.2) (h : P_X7_suitCount κ a0 = some r) : jW F 1 0 0 κ 0 [(0, .ref a0)] [] := by
  unfold P_X7_suitCount at h
  refine r_aload_n C.1 0 1 rfl dX7_suitCount_0 rfl ?_
  refine r_iconst C.1 1 rfl 2 rfl dX7_suitCount_1 ?_
  obtain ⟨y8, κ9, e7, h⟩ := bd2_some h
  refine r_cVi C.1 (st := []) (c_X7_tells ha0 e7) yv_X7_tells ml_X7_178 rfl ha0 rfl ⟨Nat.le_of_ble_eq_true rfl, Nat.le_of_ble_eq_true rfl⟩ ⟨Nat.le_of_ble_eq_true rfl, Nat.le_of_ble_eq_true rfl⟩ (Nat.le_of_ble_eq_true rfl) rfl 0 0 rfl rfl 5 rfl dX7_suitCount_2 ?_
  cases h
  exact r_zret C rfl rfl (Nat.le_of_ble_eq_true rfl) (Nat.le_of_ble_eq_true rfl) dX7_suitCount_5 hq
theorem c_X7_suitCount {l : Launch} {G : jG} {sh : jSh} {κ : jKt} {a0 : Nat} (ha0 : sh a0 = (1, 11, 22)) {r : Int32} {κr : jKt} (h : P_X7_suitCount κ a0 = some (r, κr)) : jM l G yX7_suitCount cX7_suitCount 1 (some .int) 1 0 0 21 [.ref a0] (sh, κ) (jIs (some (.int r)) (sh, κr)) jNo :=
  r_body (by decide) (Nat.le_of_ble_eq_true rfl) fun F C hl hG hs ho hx => by
    subst hs
    exact w_X7_suitCount_0 C ha0 (by rw [ho]; exact ⟨rfl, rfl⟩) h
set_option maxRecDepth 20000 in
theorem w_X7_suitAt_22 {F : jFm} (C : jB F RX7 cX7_suitAt 2 (some .int) 1 0 0 22) {κ : jKt} {a0 : Nat} (ha0 : jSof F a0 = (1, 11, 22)) {v1 : Int32} {s0 : Int32} {a1 : Nat} (ha1 : jSof F a1 = (1, 11, 22)) {r : Int32 × jKt} (hq : jOut F (some (.int r.1)) r.2) (h : P_X7_suitAt_22 κ a0 v1 s0 a1 = some r) : jW F 2 0 0 κ 22 [(0, .ref a0), (1, .int v1)] [.int s0, .ref a1] := by
  unfold P_X7_suitAt_22 at h
  obtain ⟨κ23, e24, h⟩ := bnd_some h
  refine r_putI C.1 0 fw_X7_50 rfl rfl rfl ha1 e24 25 rfl dX7_suitAt_22 ?_
  refine r_aload_n C.1 0 26 rfl dX7_suitAt_25 rfl ?_
  refine r_getI C.1 0 fl_X7_50 rfl ha0 29 rfl dX7_suitAt_26 ?_
  refine r_if_ne C.1 45 32 rfl dX7_suitAt_29 rfl ⟨fun c25 => ?_, fun c25 => ?_⟩
  · have h := if_some_f c25 h
    refine r_iconst C.1 0 rfl 46 rfl dX7_suitAt_45 ?_
    cases h
    exact r_zret C rfl rfl (Nat.le_of_ble_eq_true rfl) (Nat.le_of_ble_eq_true rfl) dX7_suitAt_46 hq
  · have h := if_some_t c25 h
    refine r_aload_n C.1 0 33 rfl dX7_suitAt_32 rfl ?_
    refine r_getR C.1 5 fl_X7_16 rfl ha0 36 rfl dX7_suitAt_33 (fun (h26 : jSof F (kR κ23 a0 5) = (2, 0, 457)) => ?_)
    refine r_iload_n C.1 1 37 rfl dX7_suitAt_36 rfl ?_
    refine r_iconst C.1 0 rfl 38 rfl dX7_suitAt_37 ?_
    obtain ⟨y28, e27, h⟩ := bd_some h
    refine r_cSi C.1 (st := [.ref (kR κ23 a0 5)]) (c_X7_of e27) yv_X7_of ml_X7_75 rfl ⟨Nat.le_of_ble_eq_true rfl, Nat.le_of_ble_eq_true rfl⟩ ⟨Nat.le_of_ble_eq_true rfl, Nat.le_of_ble_eq_true rfl⟩ (Nat.le_of_ble_eq_true rfl) rfl 0 0 rfl rfl 41 rfl dX7_suitAt_38 ?_
    obtain ⟨i29, h⟩ := ck_some h
    refine r_iald C.1 h26 i29 42 rfl dX7_suitAt_41 ?_
    refine r_goto C.1 46 dX7_suitAt_42 rfl ?_
    cases h
    exact r_zret C rfl rfl (Nat.le_of_ble_eq_true rfl) (Nat.le_of_ble_eq_true rfl) dX7_suitAt_46 hq
set_option maxRecDepth 20000 in
theorem w_X7_suitAt_0 {F : jFm} (C : jB F RX7 cX7_suitAt 2 (some .int) 1 0 0 22) {κ : jKt} {a0 : Nat} (ha0 : jSof F a0 = (1, 11, 22)) {x1 : Int32} {r : Int32 × jKt} (hq : jOut F (some (.int r.1)) r.2) (h : P_X7_suitAt κ a0 x1 = some r) : jW F 2 0 0 κ 0 [(0, .ref a0), (1, .int x1)] [] := by
  unfold P_X7_suitAt at h
  refine r_aload_n C.1 0 1 rfl dX7_suitAt_0 rfl ?_
  refine r_iload_n C.1 1 2 rfl dX7_suitAt_1 rfl ?_
  refine r_iconst C.1 0 rfl 3 rfl dX7_suitAt_2 ?_
  refine r_aload_n C.1 0 4 rfl dX7_suitAt_3 rfl ?_
  refine r_getR C.1 5 fl_X7_16 rfl ha0 7 rfl dX7_suitAt_4 (fun (h30 : jSof F (kR κ a0 5) = (2, 0, 457)) => ?_)
  refine r_iconst C.1 1 rfl 8 rfl dX7_suitAt_7 ?_
  refine r_iald C.1 h30 (by decide) 9 rfl dX7_suitAt_8 ?_
  refine r_iconst C.1 1 rfl 10 rfl dX7_suitAt_9 ?_
  refine r_isub C.1 11 rfl dX7_suitAt_10 ?_
  obtain ⟨y32, e31, h⟩ := bd_some h
  refine r_cSi C.1 (st := [.ref a0]) (c_X7_isIn e31) yv_X7_isIn ml_X7_60 rfl ⟨Nat.le_of_ble_eq_true rfl, Nat.le_of_ble_eq_true rfl⟩ ⟨Nat.le_of_ble_eq_true rfl, Nat.le_of_ble_eq_true rfl⟩ (Nat.le_of_ble_eq_true rfl) rfl 0 0 rfl rfl 14 rfl dX7_suitAt_11 ?_
  refine r_if_eq C.1 21 17 rfl dX7_suitAt_14 rfl ⟨fun c33 => ?_, fun c33 => ?_⟩
  · have h := if_some_t c33 h
    refine r_iconst C.1 1 rfl 22 rfl dX7_suitAt_21 ?_
    exact w_X7_suitAt_22 C ha0 ha0 hq h
  · have h := if_some_f c33 h
    refine r_iconst C.1 0 rfl 18 rfl dX7_suitAt_17 ?_
    refine r_goto C.1 22 dX7_suitAt_18 rfl ?_
    exact w_X7_suitAt_22 C ha0 ha0 hq h
theorem c_X7_suitAt {l : Launch} {G : jG} {sh : jSh} {κ : jKt} {a0 : Nat} (ha0 : sh a0 = (1, 11, 22)) {x1 : Int32} {r : Int32} {κr : jKt} (h : P_X7_suitAt κ a0 x1 = some (r, κr)) : jM l G yX7_suitAt cX7_suitAt 2 (some .int) 1 0 0 22 [.ref a0, .int x1] (sh, κ) (jIs (some (.int r)) (sh, κr)) jNo :=
  r_body (by decide) (Nat.le_of_ble_eq_true rfl) fun F C hl hG hs ho hx => by
    subst hs
    exact w_X7_suitAt_0 C ha0 (by rw [ho]; exact ⟨rfl, rfl⟩) h
set_option maxRecDepth 20000 in
theorem w_X7_isHeld_2 {F : jFm} (C : jB F RX7 cX7_isHeld 4 (some .boolean) 2 0 0 43) {κ : jKt} {a0 : Nat} (ha0 : jSof F a0 = (1, 11, 22)) {v1 : Int32} {v2 : Int32} {r : Int32} (hq : jOut F (some (.int r)) κ) : ∀ (n : Nat) (v3 : Int32), P_X7_isHeld_2 κ a0 v1 v2 n v3 = some r → jW F 4 0 0 κ 2 [(0, .ref a0), (1, .int v1), (2, .int v2), (3, .int v3)] [] := by
  intro n
  induction n with
  | zero => intro v3 h; cases h
  | succ n ih =>
    intro v3 h
    rw [P_X7_isHeld_2] at h
    refine r_iload_n C.1 3 3 rfl dX7_isHeld_2 rfl ?_
    refine r_aload_n C.1 0 4 rfl dX7_isHeld_3 rfl ?_
    refine r_getR C.1 5 fl_X7_16 rfl ha0 7 rfl dX7_isHeld_4 (fun (h27 : jSof F (kR κ a0 5) = (2, 0, 457)) => ?_)
    refine r_iload_n C.1 1 8 rfl dX7_isHeld_7 rfl ?_
    refine r_iconst C.1 3 rfl 9 rfl dX7_isHeld_8 ?_
    obtain ⟨y29, e28, h⟩ := bd_some h
    refine r_cSi C.1 (st := [.ref (kR κ a0 5), .int v3]) (c_X7_of e28) yv_X7_of ml_X7_75 rfl ⟨Nat.le_of_ble_eq_true rfl, Nat.le_of_ble_eq_true rfl⟩ ⟨Nat.le_of_ble_eq_true rfl, Nat.le_of_ble_eq_true rfl⟩ (Nat.le_of_ble_eq_true rfl) rfl 0 0 rfl rfl 12 rfl dX7_isHeld_9 ?_
    obtain ⟨i30, h⟩ := ck_some h
    refine r_iald C.1 h27 i30 13 rfl dX7_isHeld_12 ?_
    refine r_icmp_ge C.1 48 16 rfl dX7_isHeld_13 rfl ⟨fun c31 => ?_, fun c31 => ?_⟩
    · have h := if_some_t c31 h
      refine r_iconst C.1 0 rfl 49 rfl dX7_isHeld_48 ?_
      cases h
      exact r_zret C rfl rfl (Nat.le_of_ble_eq_true rfl) (Nat.le_of_ble_eq_true rfl) dX7_isHeld_49 hq
    · have h := if_some_f c31 h
      refine r_aload_n C.1 0 17 rfl dX7_isHeld_16 rfl ?_
      refine r_iload_n C.1 1 18 rfl dX7_isHeld_17 rfl ?_
      refine r_iload_n C.1 3 19 rfl dX7_isHeld_18 rfl ?_
      obtain ⟨y33, e32, h⟩ := bd_some h
      refine r_cVi C.1 (st := []) (c_X7_second ha0 e32) yv_X7_second ml_X7_129 rfl ha0 rfl ⟨Nat.le_of_ble_eq_true rfl, Nat.le_of_ble_eq_true rfl⟩ ⟨Nat.le_of_ble_eq_true rfl, Nat.le_of_ble_eq_true rfl⟩ (Nat.le_of_ble_eq_true rfl) rfl 0 0 rfl rfl 22 rfl dX7_isHeld_19 ?_
      refine r_iload_n C.1 2 23 rfl dX7_isHeld_22 rfl ?_
      refine r_icmp_ne C.1 42 26 rfl dX7_isHeld_23 rfl ⟨fun c34 => ?_, fun c34 => ?_⟩
      · have h := if_some_f c34 h
        refine r_iinc C.1 (lv' := [(0, .ref a0), (1, .int v1), (2, .int v2), (3, .int (v3 + 1))]) 3 [1, 2, 3, 0] 45 rfl dX7_isHeld_42 rfl (Nat.le_of_ble_eq_true rfl) rfl rfl ?_
        refine r_goto C.1 2 dX7_isHeld_45 rfl ?_
        exact ih (v3 + 1) h
      · have h := if_some_t c34 h
        refine r_aload_n C.1 0 27 rfl dX7_isHeld_26 rfl ?_
        refine r_getR C.1 10 fl_X7_32 rfl ha0 30 rfl dX7_isHeld_27 (fun (h35 : jSof F (kR κ a0 10) = (2, 0, 16)) => ?_)
        refine r_aload_n C.1 0 31 rfl dX7_isHeld_30 rfl ?_
        refine r_iload_n C.1 1 32 rfl dX7_isHeld_31 rfl ?_
        refine r_iload_n C.1 3 33 rfl dX7_isHeld_32 rfl ?_
        obtain ⟨y37, e36, h⟩ := bd_some h
        refine r_cVi C.1 (st := [.ref (kR κ a0 10)]) (c_X7_first ha0 e36) yv_X7_first ml_X7_132 rfl ha0 rfl ⟨Nat.le_of_ble_eq_true rfl, Nat.le_of_ble_eq_true rfl⟩ ⟨Nat.le_of_ble_eq_true rfl, Nat.le_of_ble_eq_true rfl⟩ (Nat.le_of_ble_eq_true rfl) rfl 0 0 rfl rfl 36 rfl dX7_isHeld_33 ?_
        obtain ⟨i38, h⟩ := ck_some h
        refine r_iald C.1 h35 i38 37 rfl dX7_isHeld_36 ?_
        refine r_if_ne C.1 42 40 rfl dX7_isHeld_37 rfl ⟨fun c39 => ?_, fun c39 => ?_⟩
        · have h := if_some_f c39 h
          refine r_iinc C.1 (lv' := [(0, .ref a0), (1, .int v1), (2, .int v2), (3, .int (v3 + 1))]) 3 [1, 2, 3, 0] 45 rfl dX7_isHeld_42 rfl (Nat.le_of_ble_eq_true rfl) rfl rfl ?_
          refine r_goto C.1 2 dX7_isHeld_45 rfl ?_
          exact ih (v3 + 1) h
        · have h := if_some_t c39 h
          refine r_iconst C.1 1 rfl 41 rfl dX7_isHeld_40 ?_
          cases h
          exact r_zret C rfl rfl (Nat.le_of_ble_eq_true rfl) (Nat.le_of_ble_eq_true rfl) dX7_isHeld_41 hq
set_option maxRecDepth 20000 in
theorem w_X7_isHeld_0 {F : jFm} (C : jB F RX7 cX7_isHeld 4 (some .boolean) 2 0 0 43) {κ : jKt} {a0 : Nat} (ha0 : jSof F a0 = (1, 11, 22)) {x1 : Int32} {x2 : Int32} {r : Int32} (hq : jOut F (some (.int r)) κ) (h : P_X7_isHeld κ a0 x1 x2 = some r) : jW F 4 0 0 κ 0 [(0, .ref a0), (1, .int x1), (2, .int x2)] [] := by
  unfold P_X7_isHeld at h
  refine r_iconst C.1 0 rfl 1 rfl dX7_isHeld_0 ?_
  refine r_istore_n C.1 (lv' := [(0, .ref a0), (1, .int x1), (2, .int x2), (3, .int 0)]) [1, 2, 3, 0] 2 rfl dX7_isHeld_1 (Nat.le_of_ble_eq_true rfl) rfl ?_
  exact w_X7_isHeld_2 C ha0 hq 4000 0 h
theorem c_X7_isHeld {l : Launch} {G : jG} {sh : jSh} {κ : jKt} {a0 : Nat} (ha0 : sh a0 = (1, 11, 22)) {x1 : Int32} {x2 : Int32} {r : Int32} (h : P_X7_isHeld κ a0 x1 x2 = some r) : jM l G yX7_isHeld cX7_isHeld 4 (some .boolean) 2 0 0 43 [.ref a0, .int x1, .int x2] (sh, κ) (jIs (some (.int r)) (sh, κ)) jNo :=
  r_body (by decide) (Nat.le_of_ble_eq_true rfl) fun F C hl hG hs ho hx => by
    subst hs
    exact w_X7_isHeld_0 C ha0 (by rw [ho]; exact ⟨rfl, rfl⟩) h
set_option maxRecDepth 20000 in
theorem w_X7_sorts_104 {F : jFm} (C : jB F RX7 cX7_sorts 5 (some .int) 3 0 0 66) {κ : jKt} {a0 : Nat} (ha0 : jSof F a0 = (1, 11, 22)) {v1 : Int32} {v2 : Int32} {v3 : Int32} {v4 : Int32} {r : Int32 × jKt} (hq : jOut F (some (.int r.1)) r.2) {K48 : jKt → Int32 → Int32 → Option (Int32 × jKt)} (hK48 : ∀ (κ : jKt) (u2 : Int32) (u3 : Int32), K48 κ u2 u3 = some r → jW F 5 0 0 κ 48 [(0, .ref a0), (1, .int v1), (2, .int u2), (3, .int u3)] []) (h : P_X7_sorts_104 κ a0 v1 v2 v3 v4 K48 = some r) : jW F 5 0 0 κ 104 [(0, .ref a0), (1, .int v1), (2, .int v2), (3, .int v3), (4, .int v4)] [] := by
  unfold P_X7_sorts_104 at h
  refine r_iload C.1 4 106 rfl dX7_sorts_104 rfl ?_
  refine r_if_eq C.1 113 109 rfl dX7_sorts_106 rfl ⟨fun c73 => ?_, fun c73 => ?_⟩
  · have h := if_some_t c73 h
    refine r_iload_n C.1 3 114 rfl dX7_sorts_113 rfl ?_
    refine r_iconst C.1 1 rfl 115 rfl dX7_sorts_114 ?_
    refine r_iadd C.1 116 rfl dX7_sorts_115 ?_
    refine r_istore_n C.1 (lv' := [(0, .ref a0), (1, .int v1), (2, .int v2), (3, .int (v3 + 1)), (4, .int v4)]) [1, 2, 3, 0, 4] 117 rfl dX7_sorts_116 (Nat.le_of_ble_eq_true rfl) rfl ?_
    refine r_goto C.1 48 dX7_sorts_117 rfl ?_
    refine r_lv [0, 1, 2, 3] rfl ?_
    exact hK48 κ v2 (v3 + 1) h
  · have h := if_some_f c73 h
    refine r_iconst C.1 0 rfl 110 rfl dX7_sorts_109 ?_
    refine r_goto C.1 116 dX7_sorts_110 rfl ?_
    refine r_istore_n C.1 (lv' := [(0, .ref a0), (1, .int v1), (2, .int v2), (3, .int 0), (4, .int v4)]) [1, 2, 3, 0, 4] 117 rfl dX7_sorts_116 (Nat.le_of_ble_eq_true rfl) rfl ?_
    refine r_goto C.1 48 dX7_sorts_117 rfl ?_
    refine r_lv [0, 1, 2, 3] rfl ?_
    exact hK48 κ v2 0 h
set_option maxRecDepth 20000 in
theorem w_X7_sorts_80 {F : jFm} (C : jB F RX7 cX7_sorts 5 (some .int) 3 0 0 66) {κ : jKt} {a0 : Nat} (ha0 : jSof F a0 = (1, 11, 22)) {v1 : Int32} {v2 : Int32} {v3 : Int32} {s0 : Int32} {r : Int32 × jKt} (hq : jOut F (some (.int r.1)) r.2) {K48 : jKt → Int32 → Int32 → Option (Int32 × jKt)} (hK48 : ∀ (κ : jKt) (u2 : Int32) (u3 : Int32), K48 κ u2 u3 = some r → jW F 5 0 0 κ 48 [(0, .ref a0), (1, .int v1), (2, .int u2), (3, .int u3)] []) (h : P_X7_sorts_80 κ a0 v1 v2 v3 s0 K48 = some r) : jW F 5 0 0 κ 80 [(0, .ref a0), (1, .int v1), (2, .int v2), (3, .int v3)] [.int s0] := by
  unfold P_X7_sorts_80 at h
  refine r_istore C.1 (lv' := [(0, .ref a0), (1, .int v1), (2, .int v2), (3, .int v3), (4, .int s0)]) [1, 2, 3, 4, 0] 82 rfl dX7_sorts_80 (Nat.le_of_ble_eq_true rfl) rfl ?_
  refine r_iload C.1 4 84 rfl dX7_sorts_82 rfl ?_
  refine r_if_eq C.1 104 87 rfl dX7_sorts_84 rfl ⟨fun c74 => ?_, fun c74 => ?_⟩
  · have h := if_some_t c74 h
    exact w_X7_sorts_104 C ha0 hq hK48 h
  · have h := if_some_f c74 h
    refine r_aload_n C.1 0 88 rfl dX7_sorts_87 rfl ?_
    refine r_getR C.1 10 fl_X7_32 rfl ha0 91 rfl dX7_sorts_88 (fun (h75 : jSof F (kR κ a0 10) = (2, 0, 16)) => ?_)
    refine r_iload_n C.1 3 92 rfl dX7_sorts_91 rfl ?_
    refine r_iconst C.1 1 rfl 93 rfl dX7_sorts_92 ?_
    obtain ⟨i76, h⟩ := ck_some h
    obtain ⟨κ77, e78, h⟩ := bnd_some h
    refine r_iast C.1 h75 i76 e78 94 rfl dX7_sorts_93 ?_
    refine r_aload_n C.1 0 95 rfl dX7_sorts_94 rfl ?_
    refine r_getR C.1 9 fl_X7_29 rfl ha0 98 rfl dX7_sorts_95 (fun (h79 : jSof F (kR κ77 a0 9) = (2, 0, 16)) => ?_)
    refine r_iload_n C.1 2 99 rfl dX7_sorts_98 rfl ?_
    refine r_iload_n C.1 3 100 rfl dX7_sorts_99 rfl ?_
    obtain ⟨i80, h⟩ := ck_some h
    obtain ⟨κ81, e82, h⟩ := bnd_some h
    refine r_iast C.1 h79 i80 e82 101 rfl dX7_sorts_100 ?_
    refine r_iinc C.1 (lv' := [(0, .ref a0), (1, .int v1), (2, .int (v2 + 1)), (3, .int v3), (4, .int s0)]) 2 [1, 2, 0, 3, 4] 104 rfl dX7_sorts_101 rfl (Nat.le_of_ble_eq_true rfl) rfl rfl ?_
    exact w_X7_sorts_104 C ha0 hq hK48 h
set_option maxRecDepth 20000 in
theorem w_X7_sorts_79 {F : jFm} (C : jB F RX7 cX7_sorts 5 (some .int) 3 0 0 66) {κ : jKt} {a0 : Nat} (ha0 : jSof F a0 = (1, 11, 22)) {v1 : Int32} {v2 : Int32} {v3 : Int32} {r : Int32 × jKt} (hq : jOut F (some (.int r.1)) r.2) {K48 : jKt → Int32 → Int32 → Option (Int32 × jKt)} (hK48 : ∀ (κ : jKt) (u2 : Int32) (u3 : Int32), K48 κ u2 u3 = some r → jW F 5 0 0 κ 48 [(0, .ref a0), (1, .int v1), (2, .int u2), (3, .int u3)] []) (h : P_X7_sorts_79 κ a0 v1 v2 v3 K48 = some r) : jW F 5 0 0 κ 79 [(0, .ref a0), (1, .int v1), (2, .int v2), (3, .int v3)] [] := by
  unfold P_X7_sorts_79 at h
  refine r_iconst C.1 0 rfl 80 rfl dX7_sorts_79 ?_
  exact w_X7_sorts_80 C ha0 hq hK48 h
set_option maxRecDepth 20000 in
theorem w_X7_sorts_48 {F : jFm} (C : jB F RX7 cX7_sorts 5 (some .int) 3 0 0 66) {a0 : Nat} (ha0 : jSof F a0 = (1, 11, 22)) {v1 : Int32} {r : Int32 × jKt} (hq : jOut F (some (.int r.1)) r.2) : ∀ (n : Nat) (κ : jKt) (v2 : Int32) (v3 : Int32), P_X7_sorts_48 a0 v1 n κ v2 v3 = some r → jW F 5 0 0 κ 48 [(0, .ref a0), (1, .int v1), (2, .int v2), (3, .int v3)] [] := by
  intro n
  induction n with
  | zero => intro κ v2 v3 h; cases h
  | succ n ih =>
    intro κ v2 v3 h
    rw [P_X7_sorts_48] at h
    refine r_iload_n C.1 3 49 rfl dX7_sorts_48 rfl ?_
    refine r_aload_n C.1 0 50 rfl dX7_sorts_49 rfl ?_
    refine r_iload_n C.1 1 51 rfl dX7_sorts_50 rfl ?_
    obtain ⟨y84, e83, h⟩ := bd_some h
    refine r_cVi C.1 (st := [.int v3]) (c_X7_sleeves ha0 e83) yv_X7_sleeves ml_X7_79 rfl ha0 rfl ⟨Nat.le_of_ble_eq_true rfl, Nat.le_of_ble_eq_true rfl⟩ ⟨Nat.le_of_ble_eq_true rfl, Nat.le_of_ble_eq_true rfl⟩ (Nat.le_of_ble_eq_true rfl) rfl 0 0 rfl rfl 54 rfl dX7_sorts_51 ?_
    refine r_icmp_ge C.1 120 57 rfl dX7_sorts_54 rfl ⟨fun c85 => ?_, fun c85 => ?_⟩
    · have h := if_some_t c85 h
      refine r_iload_n C.1 2 121 rfl dX7_sorts_120 rfl ?_
      cases h
      exact r_zret C rfl rfl (Nat.le_of_ble_eq_true rfl) (Nat.le_of_ble_eq_true rfl) dX7_sorts_121 hq
    · have h := if_some_f c85 h
      refine r_aload_n C.1 0 58 rfl dX7_sorts_57 rfl ?_
      refine r_getR C.1 10 fl_X7_32 rfl ha0 61 rfl dX7_sorts_58 (fun (h86 : jSof F (kR κ a0 10) = (2, 0, 16)) => ?_)
      refine r_iload_n C.1 3 62 rfl dX7_sorts_61 rfl ?_
      obtain ⟨i87, h⟩ := ck_some h
      refine r_iald C.1 h86 i87 63 rfl dX7_sorts_62 ?_
      refine r_if_ne C.1 79 66 rfl dX7_sorts_63 rfl ⟨fun c88 => ?_, fun c88 => ?_⟩
      · have h := if_some_f c88 h
        exact w_X7_sorts_79 C ha0 hq ih h
      · have h := if_some_t c88 h
        refine r_aload_n C.1 0 67 rfl dX7_sorts_66 rfl ?_
        refine r_iload_n C.1 1 68 rfl dX7_sorts_67 rfl ?_
        refine r_iload_n C.1 3 69 rfl dX7_sorts_68 rfl ?_
        obtain ⟨y90, e89, h⟩ := bd_some h
        refine r_cVi C.1 (st := []) (c_X7_isHeld ha0 e89) yv_X7_isHeld ml_X7_193 rfl ha0 rfl ⟨Nat.le_of_ble_eq_true rfl, Nat.le_of_ble_eq_true rfl⟩ ⟨Nat.le_of_ble_eq_true rfl, Nat.le_of_ble_eq_true rfl⟩ (Nat.le_of_ble_eq_true rfl) rfl 0 0 rfl rfl 72 rfl dX7_sorts_69 ?_
        refine r_if_ne C.1 79 75 rfl dX7_sorts_72 rfl ⟨fun c91 => ?_, fun c91 => ?_⟩
        · have h := if_some_f c91 h
          exact w_X7_sorts_79 C ha0 hq ih h
        · have h := if_some_t c91 h
          refine r_iconst C.1 1 rfl 76 rfl dX7_sorts_75 ?_
          refine r_goto C.1 80 dX7_sorts_76 rfl ?_
          exact w_X7_sorts_80 C ha0 hq ih h
set_option maxRecDepth 20000 in
theorem w_X7_sorts_2 {F : jFm} (C : jB F RX7 cX7_sorts 5 (some .int) 3 0 0 66) {a0 : Nat} (ha0 : jSof F a0 = (1, 11, 22)) {v1 : Int32} {r : Int32 × jKt} (hq : jOut F (some (.int r.1)) r.2) : ∀ (n : Nat) (κ : jKt) (v2 : Int32), P_X7_sorts_2 a0 v1 n κ v2 = some r → jW F 5 0 0 κ 2 [(0, .ref a0), (1, .int v1), (2, .int v2)] [] := by
  intro n
  induction n with
  | zero => intro κ v2 h; cases h
  | succ n ih =>
    intro κ v2 h
    rw [P_X7_sorts_2] at h
    refine r_iload_n C.1 2 3 rfl dX7_sorts_2 rfl ?_
    refine r_bipush C.1 16 rfl 5 rfl dX7_sorts_3 ?_
    refine r_icmp_ge C.1 44 8 rfl dX7_sorts_5 rfl ⟨fun c92 => ?_, fun c92 => ?_⟩
    · have h := if_some_t c92 h
      refine r_iconst C.1 0 rfl 45 rfl dX7_sorts_44 ?_
      refine r_istore_n C.1 (lv' := [(0, .ref a0), (1, .int v1), (2, .int 0)]) [1, 2, 0] 46 rfl dX7_sorts_45 (Nat.le_of_ble_eq_true rfl) rfl ?_
      refine r_iconst C.1 0 rfl 47 rfl dX7_sorts_46 ?_
      refine r_istore_n C.1 (lv' := [(0, .ref a0), (1, .int v1), (2, .int 0), (3, .int 0)]) [1, 2, 3, 0] 48 rfl dX7_sorts_47 (Nat.le_of_ble_eq_true rfl) rfl ?_
      exact w_X7_sorts_48 C ha0 hq 4000 κ 0 0 h
    · have h := if_some_f c92 h
      refine r_aload_n C.1 0 9 rfl dX7_sorts_8 rfl ?_
      refine r_getR C.1 10 fl_X7_32 rfl ha0 12 rfl dX7_sorts_9 (fun (h93 : jSof F (kR κ a0 10) = (2, 0, 16)) => ?_)
      refine r_iload_n C.1 2 13 rfl dX7_sorts_12 rfl ?_
      refine r_iload_n C.1 2 14 rfl dX7_sorts_13 rfl ?_
      refine r_aload_n C.1 0 15 rfl dX7_sorts_14 rfl ?_
      refine r_iload_n C.1 1 16 rfl dX7_sorts_15 rfl ?_
      obtain ⟨y95, e94, h⟩ := bd_some h
      refine r_cVi C.1 (st := [.int v2, .int v2, .ref (kR κ a0 10)]) (c_X7_sleeves ha0 e94) yv_X7_sleeves ml_X7_79 rfl ha0 rfl ⟨Nat.le_of_ble_eq_true rfl, Nat.le_of_ble_eq_true rfl⟩ ⟨Nat.le_of_ble_eq_true rfl, Nat.le_of_ble_eq_true rfl⟩ (Nat.le_of_ble_eq_true rfl) rfl 0 0 rfl rfl 19 rfl dX7_sorts_16 ?_
      refine r_icmp_ge C.1 36 22 rfl dX7_sorts_19 rfl ⟨fun c96 => ?_, fun c96 => ?_⟩
      · have h := if_some_t c96 h
        refine r_iconst C.1 1 rfl 37 rfl dX7_sorts_36 ?_
        obtain ⟨i97, h⟩ := ck_some h
        obtain ⟨κ98, e99, h⟩ := bnd_some h
        refine r_iast C.1 h93 i97 e99 38 rfl dX7_sorts_37 ?_
        refine r_iinc C.1 (lv' := [(0, .ref a0), (1, .int v1), (2, .int (v2 + 1))]) 2 [1, 2, 0] 41 rfl dX7_sorts_38 rfl (Nat.le_of_ble_eq_true rfl) rfl rfl ?_
        refine r_goto C.1 2 dX7_sorts_41 rfl ?_
        exact ih κ98 (v2 + 1) h
      · have h := if_some_f c96 h
        refine r_aload_n C.1 0 23 rfl dX7_sorts_22 rfl ?_
        refine r_iload_n C.1 1 24 rfl dX7_sorts_23 rfl ?_
        refine r_iload_n C.1 2 25 rfl dX7_sorts_24 rfl ?_
        obtain ⟨y101, e100, h⟩ := bd_some h
        refine r_cVi C.1 (st := [.int v2, .ref (kR κ a0 10)]) (c_X7_state ha0 e100) yv_X7_state ml_X7_85 rfl ha0 rfl ⟨Nat.le_of_ble_eq_true rfl, Nat.le_of_ble_eq_true rfl⟩ ⟨Nat.le_of_ble_eq_true rfl, Nat.le_of_ble_eq_true rfl⟩ (Nat.le_of_ble_eq_true rfl) rfl 0 0 rfl rfl 28 rfl dX7_sorts_25 ?_
        refine r_iconst C.1 2 rfl 29 rfl dX7_sorts_28 ?_
        refine r_icmp_eq C.1 36 32 rfl dX7_sorts_29 rfl ⟨fun c102 => ?_, fun c102 => ?_⟩
        · have h := if_some_t c102 h
          refine r_iconst C.1 1 rfl 37 rfl dX7_sorts_36 ?_
          obtain ⟨i103, h⟩ := ck_some h
          obtain ⟨κ104, e105, h⟩ := bnd_some h
          refine r_iast C.1 h93 i103 e105 38 rfl dX7_sorts_37 ?_
          refine r_iinc C.1 (lv' := [(0, .ref a0), (1, .int v1), (2, .int (v2 + 1))]) 2 [1, 2, 0] 41 rfl dX7_sorts_38 rfl (Nat.le_of_ble_eq_true rfl) rfl rfl ?_
          refine r_goto C.1 2 dX7_sorts_41 rfl ?_
          exact ih κ104 (v2 + 1) h
        · have h := if_some_f c102 h
          refine r_iconst C.1 0 rfl 33 rfl dX7_sorts_32 ?_
          refine r_goto C.1 37 dX7_sorts_33 rfl ?_
          obtain ⟨i106, h⟩ := ck_some h
          obtain ⟨κ107, e108, h⟩ := bnd_some h
          refine r_iast C.1 h93 i106 e108 38 rfl dX7_sorts_37 ?_
          refine r_iinc C.1 (lv' := [(0, .ref a0), (1, .int v1), (2, .int (v2 + 1))]) 2 [1, 2, 0] 41 rfl dX7_sorts_38 rfl (Nat.le_of_ble_eq_true rfl) rfl rfl ?_
          refine r_goto C.1 2 dX7_sorts_41 rfl ?_
          exact ih κ107 (v2 + 1) h
set_option maxRecDepth 20000 in
theorem w_X7_sorts_0 {F : jFm} (C : jB F RX7 cX7_sorts 5 (some .int) 3 0 0 66) {κ : jKt} {a0 : Nat} (ha0 : jSof F a0 = (1, 11, 22)) {x1 : Int32} {r : Int32 × jKt} (hq : jOut F (some (.int r.1)) r.2) (h : P_X7_sorts κ a0 x1 = some r) : jW F 5 0 0 κ 0 [(0, .ref a0), (1, .int x1)] [] := by
  unfold P_X7_sorts at h
  refine r_iconst C.1 0 rfl 1 rfl dX7_sorts_0 ?_
  refine r_istore_n C.1 (lv' := [(0, .ref a0), (1, .int x1), (2, .int 0)]) [1, 2, 0] 2 rfl dX7_sorts_1 (Nat.le_of_ble_eq_true rfl) rfl ?_
  exact w_X7_sorts_2 C ha0 hq 4000 κ 0 h
theorem c_X7_sorts {l : Launch} {G : jG} {sh : jSh} {κ : jKt} {a0 : Nat} (ha0 : sh a0 = (1, 11, 22)) {x1 : Int32} {r : Int32} {κr : jKt} (h : P_X7_sorts κ a0 x1 = some (r, κr)) : jM l G yX7_sorts cX7_sorts 5 (some .int) 3 0 0 66 [.ref a0, .int x1] (sh, κ) (jIs (some (.int r)) (sh, κr)) jNo :=
  r_body (by decide) (Nat.le_of_ble_eq_true rfl) fun F C hl hG hs ho hx => by
    subst hs
    exact w_X7_sorts_0 C ha0 (by rw [ho]; exact ⟨rfl, rfl⟩) h
set_option maxRecDepth 20000 in
theorem w_X7_boughtTotal_0 {F : jFm} (C : jB F RX7 cX7_boughtTotal 1 (some .int) 1 0 0 21) {κ : jKt} {a0 : Nat} (ha0 : jSof F a0 = (1, 11, 22)) {r : Int32 × jKt} (hq : jOut F (some (.int r.1)) r.2) (h : P_X7_boughtTotal κ a0 = some r) : jW F 1 0 0 κ 0 [(0, .ref a0)] [] := by
  unfold P_X7_boughtTotal at h
  refine r_aload_n C.1 0 1 rfl dX7_boughtTotal_0 rfl ?_
  refine r_iconst C.1 3 rfl 2 rfl dX7_boughtTotal_1 ?_
  obtain ⟨y8, κ9, e7, h⟩ := bd2_some h
  refine r_cVi C.1 (st := []) (c_X7_tells ha0 e7) yv_X7_tells ml_X7_178 rfl ha0 rfl ⟨Nat.le_of_ble_eq_true rfl, Nat.le_of_ble_eq_true rfl⟩ ⟨Nat.le_of_ble_eq_true rfl, Nat.le_of_ble_eq_true rfl⟩ (Nat.le_of_ble_eq_true rfl) rfl 0 0 rfl rfl 5 rfl dX7_boughtTotal_2 ?_
  cases h
  exact r_zret C rfl rfl (Nat.le_of_ble_eq_true rfl) (Nat.le_of_ble_eq_true rfl) dX7_boughtTotal_5 hq
theorem c_X7_boughtTotal {l : Launch} {G : jG} {sh : jSh} {κ : jKt} {a0 : Nat} (ha0 : sh a0 = (1, 11, 22)) {r : Int32} {κr : jKt} (h : P_X7_boughtTotal κ a0 = some (r, κr)) : jM l G yX7_boughtTotal cX7_boughtTotal 1 (some .int) 1 0 0 21 [.ref a0] (sh, κ) (jIs (some (.int r)) (sh, κr)) jNo :=
  r_body (by decide) (Nat.le_of_ble_eq_true rfl) fun F C hl hG hs ho hx => by
    subst hs
    exact w_X7_boughtTotal_0 C ha0 (by rw [ho]; exact ⟨rfl, rfl⟩) h
set_option maxRecDepth 20000 in
theorem w_X7_wasteTotal_0 {F : jFm} (C : jB F RX7 cX7_wasteTotal 1 (some .int) 1 0 0 21) {κ : jKt} {a0 : Nat} (ha0 : jSof F a0 = (1, 11, 22)) {r : Int32 × jKt} (hq : jOut F (some (.int r.1)) r.2) (h : P_X7_wasteTotal κ a0 = some r) : jW F 1 0 0 κ 0 [(0, .ref a0)] [] := by
  unfold P_X7_wasteTotal at h
  refine r_aload_n C.1 0 1 rfl dX7_wasteTotal_0 rfl ?_
  refine r_iconst C.1 4 rfl 2 rfl dX7_wasteTotal_1 ?_
  obtain ⟨y8, κ9, e7, h⟩ := bd2_some h
  refine r_cVi C.1 (st := []) (c_X7_tells ha0 e7) yv_X7_tells ml_X7_178 rfl ha0 rfl ⟨Nat.le_of_ble_eq_true rfl, Nat.le_of_ble_eq_true rfl⟩ ⟨Nat.le_of_ble_eq_true rfl, Nat.le_of_ble_eq_true rfl⟩ (Nat.le_of_ble_eq_true rfl) rfl 0 0 rfl rfl 5 rfl dX7_wasteTotal_2 ?_
  cases h
  exact r_zret C rfl rfl (Nat.le_of_ble_eq_true rfl) (Nat.le_of_ble_eq_true rfl) dX7_wasteTotal_5 hq
theorem c_X7_wasteTotal {l : Launch} {G : jG} {sh : jSh} {κ : jKt} {a0 : Nat} (ha0 : sh a0 = (1, 11, 22)) {r : Int32} {κr : jKt} (h : P_X7_wasteTotal κ a0 = some (r, κr)) : jM l G yX7_wasteTotal cX7_wasteTotal 1 (some .int) 1 0 0 21 [.ref a0] (sh, κ) (jIs (some (.int r)) (sh, κr)) jNo :=
  r_body (by decide) (Nat.le_of_ble_eq_true rfl) fun F C hl hG hs ho hx => by
    subst hs
    exact w_X7_wasteTotal_0 C ha0 (by rw [ho]; exact ⟨rfl, rfl⟩) h
set_option maxRecDepth 20000 in
theorem w_X7_deliveredTotal_0 {F : jFm} (C : jB F RX7 cX7_deliveredTotal 1 (some .int) 1 0 0 21) {κ : jKt} {a0 : Nat} (ha0 : jSof F a0 = (1, 11, 22)) {r : Int32 × jKt} (hq : jOut F (some (.int r.1)) r.2) (h : P_X7_deliveredTotal κ a0 = some r) : jW F 1 0 0 κ 0 [(0, .ref a0)] [] := by
  unfold P_X7_deliveredTotal at h
  refine r_aload_n C.1 0 1 rfl dX7_deliveredTotal_0 rfl ?_
  refine r_iconst C.1 5 rfl 2 rfl dX7_deliveredTotal_1 ?_
  obtain ⟨y8, κ9, e7, h⟩ := bd2_some h
  refine r_cVi C.1 (st := []) (c_X7_tells ha0 e7) yv_X7_tells ml_X7_178 rfl ha0 rfl ⟨Nat.le_of_ble_eq_true rfl, Nat.le_of_ble_eq_true rfl⟩ ⟨Nat.le_of_ble_eq_true rfl, Nat.le_of_ble_eq_true rfl⟩ (Nat.le_of_ble_eq_true rfl) rfl 0 0 rfl rfl 5 rfl dX7_deliveredTotal_2 ?_
  cases h
  exact r_zret C rfl rfl (Nat.le_of_ble_eq_true rfl) (Nat.le_of_ble_eq_true rfl) dX7_deliveredTotal_5 hq
theorem c_X7_deliveredTotal {l : Launch} {G : jG} {sh : jSh} {κ : jKt} {a0 : Nat} (ha0 : sh a0 = (1, 11, 22)) {r : Int32} {κr : jKt} (h : P_X7_deliveredTotal κ a0 = some (r, κr)) : jM l G yX7_deliveredTotal cX7_deliveredTotal 1 (some .int) 1 0 0 21 [.ref a0] (sh, κ) (jIs (some (.int r)) (sh, κr)) jNo :=
  r_body (by decide) (Nat.le_of_ble_eq_true rfl) fun F C hl hG hs ho hx => by
    subst hs
    exact w_X7_deliveredTotal_0 C ha0 (by rw [ho]; exact ⟨rfl, rfl⟩) h
set_option maxRecDepth 20000 in
theorem w_X7_income_0 {F : jFm} (C : jB F RX7 cX7_income 1 (some .int) 1 0 0 21) {κ : jKt} {a0 : Nat} (ha0 : jSof F a0 = (1, 11, 22)) {r : Int32 × jKt} (hq : jOut F (some (.int r.1)) r.2) (h : P_X7_income κ a0 = some r) : jW F 1 0 0 κ 0 [(0, .ref a0)] [] := by
  unfold P_X7_income at h
  refine r_aload_n C.1 0 1 rfl dX7_income_0 rfl ?_
  refine r_bipush C.1 6 rfl 3 rfl dX7_income_1 ?_
  obtain ⟨y8, κ9, e7, h⟩ := bd2_some h
  refine r_cVi C.1 (st := []) (c_X7_tells ha0 e7) yv_X7_tells ml_X7_178 rfl ha0 rfl ⟨Nat.le_of_ble_eq_true rfl, Nat.le_of_ble_eq_true rfl⟩ ⟨Nat.le_of_ble_eq_true rfl, Nat.le_of_ble_eq_true rfl⟩ (Nat.le_of_ble_eq_true rfl) rfl 0 0 rfl rfl 6 rfl dX7_income_3 ?_
  cases h
  exact r_zret C rfl rfl (Nat.le_of_ble_eq_true rfl) (Nat.le_of_ble_eq_true rfl) dX7_income_6 hq
theorem c_X7_income {l : Launch} {G : jG} {sh : jSh} {κ : jKt} {a0 : Nat} (ha0 : sh a0 = (1, 11, 22)) {r : Int32} {κr : jKt} (h : P_X7_income κ a0 = some (r, κr)) : jM l G yX7_income cX7_income 1 (some .int) 1 0 0 21 [.ref a0] (sh, κ) (jIs (some (.int r)) (sh, κr)) jNo :=
  r_body (by decide) (Nat.le_of_ble_eq_true rfl) fun F C hl hG hs ho hx => by
    subst hs
    exact w_X7_income_0 C ha0 (by rw [ho]; exact ⟨rfl, rfl⟩) h
set_option maxRecDepth 20000 in
theorem w_X7_deliveredSuits_0 {F : jFm} (C : jB F RX7 cX7_deliveredSuits 1 (some .int) 1 0 0 21) {κ : jKt} {a0 : Nat} (ha0 : jSof F a0 = (1, 11, 22)) {r : Int32 × jKt} (hq : jOut F (some (.int r.1)) r.2) (h : P_X7_deliveredSuits κ a0 = some r) : jW F 1 0 0 κ 0 [(0, .ref a0)] [] := by
  unfold P_X7_deliveredSuits at h
  refine r_aload_n C.1 0 1 rfl dX7_deliveredSuits_0 rfl ?_
  refine r_bipush C.1 7 rfl 3 rfl dX7_deliveredSuits_1 ?_
  obtain ⟨y8, κ9, e7, h⟩ := bd2_some h
  refine r_cVi C.1 (st := []) (c_X7_tells ha0 e7) yv_X7_tells ml_X7_178 rfl ha0 rfl ⟨Nat.le_of_ble_eq_true rfl, Nat.le_of_ble_eq_true rfl⟩ ⟨Nat.le_of_ble_eq_true rfl, Nat.le_of_ble_eq_true rfl⟩ (Nat.le_of_ble_eq_true rfl) rfl 0 0 rfl rfl 6 rfl dX7_deliveredSuits_3 ?_
  cases h
  exact r_zret C rfl rfl (Nat.le_of_ble_eq_true rfl) (Nat.le_of_ble_eq_true rfl) dX7_deliveredSuits_6 hq
theorem c_X7_deliveredSuits {l : Launch} {G : jG} {sh : jSh} {κ : jKt} {a0 : Nat} (ha0 : sh a0 = (1, 11, 22)) {r : Int32} {κr : jKt} (h : P_X7_deliveredSuits κ a0 = some (r, κr)) : jM l G yX7_deliveredSuits cX7_deliveredSuits 1 (some .int) 1 0 0 21 [.ref a0] (sh, κ) (jIs (some (.int r)) (sh, κr)) jNo :=
  r_body (by decide) (Nat.le_of_ble_eq_true rfl) fun F C hl hG hs ho hx => by
    subst hs
    exact w_X7_deliveredSuits_0 C ha0 (by rw [ho]; exact ⟨rfl, rfl⟩) h
set_option maxRecDepth 20000 in
theorem w_X7_meanLeg_14 {F : jFm} (C : jB F RX7 cX7_meanLeg 2 (some .double) 3 0 0 65) {κ : jKt} {a0 : Nat} (ha0 : jSof F a0 = (1, 11, 22)) {v1 : Int32} {s0 : Int32} {a1 : Nat} (ha1 : jSof F a1 = (1, 11, 22)) {r : UInt64 × jKt} (hq : jOut F (some (.double r.1)) r.2) (h : P_X7_meanLeg_14 κ a0 v1 s0 a1 = some r) : jW F 2 0 0 κ 14 [(0, .ref a0), (1, .int v1)] [.int s0, .ref a1] := by
  unfold P_X7_meanLeg_14 at h
  obtain ⟨κ23, e24, h⟩ := bnd_some h
  refine r_putI C.1 0 fw_X7_50 rfl rfl rfl ha1 e24 17 rfl dX7_meanLeg_14 ?_
  refine r_aload_n C.1 0 18 rfl dX7_meanLeg_17 rfl ?_
  refine r_getI C.1 0 fl_X7_50 rfl ha0 21 rfl dX7_meanLeg_18 ?_
  refine r_if_ne C.1 40 24 rfl dX7_meanLeg_21 rfl ⟨fun c25 => ?_, fun c25 => ?_⟩
  · have h := if_some_f c25 h
    refine r_dconst0 C.1 41 rfl dX7_meanLeg_40 ?_
    cases h
    exact r_dret C rfl (Nat.le_of_ble_eq_true rfl) (Nat.le_of_ble_eq_true rfl) dX7_meanLeg_41 hq
  · have h := if_some_t c25 h
    refine r_aload_n C.1 0 25 rfl dX7_meanLeg_24 rfl ?_
    refine r_iload_n C.1 1 26 rfl dX7_meanLeg_25 rfl ?_
    obtain ⟨y27, e26, h⟩ := bd_some h
    refine r_cVi C.1 (st := []) (c_X7_all ha0 e26) yv_X7_all ml_X7_181 rfl ha0 rfl ⟨Nat.le_of_ble_eq_true rfl, Nat.le_of_ble_eq_true rfl⟩ ⟨Nat.le_of_ble_eq_true rfl, Nat.le_of_ble_eq_true rfl⟩ (Nat.le_of_ble_eq_true rfl) rfl 0 0 rfl rfl 29 rfl dX7_meanLeg_26 ?_
    refine r_i2d C.1 30 rfl dX7_meanLeg_29 ?_
    refine r_aload_n C.1 0 31 rfl dX7_meanLeg_30 rfl ?_
    refine r_iload_n C.1 1 32 rfl dX7_meanLeg_31 rfl ?_
    obtain ⟨y29, e28, h⟩ := bd_some h
    refine r_cVi C.1 (st := [.double (FP.i2d y27)]) (c_X7_legs ha0 e28) yv_X7_legs ml_X7_72 rfl ha0 rfl ⟨Nat.le_of_ble_eq_true rfl, Nat.le_of_ble_eq_true rfl⟩ ⟨Nat.le_of_ble_eq_true rfl, Nat.le_of_ble_eq_true rfl⟩ (Nat.le_of_ble_eq_true rfl) rfl 0 0 rfl rfl 35 rfl dX7_meanLeg_32 ?_
    refine r_i2d C.1 36 rfl dX7_meanLeg_35 ?_
    obtain ⟨z30, h⟩ := ck_some h
    refine r_ddiv C.1 37 rfl dX7_meanLeg_36 z30 ?_
    refine r_goto C.1 41 dX7_meanLeg_37 rfl ?_
    cases h
    exact r_dret C rfl (Nat.le_of_ble_eq_true rfl) (Nat.le_of_ble_eq_true rfl) dX7_meanLeg_41 hq
set_option maxRecDepth 20000 in
theorem w_X7_meanLeg_0 {F : jFm} (C : jB F RX7 cX7_meanLeg 2 (some .double) 3 0 0 65) {κ : jKt} {a0 : Nat} (ha0 : jSof F a0 = (1, 11, 22)) {x1 : Int32} {r : UInt64 × jKt} (hq : jOut F (some (.double r.1)) r.2) (h : P_X7_meanLeg κ a0 x1 = some r) : jW F 2 0 0 κ 0 [(0, .ref a0), (1, .int x1)] [] := by
  unfold P_X7_meanLeg at h
  refine r_aload_n C.1 0 1 rfl dX7_meanLeg_0 rfl ?_
  refine r_aload_n C.1 0 2 rfl dX7_meanLeg_1 rfl ?_
  refine r_iload_n C.1 1 3 rfl dX7_meanLeg_2 rfl ?_
  obtain ⟨y32, e31, h⟩ := bd_some h
  refine r_cVi C.1 (st := [.ref a0]) (c_X7_isCustomer ha0 e31) yv_X7_isCustomer ml_X7_68 rfl ha0 rfl ⟨Nat.le_of_ble_eq_true rfl, Nat.le_of_ble_eq_true rfl⟩ ⟨Nat.le_of_ble_eq_true rfl, Nat.le_of_ble_eq_true rfl⟩ (Nat.le_of_ble_eq_true rfl) rfl 0 0 rfl rfl 6 rfl dX7_meanLeg_3 ?_
  refine r_if_eq C.1 13 9 rfl dX7_meanLeg_6 rfl ⟨fun c33 => ?_, fun c33 => ?_⟩
  · have h := if_some_t c33 h
    refine r_iconst C.1 1 rfl 14 rfl dX7_meanLeg_13 ?_
    exact w_X7_meanLeg_14 C ha0 ha0 hq h
  · have h := if_some_f c33 h
    refine r_iconst C.1 0 rfl 10 rfl dX7_meanLeg_9 ?_
    refine r_goto C.1 14 dX7_meanLeg_10 rfl ?_
    exact w_X7_meanLeg_14 C ha0 ha0 hq h
theorem c_X7_meanLeg {l : Launch} {G : jG} {sh : jSh} {κ : jKt} {a0 : Nat} (ha0 : sh a0 = (1, 11, 22)) {x1 : Int32} {r : UInt64} {κr : jKt} (h : P_X7_meanLeg κ a0 x1 = some (r, κr)) : jM l G yX7_meanLeg cX7_meanLeg 2 (some .double) 3 0 0 65 [.ref a0, .int x1] (sh, κ) (jIs (some (.double r)) (sh, κr)) jNo :=
  r_body (by decide) (Nat.le_of_ble_eq_true rfl) fun F C hl hG hs ho hx => by
    subst hs
    exact w_X7_meanLeg_0 C ha0 (by rw [ho]; exact ⟨rfl, rfl⟩) h
set_option maxRecDepth 20000 in
theorem w_X7_wasteShare_15 {F : jFm} (C : jB F RX7 cX7_wasteShare 1 (some .float) 0 0 0 0) {κ : jKt} {a0 : Nat} (ha0 : jSof F a0 = (1, 11, 22)) {s0 : Int32} {a1 : Nat} (ha1 : jSof F a1 = (1, 11, 22)) {r : UInt32 × jKt} (hq : jOut F (some (.float r.1)) r.2) (h : P_X7_wasteShare_15 κ a0 s0 a1 = some r) : jW F 1 0 0 κ 15 [(0, .ref a0)] [.int s0, .ref a1] := by
  unfold P_X7_wasteShare_15 at h
  obtain ⟨κ17, e18, h⟩ := bnd_some h
  refine r_putI C.1 0 fw_X7_50 rfl rfl rfl ha1 e18 18 rfl dX7_wasteShare_15 ?_
  refine r_aload_n C.1 0 19 rfl dX7_wasteShare_18 rfl ?_
  refine r_getI C.1 0 fl_X7_50 rfl ha0 22 rfl dX7_wasteShare_19 ?_
  refine r_if_ne C.1 43 25 rfl dX7_wasteShare_22 rfl ⟨fun c19 => ?_, fun c19 => ?_⟩
  · have h := if_some_f c19 h
    refine r_fconst0 C.1 44 rfl dX7_wasteShare_43 ?_
    cases h
    exact r_fret C rfl (Nat.le_of_ble_eq_true rfl) (Nat.le_of_ble_eq_true rfl) dX7_wasteShare_44 hq
  · have h := if_some_t c19 h
    refine r_aload_n C.1 0 26 rfl dX7_wasteShare_25 rfl ?_
    refine r_getR C.1 5 fl_X7_16 rfl ha0 29 rfl dX7_wasteShare_26 (fun (h20 : jSof F (kR κ17 a0 5) = (2, 0, 457)) => ?_)
    refine r_iconst C.1 4 rfl 30 rfl dX7_wasteShare_29 ?_
    refine r_iald C.1 h20 (by decide) 31 rfl dX7_wasteShare_30 ?_
    refine r_i2f C.1 32 rfl dX7_wasteShare_31 ?_
    refine r_aload_n C.1 0 33 rfl dX7_wasteShare_32 rfl ?_
    refine r_getR C.1 5 fl_X7_16 rfl ha0 36 rfl dX7_wasteShare_33 (fun (h21 : jSof F (kR κ17 a0 5) = (2, 0, 457)) => ?_)
    refine r_iconst C.1 3 rfl 37 rfl dX7_wasteShare_36 ?_
    refine r_iald C.1 h21 (by decide) 38 rfl dX7_wasteShare_37 ?_
    refine r_i2f C.1 39 rfl dX7_wasteShare_38 ?_
    obtain ⟨z22, h⟩ := ck_some h
    refine r_fdiv C.1 40 rfl dX7_wasteShare_39 z22 ?_
    refine r_goto C.1 44 dX7_wasteShare_40 rfl ?_
    cases h
    exact r_fret C rfl (Nat.le_of_ble_eq_true rfl) (Nat.le_of_ble_eq_true rfl) dX7_wasteShare_44 hq
set_option maxRecDepth 20000 in
theorem w_X7_wasteShare_0 {F : jFm} (C : jB F RX7 cX7_wasteShare 1 (some .float) 0 0 0 0) {κ : jKt} {a0 : Nat} (ha0 : jSof F a0 = (1, 11, 22)) {r : UInt32 × jKt} (hq : jOut F (some (.float r.1)) r.2) (h : P_X7_wasteShare κ a0 = some r) : jW F 1 0 0 κ 0 [(0, .ref a0)] [] := by
  unfold P_X7_wasteShare at h
  refine r_aload_n C.1 0 1 rfl dX7_wasteShare_0 rfl ?_
  refine r_aload_n C.1 0 2 rfl dX7_wasteShare_1 rfl ?_
  refine r_getR C.1 5 fl_X7_16 rfl ha0 5 rfl dX7_wasteShare_2 (fun (h23 : jSof F (kR κ a0 5) = (2, 0, 457)) => ?_)
  refine r_iconst C.1 3 rfl 6 rfl dX7_wasteShare_5 ?_
  refine r_iald C.1 h23 (by decide) 7 rfl dX7_wasteShare_6 ?_
  refine r_if_ne C.1 14 10 rfl dX7_wasteShare_7 rfl ⟨fun c24 => ?_, fun c24 => ?_⟩
  · have h := if_some_f c24 h
    refine r_iconst C.1 0 rfl 15 rfl dX7_wasteShare_14 ?_
    exact w_X7_wasteShare_15 C ha0 ha0 hq h
  · have h := if_some_t c24 h
    refine r_iconst C.1 1 rfl 11 rfl dX7_wasteShare_10 ?_
    refine r_goto C.1 15 dX7_wasteShare_11 rfl ?_
    exact w_X7_wasteShare_15 C ha0 ha0 hq h
theorem c_X7_wasteShare {l : Launch} {G : jG} {sh : jSh} {κ : jKt} {a0 : Nat} (ha0 : sh a0 = (1, 11, 22)) {r : UInt32} {κr : jKt} (h : P_X7_wasteShare κ a0 = some (r, κr)) : jM l G yX7_wasteShare cX7_wasteShare 1 (some .float) 0 0 0 0 [.ref a0] (sh, κ) (jIs (some (.float r)) (sh, κr)) jNo :=
  r_body (by decide) (Nat.le_of_ble_eq_true rfl) fun F C hl hG hs ho hx => by
    subst hs
    exact w_X7_wasteShare_0 C ha0 (by rw [ho]; exact ⟨rfl, rfl⟩) h
set_option maxRecDepth 20000 in
theorem w_X7_isConsistent_46 {F : jFm} (C : jB F RX7 cX7_isConsistent 3 (some .boolean) 4 0 0 85) {a0 : Nat} (ha0 : jSof F a0 = (1, 11, 22)) {r : Int32 × jKt} (hq : jOut F (some (.int r.1)) r.2) : ∀ (n : Nat) (κ : jKt) (v1 : Int32) (v2 : Int32), P_X7_isConsistent_46 a0 n κ v1 v2 = some r → jW F 3 0 0 κ 46 [(0, .ref a0), (1, .int v1), (2, .int v2)] [] := by
  intro n
  induction n with
  | zero => intro κ v1 v2 h; cases h
  | succ n ih =>
    intro κ v1 v2 h
    rw [P_X7_isConsistent_46] at h
    refine r_iload_n C.1 2 47 rfl dX7_isConsistent_46 rfl ?_
    refine r_aload_n C.1 0 48 rfl dX7_isConsistent_47 rfl ?_
    refine r_getR C.1 5 fl_X7_16 rfl ha0 51 rfl dX7_isConsistent_48 (fun (h35 : jSof F (kR κ a0 5) = (2, 0, 457)) => ?_)
    refine r_iconst C.1 1 rfl 52 rfl dX7_isConsistent_51 ?_
    refine r_iald C.1 h35 (by decide) 53 rfl dX7_isConsistent_52 ?_
    refine r_icmp_ge C.1 70 56 rfl dX7_isConsistent_53 rfl ⟨fun c36 => ?_, fun c36 => ?_⟩
    · have h := if_some_t c36 h
      refine r_iload_n C.1 1 71 rfl dX7_isConsistent_70 rfl ?_
      refine r_aload_n C.1 0 72 rfl dX7_isConsistent_71 rfl ?_
      refine r_getR C.1 5 fl_X7_16 rfl ha0 75 rfl dX7_isConsistent_72 (fun (h37 : jSof F (kR κ a0 5) = (2, 0, 457)) => ?_)
      refine r_iconst C.1 3 rfl 76 rfl dX7_isConsistent_75 ?_
      refine r_iald C.1 h37 (by decide) 77 rfl dX7_isConsistent_76 ?_
      refine r_icmp_ne C.1 84 80 rfl dX7_isConsistent_77 rfl ⟨fun c38 => ?_, fun c38 => ?_⟩
      · have h := if_some_f c38 h
        refine r_iconst C.1 0 rfl 85 rfl dX7_isConsistent_84 ?_
        cases h
        exact r_zret C rfl rfl (Nat.le_of_ble_eq_true rfl) (Nat.le_of_ble_eq_true rfl) dX7_isConsistent_85 hq
      · have h := if_some_t c38 h
        refine r_iconst C.1 1 rfl 81 rfl dX7_isConsistent_80 ?_
        refine r_goto C.1 85 dX7_isConsistent_81 rfl ?_
        cases h
        exact r_zret C rfl rfl (Nat.le_of_ble_eq_true rfl) (Nat.le_of_ble_eq_true rfl) dX7_isConsistent_85 hq
    · have h := if_some_f c36 h
      refine r_iload_n C.1 1 57 rfl dX7_isConsistent_56 rfl ?_
      refine r_aload_n C.1 0 58 rfl dX7_isConsistent_57 rfl ?_
      refine r_iload_n C.1 2 59 rfl dX7_isConsistent_58 rfl ?_
      obtain ⟨y40, e39, h⟩ := bd_some h
      refine r_cVi C.1 (st := [.int v1]) (c_X7_cloth ha0 e39) yv_X7_cloth ml_X7_165 rfl ha0 rfl ⟨Nat.le_of_ble_eq_true rfl, Nat.le_of_ble_eq_true rfl⟩ ⟨Nat.le_of_ble_eq_true rfl, Nat.le_of_ble_eq_true rfl⟩ (Nat.le_of_ble_eq_true rfl) rfl 0 0 rfl rfl 62 rfl dX7_isConsistent_59 ?_
      refine r_iadd C.1 63 rfl dX7_isConsistent_62 ?_
      refine r_istore_n C.1 (lv' := [(0, .ref a0), (1, .int (v1 + y40)), (2, .int v2)]) [1, 0, 2] 64 rfl dX7_isConsistent_63 (Nat.le_of_ble_eq_true rfl) rfl ?_
      refine r_iinc C.1 (lv' := [(0, .ref a0), (1, .int (v1 + y40)), (2, .int (v2 + 1))]) 2 [1, 2, 0] 67 rfl dX7_isConsistent_64 rfl (Nat.le_of_ble_eq_true rfl) rfl rfl ?_
      refine r_goto C.1 46 dX7_isConsistent_67 rfl ?_
      exact ih κ (v1 + y40) (v2 + 1) h
set_option maxRecDepth 20000 in
theorem w_X7_isConsistent_21 {F : jFm} (C : jB F RX7 cX7_isConsistent 3 (some .boolean) 4 0 0 85) {a0 : Nat} (ha0 : jSof F a0 = (1, 11, 22)) {r : Int32 × jKt} (hq : jOut F (some (.int r.1)) r.2) : ∀ (n : Nat) (κ : jKt) (v1 : Int32) (v2 : Int32), P_X7_isConsistent_21 a0 n κ v1 v2 = some r → jW F 3 0 0 κ 21 [(0, .ref a0), (1, .int v1), (2, .int v2)] [] := by
  intro n
  induction n with
  | zero => intro κ v1 v2 h; cases h
  | succ n ih =>
    intro κ v1 v2 h
    rw [P_X7_isConsistent_21] at h
    refine r_iload_n C.1 2 22 rfl dX7_isConsistent_21 rfl ?_
    refine r_iconst C.1 4 rfl 23 rfl dX7_isConsistent_22 ?_
    refine r_icmp_ge C.1 44 26 rfl dX7_isConsistent_23 rfl ⟨fun c41 => ?_, fun c41 => ?_⟩
    · have h := if_some_t c41 h
      refine r_iconst C.1 0 rfl 45 rfl dX7_isConsistent_44 ?_
      refine r_istore_n C.1 (lv' := [(0, .ref a0), (1, .int v1), (2, .int 0)]) [1, 2, 0] 46 rfl dX7_isConsistent_45 (Nat.le_of_ble_eq_true rfl) rfl ?_
      exact w_X7_isConsistent_46 C ha0 hq 4000 κ v1 0 h
    · have h := if_some_f c41 h
      refine r_iload_n C.1 1 27 rfl dX7_isConsistent_26 rfl ?_
      refine r_aload_n C.1 0 28 rfl dX7_isConsistent_27 rfl ?_
      refine r_getR C.1 5 fl_X7_16 rfl ha0 31 rfl dX7_isConsistent_28 (fun (h42 : jSof F (kR κ a0 5) = (2, 0, 457)) => ?_)
      refine r_bipush C.1 8 rfl 33 rfl dX7_isConsistent_31 ?_
      refine r_iload_n C.1 2 34 rfl dX7_isConsistent_33 rfl ?_
      refine r_iadd C.1 35 rfl dX7_isConsistent_34 ?_
      obtain ⟨i43, h⟩ := ck_some h
      refine r_iald C.1 h42 i43 36 rfl dX7_isConsistent_35 ?_
      refine r_iadd C.1 37 rfl dX7_isConsistent_36 ?_
      obtain ⟨y44, e45, h⟩ := bnd_some h
      refine r_top e45 ?_
      refine r_istore_n C.1 (lv' := [(0, .ref a0), (1, .int y44), (2, .int v2)]) [1, 0, 2] 38 rfl dX7_isConsistent_37 (Nat.le_of_ble_eq_true rfl) rfl ?_
      refine r_iinc C.1 (lv' := [(0, .ref a0), (1, .int y44), (2, .int (v2 + 1))]) 2 [1, 2, 0] 41 rfl dX7_isConsistent_38 rfl (Nat.le_of_ble_eq_true rfl) rfl rfl ?_
      refine r_goto C.1 21 dX7_isConsistent_41 rfl ?_
      exact ih κ y44 (v2 + 1) h
set_option maxRecDepth 20000 in
theorem w_X7_isConsistent_0 {F : jFm} (C : jB F RX7 cX7_isConsistent 3 (some .boolean) 4 0 0 85) {κ : jKt} {a0 : Nat} (ha0 : jSof F a0 = (1, 11, 22)) {r : Int32 × jKt} (hq : jOut F (some (.int r.1)) r.2) (h : P_X7_isConsistent κ a0 = some r) : jW F 3 0 0 κ 0 [(0, .ref a0)] [] := by
  unfold P_X7_isConsistent at h
  refine r_aload_n C.1 0 1 rfl dX7_isConsistent_0 rfl ?_
  refine r_iconst C.1 0 rfl 2 rfl dX7_isConsistent_1 ?_
  obtain ⟨κ46, e47, h⟩ := bnd_some h
  refine r_putI C.1 0 fw_X7_50 rfl rfl rfl ha0 e47 5 rfl dX7_isConsistent_2 ?_
  refine r_aload_n C.1 0 6 rfl dX7_isConsistent_5 rfl ?_
  refine r_getR C.1 5 fl_X7_16 rfl ha0 9 rfl dX7_isConsistent_6 (fun (h48 : jSof F (kR κ46 a0 5) = (2, 0, 457)) => ?_)
  refine r_iconst C.1 4 rfl 10 rfl dX7_isConsistent_9 ?_
  refine r_iald C.1 h48 (by decide) 11 rfl dX7_isConsistent_10 ?_
  refine r_aload_n C.1 0 12 rfl dX7_isConsistent_11 rfl ?_
  refine r_getR C.1 5 fl_X7_16 rfl ha0 15 rfl dX7_isConsistent_12 (fun (h49 : jSof F (kR κ46 a0 5) = (2, 0, 457)) => ?_)
  refine r_iconst C.1 5 rfl 16 rfl dX7_isConsistent_15 ?_
  refine r_iald C.1 h49 (by decide) 17 rfl dX7_isConsistent_16 ?_
  refine r_iadd C.1 18 rfl dX7_isConsistent_17 ?_
  obtain ⟨y50, e51, h⟩ := bnd_some h
  refine r_top e51 ?_
  refine r_istore_n C.1 (lv' := [(0, .ref a0), (1, .int y50)]) [1, 0] 19 rfl dX7_isConsistent_18 (Nat.le_of_ble_eq_true rfl) rfl ?_
  refine r_iconst C.1 0 rfl 20 rfl dX7_isConsistent_19 ?_
  refine r_istore_n C.1 (lv' := [(0, .ref a0), (1, .int y50), (2, .int 0)]) [1, 2, 0] 21 rfl dX7_isConsistent_20 (Nat.le_of_ble_eq_true rfl) rfl ?_
  exact w_X7_isConsistent_21 C ha0 hq 4000 κ46 y50 0 h
theorem c_X7_isConsistent {l : Launch} {G : jG} {sh : jSh} {κ : jKt} {a0 : Nat} (ha0 : sh a0 = (1, 11, 22)) {r : Int32} {κr : jKt} (h : P_X7_isConsistent κ a0 = some (r, κr)) : jM l G yX7_isConsistent cX7_isConsistent 3 (some .boolean) 4 0 0 85 [.ref a0] (sh, κ) (jIs (some (.int r)) (sh, κr)) jNo :=
  r_body (by decide) (Nat.le_of_ble_eq_true rfl) fun F C hl hG hs ho hx => by
    subst hs
    exact w_X7_isConsistent_0 C ha0 (by rw [ho]; exact ⟨rfl, rfl⟩) h
set_option maxRecDepth 20000 in
theorem w_X7_writes_0 {F : jFm} (C : jB F RX7 cX7_writes 2 none 0 0 0 0) {κ : jKt} {a0 : Nat} (ha0 : jSof F a0 = (1, 11, 22)) {x1 : Int32} {r : jKt} (hq : jOut F none r) (h : P_X7_writes κ a0 x1 = some r) : jW F 2 0 0 κ 0 [(0, .ref a0), (1, .int x1)] [] := by
  unfold P_X7_writes at h
  refine r_aload_n C.1 0 1 rfl dX7_writes_0 rfl ?_
  refine r_getR C.1 12 fl_X7_38 rfl ha0 4 rfl dX7_writes_1 (fun (h13 : jSof F (kR κ a0 12) = (2, 0, 70)) => ?_)
  refine r_aload_n C.1 0 5 rfl dX7_writes_4 rfl ?_
  refine r_getI C.1 19 fl_X7_205 rfl ha0 8 rfl dX7_writes_5 ?_
  refine r_iload_n C.1 1 9 rfl dX7_writes_8 rfl ?_
  obtain ⟨i14, h⟩ := ck_some h
  obtain ⟨κ15, e16, h⟩ := bnd_some h
  refine r_iast C.1 h13 i14 e16 10 rfl dX7_writes_9 ?_
  refine r_aload_n C.1 0 11 rfl dX7_writes_10 rfl ?_
  refine r_dup C.1 rfl 12 rfl dX7_writes_11 ?_
  refine r_getI C.1 19 fl_X7_205 rfl ha0 15 rfl dX7_writes_12 ?_
  refine r_iconst C.1 1 rfl 16 rfl dX7_writes_15 ?_
  refine r_iadd C.1 17 rfl dX7_writes_16 ?_
  obtain ⟨κ17, e18, h⟩ := bnd_some h
  refine r_putI C.1 19 fw_X7_205 rfl rfl rfl ha0 e18 20 rfl dX7_writes_17 ?_
  cases h
  exact r_vret C rfl (Nat.le_of_ble_eq_true rfl) (Nat.le_of_ble_eq_true rfl) dX7_writes_20 hq
theorem c_X7_writes {l : Launch} {G : jG} {sh : jSh} {κ : jKt} {a0 : Nat} (ha0 : sh a0 = (1, 11, 22)) {x1 : Int32}  {κr : jKt} (h : P_X7_writes κ a0 x1 = some κr) : jM l G yX7_writes cX7_writes 2 none 0 0 0 0 [.ref a0, .int x1] (sh, κ) (jIs none (sh, κr)) jNo :=
  r_body (by decide) (Nat.le_of_ble_eq_true rfl) fun F C hl hG hs ho hx => by
    subst hs
    exact w_X7_writes_0 C ha0 (by rw [ho]; exact ⟨rfl, rfl⟩) h
set_option maxRecDepth 20000 in
theorem w_X7_writesNumber_0 {F : jFm} (C : jB F RX7 cX7_writesNumber 2 none 1 0 0 21) {κ : jKt} {a0 : Nat} (ha0 : jSof F a0 = (1, 11, 22)) {x1 : Int32} {r : jKt} (hq : jOut F none r) (h : P_X7_writesNumber κ a0 x1 = some r) : jW F 2 0 0 κ 0 [(0, .ref a0), (1, .int x1)] [] := by
  unfold P_X7_writesNumber at h
  refine r_iload_n C.1 1 1 rfl dX7_writesNumber_0 rfl ?_
  refine r_bipush C.1 10 rfl 3 rfl dX7_writesNumber_1 ?_
  refine r_icmp_lt C.1 17 6 rfl dX7_writesNumber_3 rfl ⟨fun c15 => ?_, fun c15 => ?_⟩
  · have h := if_some_t c15 h
    refine r_aload_n C.1 0 18 rfl dX7_writesNumber_17 rfl ?_
    refine r_bipush C.1 48 rfl 20 rfl dX7_writesNumber_18 ?_
    refine r_iload_n C.1 1 21 rfl dX7_writesNumber_20 rfl ?_
    refine r_bipush C.1 10 rfl 23 rfl dX7_writesNumber_21 ?_
    refine r_irem C.1 24 rfl dX7_writesNumber_23 (by decide) ?_
    refine r_iadd C.1 25 rfl dX7_writesNumber_24 ?_
    obtain ⟨κ17, e16, h⟩ := bd_some h
    refine r_cVv C.1 (st := []) (c_X7_writes ha0 e16) yv_X7_writes ml_X7_208 rfl ha0 rfl ⟨Nat.le_of_ble_eq_true rfl, Nat.le_of_ble_eq_true rfl⟩ ⟨Nat.le_of_ble_eq_true rfl, Nat.le_of_ble_eq_true rfl⟩ (Nat.le_of_ble_eq_true rfl) rfl 0 0 rfl rfl 28 rfl dX7_writesNumber_25 ?_
    cases h
    exact r_vret C rfl (Nat.le_of_ble_eq_true rfl) (Nat.le_of_ble_eq_true rfl) dX7_writesNumber_28 hq
  · have h := if_some_f c15 h
    refine r_aload_n C.1 0 7 rfl dX7_writesNumber_6 rfl ?_
    refine r_bipush C.1 48 rfl 9 rfl dX7_writesNumber_7 ?_
    refine r_iload_n C.1 1 10 rfl dX7_writesNumber_9 rfl ?_
    refine r_bipush C.1 10 rfl 12 rfl dX7_writesNumber_10 ?_
    refine r_idiv C.1 13 rfl dX7_writesNumber_12 (by decide) ?_
    refine r_iadd C.1 14 rfl dX7_writesNumber_13 ?_
    obtain ⟨κ19, e18, h⟩ := bd_some h
    refine r_cVv C.1 (st := []) (c_X7_writes ha0 e18) yv_X7_writes ml_X7_208 rfl ha0 rfl ⟨Nat.le_of_ble_eq_true rfl, Nat.le_of_ble_eq_true rfl⟩ ⟨Nat.le_of_ble_eq_true rfl, Nat.le_of_ble_eq_true rfl⟩ (Nat.le_of_ble_eq_true rfl) rfl 0 0 rfl rfl 17 rfl dX7_writesNumber_14 ?_
    refine r_aload_n C.1 0 18 rfl dX7_writesNumber_17 rfl ?_
    refine r_bipush C.1 48 rfl 20 rfl dX7_writesNumber_18 ?_
    refine r_iload_n C.1 1 21 rfl dX7_writesNumber_20 rfl ?_
    refine r_bipush C.1 10 rfl 23 rfl dX7_writesNumber_21 ?_
    refine r_irem C.1 24 rfl dX7_writesNumber_23 (by decide) ?_
    refine r_iadd C.1 25 rfl dX7_writesNumber_24 ?_
    obtain ⟨κ21, e20, h⟩ := bd_some h
    refine r_cVv C.1 (st := []) (c_X7_writes ha0 e20) yv_X7_writes ml_X7_208 rfl ha0 rfl ⟨Nat.le_of_ble_eq_true rfl, Nat.le_of_ble_eq_true rfl⟩ ⟨Nat.le_of_ble_eq_true rfl, Nat.le_of_ble_eq_true rfl⟩ (Nat.le_of_ble_eq_true rfl) rfl 0 0 rfl rfl 28 rfl dX7_writesNumber_25 ?_
    cases h
    exact r_vret C rfl (Nat.le_of_ble_eq_true rfl) (Nat.le_of_ble_eq_true rfl) dX7_writesNumber_28 hq
theorem c_X7_writesNumber {l : Launch} {G : jG} {sh : jSh} {κ : jKt} {a0 : Nat} (ha0 : sh a0 = (1, 11, 22)) {x1 : Int32}  {κr : jKt} (h : P_X7_writesNumber κ a0 x1 = some κr) : jM l G yX7_writesNumber cX7_writesNumber 2 none 1 0 0 21 [.ref a0, .int x1] (sh, κ) (jIs none (sh, κr)) jNo :=
  r_body (by decide) (Nat.le_of_ble_eq_true rfl) fun F C hl hG hs ho hx => by
    subst hs
    exact w_X7_writesNumber_0 C ha0 (by rw [ho]; exact ⟨rfl, rfl⟩) h
set_option maxRecDepth 20000 in
theorem w_X7_outputAt_20 {F : jFm} (C : jB F RX7 cX7_outputAt 2 (some .char) 1 0 0 22) {κ : jKt} {a0 : Nat} (ha0 : jSof F a0 = (1, 11, 22)) {v1 : Int32} {s0 : Int32} {a1 : Nat} (ha1 : jSof F a1 = (1, 11, 22)) {r : Int32 × jKt} (hq : jOut F (some (.int r.1)) r.2) (h : P_X7_outputAt_20 κ a0 v1 s0 a1 = some r) : jW F 2 0 0 κ 20 [(0, .ref a0), (1, .int v1)] [.int s0, .ref a1] := by
  unfold P_X7_outputAt_20 at h
  obtain ⟨κ21, e22, h⟩ := bnd_some h
  refine r_putI C.1 0 fw_X7_50 rfl rfl rfl ha1 e22 23 rfl dX7_outputAt_20 ?_
  refine r_aload_n C.1 0 24 rfl dX7_outputAt_23 rfl ?_
  refine r_getI C.1 0 fl_X7_50 rfl ha0 27 rfl dX7_outputAt_24 ?_
  refine r_if_ne C.1 40 30 rfl dX7_outputAt_27 rfl ⟨fun c23 => ?_, fun c23 => ?_⟩
  · have h := if_some_f c23 h
    refine r_bipush C.1 97 rfl 42 rfl dX7_outputAt_40 ?_
    obtain ⟨z24, h⟩ := ck_some h
    cases h
    exact r_zret C rfl (jch_narrow z24) (Nat.le_of_ble_eq_true rfl) (Nat.le_of_ble_eq_true rfl) dX7_outputAt_42 hq
  · have h := if_some_t c23 h
    refine r_aload_n C.1 0 31 rfl dX7_outputAt_30 rfl ?_
    refine r_getR C.1 12 fl_X7_38 rfl ha0 34 rfl dX7_outputAt_31 (fun (h25 : jSof F (kR κ21 a0 12) = (2, 0, 70)) => ?_)
    refine r_iload_n C.1 1 35 rfl dX7_outputAt_34 rfl ?_
    obtain ⟨i26, h⟩ := ck_some h
    refine r_iald C.1 h25 i26 36 rfl dX7_outputAt_35 ?_
    refine r_i2c C.1 37 rfl dX7_outputAt_36 ?_
    refine r_goto C.1 42 dX7_outputAt_37 rfl ?_
    obtain ⟨z27, h⟩ := ck_some h
    cases h
    exact r_zret C rfl (jch_narrow z27) (Nat.le_of_ble_eq_true rfl) (Nat.le_of_ble_eq_true rfl) dX7_outputAt_42 hq
set_option maxRecDepth 20000 in
theorem w_X7_outputAt_0 {F : jFm} (C : jB F RX7 cX7_outputAt 2 (some .char) 1 0 0 22) {κ : jKt} {a0 : Nat} (ha0 : jSof F a0 = (1, 11, 22)) {x1 : Int32} {r : Int32 × jKt} (hq : jOut F (some (.int r.1)) r.2) (h : P_X7_outputAt κ a0 x1 = some r) : jW F 2 0 0 κ 0 [(0, .ref a0), (1, .int x1)] [] := by
  unfold P_X7_outputAt at h
  refine r_aload_n C.1 0 1 rfl dX7_outputAt_0 rfl ?_
  refine r_iload_n C.1 1 2 rfl dX7_outputAt_1 rfl ?_
  refine r_iconst C.1 0 rfl 3 rfl dX7_outputAt_2 ?_
  refine r_aload_n C.1 0 4 rfl dX7_outputAt_3 rfl ?_
  refine r_getI C.1 19 fl_X7_205 rfl ha0 7 rfl dX7_outputAt_4 ?_
  refine r_iconst C.1 1 rfl 8 rfl dX7_outputAt_7 ?_
  refine r_isub C.1 9 rfl dX7_outputAt_8 ?_
  obtain ⟨y29, e28, h⟩ := bd_some h
  refine r_cSi C.1 (st := [.ref a0]) (c_X7_isIn e28) yv_X7_isIn ml_X7_60 rfl ⟨Nat.le_of_ble_eq_true rfl, Nat.le_of_ble_eq_true rfl⟩ ⟨Nat.le_of_ble_eq_true rfl, Nat.le_of_ble_eq_true rfl⟩ (Nat.le_of_ble_eq_true rfl) rfl 0 0 rfl rfl 12 rfl dX7_outputAt_9 ?_
  refine r_if_eq C.1 19 15 rfl dX7_outputAt_12 rfl ⟨fun c30 => ?_, fun c30 => ?_⟩
  · have h := if_some_t c30 h
    refine r_iconst C.1 1 rfl 20 rfl dX7_outputAt_19 ?_
    exact w_X7_outputAt_20 C ha0 ha0 hq h
  · have h := if_some_f c30 h
    refine r_iconst C.1 0 rfl 16 rfl dX7_outputAt_15 ?_
    refine r_goto C.1 20 dX7_outputAt_16 rfl ?_
    exact w_X7_outputAt_20 C ha0 ha0 hq h
theorem c_X7_outputAt {l : Launch} {G : jG} {sh : jSh} {κ : jKt} {a0 : Nat} (ha0 : sh a0 = (1, 11, 22)) {x1 : Int32} {r : Int32} {κr : jKt} (h : P_X7_outputAt κ a0 x1 = some (r, κr)) : jM l G yX7_outputAt cX7_outputAt 2 (some .char) 1 0 0 22 [.ref a0, .int x1] (sh, κ) (jIs (some (.int r)) (sh, κr)) jNo :=
  r_body (by decide) (Nat.le_of_ble_eq_true rfl) fun F C hl hG hs ho hx => by
    subst hs
    exact w_X7_outputAt_0 C ha0 (by rw [ho]; exact ⟨rfl, rfl⟩) h
set_option maxRecDepth 20000 in
theorem w_X7_type_30 {F : jFm} (C : jB F RX7 cX7_type 2 (some .int) 1 0 0 22) {κ : jKt} {a0 : Nat} (ha0 : jSof F a0 = (1, 11, 22)) {v1 : Int32} {s0 : Int32} {a1 : Nat} (ha1 : jSof F a1 = (1, 11, 22)) {r : Int32 × jKt} (hq : jOut F (some (.int r.1)) r.2) (h : P_X7_type_30 κ a0 v1 s0 a1 = some r) : jW F 2 0 0 κ 30 [(0, .ref a0), (1, .int v1)] [.int s0, .ref a1] := by
  unfold P_X7_type_30 at h
  obtain ⟨κ27, e28, h⟩ := bnd_some h
  refine r_putI C.1 0 fw_X7_50 rfl rfl rfl ha1 e28 33 rfl dX7_type_30 ?_
  refine r_aload_n C.1 0 34 rfl dX7_type_33 rfl ?_
  refine r_getI C.1 0 fl_X7_50 rfl ha0 37 rfl dX7_type_34 ?_
  refine r_if_eq C.1 42 40 rfl dX7_type_37 rfl ⟨fun c29 => ?_, fun c29 => ?_⟩
  · have h := if_some_t c29 h
    refine r_aload_n C.1 0 43 rfl dX7_type_42 rfl ?_
    refine r_getR C.1 11 fl_X7_35 rfl ha0 46 rfl dX7_type_43 (fun (h30 : jSof F (kR κ27 a0 11) = (2, 0, 60)) => ?_)
    refine r_aload_n C.1 0 47 rfl dX7_type_46 rfl ?_
    refine r_getI C.1 16 fl_X7_214 rfl ha0 50 rfl dX7_type_47 ?_
    refine r_iload_n C.1 1 51 rfl dX7_type_50 rfl ?_
    obtain ⟨i31, h⟩ := ck_some h
    obtain ⟨κ32, e33, h⟩ := bnd_some h
    refine r_iast C.1 h30 i31 e33 52 rfl dX7_type_51 ?_
    refine r_aload_n C.1 0 53 rfl dX7_type_52 rfl ?_
    refine r_dup C.1 rfl 54 rfl dX7_type_53 ?_
    refine r_getI C.1 16 fl_X7_214 rfl ha0 57 rfl dX7_type_54 ?_
    refine r_iconst C.1 1 rfl 58 rfl dX7_type_57 ?_
    refine r_iadd C.1 59 rfl dX7_type_58 ?_
    obtain ⟨κ34, e35, h⟩ := bnd_some h
    refine r_putI C.1 16 fw_X7_214 rfl rfl rfl ha0 e35 62 rfl dX7_type_59 ?_
    refine r_aload_n C.1 0 63 rfl dX7_type_62 rfl ?_
    refine r_getI C.1 16 fl_X7_214 rfl ha0 66 rfl dX7_type_63 ?_
    cases h
    exact r_zret C rfl rfl (Nat.le_of_ble_eq_true rfl) (Nat.le_of_ble_eq_true rfl) dX7_type_66 hq
  · have h := if_some_f c29 h
    refine r_iconst C.1 0 rfl 41 rfl dX7_type_40 ?_
    cases h
    exact r_zret C rfl rfl (Nat.le_of_ble_eq_true rfl) (Nat.le_of_ble_eq_true rfl) dX7_type_41 hq
set_option maxRecDepth 20000 in
theorem w_X7_type_0 {F : jFm} (C : jB F RX7 cX7_type 2 (some .int) 1 0 0 22) {κ : jKt} {a0 : Nat} (ha0 : jSof F a0 = (1, 11, 22)) {x1 : Int32} {r : Int32 × jKt} (hq : jOut F (some (.int r.1)) r.2) (h : P_X7_type κ a0 x1 = some r) : jW F 2 0 0 κ 0 [(0, .ref a0), (1, .int x1)] [] := by
  unfold P_X7_type at h
  refine r_aload_n C.1 0 1 rfl dX7_type_0 rfl ?_
  refine r_iload_n C.1 1 2 rfl dX7_type_1 rfl ?_
  refine r_bipush C.1 32 rfl 4 rfl dX7_type_2 ?_
  refine r_bipush C.1 126 rfl 6 rfl dX7_type_4 ?_
  obtain ⟨y37, e36, h⟩ := bd_some h
  refine r_cSi C.1 (st := [.ref a0]) (c_X7_isIn e36) yv_X7_isIn ml_X7_60 rfl ⟨Nat.le_of_ble_eq_true rfl, Nat.le_of_ble_eq_true rfl⟩ ⟨Nat.le_of_ble_eq_true rfl, Nat.le_of_ble_eq_true rfl⟩ (Nat.le_of_ble_eq_true rfl) rfl 0 0 rfl rfl 9 rfl dX7_type_6 ?_
  refine r_if_ne C.1 16 12 rfl dX7_type_9 rfl ⟨fun c38 => ?_, fun c38 => ?_⟩
  · have h := if_some_f c38 h
    refine r_aload_n C.1 0 17 rfl dX7_type_16 rfl ?_
    refine r_getI C.1 16 fl_X7_214 rfl ha0 20 rfl dX7_type_17 ?_
    refine r_bipush C.1 60 rfl 22 rfl dX7_type_20 ?_
    refine r_icmp_ne C.1 29 25 rfl dX7_type_22 rfl ⟨fun c39 => ?_, fun c39 => ?_⟩
    · have h := if_some_f c39 h
      refine r_iconst C.1 0 rfl 30 rfl dX7_type_29 ?_
      exact w_X7_type_30 C ha0 ha0 hq h
    · have h := if_some_t c39 h
      refine r_iconst C.1 2 rfl 26 rfl dX7_type_25 ?_
      refine r_goto C.1 30 dX7_type_26 rfl ?_
      exact w_X7_type_30 C ha0 ha0 hq h
  · have h := if_some_t c38 h
    refine r_iconst C.1 1 rfl 13 rfl dX7_type_12 ?_
    refine r_goto C.1 30 dX7_type_13 rfl ?_
    exact w_X7_type_30 C ha0 ha0 hq h
theorem c_X7_type {l : Launch} {G : jG} {sh : jSh} {κ : jKt} {a0 : Nat} (ha0 : sh a0 = (1, 11, 22)) {x1 : Int32} {r : Int32} {κr : jKt} (h : P_X7_type κ a0 x1 = some (r, κr)) : jM l G yX7_type cX7_type 2 (some .int) 1 0 0 22 [.ref a0, .int x1] (sh, κ) (jIs (some (.int r)) (sh, κr)) jNo :=
  r_body (by decide) (Nat.le_of_ble_eq_true rfl) fun F C hl hG hs ho hx => by
    subst hs
    exact w_X7_type_0 C ha0 (by rw [ho]; exact ⟨rfl, rfl⟩) h
set_option maxRecDepth 20000 in
theorem w_X7_sign_0 {F : jFm} (C : jB F RX7 cX7_sign 1 (some .int) 0 0 0 0) {κ : jKt} {a0 : Nat} (ha0 : jSof F a0 = (1, 11, 22)) {r : Int32} (hq : jOut F (some (.int r)) κ) (h : P_X7_sign κ a0 = some r) : jW F 1 0 0 κ 0 [(0, .ref a0)] [] := by
  unfold P_X7_sign at h
  refine r_aload_n C.1 0 1 rfl dX7_sign_0 rfl ?_
  refine r_getI C.1 17 fl_X7_217 rfl ha0 4 rfl dX7_sign_1 ?_
  refine r_aload_n C.1 0 5 rfl dX7_sign_4 rfl ?_
  refine r_getI C.1 18 fl_X7_220 rfl ha0 8 rfl dX7_sign_5 ?_
  refine r_icmp_ge C.1 23 11 rfl dX7_sign_8 rfl ⟨fun c7 => ?_, fun c7 => ?_⟩
  · have h := if_some_t c7 h
    refine r_iconst C.1 (-1) rfl 24 rfl dX7_sign_23 ?_
    cases h
    exact r_zret C rfl rfl (Nat.le_of_ble_eq_true rfl) (Nat.le_of_ble_eq_true rfl) dX7_sign_24 hq
  · have h := if_some_f c7 h
    refine r_aload_n C.1 0 12 rfl dX7_sign_11 rfl ?_
    refine r_getR C.1 11 fl_X7_35 rfl ha0 15 rfl dX7_sign_12 (fun (h8 : jSof F (kR κ a0 11) = (2, 0, 60)) => ?_)
    refine r_aload_n C.1 0 16 rfl dX7_sign_15 rfl ?_
    refine r_getI C.1 17 fl_X7_217 rfl ha0 19 rfl dX7_sign_16 ?_
    obtain ⟨i9, h⟩ := ck_some h
    refine r_iald C.1 h8 i9 20 rfl dX7_sign_19 ?_
    refine r_goto C.1 24 dX7_sign_20 rfl ?_
    cases h
    exact r_zret C rfl rfl (Nat.le_of_ble_eq_true rfl) (Nat.le_of_ble_eq_true rfl) dX7_sign_24 hq
theorem c_X7_sign {l : Launch} {G : jG} {sh : jSh} {κ : jKt} {a0 : Nat} (ha0 : sh a0 = (1, 11, 22)) {r : Int32} (h : P_X7_sign κ a0 = some r) : jM l G yX7_sign cX7_sign 1 (some .int) 0 0 0 0 [.ref a0] (sh, κ) (jIs (some (.int r)) (sh, κ)) jNo :=
  r_body (by decide) (Nat.le_of_ble_eq_true rfl) fun F C hl hG hs ho hx => by
    subst hs
    exact w_X7_sign_0 C ha0 (by rw [ho]; exact ⟨rfl, rfl⟩) h
set_option maxRecDepth 20000 in
theorem w_X7_mark_22 {F : jFm} (C : jB F RX7 cX7_mark 2 none 1 0 0 20) {κ : jKt} {a0 : Nat} (ha0 : jSof F a0 = (1, 11, 22)) {s0 : Int32} {a1 : Nat} (ha1 : jSof F a1 = (1, 11, 22)) {r : jKt} (hq : jOut F none r) (h : P_X7_mark_22 κ a0 s0 a1 = some r) : jW F 2 0 0 κ 22 [(0, .ref a0)] [.int s0, .ref a1] := by
  unfold P_X7_mark_22 at h
  obtain ⟨z27, h⟩ := ck_some h
  obtain ⟨κ25, e26, h⟩ := bnd_some h
  refine r_putI C.1 20 fw_X7_223 (jz_narrow z27) (jz_fits z27) rfl ha1 e26 25 rfl dX7_mark_22 ?_
  refine r_aload_n C.1 0 26 rfl dX7_mark_25 rfl ?_
  refine r_dup C.1 rfl 27 rfl dX7_mark_26 ?_
  refine r_getI C.1 17 fl_X7_217 rfl ha0 30 rfl dX7_mark_27 ?_
  refine r_aload_n C.1 0 31 rfl dX7_mark_30 rfl ?_
  refine r_getI C.1 20 fl_X7_223 rfl ha0 34 rfl dX7_mark_31 ?_
  refine r_if_eq C.1 41 37 rfl dX7_mark_34 rfl ⟨fun c28 => ?_, fun c28 => ?_⟩
  · have h := if_some_t c28 h
    refine r_iconst C.1 1 rfl 42 rfl dX7_mark_41 ?_
    refine r_iadd C.1 43 rfl dX7_mark_42 ?_
    obtain ⟨κ29, e30, h⟩ := bnd_some h
    refine r_putI C.1 17 fw_X7_217 rfl rfl rfl ha0 e30 46 rfl dX7_mark_43 ?_
    cases h
    exact r_vret C rfl (Nat.le_of_ble_eq_true rfl) (Nat.le_of_ble_eq_true rfl) dX7_mark_46 hq
  · have h := if_some_f c28 h
    refine r_iconst C.1 0 rfl 38 rfl dX7_mark_37 ?_
    refine r_goto C.1 42 dX7_mark_38 rfl ?_
    refine r_iadd C.1 43 rfl dX7_mark_42 ?_
    obtain ⟨κ31, e32, h⟩ := bnd_some h
    refine r_putI C.1 17 fw_X7_217 rfl rfl rfl ha0 e32 46 rfl dX7_mark_43 ?_
    cases h
    exact r_vret C rfl (Nat.le_of_ble_eq_true rfl) (Nat.le_of_ble_eq_true rfl) dX7_mark_46 hq
set_option maxRecDepth 20000 in
theorem w_X7_mark_0 {F : jFm} (C : jB F RX7 cX7_mark 2 none 1 0 0 20) {κ : jKt} {a0 : Nat} (ha0 : jSof F a0 = (1, 11, 22)) {x1 : Int32} {r : jKt} (hq : jOut F none r) (h : P_X7_mark κ a0 x1 = some r) : jW F 2 0 0 κ 0 [(0, .ref a0), (1, .int x1)] [] := by
  unfold P_X7_mark at h
  refine r_aload_n C.1 0 1 rfl dX7_mark_0 rfl ?_
  refine r_getI C.1 20 fl_X7_223 rfl ha0 4 rfl dX7_mark_1 ?_
  refine r_if_eq C.1 8 7 rfl dX7_mark_4 rfl ⟨fun c33 => ?_, fun c33 => ?_⟩
  · have h := if_some_t c33 h
    refine r_aload_n C.1 0 9 rfl dX7_mark_8 rfl ?_
    refine r_aload_n C.1 0 10 rfl dX7_mark_9 rfl ?_
    obtain ⟨y35, e34, h⟩ := bd_some h
    refine r_cVi C.1 (st := [.ref a0]) (c_X7_sign ha0 e34) yv_X7_sign ml_X7_227 rfl ha0 rfl ⟨Nat.le_of_ble_eq_true rfl, Nat.le_of_ble_eq_true rfl⟩ ⟨Nat.le_of_ble_eq_true rfl, Nat.le_of_ble_eq_true rfl⟩ (Nat.le_of_ble_eq_true rfl) rfl 0 0 rfl rfl 13 rfl dX7_mark_10 ?_
    refine r_iload_n C.1 1 14 rfl dX7_mark_13 rfl ?_
    refine r_icmp_eq C.1 21 17 rfl dX7_mark_14 rfl ⟨fun c36 => ?_, fun c36 => ?_⟩
    · have h := if_some_t c36 h
      refine r_iconst C.1 0 rfl 22 rfl dX7_mark_21 ?_
      refine r_lv [0] rfl ?_
      exact w_X7_mark_22 C ha0 ha0 hq h
    · have h := if_some_f c36 h
      refine r_iconst C.1 1 rfl 18 rfl dX7_mark_17 ?_
      refine r_goto C.1 22 dX7_mark_18 rfl ?_
      refine r_lv [0] rfl ?_
      exact w_X7_mark_22 C ha0 ha0 hq h
  · have h := if_some_f c33 h
    cases h
    exact r_vret C rfl (Nat.le_of_ble_eq_true rfl) (Nat.le_of_ble_eq_true rfl) dX7_mark_7 hq
theorem c_X7_mark {l : Launch} {G : jG} {sh : jSh} {κ : jKt} {a0 : Nat} (ha0 : sh a0 = (1, 11, 22)) {x1 : Int32}  {κr : jKt} (h : P_X7_mark κ a0 x1 = some κr) : jM l G yX7_mark cX7_mark 2 none 1 0 0 20 [.ref a0, .int x1] (sh, κ) (jIs none (sh, κr)) jNo :=
  r_body (by decide) (Nat.le_of_ble_eq_true rfl) fun F C hl hG hs ho hx => by
    subst hs
    exact w_X7_mark_0 C ha0 (by rw [ho]; exact ⟨rfl, rfl⟩) h
set_option maxRecDepth 20000 in
theorem w_X7_digits_59 {F : jFm} (C : jB F RX7 cX7_digits 4 (some .int) 1 0 0 22) {κ : jKt} {a0 : Nat} (ha0 : jSof F a0 = (1, 11, 22)) {v2 : Int32} {v3 : Int32} {r : Int32 × jKt} (hq : jOut F (some (.int r.1)) r.2) (h : P_X7_digits_59 κ a0 v2 v3 = some r) : jW F 4 0 0 κ 59 [(0, .ref a0), (2, .int v2), (3, .int v3)] [] := by
  unfold P_X7_digits_59 at h
  refine r_aload_n C.1 0 60 rfl dX7_digits_59 rfl ?_
  refine r_dup C.1 rfl 61 rfl dX7_digits_60 ?_
  refine r_getI C.1 20 fl_X7_223 rfl ha0 64 rfl dX7_digits_61 ?_
  refine r_iload_n C.1 2 65 rfl dX7_digits_64 rfl ?_
  refine r_if_ne C.1 72 68 rfl dX7_digits_65 rfl ⟨fun c37 => ?_, fun c37 => ?_⟩
  · have h := if_some_f c37 h
    refine r_iconst C.1 0 rfl 73 rfl dX7_digits_72 ?_
    refine r_ior C.1 74 rfl dX7_digits_73 ?_
    obtain ⟨z40, h⟩ := ck_some h
    obtain ⟨κ38, e39, h⟩ := bnd_some h
    refine r_putI C.1 20 fw_X7_223 (jz_narrow z40) (jz_fits z40) rfl ha0 e39 77 rfl dX7_digits_74 ?_
    refine r_iload_n C.1 1 78 rfl dX7_digits_77 rfl ?_
    cases h
    exact r_zret C rfl rfl (Nat.le_of_ble_eq_true rfl) (Nat.le_of_ble_eq_true rfl) dX7_digits_78 hq
  · have h := if_some_t c37 h
    refine r_iconst C.1 1 rfl 69 rfl dX7_digits_68 ?_
    refine r_goto C.1 73 dX7_digits_69 rfl ?_
    refine r_ior C.1 74 rfl dX7_digits_73 ?_
    obtain ⟨z43, h⟩ := ck_some h
    obtain ⟨κ41, e42, h⟩ := bnd_some h
    refine r_putI C.1 20 fw_X7_223 (jz_narrow z43) (jz_fits z43) rfl ha0 e42 77 rfl dX7_digits_74 ?_
    refine r_iload_n C.1 1 78 rfl dX7_digits_77 rfl ?_
    cases h
    exact r_zret C rfl rfl (Nat.le_of_ble_eq_true rfl) (Nat.le_of_ble_eq_true rfl) dX7_digits_78 hq
set_option maxRecDepth 20000 in
theorem w_X7_digits_4 {F : jFm} (C : jB F RX7 cX7_digits 4 (some .int) 1 0 0 22) {a0 : Nat} (ha0 : jSof F a0 = (1, 11, 22)) {v1 : Int32} {r : Int32 × jKt} (hq : jOut F (some (.int r.1)) r.2) : ∀ (n : Nat) (κ : jKt) (v2 : Int32) (v3 : Int32), P_X7_digits_4 a0 v1 n κ v2 v3 = some r → jW F 4 0 0 κ 4 [(0, .ref a0), (1, .int v1), (2, .int v2), (3, .int v3)] [] := by
  intro n
  induction n with
  | zero => intro κ v2 v3 h; cases h
  | succ n ih =>
    intro κ v2 v3 h
    rw [P_X7_digits_4] at h
    refine r_aload_n C.1 0 5 rfl dX7_digits_4 rfl ?_
    refine r_getI C.1 20 fl_X7_223 rfl ha0 8 rfl dX7_digits_5 ?_
    refine r_if_ne C.1 59 11 rfl dX7_digits_8 rfl ⟨fun c44 => ?_, fun c44 => ?_⟩
    · have h := if_some_f c44 h
      refine r_lv [0, 2, 3] rfl ?_
      exact w_X7_digits_59 C ha0 hq h
    · have h := if_some_t c44 h
      refine r_iload_n C.1 3 12 rfl dX7_digits_11 rfl ?_
      refine r_iload_n C.1 1 13 rfl dX7_digits_12 rfl ?_
      refine r_icmp_ge C.1 59 16 rfl dX7_digits_13 rfl ⟨fun c45 => ?_, fun c45 => ?_⟩
      · have h := if_some_t c45 h
        refine r_lv [0, 2, 3] rfl ?_
        exact w_X7_digits_59 C ha0 hq h
      · have h := if_some_f c45 h
        refine r_aload_n C.1 0 17 rfl dX7_digits_16 rfl ?_
        obtain ⟨y47, e46, h⟩ := bd_some h
        refine r_cVi C.1 (st := []) (c_X7_sign ha0 e46) yv_X7_sign ml_X7_227 rfl ha0 rfl ⟨Nat.le_of_ble_eq_true rfl, Nat.le_of_ble_eq_true rfl⟩ ⟨Nat.le_of_ble_eq_true rfl, Nat.le_of_ble_eq_true rfl⟩ (Nat.le_of_ble_eq_true rfl) rfl 0 0 rfl rfl 20 rfl dX7_digits_17 ?_
        refine r_bipush C.1 48 rfl 22 rfl dX7_digits_20 ?_
        refine r_bipush C.1 57 rfl 24 rfl dX7_digits_22 ?_
        obtain ⟨y49, e48, h⟩ := bd_some h
        refine r_cSi C.1 (st := []) (c_X7_isIn e48) yv_X7_isIn ml_X7_60 rfl ⟨Nat.le_of_ble_eq_true rfl, Nat.le_of_ble_eq_true rfl⟩ ⟨Nat.le_of_ble_eq_true rfl, Nat.le_of_ble_eq_true rfl⟩ (Nat.le_of_ble_eq_true rfl) rfl 0 0 rfl rfl 27 rfl dX7_digits_24 ?_
        refine r_if_eq C.1 59 30 rfl dX7_digits_27 rfl ⟨fun c50 => ?_, fun c50 => ?_⟩
        · have h := if_some_t c50 h
          refine r_lv [0, 2, 3] rfl ?_
          exact w_X7_digits_59 C ha0 hq h
        · have h := if_some_f c50 h
          refine r_bipush C.1 10 rfl 32 rfl dX7_digits_30 ?_
          refine r_iload_n C.1 2 33 rfl dX7_digits_32 rfl ?_
          refine r_imul C.1 34 rfl dX7_digits_33 ?_
          refine r_aload_n C.1 0 35 rfl dX7_digits_34 rfl ?_
          obtain ⟨y52, e51, h⟩ := bd_some h
          refine r_cVi C.1 (st := [.int (10 * v2)]) (c_X7_sign ha0 e51) yv_X7_sign ml_X7_227 rfl ha0 rfl ⟨Nat.le_of_ble_eq_true rfl, Nat.le_of_ble_eq_true rfl⟩ ⟨Nat.le_of_ble_eq_true rfl, Nat.le_of_ble_eq_true rfl⟩ (Nat.le_of_ble_eq_true rfl) rfl 0 0 rfl rfl 38 rfl dX7_digits_35 ?_
          refine r_iadd C.1 39 rfl dX7_digits_38 ?_
          refine r_bipush C.1 48 rfl 41 rfl dX7_digits_39 ?_
          refine r_isub C.1 42 rfl dX7_digits_41 ?_
          refine r_istore_n C.1 (lv' := [(0, .ref a0), (1, .int v1), (2, .int (((10 * v2) + y52) - 48)), (3, .int v3)]) [1, 2, 0, 3] 43 rfl dX7_digits_42 (Nat.le_of_ble_eq_true rfl) rfl ?_
          refine r_aload_n C.1 0 44 rfl dX7_digits_43 rfl ?_
          refine r_dup C.1 rfl 45 rfl dX7_digits_44 ?_
          refine r_getI C.1 17 fl_X7_217 rfl ha0 48 rfl dX7_digits_45 ?_
          refine r_iconst C.1 1 rfl 49 rfl dX7_digits_48 ?_
          refine r_iadd C.1 50 rfl dX7_digits_49 ?_
          obtain ⟨κ53, e54, h⟩ := bnd_some h
          refine r_putI C.1 17 fw_X7_217 rfl rfl rfl ha0 e54 53 rfl dX7_digits_50 ?_
          refine r_iinc C.1 (lv' := [(0, .ref a0), (1, .int v1), (2, .int (((10 * v2) + y52) - 48)), (3, .int (v3 + 1))]) 3 [1, 2, 3, 0] 56 rfl dX7_digits_53 rfl (Nat.le_of_ble_eq_true rfl) rfl rfl ?_
          refine r_goto C.1 4 dX7_digits_56 rfl ?_
          exact ih κ53 (((10 * v2) + y52) - 48) (v3 + 1) h
set_option maxRecDepth 20000 in
theorem w_X7_digits_0 {F : jFm} (C : jB F RX7 cX7_digits 4 (some .int) 1 0 0 22) {κ : jKt} {a0 : Nat} (ha0 : jSof F a0 = (1, 11, 22)) {x1 : Int32} {r : Int32 × jKt} (hq : jOut F (some (.int r.1)) r.2) (h : P_X7_digits κ a0 x1 = some r) : jW F 4 0 0 κ 0 [(0, .ref a0), (1, .int x1)] [] := by
  unfold P_X7_digits at h
  refine r_iconst C.1 0 rfl 1 rfl dX7_digits_0 ?_
  refine r_istore_n C.1 (lv' := [(0, .ref a0), (1, .int x1), (2, .int 0)]) [1, 2, 0] 2 rfl dX7_digits_1 (Nat.le_of_ble_eq_true rfl) rfl ?_
  refine r_iconst C.1 0 rfl 3 rfl dX7_digits_2 ?_
  refine r_istore_n C.1 (lv' := [(0, .ref a0), (1, .int x1), (2, .int 0), (3, .int 0)]) [1, 2, 3, 0] 4 rfl dX7_digits_3 (Nat.le_of_ble_eq_true rfl) rfl ?_
  exact w_X7_digits_4 C ha0 hq 4000 κ 0 0 h
theorem c_X7_digits {l : Launch} {G : jG} {sh : jSh} {κ : jKt} {a0 : Nat} (ha0 : sh a0 = (1, 11, 22)) {x1 : Int32} {r : Int32} {κr : jKt} (h : P_X7_digits κ a0 x1 = some (r, κr)) : jM l G yX7_digits cX7_digits 4 (some .int) 1 0 0 22 [.ref a0, .int x1] (sh, κ) (jIs (some (.int r)) (sh, κr)) jNo :=
  r_body (by decide) (Nat.le_of_ble_eq_true rfl) fun F C hl hG hs ho hx => by
    subst hs
    exact w_X7_digits_0 C ha0 (by rw [ho]; exact ⟨rfl, rfl⟩) h
set_option maxRecDepth 20000 in
theorem w_X7_behindSign_0 {F : jFm} (C : jB F RX7 cX7_behindSign 3 (some .int) 2 0 0 45) {κ : jKt} {a0 : Nat} (ha0 : jSof F a0 = (1, 11, 22)) {x1 : Int32} {x2 : Int32} {r : Int32 × jKt} (hq : jOut F (some (.int r.1)) r.2) (h : P_X7_behindSign κ a0 x1 x2 = some r) : jW F 3 0 0 κ 0 [(0, .ref a0), (1, .int x1), (2, .int x2)] [] := by
  unfold P_X7_behindSign at h
  refine r_aload_n C.1 0 1 rfl dX7_behindSign_0 rfl ?_
  refine r_iload_n C.1 1 2 rfl dX7_behindSign_1 rfl ?_
  obtain ⟨κ14, e13, h⟩ := bd_some h
  refine r_cVv C.1 (st := []) (c_X7_mark ha0 e13) yv_X7_mark ml_X7_231 rfl ha0 rfl ⟨Nat.le_of_ble_eq_true rfl, Nat.le_of_ble_eq_true rfl⟩ ⟨Nat.le_of_ble_eq_true rfl, Nat.le_of_ble_eq_true rfl⟩ (Nat.le_of_ble_eq_true rfl) rfl 0 0 rfl rfl 5 rfl dX7_behindSign_2 ?_
  refine r_aload_n C.1 0 6 rfl dX7_behindSign_5 rfl ?_
  refine r_getI C.1 20 fl_X7_223 rfl ha0 9 rfl dX7_behindSign_6 ?_
  refine r_if_eq C.1 16 12 rfl dX7_behindSign_9 rfl ⟨fun c15 => ?_, fun c15 => ?_⟩
  · have h := if_some_t c15 h
    refine r_aload_n C.1 0 17 rfl dX7_behindSign_16 rfl ?_
    refine r_iload_n C.1 2 18 rfl dX7_behindSign_17 rfl ?_
    obtain ⟨y17, κ18, e16, h⟩ := bd2_some h
    refine r_cVi C.1 (st := []) (c_X7_digits ha0 e16) yv_X7_digits ml_X7_234 rfl ha0 rfl ⟨Nat.le_of_ble_eq_true rfl, Nat.le_of_ble_eq_true rfl⟩ ⟨Nat.le_of_ble_eq_true rfl, Nat.le_of_ble_eq_true rfl⟩ (Nat.le_of_ble_eq_true rfl) rfl 0 0 rfl rfl 21 rfl dX7_behindSign_18 ?_
    cases h
    exact r_zret C rfl rfl (Nat.le_of_ble_eq_true rfl) (Nat.le_of_ble_eq_true rfl) dX7_behindSign_21 hq
  · have h := if_some_f c15 h
    refine r_iconst C.1 0 rfl 13 rfl dX7_behindSign_12 ?_
    refine r_goto C.1 21 dX7_behindSign_13 rfl ?_
    cases h
    exact r_zret C rfl rfl (Nat.le_of_ble_eq_true rfl) (Nat.le_of_ble_eq_true rfl) dX7_behindSign_21 hq
theorem c_X7_behindSign {l : Launch} {G : jG} {sh : jSh} {κ : jKt} {a0 : Nat} (ha0 : sh a0 = (1, 11, 22)) {x1 : Int32} {x2 : Int32} {r : Int32} {κr : jKt} (h : P_X7_behindSign κ a0 x1 x2 = some (r, κr)) : jM l G yX7_behindSign cX7_behindSign 3 (some .int) 2 0 0 45 [.ref a0, .int x1, .int x2] (sh, κ) (jIs (some (.int r)) (sh, κr)) jNo :=
  r_body (by decide) (Nat.le_of_ble_eq_true rfl) fun F C hl hG hs ho hx => by
    subst hs
    exact w_X7_behindSign_0 C ha0 (by rw [ho]; exact ⟨rfl, rfl⟩) h
set_option maxRecDepth 20000 in
theorem w_X7_word_103 {F : jFm} (C : jB F RX7 cX7_word 5 (some .int) 1 0 0 20) {κ : jKt} {a0 : Nat} (ha0 : jSof F a0 = (1, 11, 22)) {v1 : Int32} {v2 : Int32} {v3 : Int32} {v4 : Int32} {s0 : Int32} {s1 : Int32} {s2 : Int32} {a3 : Nat} (ha3 : jSof F a3 = (2, 0, 10)) {r : Int32 × jKt} (hq : jOut F (some (.int r.1)) r.2) {K25 : jKt → Int32 → Int32 → Option (Int32 × jKt)} (hK25 : ∀ (κ : jKt) (u1 : Int32) (u2 : Int32), K25 κ u1 u2 = some r → jW F 5 0 0 κ 25 [(0, .ref a0), (1, .int u1), (2, .int u2)] []) {K41 : jKt → Int32 → Int32 → Option (Int32 × jKt)} (hK41 : ∀ (κ : jKt) (u3 : Int32) (u4 : Int32), K41 κ u3 u4 = some r → jW F 5 0 0 κ 41 [(0, .ref a0), (1, .int v1), (2, .int v2), (3, .int u3), (4, .int u4)] []) (h : P_X7_word_103 κ a0 v1 v2 v3 v4 s0 s1 s2 a3 K25 K41 = some r) : jW F 5 0 0 κ 103 [(0, .ref a0), (1, .int v1), (2, .int v2), (3, .int v3), (4, .int v4)] [.int s0, .int s1, .int s2, .ref a3] := by
  unfold P_X7_word_103 at h
  refine r_iand C.1 104 rfl dX7_word_103 ?_
  obtain ⟨i93, h⟩ := ck_some h
  obtain ⟨κ94, e95, h⟩ := bnd_some h
  refine r_iast C.1 ha3 i93 e95 105 rfl dX7_word_104 ?_
  refine r_iload_n C.1 3 106 rfl dX7_word_105 rfl ?_
  refine r_aload_n C.1 0 107 rfl dX7_word_106 rfl ?_
  refine r_getR C.1 13 fl_X7_41 rfl ha0 110 rfl dX7_word_107 (fun (h96 : jSof F (kR κ94 a0 13) = (2, 0, 10)) => ?_)
  refine r_iload C.1 4 112 rfl dX7_word_110 rfl ?_
  obtain ⟨i97, h⟩ := ck_some h
  refine r_iald C.1 h96 i97 113 rfl dX7_word_112 ?_
  refine r_iconst C.1 1 rfl 114 rfl dX7_word_113 ?_
  refine r_icmp_ne C.1 121 117 rfl dX7_word_114 rfl ⟨fun c98 => ?_, fun c98 => ?_⟩
  · have h := if_some_f c98 h
    refine r_iconst C.1 0 rfl 122 rfl dX7_word_121 ?_
    refine r_ior C.1 123 rfl dX7_word_122 ?_
    refine r_istore_n C.1 (lv' := [(0, .ref a0), (1, .int v1), (2, .int v2), (3, .int (v3 ||| 0)), (4, .int v4)]) [1, 2, 3, 0, 4] 124 rfl dX7_word_123 (Nat.le_of_ble_eq_true rfl) rfl ?_
    refine r_iinc C.1 (lv' := [(0, .ref a0), (1, .int v1), (2, .int v2), (3, .int (v3 ||| 0)), (4, .int (v4 + 1))]) 4 [1, 2, 3, 4, 0] 127 rfl dX7_word_124 rfl (Nat.le_of_ble_eq_true rfl) rfl rfl ?_
    refine r_goto C.1 41 dX7_word_127 rfl ?_
    exact hK41 κ94 (v3 ||| 0) (v4 + 1) h
  · have h := if_some_t c98 h
    refine r_iconst C.1 1 rfl 118 rfl dX7_word_117 ?_
    refine r_goto C.1 122 dX7_word_118 rfl ?_
    refine r_ior C.1 123 rfl dX7_word_122 ?_
    refine r_istore_n C.1 (lv' := [(0, .ref a0), (1, .int v1), (2, .int v2), (3, .int (v3 ||| 1)), (4, .int v4)]) [1, 2, 3, 0, 4] 124 rfl dX7_word_123 (Nat.le_of_ble_eq_true rfl) rfl ?_
    refine r_iinc C.1 (lv' := [(0, .ref a0), (1, .int v1), (2, .int v2), (3, .int (v3 ||| 1)), (4, .int (v4 + 1))]) 4 [1, 2, 3, 4, 0] 127 rfl dX7_word_124 rfl (Nat.le_of_ble_eq_true rfl) rfl rfl ?_
    refine r_goto C.1 41 dX7_word_127 rfl ?_
    exact hK41 κ94 (v3 ||| 1) (v4 + 1) h
set_option maxRecDepth 20000 in
theorem w_X7_word_102 {F : jFm} (C : jB F RX7 cX7_word 5 (some .int) 1 0 0 20) {κ : jKt} {a0 : Nat} (ha0 : jSof F a0 = (1, 11, 22)) {v1 : Int32} {v2 : Int32} {v3 : Int32} {v4 : Int32} {s0 : Int32} {s1 : Int32} {a2 : Nat} (ha2 : jSof F a2 = (2, 0, 10)) {r : Int32 × jKt} (hq : jOut F (some (.int r.1)) r.2) {K25 : jKt → Int32 → Int32 → Option (Int32 × jKt)} (hK25 : ∀ (κ : jKt) (u1 : Int32) (u2 : Int32), K25 κ u1 u2 = some r → jW F 5 0 0 κ 25 [(0, .ref a0), (1, .int u1), (2, .int u2)] []) {K41 : jKt → Int32 → Int32 → Option (Int32 × jKt)} (hK41 : ∀ (κ : jKt) (u3 : Int32) (u4 : Int32), K41 κ u3 u4 = some r → jW F 5 0 0 κ 41 [(0, .ref a0), (1, .int v1), (2, .int v2), (3, .int u3), (4, .int u4)] []) (h : P_X7_word_102 κ a0 v1 v2 v3 v4 s0 s1 a2 K25 K41 = some r) : jW F 5 0 0 κ 102 [(0, .ref a0), (1, .int v1), (2, .int v2), (3, .int v3), (4, .int v4)] [.int s0, .int s1, .ref a2] := by
  unfold P_X7_word_102 at h
  refine r_iconst C.1 0 rfl 103 rfl dX7_word_102 ?_
  exact w_X7_word_103 C ha0 ha2 hq hK25 hK41 h
set_option maxRecDepth 20000 in
theorem w_X7_word_167 {F : jFm} (C : jB F RX7 cX7_word 5 (some .int) 1 0 0 20) {a0 : Nat} (ha0 : jSof F a0 = (1, 11, 22)) {v1 : Int32} {r : Int32 × jKt} (hq : jOut F (some (.int r.1)) r.2) {K25 : jKt → Int32 → Int32 → Option (Int32 × jKt)} (hK25 : ∀ (κ : jKt) (u1 : Int32) (u2 : Int32), K25 κ u1 u2 = some r → jW F 5 0 0 κ 25 [(0, .ref a0), (1, .int u1), (2, .int u2)] []) : ∀ (n : Nat) (κ : jKt) (v2 : Int32) (v4 : Int32), P_X7_word_167 a0 v1 K25 n κ v2 v4 = some r → jW F 5 0 0 κ 167 [(0, .ref a0), (1, .int v1), (2, .int v2), (4, .int v4)] [] := by
  intro n
  induction n with
  | zero => intro κ v2 v4 h; cases h
  | succ n ih =>
    intro κ v2 v4 h
    rw [P_X7_word_167] at h
    refine r_iload C.1 3 169 rfl dX7_word_167 rfl ?_
    refine r_bipush C.1 10 rfl 171 rfl dX7_word_169 ?_
    refine r_icmp_ge C.1 219 174 rfl dX7_word_171 rfl ⟨fun c99 => ?_, fun c99 => ?_⟩
    · have h := if_some_t c99 h
      refine r_goto C.1 25 dX7_word_219 rfl ?_
      refine r_lv [0, 1, 2] rfl ?_
      exact hK25 κ v1 v2 h
    · have h := if_some_f c99 h
      refine r_aload_n C.1 0 175 rfl dX7_word_174 rfl ?_
      refine r_getR C.1 13 fl_X7_41 rfl ha0 178 rfl dX7_word_175 (fun (h100 : jSof F (kR κ a0 13) = (2, 0, 10)) => ?_)
      refine r_iload C.1 3 180 rfl dX7_word_178 rfl ?_
      obtain ⟨i101, h⟩ := ck_some h
      refine r_iald C.1 h100 i101 181 rfl dX7_word_180 ?_
      refine r_iconst C.1 1 rfl 182 rfl dX7_word_181 ?_
      refine r_icmp_ne C.1 211 185 rfl dX7_word_182 rfl ⟨fun c102 => ?_, fun c102 => ?_⟩
      · have h := if_some_f c102 h
        refine r_iload_n C.1 2 212 rfl dX7_word_211 rfl ?_
        refine r_istore_n C.1 (lv' := [(0, .ref a0), (1, .int v1), (2, .int v2), (4, .int v4)]) [1, 2, 0, 3] 213 rfl dX7_word_212 (Nat.le_of_ble_eq_true rfl) rfl ?_
        refine r_iinc C.1 (lv' := [(0, .ref a0), (1, .int v1), (2, .int v2), (4, .int (v4 + 1))]) 3 [1, 2, 3, 0] 216 rfl dX7_word_213 rfl (Nat.le_of_ble_eq_true rfl) rfl rfl ?_
        refine r_goto C.1 167 dX7_word_216 rfl ?_
        exact ih κ v2 (v4 + 1) h
      · have h := if_some_t c102 h
        refine r_aload_n C.1 0 186 rfl dX7_word_185 rfl ?_
        refine r_getR C.1 15 fl_X7_47 rfl ha0 189 rfl dX7_word_186 (fun (h103 : jSof F (kR κ a0 15) = (2, 0, 11)) => ?_)
        refine r_iload C.1 3 191 rfl dX7_word_189 rfl ?_
        obtain ⟨i104, h⟩ := ck_some h
        refine r_iald C.1 h103 i104 192 rfl dX7_word_191 ?_
        refine r_iload_n C.1 1 193 rfl dX7_word_192 rfl ?_
        refine r_iadd C.1 194 rfl dX7_word_193 ?_
        refine r_aload_n C.1 0 195 rfl dX7_word_194 rfl ?_
        refine r_getR C.1 15 fl_X7_47 rfl ha0 198 rfl dX7_word_195 (fun (h105 : jSof F (kR κ a0 15) = (2, 0, 11)) => ?_)
        refine r_iload C.1 3 200 rfl dX7_word_198 rfl ?_
        refine r_iconst C.1 1 rfl 201 rfl dX7_word_200 ?_
        refine r_iadd C.1 202 rfl dX7_word_201 ?_
        obtain ⟨i106, h⟩ := ck_some h
        refine r_iald C.1 h105 i106 203 rfl dX7_word_202 ?_
        refine r_icmp_ne C.1 211 206 rfl dX7_word_203 rfl ⟨fun c107 => ?_, fun c107 => ?_⟩
        · have h := if_some_f c107 h
          refine r_iload_n C.1 2 212 rfl dX7_word_211 rfl ?_
          refine r_istore_n C.1 (lv' := [(0, .ref a0), (1, .int v1), (2, .int v2), (4, .int v4)]) [1, 2, 0, 3] 213 rfl dX7_word_212 (Nat.le_of_ble_eq_true rfl) rfl ?_
          refine r_iinc C.1 (lv' := [(0, .ref a0), (1, .int v1), (2, .int v2), (4, .int (v4 + 1))]) 3 [1, 2, 3, 0] 216 rfl dX7_word_213 rfl (Nat.le_of_ble_eq_true rfl) rfl rfl ?_
          refine r_goto C.1 167 dX7_word_216 rfl ?_
          exact ih κ v2 (v4 + 1) h
        · have h := if_some_t c107 h
          refine r_iload C.1 3 208 rfl dX7_word_206 rfl ?_
          refine r_goto C.1 212 dX7_word_208 rfl ?_
          refine r_istore_n C.1 (lv' := [(0, .ref a0), (1, .int v1), (2, .int v4), (4, .int v4)]) [1, 2, 0, 3] 213 rfl dX7_word_212 (Nat.le_of_ble_eq_true rfl) rfl ?_
          refine r_iinc C.1 (lv' := [(0, .ref a0), (1, .int v1), (2, .int v4), (4, .int (v4 + 1))]) 3 [1, 2, 3, 0] 216 rfl dX7_word_213 rfl (Nat.le_of_ble_eq_true rfl) rfl rfl ?_
          refine r_goto C.1 167 dX7_word_216 rfl ?_
          exact ih κ v4 (v4 + 1) h
set_option maxRecDepth 20000 in
theorem w_X7_word_140 {F : jFm} (C : jB F RX7 cX7_word 5 (some .int) 1 0 0 20) {κ : jKt} {a0 : Nat} (ha0 : jSof F a0 = (1, 11, 22)) {v1 : Int32} {v2 : Int32} {v3 : Int32} {s0 : Int32} {a1 : Nat} (ha1 : jSof F a1 = (1, 11, 22)) {r : Int32 × jKt} (hq : jOut F (some (.int r.1)) r.2) {K25 : jKt → Int32 → Int32 → Option (Int32 × jKt)} (hK25 : ∀ (κ : jKt) (u1 : Int32) (u2 : Int32), K25 κ u1 u2 = some r → jW F 5 0 0 κ 25 [(0, .ref a0), (1, .int u1), (2, .int u2)] []) (h : P_X7_word_140 κ a0 v1 v2 v3 s0 a1 K25 = some r) : jW F 5 0 0 κ 140 [(0, .ref a0), (1, .int v1), (2, .int v2), (3, .int v3)] [.int s0, .ref a1] := by
  unfold P_X7_word_140 at h
  obtain ⟨z110, h⟩ := ck_some h
  obtain ⟨κ108, e109, h⟩ := bnd_some h
  refine r_putI C.1 20 fw_X7_223 (jz_narrow z110) (jz_fits z110) rfl ha1 e109 143 rfl dX7_word_140 ?_
  refine r_aload_n C.1 0 144 rfl dX7_word_143 rfl ?_
  refine r_dup C.1 rfl 145 rfl dX7_word_144 ?_
  refine r_getI C.1 17 fl_X7_217 rfl ha0 148 rfl dX7_word_145 ?_
  refine r_iload_n C.1 3 149 rfl dX7_word_148 rfl ?_
  refine r_if_eq C.1 156 152 rfl dX7_word_149 rfl ⟨fun c111 => ?_, fun c111 => ?_⟩
  · have h := if_some_t c111 h
    refine r_iconst C.1 0 rfl 157 rfl dX7_word_156 ?_
    refine r_iadd C.1 158 rfl dX7_word_157 ?_
    obtain ⟨κ112, e113, h⟩ := bnd_some h
    refine r_putI C.1 17 fw_X7_217 rfl rfl rfl ha0 e113 161 rfl dX7_word_158 ?_
    refine r_iinc C.1 (lv' := [(0, .ref a0), (1, .int (v1 + 1)), (2, .int v2), (3, .int v3)]) 1 [1, 0, 2, 3] 164 rfl dX7_word_161 rfl (Nat.le_of_ble_eq_true rfl) rfl rfl ?_
    refine r_iconst C.1 0 rfl 165 rfl dX7_word_164 ?_
    refine r_istore C.1 (lv' := [(0, .ref a0), (1, .int (v1 + 1)), (2, .int v2), (3, .int v3), (4, .int 0)]) [1, 2, 3, 4, 0] 167 rfl dX7_word_165 (Nat.le_of_ble_eq_true rfl) rfl ?_
    refine r_lv [0, 1, 2, 4] rfl ?_
    exact w_X7_word_167 C ha0 hq hK25 4000 κ112 v2 0 h
  · have h := if_some_f c111 h
    refine r_iconst C.1 1 rfl 153 rfl dX7_word_152 ?_
    refine r_goto C.1 157 dX7_word_153 rfl ?_
    refine r_iadd C.1 158 rfl dX7_word_157 ?_
    obtain ⟨κ114, e115, h⟩ := bnd_some h
    refine r_putI C.1 17 fw_X7_217 rfl rfl rfl ha0 e115 161 rfl dX7_word_158 ?_
    refine r_iinc C.1 (lv' := [(0, .ref a0), (1, .int (v1 + 1)), (2, .int v2), (3, .int v3)]) 1 [1, 0, 2, 3] 164 rfl dX7_word_161 rfl (Nat.le_of_ble_eq_true rfl) rfl rfl ?_
    refine r_iconst C.1 0 rfl 165 rfl dX7_word_164 ?_
    refine r_istore C.1 (lv' := [(0, .ref a0), (1, .int (v1 + 1)), (2, .int v2), (3, .int v3), (4, .int 0)]) [1, 2, 3, 4, 0] 167 rfl dX7_word_165 (Nat.le_of_ble_eq_true rfl) rfl ?_
    refine r_lv [0, 1, 2, 4] rfl ?_
    exact w_X7_word_167 C ha0 hq hK25 4000 κ114 v2 0 h
set_option maxRecDepth 20000 in
theorem w_X7_word_41 {F : jFm} (C : jB F RX7 cX7_word 5 (some .int) 1 0 0 20) {a0 : Nat} (ha0 : jSof F a0 = (1, 11, 22)) {v1 : Int32} {v2 : Int32} {r : Int32 × jKt} (hq : jOut F (some (.int r.1)) r.2) {K25 : jKt → Int32 → Int32 → Option (Int32 × jKt)} (hK25 : ∀ (κ : jKt) (u1 : Int32) (u2 : Int32), K25 κ u1 u2 = some r → jW F 5 0 0 κ 25 [(0, .ref a0), (1, .int u1), (2, .int u2)] []) : ∀ (n : Nat) (κ : jKt) (v3 : Int32) (v4 : Int32), P_X7_word_41 a0 v1 v2 K25 n κ v3 v4 = some r → jW F 5 0 0 κ 41 [(0, .ref a0), (1, .int v1), (2, .int v2), (3, .int v3), (4, .int v4)] [] := by
  intro n
  induction n with
  | zero => intro κ v3 v4 h; cases h
  | succ n ih =>
    intro κ v3 v4 h
    rw [P_X7_word_41] at h
    refine r_iload C.1 4 43 rfl dX7_word_41 rfl ?_
    refine r_bipush C.1 10 rfl 45 rfl dX7_word_43 ?_
    refine r_icmp_ge C.1 130 48 rfl dX7_word_45 rfl ⟨fun c116 => ?_, fun c116 => ?_⟩
    · have h := if_some_t c116 h
      refine r_aload_n C.1 0 131 rfl dX7_word_130 rfl ?_
      refine r_iload_n C.1 3 132 rfl dX7_word_131 rfl ?_
      refine r_if_ne C.1 139 135 rfl dX7_word_132 rfl ⟨fun c117 => ?_, fun c117 => ?_⟩
      · have h := if_some_f c117 h
        refine r_iconst C.1 0 rfl 140 rfl dX7_word_139 ?_
        refine r_lv [0, 1, 2, 3] rfl ?_
        exact w_X7_word_140 C ha0 ha0 hq hK25 h
      · have h := if_some_t c117 h
        refine r_iconst C.1 1 rfl 136 rfl dX7_word_135 ?_
        refine r_goto C.1 140 dX7_word_136 rfl ?_
        refine r_lv [0, 1, 2, 3] rfl ?_
        exact w_X7_word_140 C ha0 ha0 hq hK25 h
    · have h := if_some_f c116 h
      refine r_aload_n C.1 0 49 rfl dX7_word_48 rfl ?_
      refine r_getR C.1 13 fl_X7_41 rfl ha0 52 rfl dX7_word_49 (fun (h118 : jSof F (kR κ a0 13) = (2, 0, 10)) => ?_)
      refine r_iload C.1 4 54 rfl dX7_word_52 rfl ?_
      refine r_dup2 C.1 rfl rfl 55 rfl dX7_word_54 ?_
      obtain ⟨i119, h⟩ := ck_some h
      refine r_iald C.1 h118 i119 56 rfl dX7_word_55 ?_
      refine r_aload_n C.1 0 57 rfl dX7_word_56 rfl ?_
      refine r_getR C.1 15 fl_X7_47 rfl ha0 60 rfl dX7_word_57 (fun (h120 : jSof F (kR κ a0 15) = (2, 0, 11)) => ?_)
      refine r_iload C.1 4 62 rfl dX7_word_60 rfl ?_
      obtain ⟨i121, h⟩ := ck_some h
      refine r_iald C.1 h120 i121 63 rfl dX7_word_62 ?_
      refine r_iload_n C.1 1 64 rfl dX7_word_63 rfl ?_
      refine r_iadd C.1 65 rfl dX7_word_64 ?_
      refine r_aload_n C.1 0 66 rfl dX7_word_65 rfl ?_
      refine r_getR C.1 15 fl_X7_47 rfl ha0 69 rfl dX7_word_66 (fun (h122 : jSof F (kR κ a0 15) = (2, 0, 11)) => ?_)
      refine r_iload C.1 4 71 rfl dX7_word_69 rfl ?_
      refine r_iconst C.1 1 rfl 72 rfl dX7_word_71 ?_
      refine r_iadd C.1 73 rfl dX7_word_72 ?_
      obtain ⟨i123, h⟩ := ck_some h
      refine r_iald C.1 h122 i123 74 rfl dX7_word_73 ?_
      refine r_icmp_ge C.1 102 77 rfl dX7_word_74 rfl ⟨fun c124 => ?_, fun c124 => ?_⟩
      · have h := if_some_t c124 h
        exact w_X7_word_102 C ha0 h118 hq hK25 ih h
      · have h := if_some_f c124 h
        refine r_aload_n C.1 0 78 rfl dX7_word_77 rfl ?_
        refine r_getR C.1 14 fl_X7_44 rfl ha0 81 rfl dX7_word_78 (fun (h125 : jSof F (kR κ a0 14) = (2, 0, 57)) => ?_)
        refine r_aload_n C.1 0 82 rfl dX7_word_81 rfl ?_
        refine r_getR C.1 15 fl_X7_47 rfl ha0 85 rfl dX7_word_82 (fun (h126 : jSof F (kR κ a0 15) = (2, 0, 11)) => ?_)
        refine r_iload C.1 4 87 rfl dX7_word_85 rfl ?_
        obtain ⟨i127, h⟩ := ck_some h
        refine r_iald C.1 h126 i127 88 rfl dX7_word_87 ?_
        refine r_iload_n C.1 1 89 rfl dX7_word_88 rfl ?_
        refine r_iadd C.1 90 rfl dX7_word_89 ?_
        obtain ⟨i128, h⟩ := ck_some h
        refine r_iald C.1 h125 i128 91 rfl dX7_word_90 ?_
        refine r_aload_n C.1 0 92 rfl dX7_word_91 rfl ?_
        obtain ⟨y130, e129, h⟩ := bd_some h
        refine r_cVi C.1 (st := [.int (kI κ (kR κ a0 14) (ix ((kI κ (kR κ a0 15) (ix v4)) + v1))), .int (kI κ (kR κ a0 13) (ix v4)), .int v4, .ref (kR κ a0 13)]) (c_X7_sign ha0 e129) yv_X7_sign ml_X7_227 rfl ha0 rfl ⟨Nat.le_of_ble_eq_true rfl, Nat.le_of_ble_eq_true rfl⟩ ⟨Nat.le_of_ble_eq_true rfl, Nat.le_of_ble_eq_true rfl⟩ (Nat.le_of_ble_eq_true rfl) rfl 0 0 rfl rfl 95 rfl dX7_word_92 ?_
        refine r_icmp_ne C.1 102 98 rfl dX7_word_95 rfl ⟨fun c131 => ?_, fun c131 => ?_⟩
        · have h := if_some_f c131 h
          exact w_X7_word_102 C ha0 h118 hq hK25 ih h
        · have h := if_some_t c131 h
          refine r_iconst C.1 1 rfl 99 rfl dX7_word_98 ?_
          refine r_goto C.1 103 dX7_word_99 rfl ?_
          exact w_X7_word_103 C ha0 h118 hq hK25 ih h
set_option maxRecDepth 20000 in
theorem w_X7_word_25 {F : jFm} (C : jB F RX7 cX7_word 5 (some .int) 1 0 0 20) {a0 : Nat} (ha0 : jSof F a0 = (1, 11, 22)) {r : Int32 × jKt} (hq : jOut F (some (.int r.1)) r.2) : ∀ (n : Nat) (κ : jKt) (v1 : Int32) (v2 : Int32), P_X7_word_25 a0 n κ v1 v2 = some r → jW F 5 0 0 κ 25 [(0, .ref a0), (1, .int v1), (2, .int v2)] [] := by
  intro n
  induction n with
  | zero => intro κ v1 v2 h; cases h
  | succ n ih =>
    intro κ v1 v2 h
    rw [P_X7_word_25] at h
    refine r_iload_n C.1 2 26 rfl dX7_word_25 rfl ?_
    refine r_if_ge C.1 222 29 rfl dX7_word_26 rfl ⟨fun c132 => ?_, fun c132 => ?_⟩
    · have h := if_some_t c132 h
      refine r_iload_n C.1 2 223 rfl dX7_word_222 rfl ?_
      cases h
      exact r_zret C rfl rfl (Nat.le_of_ble_eq_true rfl) (Nat.le_of_ble_eq_true rfl) dX7_word_223 hq
    · have h := if_some_f c132 h
      refine r_aload_n C.1 0 30 rfl dX7_word_29 rfl ?_
      refine r_getI C.1 20 fl_X7_223 rfl ha0 33 rfl dX7_word_30 ?_
      refine r_if_ne C.1 222 36 rfl dX7_word_33 rfl ⟨fun c133 => ?_, fun c133 => ?_⟩
      · have h := if_some_f c133 h
        refine r_iload_n C.1 2 223 rfl dX7_word_222 rfl ?_
        cases h
        exact r_zret C rfl rfl (Nat.le_of_ble_eq_true rfl) (Nat.le_of_ble_eq_true rfl) dX7_word_223 hq
      · have h := if_some_t c133 h
        refine r_iconst C.1 0 rfl 37 rfl dX7_word_36 ?_
        refine r_istore_n C.1 (lv' := [(0, .ref a0), (1, .int v1), (2, .int v2), (3, .int 0)]) [1, 2, 3, 0] 38 rfl dX7_word_37 (Nat.le_of_ble_eq_true rfl) rfl ?_
        refine r_iconst C.1 0 rfl 39 rfl dX7_word_38 ?_
        refine r_istore C.1 (lv' := [(0, .ref a0), (1, .int v1), (2, .int v2), (3, .int 0), (4, .int 0)]) [1, 2, 3, 4, 0] 41 rfl dX7_word_39 (Nat.le_of_ble_eq_true rfl) rfl ?_
        exact w_X7_word_41 C ha0 hq ih 4000 κ 0 0 h
set_option maxRecDepth 20000 in
theorem w_X7_word_2 {F : jFm} (C : jB F RX7 cX7_word 5 (some .int) 1 0 0 20) {a0 : Nat} (ha0 : jSof F a0 = (1, 11, 22)) {r : Int32 × jKt} (hq : jOut F (some (.int r.1)) r.2) : ∀ (n : Nat) (κ : jKt) (v1 : Int32), P_X7_word_2 a0 n κ v1 = some r → jW F 5 0 0 κ 2 [(0, .ref a0), (1, .int v1)] [] := by
  intro n
  induction n with
  | zero => intro κ v1 h; cases h
  | succ n ih =>
    intro κ v1 h
    rw [P_X7_word_2] at h
    refine r_iload_n C.1 1 3 rfl dX7_word_2 rfl ?_
    refine r_bipush C.1 10 rfl 5 rfl dX7_word_3 ?_
    refine r_icmp_ge C.1 21 8 rfl dX7_word_5 rfl ⟨fun c134 => ?_, fun c134 => ?_⟩
    · have h := if_some_t c134 h
      refine r_iconst C.1 0 rfl 22 rfl dX7_word_21 ?_
      refine r_istore_n C.1 (lv' := [(0, .ref a0), (1, .int 0)]) [1, 0] 23 rfl dX7_word_22 (Nat.le_of_ble_eq_true rfl) rfl ?_
      refine r_iconst C.1 (-1) rfl 24 rfl dX7_word_23 ?_
      refine r_istore_n C.1 (lv' := [(0, .ref a0), (1, .int 0), (2, .int (-1))]) [1, 2, 0] 25 rfl dX7_word_24 (Nat.le_of_ble_eq_true rfl) rfl ?_
      exact w_X7_word_25 C ha0 hq 4000 κ 0 (-1) h
    · have h := if_some_f c134 h
      refine r_aload_n C.1 0 9 rfl dX7_word_8 rfl ?_
      refine r_getR C.1 13 fl_X7_41 rfl ha0 12 rfl dX7_word_9 (fun (h135 : jSof F (kR κ a0 13) = (2, 0, 10)) => ?_)
      refine r_iload_n C.1 1 13 rfl dX7_word_12 rfl ?_
      refine r_iconst C.1 1 rfl 14 rfl dX7_word_13 ?_
      obtain ⟨i136, h⟩ := ck_some h
      obtain ⟨κ137, e138, h⟩ := bnd_some h
      refine r_iast C.1 h135 i136 e138 15 rfl dX7_word_14 ?_
      refine r_iinc C.1 (lv' := [(0, .ref a0), (1, .int (v1 + 1))]) 1 [1, 0] 18 rfl dX7_word_15 rfl (Nat.le_of_ble_eq_true rfl) rfl rfl ?_
      refine r_goto C.1 2 dX7_word_18 rfl ?_
      exact ih κ137 (v1 + 1) h
set_option maxRecDepth 20000 in
theorem w_X7_word_0 {F : jFm} (C : jB F RX7 cX7_word 5 (some .int) 1 0 0 20) {κ : jKt} {a0 : Nat} (ha0 : jSof F a0 = (1, 11, 22)) {r : Int32 × jKt} (hq : jOut F (some (.int r.1)) r.2) (h : P_X7_word κ a0 = some r) : jW F 5 0 0 κ 0 [(0, .ref a0)] [] := by
  unfold P_X7_word at h
  refine r_iconst C.1 0 rfl 1 rfl dX7_word_0 ?_
  refine r_istore_n C.1 (lv' := [(0, .ref a0), (1, .int 0)]) [1, 0] 2 rfl dX7_word_1 (Nat.le_of_ble_eq_true rfl) rfl ?_
  exact w_X7_word_2 C ha0 hq 4000 κ 0 h
theorem c_X7_word {l : Launch} {G : jG} {sh : jSh} {κ : jKt} {a0 : Nat} (ha0 : sh a0 = (1, 11, 22)) {r : Int32} {κr : jKt} (h : P_X7_word κ a0 = some (r, κr)) : jM l G yX7_word cX7_word 5 (some .int) 1 0 0 20 [.ref a0] (sh, κ) (jIs (some (.int r)) (sh, κr)) jNo :=
  r_body (by decide) (Nat.le_of_ble_eq_true rfl) fun F C hl hG hs ho hx => by
    subst hs
    exact w_X7_word_0 C ha0 (by rw [ho]; exact ⟨rfl, rfl⟩) h
set_option maxRecDepth 20000 in
theorem w_X7_errorPosition_13 {F : jFm} (C : jB F RX7 cX7_errorPosition 1 (some .int) 0 0 0 0) {κ : jKt} {a0 : Nat} (ha0 : jSof F a0 = (1, 11, 22)) {s0 : Int32} {a1 : Nat} (ha1 : jSof F a1 = (1, 11, 22)) {r : Int32 × jKt} (hq : jOut F (some (.int r.1)) r.2) (h : P_X7_errorPosition_13 κ a0 s0 a1 = some r) : jW F 1 0 0 κ 13 [(0, .ref a0)] [.int s0, .ref a1] := by
  unfold P_X7_errorPosition_13 at h
  obtain ⟨κ9, e10, h⟩ := bnd_some h
  refine r_putI C.1 0 fw_X7_50 rfl rfl rfl ha1 e10 16 rfl dX7_errorPosition_13 ?_
  refine r_aload_n C.1 0 17 rfl dX7_errorPosition_16 rfl ?_
  refine r_getI C.1 0 fl_X7_50 rfl ha0 20 rfl dX7_errorPosition_17 ?_
  refine r_if_ne C.1 30 23 rfl dX7_errorPosition_20 rfl ⟨fun c11 => ?_, fun c11 => ?_⟩
  · have h := if_some_f c11 h
    refine r_iconst C.1 0 rfl 31 rfl dX7_errorPosition_30 ?_
    cases h
    exact r_zret C rfl rfl (Nat.le_of_ble_eq_true rfl) (Nat.le_of_ble_eq_true rfl) dX7_errorPosition_31 hq
  · have h := if_some_t c11 h
    refine r_aload_n C.1 0 24 rfl dX7_errorPosition_23 rfl ?_
    refine r_getI C.1 2 fl_X7_7 rfl ha0 27 rfl dX7_errorPosition_24 ?_
    refine r_goto C.1 31 dX7_errorPosition_27 rfl ?_
    cases h
    exact r_zret C rfl rfl (Nat.le_of_ble_eq_true rfl) (Nat.le_of_ble_eq_true rfl) dX7_errorPosition_31 hq
set_option maxRecDepth 20000 in
theorem w_X7_errorPosition_0 {F : jFm} (C : jB F RX7 cX7_errorPosition 1 (some .int) 0 0 0 0) {κ : jKt} {a0 : Nat} (ha0 : jSof F a0 = (1, 11, 22)) {r : Int32 × jKt} (hq : jOut F (some (.int r.1)) r.2) (h : P_X7_errorPosition κ a0 = some r) : jW F 1 0 0 κ 0 [(0, .ref a0)] [] := by
  unfold P_X7_errorPosition at h
  refine r_aload_n C.1 0 1 rfl dX7_errorPosition_0 rfl ?_
  refine r_aload_n C.1 0 2 rfl dX7_errorPosition_1 rfl ?_
  refine r_getI C.1 2 fl_X7_7 rfl ha0 5 rfl dX7_errorPosition_2 ?_
  refine r_if_ge C.1 12 8 rfl dX7_errorPosition_5 rfl ⟨fun c12 => ?_, fun c12 => ?_⟩
  · have h := if_some_t c12 h
    refine r_iconst C.1 0 rfl 13 rfl dX7_errorPosition_12 ?_
    exact w_X7_errorPosition_13 C ha0 ha0 hq h
  · have h := if_some_f c12 h
    refine r_iconst C.1 1 rfl 9 rfl dX7_errorPosition_8 ?_
    refine r_goto C.1 13 dX7_errorPosition_9 rfl ?_
    exact w_X7_errorPosition_13 C ha0 ha0 hq h
theorem c_X7_errorPosition {l : Launch} {G : jG} {sh : jSh} {κ : jKt} {a0 : Nat} (ha0 : sh a0 = (1, 11, 22)) {r : Int32} {κr : jKt} (h : P_X7_errorPosition κ a0 = some (r, κr)) : jM l G yX7_errorPosition cX7_errorPosition 1 (some .int) 0 0 0 0 [.ref a0] (sh, κ) (jIs (some (.int r)) (sh, κr)) jNo :=
  r_body (by decide) (Nat.le_of_ble_eq_true rfl) fun F C hl hG hs ho hx => by
    subst hs
    exact w_X7_errorPosition_0 C ha0 (by rw [ho]; exact ⟨rfl, rfl⟩) h
set_option maxRecDepth 20000 in
theorem w_X7_failedCommand_13 {F : jFm} (C : jB F RX7 cX7_failedCommand 1 (some .int) 0 0 0 0) {κ : jKt} {a0 : Nat} (ha0 : jSof F a0 = (1, 11, 22)) {s0 : Int32} {a1 : Nat} (ha1 : jSof F a1 = (1, 11, 22)) {r : Int32 × jKt} (hq : jOut F (some (.int r.1)) r.2) (h : P_X7_failedCommand_13 κ a0 s0 a1 = some r) : jW F 1 0 0 κ 13 [(0, .ref a0)] [.int s0, .ref a1] := by
  unfold P_X7_failedCommand_13 at h
  obtain ⟨κ9, e10, h⟩ := bnd_some h
  refine r_putI C.1 0 fw_X7_50 rfl rfl rfl ha1 e10 16 rfl dX7_failedCommand_13 ?_
  refine r_aload_n C.1 0 17 rfl dX7_failedCommand_16 rfl ?_
  refine r_getI C.1 0 fl_X7_50 rfl ha0 20 rfl dX7_failedCommand_17 ?_
  refine r_if_ne C.1 30 23 rfl dX7_failedCommand_20 rfl ⟨fun c11 => ?_, fun c11 => ?_⟩
  · have h := if_some_f c11 h
    refine r_iconst C.1 0 rfl 31 rfl dX7_failedCommand_30 ?_
    cases h
    exact r_zret C rfl rfl (Nat.le_of_ble_eq_true rfl) (Nat.le_of_ble_eq_true rfl) dX7_failedCommand_31 hq
  · have h := if_some_t c11 h
    refine r_aload_n C.1 0 24 rfl dX7_failedCommand_23 rfl ?_
    refine r_getI C.1 3 fl_X7_13 rfl ha0 27 rfl dX7_failedCommand_24 ?_
    refine r_goto C.1 31 dX7_failedCommand_27 rfl ?_
    cases h
    exact r_zret C rfl rfl (Nat.le_of_ble_eq_true rfl) (Nat.le_of_ble_eq_true rfl) dX7_failedCommand_31 hq
set_option maxRecDepth 20000 in
theorem w_X7_failedCommand_0 {F : jFm} (C : jB F RX7 cX7_failedCommand 1 (some .int) 0 0 0 0) {κ : jKt} {a0 : Nat} (ha0 : jSof F a0 = (1, 11, 22)) {r : Int32 × jKt} (hq : jOut F (some (.int r.1)) r.2) (h : P_X7_failedCommand κ a0 = some r) : jW F 1 0 0 κ 0 [(0, .ref a0)] [] := by
  unfold P_X7_failedCommand at h
  refine r_aload_n C.1 0 1 rfl dX7_failedCommand_0 rfl ?_
  refine r_aload_n C.1 0 2 rfl dX7_failedCommand_1 rfl ?_
  refine r_getI C.1 3 fl_X7_13 rfl ha0 5 rfl dX7_failedCommand_2 ?_
  refine r_if_ge C.1 12 8 rfl dX7_failedCommand_5 rfl ⟨fun c12 => ?_, fun c12 => ?_⟩
  · have h := if_some_t c12 h
    refine r_iconst C.1 0 rfl 13 rfl dX7_failedCommand_12 ?_
    exact w_X7_failedCommand_13 C ha0 ha0 hq h
  · have h := if_some_f c12 h
    refine r_iconst C.1 1 rfl 9 rfl dX7_failedCommand_8 ?_
    refine r_goto C.1 13 dX7_failedCommand_9 rfl ?_
    exact w_X7_failedCommand_13 C ha0 ha0 hq h
theorem c_X7_failedCommand {l : Launch} {G : jG} {sh : jSh} {κ : jKt} {a0 : Nat} (ha0 : sh a0 = (1, 11, 22)) {r : Int32} {κr : jKt} (h : P_X7_failedCommand κ a0 = some (r, κr)) : jM l G yX7_failedCommand cX7_failedCommand 1 (some .int) 0 0 0 0 [.ref a0] (sh, κ) (jIs (some (.int r)) (sh, κr)) jNo :=
  r_body (by decide) (Nat.le_of_ble_eq_true rfl) fun F C hl hG hs ho hx => by
    subst hs
    exact w_X7_failedCommand_0 C ha0 (by rw [ho]; exact ⟨rfl, rfl⟩) h
set_option maxRecDepth 20000 in
theorem w_X7_undo_37 {F : jFm} (C : jB F RX7 cX7_undo 2 (some .int) 0 0 0 0) {a0 : Nat} (ha0 : jSof F a0 = (1, 11, 22)) {r : Int32 × jKt} (hq : jOut F (some (.int r.1)) r.2) : ∀ (n : Nat) (κ : jKt) (v1 : Int32), P_X7_undo_37 a0 n κ v1 = some r → jW F 2 0 0 κ 37 [(0, .ref a0), (1, .int v1)] [] := by
  intro n
  induction n with
  | zero => intro κ v1 h; cases h
  | succ n ih =>
    intro κ v1 h
    rw [P_X7_undo_37] at h
    refine r_iload_n C.1 1 38 rfl dX7_undo_37 rfl ?_
    refine r_sipush C.1 457 rfl 41 rfl dX7_undo_38 ?_
    refine r_icmp_ge C.1 71 44 rfl dX7_undo_41 rfl ⟨fun c27 => ?_, fun c27 => ?_⟩
    · have h := if_some_t c27 h
      refine r_aload_n C.1 0 72 rfl dX7_undo_71 rfl ?_
      refine r_getI C.1 1 fl_X7_57 rfl ha0 75 rfl dX7_undo_72 ?_
      cases h
      exact r_zret C rfl rfl (Nat.le_of_ble_eq_true rfl) (Nat.le_of_ble_eq_true rfl) dX7_undo_75 hq
    · have h := if_some_f c27 h
      refine r_aload_n C.1 0 45 rfl dX7_undo_44 rfl ?_
      refine r_getR C.1 5 fl_X7_16 rfl ha0 48 rfl dX7_undo_45 (fun (h28 : jSof F (kR κ a0 5) = (2, 0, 457)) => ?_)
      refine r_iload_n C.1 1 49 rfl dX7_undo_48 rfl ?_
      refine r_aload_n C.1 0 50 rfl dX7_undo_49 rfl ?_
      refine r_getR C.1 8 fl_X7_26 rfl ha0 53 rfl dX7_undo_50 (fun (h29 : jSof F (kR κ a0 8) = (2, 0, 3656)) => ?_)
      refine r_aload_n C.1 0 54 rfl dX7_undo_53 rfl ?_
      refine r_getI C.1 1 fl_X7_57 rfl ha0 57 rfl dX7_undo_54 ?_
      refine r_sipush C.1 457 rfl 60 rfl dX7_undo_57 ?_
      refine r_imul C.1 61 rfl dX7_undo_60 ?_
      refine r_iload_n C.1 1 62 rfl dX7_undo_61 rfl ?_
      refine r_iadd C.1 63 rfl dX7_undo_62 ?_
      obtain ⟨i30, h⟩ := ck_some h
      refine r_iald C.1 h29 i30 64 rfl dX7_undo_63 ?_
      obtain ⟨i31, h⟩ := ck_some h
      obtain ⟨κ32, e33, h⟩ := bnd_some h
      refine r_iast C.1 h28 i31 e33 65 rfl dX7_undo_64 ?_
      refine r_iinc C.1 (lv' := [(0, .ref a0), (1, .int (v1 + 1))]) 1 [1, 0] 68 rfl dX7_undo_65 rfl (Nat.le_of_ble_eq_true rfl) rfl rfl ?_
      refine r_goto C.1 37 dX7_undo_68 rfl ?_
      exact ih κ32 (v1 + 1) h
set_option maxRecDepth 20000 in
theorem w_X7_undo_13 {F : jFm} (C : jB F RX7 cX7_undo 2 (some .int) 0 0 0 0) {κ : jKt} {a0 : Nat} (ha0 : jSof F a0 = (1, 11, 22)) {s0 : Int32} {a1 : Nat} (ha1 : jSof F a1 = (1, 11, 22)) {r : Int32 × jKt} (hq : jOut F (some (.int r.1)) r.2) (h : P_X7_undo_13 κ a0 s0 a1 = some r) : jW F 2 0 0 κ 13 [(0, .ref a0)] [.int s0, .ref a1] := by
  unfold P_X7_undo_13 at h
  obtain ⟨κ34, e35, h⟩ := bnd_some h
  refine r_putI C.1 0 fw_X7_50 rfl rfl rfl ha1 e35 16 rfl dX7_undo_13 ?_
  refine r_aload_n C.1 0 17 rfl dX7_undo_16 rfl ?_
  refine r_getI C.1 0 fl_X7_50 rfl ha0 20 rfl dX7_undo_17 ?_
  refine r_if_eq C.1 25 23 rfl dX7_undo_20 rfl ⟨fun c36 => ?_, fun c36 => ?_⟩
  · have h := if_some_t c36 h
    refine r_aload_n C.1 0 26 rfl dX7_undo_25 rfl ?_
    refine r_dup C.1 rfl 27 rfl dX7_undo_26 ?_
    refine r_getI C.1 1 fl_X7_57 rfl ha0 30 rfl dX7_undo_27 ?_
    refine r_iconst C.1 1 rfl 31 rfl dX7_undo_30 ?_
    refine r_isub C.1 32 rfl dX7_undo_31 ?_
    obtain ⟨κ37, e38, h⟩ := bnd_some h
    refine r_putI C.1 1 fw_X7_57 rfl rfl rfl ha0 e38 35 rfl dX7_undo_32 ?_
    refine r_iconst C.1 0 rfl 36 rfl dX7_undo_35 ?_
    refine r_istore_n C.1 (lv' := [(0, .ref a0), (1, .int 0)]) [1, 0] 37 rfl dX7_undo_36 (Nat.le_of_ble_eq_true rfl) rfl ?_
    exact w_X7_undo_37 C ha0 hq 4000 κ37 0 h
  · have h := if_some_f c36 h
    refine r_iconst C.1 0 rfl 24 rfl dX7_undo_23 ?_
    cases h
    exact r_zret C rfl rfl (Nat.le_of_ble_eq_true rfl) (Nat.le_of_ble_eq_true rfl) dX7_undo_24 hq
set_option maxRecDepth 20000 in
theorem w_X7_undo_0 {F : jFm} (C : jB F RX7 cX7_undo 2 (some .int) 0 0 0 0) {κ : jKt} {a0 : Nat} (ha0 : jSof F a0 = (1, 11, 22)) {r : Int32 × jKt} (hq : jOut F (some (.int r.1)) r.2) (h : P_X7_undo κ a0 = some r) : jW F 2 0 0 κ 0 [(0, .ref a0)] [] := by
  unfold P_X7_undo at h
  refine r_aload_n C.1 0 1 rfl dX7_undo_0 rfl ?_
  refine r_aload_n C.1 0 2 rfl dX7_undo_1 rfl ?_
  refine r_getI C.1 1 fl_X7_57 rfl ha0 5 rfl dX7_undo_2 ?_
  refine r_if_ne C.1 12 8 rfl dX7_undo_5 rfl ⟨fun c39 => ?_, fun c39 => ?_⟩
  · have h := if_some_f c39 h
    refine r_iconst C.1 0 rfl 13 rfl dX7_undo_12 ?_
    exact w_X7_undo_13 C ha0 ha0 hq h
  · have h := if_some_t c39 h
    refine r_iconst C.1 1 rfl 9 rfl dX7_undo_8 ?_
    refine r_goto C.1 13 dX7_undo_9 rfl ?_
    exact w_X7_undo_13 C ha0 ha0 hq h
theorem c_X7_undo {l : Launch} {G : jG} {sh : jSh} {κ : jKt} {a0 : Nat} (ha0 : sh a0 = (1, 11, 22)) {r : Int32} {κr : jKt} (h : P_X7_undo κ a0 = some (r, κr)) : jM l G yX7_undo cX7_undo 2 (some .int) 0 0 0 0 [.ref a0] (sh, κ) (jIs (some (.int r)) (sh, κr)) jNo :=
  r_body (by decide) (Nat.le_of_ble_eq_true rfl) fun F C hl hG hs ho hx => by
    subst hs
    exact w_X7_undo_0 C ha0 (by rw [ho]; exact ⟨rfl, rfl⟩) h
set_option maxRecDepth 20000 in
theorem w_X7_save_0 {F : jFm} (C : jB F RX7 cX7_save 1 (some .int) 1 0 0 22) {κ : jKt} {a0 : Nat} (ha0 : jSof F a0 = (1, 11, 22)) {r : Int32 × jKt} (hq : jOut F (some (.int r.1)) r.2) (h : P_X7_save κ a0 = some r) : jW F 1 0 0 κ 0 [(0, .ref a0)] [] := by
  unfold P_X7_save at h
  refine r_aload_n C.1 0 1 rfl dX7_save_0 rfl ?_
  refine r_iconst C.1 0 rfl 2 rfl dX7_save_1 ?_
  obtain ⟨κ19, e20, h⟩ := bnd_some h
  refine r_putI C.1 0 fw_X7_50 rfl rfl rfl ha0 e20 5 rfl dX7_save_2 ?_
  refine r_aload_n C.1 0 6 rfl dX7_save_5 rfl ?_
  refine r_getR C.1 7 fl_X7_23 rfl ha0 9 rfl dX7_save_6 (fun (h21 : jSof F (kR κ19 a0 7) = (2, 0, 457)) => ?_)
  refine r_aload_n C.1 0 10 rfl dX7_save_9 rfl ?_
  refine r_getR C.1 5 fl_X7_16 rfl ha0 13 rfl dX7_save_10 (fun (h22 : jSof F (kR κ19 a0 5) = (2, 0, 457)) => ?_)
  obtain ⟨κ24, e23, h⟩ := bd_some h
  refine r_cSv C.1 (st := []) (c_X7_lays h21 h22 e23) yv_X7_lays ml_X7_53 rfl ⟨Nat.le_of_ble_eq_true rfl, Nat.le_of_ble_eq_true rfl⟩ ⟨Nat.le_of_ble_eq_true rfl, Nat.le_of_ble_eq_true rfl⟩ (Nat.le_of_ble_eq_true rfl) rfl 0 0 rfl rfl 16 rfl dX7_save_13 ?_
  refine r_aload_n C.1 0 17 rfl dX7_save_16 rfl ?_
  refine r_iconst C.1 1 rfl 18 rfl dX7_save_17 ?_
  obtain ⟨κ25, e26, h⟩ := bnd_some h
  refine r_putI C.1 4 fw_X7_256 rfl rfl rfl ha0 e26 21 rfl dX7_save_18 ?_
  refine r_aload_n C.1 0 22 rfl dX7_save_21 rfl ?_
  refine r_getR C.1 5 fl_X7_16 rfl ha0 25 rfl dX7_save_22 (fun (h27 : jSof F (kR κ25 a0 5) = (2, 0, 457)) => ?_)
  refine r_iconst C.1 1 rfl 26 rfl dX7_save_25 ?_
  refine r_iald C.1 h27 (by decide) 27 rfl dX7_save_26 ?_
  cases h
  exact r_zret C rfl rfl (Nat.le_of_ble_eq_true rfl) (Nat.le_of_ble_eq_true rfl) dX7_save_27 hq
theorem c_X7_save {l : Launch} {G : jG} {sh : jSh} {κ : jKt} {a0 : Nat} (ha0 : sh a0 = (1, 11, 22)) {r : Int32} {κr : jKt} (h : P_X7_save κ a0 = some (r, κr)) : jM l G yX7_save cX7_save 1 (some .int) 1 0 0 22 [.ref a0] (sh, κ) (jIs (some (.int r)) (sh, κr)) jNo :=
  r_body (by decide) (Nat.le_of_ble_eq_true rfl) fun F C hl hG hs ho hx => by
    subst hs
    exact w_X7_save_0 C ha0 (by rw [ho]; exact ⟨rfl, rfl⟩) h
set_option maxRecDepth 20000 in
theorem w_X7_restore_13 {F : jFm} (C : jB F RX7 cX7_restore 1 (some .int) 1 0 0 22) {κ : jKt} {a0 : Nat} (ha0 : jSof F a0 = (1, 11, 22)) {s0 : Int32} {a1 : Nat} (ha1 : jSof F a1 = (1, 11, 22)) {r : Int32 × jKt} (hq : jOut F (some (.int r.1)) r.2) (h : P_X7_restore_13 κ a0 s0 a1 = some r) : jW F 1 0 0 κ 13 [(0, .ref a0)] [.int s0, .ref a1] := by
  unfold P_X7_restore_13 at h
  obtain ⟨κ23, e24, h⟩ := bnd_some h
  refine r_putI C.1 0 fw_X7_50 rfl rfl rfl ha1 e24 16 rfl dX7_restore_13 ?_
  refine r_aload_n C.1 0 17 rfl dX7_restore_16 rfl ?_
  refine r_getI C.1 0 fl_X7_50 rfl ha0 20 rfl dX7_restore_17 ?_
  refine r_if_eq C.1 25 23 rfl dX7_restore_20 rfl ⟨fun c25 => ?_, fun c25 => ?_⟩
  · have h := if_some_t c25 h
    refine r_aload_n C.1 0 26 rfl dX7_restore_25 rfl ?_
    refine r_getR C.1 5 fl_X7_16 rfl ha0 29 rfl dX7_restore_26 (fun (h26 : jSof F (kR κ23 a0 5) = (2, 0, 457)) => ?_)
    refine r_aload_n C.1 0 30 rfl dX7_restore_29 rfl ?_
    refine r_getR C.1 7 fl_X7_23 rfl ha0 33 rfl dX7_restore_30 (fun (h27 : jSof F (kR κ23 a0 7) = (2, 0, 457)) => ?_)
    obtain ⟨κ29, e28, h⟩ := bd_some h
    refine r_cSv C.1 (st := []) (c_X7_lays h26 h27 e28) yv_X7_lays ml_X7_53 rfl ⟨Nat.le_of_ble_eq_true rfl, Nat.le_of_ble_eq_true rfl⟩ ⟨Nat.le_of_ble_eq_true rfl, Nat.le_of_ble_eq_true rfl⟩ (Nat.le_of_ble_eq_true rfl) rfl 0 0 rfl rfl 36 rfl dX7_restore_33 ?_
    refine r_aload_n C.1 0 37 rfl dX7_restore_36 rfl ?_
    refine r_iconst C.1 0 rfl 38 rfl dX7_restore_37 ?_
    obtain ⟨κ30, e31, h⟩ := bnd_some h
    refine r_putI C.1 1 fw_X7_57 rfl rfl rfl ha0 e31 41 rfl dX7_restore_38 ?_
    refine r_aload_n C.1 0 42 rfl dX7_restore_41 rfl ?_
    refine r_getR C.1 5 fl_X7_16 rfl ha0 45 rfl dX7_restore_42 (fun (h32 : jSof F (kR κ30 a0 5) = (2, 0, 457)) => ?_)
    refine r_iconst C.1 1 rfl 46 rfl dX7_restore_45 ?_
    refine r_iald C.1 h32 (by decide) 47 rfl dX7_restore_46 ?_
    cases h
    exact r_zret C rfl rfl (Nat.le_of_ble_eq_true rfl) (Nat.le_of_ble_eq_true rfl) dX7_restore_47 hq
  · have h := if_some_f c25 h
    refine r_iconst C.1 0 rfl 24 rfl dX7_restore_23 ?_
    cases h
    exact r_zret C rfl rfl (Nat.le_of_ble_eq_true rfl) (Nat.le_of_ble_eq_true rfl) dX7_restore_24 hq
set_option maxRecDepth 20000 in
theorem w_X7_restore_0 {F : jFm} (C : jB F RX7 cX7_restore 1 (some .int) 1 0 0 22) {κ : jKt} {a0 : Nat} (ha0 : jSof F a0 = (1, 11, 22)) {r : Int32 × jKt} (hq : jOut F (some (.int r.1)) r.2) (h : P_X7_restore κ a0 = some r) : jW F 1 0 0 κ 0 [(0, .ref a0)] [] := by
  unfold P_X7_restore at h
  refine r_aload_n C.1 0 1 rfl dX7_restore_0 rfl ?_
  refine r_aload_n C.1 0 2 rfl dX7_restore_1 rfl ?_
  refine r_getI C.1 4 fl_X7_256 rfl ha0 5 rfl dX7_restore_2 ?_
  refine r_if_eq C.1 12 8 rfl dX7_restore_5 rfl ⟨fun c33 => ?_, fun c33 => ?_⟩
  · have h := if_some_t c33 h
    refine r_iconst C.1 1 rfl 13 rfl dX7_restore_12 ?_
    exact w_X7_restore_13 C ha0 ha0 hq h
  · have h := if_some_f c33 h
    refine r_iconst C.1 0 rfl 9 rfl dX7_restore_8 ?_
    refine r_goto C.1 13 dX7_restore_9 rfl ?_
    exact w_X7_restore_13 C ha0 ha0 hq h
theorem c_X7_restore {l : Launch} {G : jG} {sh : jSh} {κ : jKt} {a0 : Nat} (ha0 : sh a0 = (1, 11, 22)) {r : Int32} {κr : jKt} (h : P_X7_restore κ a0 = some (r, κr)) : jM l G yX7_restore cX7_restore 1 (some .int) 1 0 0 22 [.ref a0] (sh, κ) (jIs (some (.int r)) (sh, κr)) jNo :=
  r_body (by decide) (Nat.le_of_ble_eq_true rfl) fun F C hl hG hs ho hx => by
    subst hs
    exact w_X7_restore_0 C ha0 (by rw [ho]; exact ⟨rfl, rfl⟩) h
set_option maxRecDepth 20000 in
theorem w_X7_find_2 {F : jFm} (C : jB F RX7 cX7_find 3 (some .int) 1 0 0 21) {κ : jKt} {a0 : Nat} (ha0 : jSof F a0 = (1, 11, 22)) {v1 : Int32} {r : Int32} (hq : jOut F (some (.int r)) κ) : ∀ (n : Nat) (v2 : Int32), P_X7_find_2 κ a0 v1 n v2 = some r → jW F 3 0 0 κ 2 [(0, .ref a0), (1, .int v1), (2, .int v2)] [] := by
  intro n
  induction n with
  | zero => intro v2 h; cases h
  | succ n ih =>
    intro v2 h
    rw [P_X7_find_2] at h
    refine r_iload_n C.1 2 3 rfl dX7_find_2 rfl ?_
    refine r_aload_n C.1 0 4 rfl dX7_find_3 rfl ?_
    refine r_getR C.1 5 fl_X7_16 rfl ha0 7 rfl dX7_find_4 (fun (h15 : jSof F (kR κ a0 5) = (2, 0, 457)) => ?_)
    refine r_iconst C.1 1 rfl 8 rfl dX7_find_7 ?_
    refine r_iald C.1 h15 (by decide) 9 rfl dX7_find_8 ?_
    refine r_icmp_ge C.1 34 12 rfl dX7_find_9 rfl ⟨fun c16 => ?_, fun c16 => ?_⟩
    · have h := if_some_t c16 h
      refine r_iconst C.1 (-1) rfl 35 rfl dX7_find_34 ?_
      cases h
      exact r_zret C rfl rfl (Nat.le_of_ble_eq_true rfl) (Nat.le_of_ble_eq_true rfl) dX7_find_35 hq
    · have h := if_some_f c16 h
      refine r_aload_n C.1 0 13 rfl dX7_find_12 rfl ?_
      refine r_getR C.1 5 fl_X7_16 rfl ha0 16 rfl dX7_find_13 (fun (h17 : jSof F (kR κ a0 5) = (2, 0, 457)) => ?_)
      refine r_iload_n C.1 2 17 rfl dX7_find_16 rfl ?_
      refine r_iconst C.1 0 rfl 18 rfl dX7_find_17 ?_
      obtain ⟨y19, e18, h⟩ := bd_some h
      refine r_cSi C.1 (st := [.ref (kR κ a0 5)]) (c_X7_of e18) yv_X7_of ml_X7_75 rfl ⟨Nat.le_of_ble_eq_true rfl, Nat.le_of_ble_eq_true rfl⟩ ⟨Nat.le_of_ble_eq_true rfl, Nat.le_of_ble_eq_true rfl⟩ (Nat.le_of_ble_eq_true rfl) rfl 0 0 rfl rfl 21 rfl dX7_find_18 ?_
      obtain ⟨i20, h⟩ := ck_some h
      refine r_iald C.1 h17 i20 22 rfl dX7_find_21 ?_
      refine r_iload_n C.1 1 23 rfl dX7_find_22 rfl ?_
      refine r_icmp_ne C.1 28 26 rfl dX7_find_23 rfl ⟨fun c21 => ?_, fun c21 => ?_⟩
      · have h := if_some_f c21 h
        refine r_iinc C.1 (lv' := [(0, .ref a0), (1, .int v1), (2, .int (v2 + 1))]) 2 [1, 2, 0] 31 rfl dX7_find_28 rfl (Nat.le_of_ble_eq_true rfl) rfl rfl ?_
        refine r_goto C.1 2 dX7_find_31 rfl ?_
        exact ih (v2 + 1) h
      · have h := if_some_t c21 h
        refine r_iload_n C.1 2 27 rfl dX7_find_26 rfl ?_
        cases h
        exact r_zret C rfl rfl (Nat.le_of_ble_eq_true rfl) (Nat.le_of_ble_eq_true rfl) dX7_find_27 hq
set_option maxRecDepth 20000 in
theorem w_X7_find_0 {F : jFm} (C : jB F RX7 cX7_find 3 (some .int) 1 0 0 21) {κ : jKt} {a0 : Nat} (ha0 : jSof F a0 = (1, 11, 22)) {x1 : Int32} {r : Int32} (hq : jOut F (some (.int r)) κ) (h : P_X7_find κ a0 x1 = some r) : jW F 3 0 0 κ 0 [(0, .ref a0), (1, .int x1)] [] := by
  unfold P_X7_find at h
  refine r_iconst C.1 0 rfl 1 rfl dX7_find_0 ?_
  refine r_istore_n C.1 (lv' := [(0, .ref a0), (1, .int x1), (2, .int 0)]) [1, 2, 0] 2 rfl dX7_find_1 (Nat.le_of_ble_eq_true rfl) rfl ?_
  exact w_X7_find_2 C ha0 hq 4000 0 h
theorem c_X7_find {l : Launch} {G : jG} {sh : jSh} {κ : jKt} {a0 : Nat} (ha0 : sh a0 = (1, 11, 22)) {x1 : Int32} {r : Int32} (h : P_X7_find κ a0 x1 = some r) : jM l G yX7_find cX7_find 3 (some .int) 1 0 0 21 [.ref a0, .int x1] (sh, κ) (jIs (some (.int r)) (sh, κ)) jNo :=
  r_body (by decide) (Nat.le_of_ble_eq_true rfl) fun F C hl hG hs ho hx => by
    subst hs
    exact w_X7_find_0 C ha0 (by rw [ho]; exact ⟨rfl, rfl⟩) h
set_option maxRecDepth 20000 in
theorem w_X7_cut_0 {F : jFm} (C : jB F RX7 cX7_cut 3 (some .int) 5 0 0 108) {κ : jKt} {a0 : Nat} (ha0 : jSof F a0 = (1, 11, 22)) {x1 : Int32} {x2 : Int32} {r : Int32 × jKt} (hq : jOut F (some (.int r.1)) r.2) (h : P_X7_cut κ a0 x1 x2 = some r) : jW F 3 0 0 κ 0 [(0, .ref a0), (1, .int x1), (2, .int x2)] [] := by
  unfold P_X7_cut at h
  refine r_aload_n C.1 0 1 rfl dX7_cut_0 rfl ?_
  obtain ⟨κ22, e21, h⟩ := bd_some h
  refine r_cVv C.1 (st := []) (c_X7_begins ha0 e21) yv_X7_begins ml_X7_94 rfl ha0 rfl ⟨Nat.le_of_ble_eq_true rfl, Nat.le_of_ble_eq_true rfl⟩ ⟨Nat.le_of_ble_eq_true rfl, Nat.le_of_ble_eq_true rfl⟩ (Nat.le_of_ble_eq_true rfl) rfl 0 0 rfl rfl 4 rfl dX7_cut_1 ?_
  refine r_aload_n C.1 0 5 rfl dX7_cut_4 rfl ?_
  refine r_aload_n C.1 0 6 rfl dX7_cut_5 rfl ?_
  refine r_aload_n C.1 0 7 rfl dX7_cut_6 rfl ?_
  refine r_iload_n C.1 1 8 rfl dX7_cut_7 rfl ?_
  obtain ⟨y24, e23, h⟩ := bd_some h
  refine r_cVi C.1 (st := [.ref a0, .ref a0]) (c_X7_find ha0 e23) yv_X7_find ml_X7_123 rfl ha0 rfl ⟨Nat.le_of_ble_eq_true rfl, Nat.le_of_ble_eq_true rfl⟩ ⟨Nat.le_of_ble_eq_true rfl, Nat.le_of_ble_eq_true rfl⟩ (Nat.le_of_ble_eq_true rfl) rfl 0 0 rfl rfl 11 rfl dX7_cut_8 ?_
  refine r_iload_n C.1 2 12 rfl dX7_cut_11 rfl ?_
  obtain ⟨y26, κ27, e25, h⟩ := bd2_some h
  refine r_cVi C.1 (st := [.ref a0]) (c_X7_cuts ha0 e25) yv_X7_cuts ml_X7_126 rfl ha0 rfl ⟨Nat.le_of_ble_eq_true rfl, Nat.le_of_ble_eq_true rfl⟩ ⟨Nat.le_of_ble_eq_true rfl, Nat.le_of_ble_eq_true rfl⟩ (Nat.le_of_ble_eq_true rfl) rfl 0 0 rfl rfl 15 rfl dX7_cut_12 ?_
  obtain ⟨y29, κ30, e28, h⟩ := bd2_some h
  refine r_cVi C.1 (st := []) (c_X7_ends ha0 e28) yv_X7_ends ml_X7_100 rfl ha0 rfl ⟨Nat.le_of_ble_eq_true rfl, Nat.le_of_ble_eq_true rfl⟩ ⟨Nat.le_of_ble_eq_true rfl, Nat.le_of_ble_eq_true rfl⟩ (Nat.le_of_ble_eq_true rfl) rfl 0 0 rfl rfl 18 rfl dX7_cut_15 ?_
  cases h
  exact r_zret C rfl rfl (Nat.le_of_ble_eq_true rfl) (Nat.le_of_ble_eq_true rfl) dX7_cut_18 hq
theorem c_X7_cut {l : Launch} {G : jG} {sh : jSh} {κ : jKt} {a0 : Nat} (ha0 : sh a0 = (1, 11, 22)) {x1 : Int32} {x2 : Int32} {r : Int32} {κr : jKt} (h : P_X7_cut κ a0 x1 x2 = some (r, κr)) : jM l G yX7_cut cX7_cut 3 (some .int) 5 0 0 108 [.ref a0, .int x1, .int x2] (sh, κ) (jIs (some (.int r)) (sh, κr)) jNo :=
  r_body (by decide) (Nat.le_of_ble_eq_true rfl) fun F C hl hG hs ho hx => by
    subst hs
    exact w_X7_cut_0 C ha0 (by rw [ho]; exact ⟨rfl, rfl⟩) h
set_option maxRecDepth 20000 in
theorem w_X7_sew_0 {F : jFm} (C : jB F RX7 cX7_sew 3 (some .int) 5 0 0 109) {κ : jKt} {a0 : Nat} (ha0 : jSof F a0 = (1, 11, 22)) {x1 : Int32} {x2 : Int32} {r : Int32 × jKt} (hq : jOut F (some (.int r.1)) r.2) (h : P_X7_sew κ a0 x1 x2 = some r) : jW F 3 0 0 κ 0 [(0, .ref a0), (1, .int x1), (2, .int x2)] [] := by
  unfold P_X7_sew at h
  refine r_aload_n C.1 0 1 rfl dX7_sew_0 rfl ?_
  obtain ⟨κ22, e21, h⟩ := bd_some h
  refine r_cVv C.1 (st := []) (c_X7_begins ha0 e21) yv_X7_begins ml_X7_94 rfl ha0 rfl ⟨Nat.le_of_ble_eq_true rfl, Nat.le_of_ble_eq_true rfl⟩ ⟨Nat.le_of_ble_eq_true rfl, Nat.le_of_ble_eq_true rfl⟩ (Nat.le_of_ble_eq_true rfl) rfl 0 0 rfl rfl 4 rfl dX7_sew_1 ?_
  refine r_aload_n C.1 0 5 rfl dX7_sew_4 rfl ?_
  refine r_aload_n C.1 0 6 rfl dX7_sew_5 rfl ?_
  refine r_aload_n C.1 0 7 rfl dX7_sew_6 rfl ?_
  refine r_iload_n C.1 1 8 rfl dX7_sew_7 rfl ?_
  obtain ⟨y24, e23, h⟩ := bd_some h
  refine r_cVi C.1 (st := [.ref a0, .ref a0]) (c_X7_find ha0 e23) yv_X7_find ml_X7_123 rfl ha0 rfl ⟨Nat.le_of_ble_eq_true rfl, Nat.le_of_ble_eq_true rfl⟩ ⟨Nat.le_of_ble_eq_true rfl, Nat.le_of_ble_eq_true rfl⟩ (Nat.le_of_ble_eq_true rfl) rfl 0 0 rfl rfl 11 rfl dX7_sew_8 ?_
  refine r_iload_n C.1 2 12 rfl dX7_sew_11 rfl ?_
  obtain ⟨y26, κ27, e25, h⟩ := bd2_some h
  refine r_cVi C.1 (st := [.ref a0]) (c_X7_sews ha0 e25) yv_X7_sews ml_X7_138 rfl ha0 rfl ⟨Nat.le_of_ble_eq_true rfl, Nat.le_of_ble_eq_true rfl⟩ ⟨Nat.le_of_ble_eq_true rfl, Nat.le_of_ble_eq_true rfl⟩ (Nat.le_of_ble_eq_true rfl) rfl 0 0 rfl rfl 15 rfl dX7_sew_12 ?_
  obtain ⟨y29, κ30, e28, h⟩ := bd2_some h
  refine r_cVi C.1 (st := []) (c_X7_ends ha0 e28) yv_X7_ends ml_X7_100 rfl ha0 rfl ⟨Nat.le_of_ble_eq_true rfl, Nat.le_of_ble_eq_true rfl⟩ ⟨Nat.le_of_ble_eq_true rfl, Nat.le_of_ble_eq_true rfl⟩ (Nat.le_of_ble_eq_true rfl) rfl 0 0 rfl rfl 18 rfl dX7_sew_15 ?_
  cases h
  exact r_zret C rfl rfl (Nat.le_of_ble_eq_true rfl) (Nat.le_of_ble_eq_true rfl) dX7_sew_18 hq
theorem c_X7_sew {l : Launch} {G : jG} {sh : jSh} {κ : jKt} {a0 : Nat} (ha0 : sh a0 = (1, 11, 22)) {x1 : Int32} {x2 : Int32} {r : Int32} {κr : jKt} (h : P_X7_sew κ a0 x1 x2 = some (r, κr)) : jM l G yX7_sew cX7_sew 3 (some .int) 5 0 0 109 [.ref a0, .int x1, .int x2] (sh, κ) (jIs (some (.int r)) (sh, κr)) jNo :=
  r_body (by decide) (Nat.le_of_ble_eq_true rfl) fun F C hl hG hs ho hx => by
    subst hs
    exact w_X7_sew_0 C ha0 (by rw [ho]; exact ⟨rfl, rfl⟩) h
set_option maxRecDepth 20000 in
theorem w_X7_unpick_0 {F : jFm} (C : jB F RX7 cX7_unpick 3 (some .int) 5 0 0 107) {κ : jKt} {a0 : Nat} (ha0 : jSof F a0 = (1, 11, 22)) {x1 : Int32} {x2 : Int32} {r : Int32 × jKt} (hq : jOut F (some (.int r.1)) r.2) (h : P_X7_unpick κ a0 x1 x2 = some r) : jW F 3 0 0 κ 0 [(0, .ref a0), (1, .int x1), (2, .int x2)] [] := by
  unfold P_X7_unpick at h
  refine r_aload_n C.1 0 1 rfl dX7_unpick_0 rfl ?_
  obtain ⟨κ22, e21, h⟩ := bd_some h
  refine r_cVv C.1 (st := []) (c_X7_begins ha0 e21) yv_X7_begins ml_X7_94 rfl ha0 rfl ⟨Nat.le_of_ble_eq_true rfl, Nat.le_of_ble_eq_true rfl⟩ ⟨Nat.le_of_ble_eq_true rfl, Nat.le_of_ble_eq_true rfl⟩ (Nat.le_of_ble_eq_true rfl) rfl 0 0 rfl rfl 4 rfl dX7_unpick_1 ?_
  refine r_aload_n C.1 0 5 rfl dX7_unpick_4 rfl ?_
  refine r_aload_n C.1 0 6 rfl dX7_unpick_5 rfl ?_
  refine r_aload_n C.1 0 7 rfl dX7_unpick_6 rfl ?_
  refine r_iload_n C.1 1 8 rfl dX7_unpick_7 rfl ?_
  obtain ⟨y24, e23, h⟩ := bd_some h
  refine r_cVi C.1 (st := [.ref a0, .ref a0]) (c_X7_find ha0 e23) yv_X7_find ml_X7_123 rfl ha0 rfl ⟨Nat.le_of_ble_eq_true rfl, Nat.le_of_ble_eq_true rfl⟩ ⟨Nat.le_of_ble_eq_true rfl, Nat.le_of_ble_eq_true rfl⟩ (Nat.le_of_ble_eq_true rfl) rfl 0 0 rfl rfl 11 rfl dX7_unpick_8 ?_
  refine r_iload_n C.1 2 12 rfl dX7_unpick_11 rfl ?_
  obtain ⟨y26, κ27, e25, h⟩ := bd2_some h
  refine r_cVi C.1 (st := [.ref a0]) (c_X7_unpicks ha0 e25) yv_X7_unpicks ml_X7_144 rfl ha0 rfl ⟨Nat.le_of_ble_eq_true rfl, Nat.le_of_ble_eq_true rfl⟩ ⟨Nat.le_of_ble_eq_true rfl, Nat.le_of_ble_eq_true rfl⟩ (Nat.le_of_ble_eq_true rfl) rfl 0 0 rfl rfl 15 rfl dX7_unpick_12 ?_
  obtain ⟨y29, κ30, e28, h⟩ := bd2_some h
  refine r_cVi C.1 (st := []) (c_X7_ends ha0 e28) yv_X7_ends ml_X7_100 rfl ha0 rfl ⟨Nat.le_of_ble_eq_true rfl, Nat.le_of_ble_eq_true rfl⟩ ⟨Nat.le_of_ble_eq_true rfl, Nat.le_of_ble_eq_true rfl⟩ (Nat.le_of_ble_eq_true rfl) rfl 0 0 rfl rfl 18 rfl dX7_unpick_15 ?_
  cases h
  exact r_zret C rfl rfl (Nat.le_of_ble_eq_true rfl) (Nat.le_of_ble_eq_true rfl) dX7_unpick_18 hq
theorem c_X7_unpick {l : Launch} {G : jG} {sh : jSh} {κ : jKt} {a0 : Nat} (ha0 : sh a0 = (1, 11, 22)) {x1 : Int32} {x2 : Int32} {r : Int32} {κr : jKt} (h : P_X7_unpick κ a0 x1 x2 = some (r, κr)) : jM l G yX7_unpick cX7_unpick 3 (some .int) 5 0 0 107 [.ref a0, .int x1, .int x2] (sh, κ) (jIs (some (.int r)) (sh, κr)) jNo :=
  r_body (by decide) (Nat.le_of_ble_eq_true rfl) fun F C hl hG hs ho hx => by
    subst hs
    exact w_X7_unpick_0 C ha0 (by rw [ho]; exact ⟨rfl, rfl⟩) h
set_option maxRecDepth 20000 in
theorem w_X7_demand_0 {F : jFm} (C : jB F RX7 cX7_demand 4 (some .int) 5 0 0 109) {κ : jKt} {a0 : Nat} (ha0 : jSof F a0 = (1, 11, 22)) {x1 : Int32} {x2 : Int32} {x3 : Int32} {r : Int32 × jKt} (hq : jOut F (some (.int r.1)) r.2) (h : P_X7_demand κ a0 x1 x2 x3 = some r) : jW F 4 0 0 κ 0 [(0, .ref a0), (1, .int x1), (2, .int x2), (3, .int x3)] [] := by
  unfold P_X7_demand at h
  refine r_aload_n C.1 0 1 rfl dX7_demand_0 rfl ?_
  obtain ⟨κ22, e21, h⟩ := bd_some h
  refine r_cVv C.1 (st := []) (c_X7_begins ha0 e21) yv_X7_begins ml_X7_94 rfl ha0 rfl ⟨Nat.le_of_ble_eq_true rfl, Nat.le_of_ble_eq_true rfl⟩ ⟨Nat.le_of_ble_eq_true rfl, Nat.le_of_ble_eq_true rfl⟩ (Nat.le_of_ble_eq_true rfl) rfl 0 0 rfl rfl 4 rfl dX7_demand_1 ?_
  refine r_aload_n C.1 0 5 rfl dX7_demand_4 rfl ?_
  refine r_aload_n C.1 0 6 rfl dX7_demand_5 rfl ?_
  refine r_aload_n C.1 0 7 rfl dX7_demand_6 rfl ?_
  refine r_iload_n C.1 1 8 rfl dX7_demand_7 rfl ?_
  obtain ⟨y24, e23, h⟩ := bd_some h
  refine r_cVi C.1 (st := [.ref a0, .ref a0]) (c_X7_find ha0 e23) yv_X7_find ml_X7_123 rfl ha0 rfl ⟨Nat.le_of_ble_eq_true rfl, Nat.le_of_ble_eq_true rfl⟩ ⟨Nat.le_of_ble_eq_true rfl, Nat.le_of_ble_eq_true rfl⟩ (Nat.le_of_ble_eq_true rfl) rfl 0 0 rfl rfl 11 rfl dX7_demand_8 ?_
  refine r_iload_n C.1 2 12 rfl dX7_demand_11 rfl ?_
  refine r_iload_n C.1 3 13 rfl dX7_demand_12 rfl ?_
  obtain ⟨y26, κ27, e25, h⟩ := bd2_some h
  refine r_cVi C.1 (st := [.ref a0]) (c_X7_demands ha0 e25) yv_X7_demands ml_X7_153 rfl ha0 rfl ⟨Nat.le_of_ble_eq_true rfl, Nat.le_of_ble_eq_true rfl⟩ ⟨Nat.le_of_ble_eq_true rfl, Nat.le_of_ble_eq_true rfl⟩ (Nat.le_of_ble_eq_true rfl) rfl 0 0 rfl rfl 16 rfl dX7_demand_13 ?_
  obtain ⟨y29, κ30, e28, h⟩ := bd2_some h
  refine r_cVi C.1 (st := []) (c_X7_ends ha0 e28) yv_X7_ends ml_X7_100 rfl ha0 rfl ⟨Nat.le_of_ble_eq_true rfl, Nat.le_of_ble_eq_true rfl⟩ ⟨Nat.le_of_ble_eq_true rfl, Nat.le_of_ble_eq_true rfl⟩ (Nat.le_of_ble_eq_true rfl) rfl 0 0 rfl rfl 19 rfl dX7_demand_16 ?_
  cases h
  exact r_zret C rfl rfl (Nat.le_of_ble_eq_true rfl) (Nat.le_of_ble_eq_true rfl) dX7_demand_19 hq
theorem c_X7_demand {l : Launch} {G : jG} {sh : jSh} {κ : jKt} {a0 : Nat} (ha0 : sh a0 = (1, 11, 22)) {x1 : Int32} {x2 : Int32} {x3 : Int32} {r : Int32} {κr : jKt} (h : P_X7_demand κ a0 x1 x2 x3 = some (r, κr)) : jM l G yX7_demand cX7_demand 4 (some .int) 5 0 0 109 [.ref a0, .int x1, .int x2, .int x3] (sh, κ) (jIs (some (.int r)) (sh, κr)) jNo :=
  r_body (by decide) (Nat.le_of_ble_eq_true rfl) fun F C hl hG hs ho hx => by
    subst hs
    exact w_X7_demand_0 C ha0 (by rw [ho]; exact ⟨rfl, rfl⟩) h
set_option maxRecDepth 20000 in
theorem w_X7_isDue_46 {F : jFm} (C : jB F RX7 cX7_isDue 3 (some .boolean) 3 0 0 64) {κ : jKt} {a0 : Nat} (ha0 : jSof F a0 = (1, 11, 22)) {v1 : Int32} {r : Int32} (hq : jOut F (some (.int r)) κ) : ∀ (n : Nat) (v2 : Int32), P_X7_isDue_46 κ a0 v1 n v2 = some r → jW F 3 0 0 κ 46 [(0, .ref a0), (1, .int v1), (2, .int v2)] [] := by
  intro n
  induction n with
  | zero => intro v2 h; cases h
  | succ n ih =>
    intro v2 h
    rw [P_X7_isDue_46] at h
    refine r_iload_n C.1 2 47 rfl dX7_isDue_46 rfl ?_
    refine r_aload_n C.1 0 48 rfl dX7_isDue_47 rfl ?_
    refine r_iload_n C.1 1 49 rfl dX7_isDue_48 rfl ?_
    obtain ⟨y44, e43, h⟩ := bd_some h
    refine r_cVi C.1 (st := [.int v2]) (c_X7_sleeves ha0 e43) yv_X7_sleeves ml_X7_79 rfl ha0 rfl ⟨Nat.le_of_ble_eq_true rfl, Nat.le_of_ble_eq_true rfl⟩ ⟨Nat.le_of_ble_eq_true rfl, Nat.le_of_ble_eq_true rfl⟩ (Nat.le_of_ble_eq_true rfl) rfl 0 0 rfl rfl 52 rfl dX7_isDue_49 ?_
    refine r_icmp_ge C.1 83 55 rfl dX7_isDue_52 rfl ⟨fun c45 => ?_, fun c45 => ?_⟩
    · have h := if_some_t c45 h
      refine r_iconst C.1 1 rfl 84 rfl dX7_isDue_83 ?_
      cases h
      exact r_zret C rfl rfl (Nat.le_of_ble_eq_true rfl) (Nat.le_of_ble_eq_true rfl) dX7_isDue_84 hq
    · have h := if_some_f c45 h
      refine r_aload_n C.1 0 56 rfl dX7_isDue_55 rfl ?_
      refine r_iload_n C.1 1 57 rfl dX7_isDue_56 rfl ?_
      refine r_iload_n C.1 2 58 rfl dX7_isDue_57 rfl ?_
      obtain ⟨y47, e46, h⟩ := bd_some h
      refine r_cVi C.1 (st := []) (c_X7_own ha0 e46) yv_X7_own ml_X7_141 rfl ha0 rfl ⟨Nat.le_of_ble_eq_true rfl, Nat.le_of_ble_eq_true rfl⟩ ⟨Nat.le_of_ble_eq_true rfl, Nat.le_of_ble_eq_true rfl⟩ (Nat.le_of_ble_eq_true rfl) rfl 0 0 rfl rfl 61 rfl dX7_isDue_58 ?_
      refine r_aload_n C.1 0 62 rfl dX7_isDue_61 rfl ?_
      refine r_iload_n C.1 1 63 rfl dX7_isDue_62 rfl ?_
      refine r_iload_n C.1 2 64 rfl dX7_isDue_63 rfl ?_
      refine r_iconst C.1 1 rfl 65 rfl dX7_isDue_64 ?_
      refine r_iadd C.1 66 rfl dX7_isDue_65 ?_
      obtain ⟨y49, e48, h⟩ := bd_some h
      refine r_cVi C.1 (st := [.int y47]) (c_X7_own ha0 e48) yv_X7_own ml_X7_141 rfl ha0 rfl ⟨Nat.le_of_ble_eq_true rfl, Nat.le_of_ble_eq_true rfl⟩ ⟨Nat.le_of_ble_eq_true rfl, Nat.le_of_ble_eq_true rfl⟩ (Nat.le_of_ble_eq_true rfl) rfl 0 0 rfl rfl 69 rfl dX7_isDue_66 ?_
      obtain ⟨y51, e50, h⟩ := bd_some h
      refine r_cSi C.1 (st := []) (c_X7_areAlike e50) yv_X7_areAlike ml_X7_156 rfl ⟨Nat.le_of_ble_eq_true rfl, Nat.le_of_ble_eq_true rfl⟩ ⟨Nat.le_of_ble_eq_true rfl, Nat.le_of_ble_eq_true rfl⟩ (Nat.le_of_ble_eq_true rfl) rfl 0 0 rfl rfl 72 rfl dX7_isDue_69 ?_
      refine r_if_ne C.1 77 75 rfl dX7_isDue_72 rfl ⟨fun c52 => ?_, fun c52 => ?_⟩
      · have h := if_some_f c52 h
        refine r_iinc C.1 (lv' := [(0, .ref a0), (1, .int v1), (2, .int (v2 + 2))]) 2 [1, 2, 0] 80 rfl dX7_isDue_77 rfl (Nat.le_of_ble_eq_true rfl) rfl rfl ?_
        refine r_goto C.1 46 dX7_isDue_80 rfl ?_
        exact ih (v2 + 2) h
      · have h := if_some_t c52 h
        refine r_iconst C.1 0 rfl 76 rfl dX7_isDue_75 ?_
        cases h
        exact r_zret C rfl rfl (Nat.le_of_ble_eq_true rfl) (Nat.le_of_ble_eq_true rfl) dX7_isDue_76 hq
set_option maxRecDepth 20000 in
theorem w_X7_isDue_2 {F : jFm} (C : jB F RX7 cX7_isDue 3 (some .boolean) 3 0 0 64) {κ : jKt} {a0 : Nat} (ha0 : jSof F a0 = (1, 11, 22)) {v1 : Int32} {r : Int32} (hq : jOut F (some (.int r)) κ) : ∀ (n : Nat) (v2 : Int32), P_X7_isDue_2 κ a0 v1 n v2 = some r → jW F 3 0 0 κ 2 [(0, .ref a0), (1, .int v1), (2, .int v2)] [] := by
  intro n
  induction n with
  | zero => intro v2 h; cases h
  | succ n ih =>
    intro v2 h
    rw [P_X7_isDue_2] at h
    refine r_iload_n C.1 2 3 rfl dX7_isDue_2 rfl ?_
    refine r_aload_n C.1 0 4 rfl dX7_isDue_3 rfl ?_
    refine r_iload_n C.1 1 5 rfl dX7_isDue_4 rfl ?_
    obtain ⟨y54, e53, h⟩ := bd_some h
    refine r_cVi C.1 (st := [.int v2]) (c_X7_sleeves ha0 e53) yv_X7_sleeves ml_X7_79 rfl ha0 rfl ⟨Nat.le_of_ble_eq_true rfl, Nat.le_of_ble_eq_true rfl⟩ ⟨Nat.le_of_ble_eq_true rfl, Nat.le_of_ble_eq_true rfl⟩ (Nat.le_of_ble_eq_true rfl) rfl 0 0 rfl rfl 8 rfl dX7_isDue_5 ?_
    refine r_icmp_ge C.1 44 11 rfl dX7_isDue_8 rfl ⟨fun c55 => ?_, fun c55 => ?_⟩
    · have h := if_some_t c55 h
      refine r_iconst C.1 0 rfl 45 rfl dX7_isDue_44 ?_
      refine r_istore_n C.1 (lv' := [(0, .ref a0), (1, .int v1), (2, .int 0)]) [1, 2, 0] 46 rfl dX7_isDue_45 (Nat.le_of_ble_eq_true rfl) rfl ?_
      exact w_X7_isDue_46 C ha0 hq 4000 0 h
    · have h := if_some_f c55 h
      refine r_aload_n C.1 0 12 rfl dX7_isDue_11 rfl ?_
      refine r_iload_n C.1 1 13 rfl dX7_isDue_12 rfl ?_
      refine r_iload_n C.1 2 14 rfl dX7_isDue_13 rfl ?_
      obtain ⟨y57, e56, h⟩ := bd_some h
      refine r_cVi C.1 (st := []) (c_X7_state ha0 e56) yv_X7_state ml_X7_85 rfl ha0 rfl ⟨Nat.le_of_ble_eq_true rfl, Nat.le_of_ble_eq_true rfl⟩ ⟨Nat.le_of_ble_eq_true rfl, Nat.le_of_ble_eq_true rfl⟩ (Nat.le_of_ble_eq_true rfl) rfl 0 0 rfl rfl 17 rfl dX7_isDue_14 ?_
      refine r_iconst C.1 2 rfl 18 rfl dX7_isDue_17 ?_
      refine r_icmp_ne C.1 36 21 rfl dX7_isDue_18 rfl ⟨fun c58 => ?_, fun c58 => ?_⟩
      · have h := if_some_f c58 h
        refine r_iconst C.1 0 rfl 37 rfl dX7_isDue_36 ?_
        cases h
        exact r_zret C rfl rfl (Nat.le_of_ble_eq_true rfl) (Nat.le_of_ble_eq_true rfl) dX7_isDue_37 hq
      · have h := if_some_t c58 h
        refine r_aload_n C.1 0 22 rfl dX7_isDue_21 rfl ?_
        refine r_iload_n C.1 1 23 rfl dX7_isDue_22 rfl ?_
        refine r_iload_n C.1 2 24 rfl dX7_isDue_23 rfl ?_
        obtain ⟨y60, e59, h⟩ := bd_some h
        refine r_cVi C.1 (st := []) (c_X7_own ha0 e59) yv_X7_own ml_X7_141 rfl ha0 rfl ⟨Nat.le_of_ble_eq_true rfl, Nat.le_of_ble_eq_true rfl⟩ ⟨Nat.le_of_ble_eq_true rfl, Nat.le_of_ble_eq_true rfl⟩ (Nat.le_of_ble_eq_true rfl) rfl 0 0 rfl rfl 27 rfl dX7_isDue_24 ?_
        refine r_aload_n C.1 0 28 rfl dX7_isDue_27 rfl ?_
        refine r_iload_n C.1 1 29 rfl dX7_isDue_28 rfl ?_
        refine r_iload_n C.1 2 30 rfl dX7_isDue_29 rfl ?_
        obtain ⟨y62, e61, h⟩ := bd_some h
        refine r_cVi C.1 (st := [.int y60]) (c_X7_wanted ha0 e61) yv_X7_wanted ml_X7_120 rfl ha0 rfl ⟨Nat.le_of_ble_eq_true rfl, Nat.le_of_ble_eq_true rfl⟩ ⟨Nat.le_of_ble_eq_true rfl, Nat.le_of_ble_eq_true rfl⟩ (Nat.le_of_ble_eq_true rfl) rfl 0 0 rfl rfl 33 rfl dX7_isDue_30 ?_
        refine r_icmp_eq C.1 38 36 rfl dX7_isDue_33 rfl ⟨fun c63 => ?_, fun c63 => ?_⟩
        · have h := if_some_t c63 h
          refine r_iinc C.1 (lv' := [(0, .ref a0), (1, .int v1), (2, .int (v2 + 1))]) 2 [1, 2, 0] 41 rfl dX7_isDue_38 rfl (Nat.le_of_ble_eq_true rfl) rfl rfl ?_
          refine r_goto C.1 2 dX7_isDue_41 rfl ?_
          exact ih (v2 + 1) h
        · have h := if_some_f c63 h
          refine r_iconst C.1 0 rfl 37 rfl dX7_isDue_36 ?_
          cases h
          exact r_zret C rfl rfl (Nat.le_of_ble_eq_true rfl) (Nat.le_of_ble_eq_true rfl) dX7_isDue_37 hq
set_option maxRecDepth 20000 in
theorem w_X7_isDue_0 {F : jFm} (C : jB F RX7 cX7_isDue 3 (some .boolean) 3 0 0 64) {κ : jKt} {a0 : Nat} (ha0 : jSof F a0 = (1, 11, 22)) {x1 : Int32} {r : Int32} (hq : jOut F (some (.int r)) κ) (h : P_X7_isDue κ a0 x1 = some r) : jW F 3 0 0 κ 0 [(0, .ref a0), (1, .int x1)] [] := by
  unfold P_X7_isDue at h
  refine r_iconst C.1 0 rfl 1 rfl dX7_isDue_0 ?_
  refine r_istore_n C.1 (lv' := [(0, .ref a0), (1, .int x1), (2, .int 0)]) [1, 2, 0] 2 rfl dX7_isDue_1 (Nat.le_of_ble_eq_true rfl) rfl ?_
  exact w_X7_isDue_2 C ha0 hq 4000 0 h
theorem c_X7_isDue {l : Launch} {G : jG} {sh : jSh} {κ : jKt} {a0 : Nat} (ha0 : sh a0 = (1, 11, 22)) {x1 : Int32} {r : Int32} (h : P_X7_isDue κ a0 x1 = some r) : jM l G yX7_isDue cX7_isDue 3 (some .boolean) 3 0 0 64 [.ref a0, .int x1] (sh, κ) (jIs (some (.int r)) (sh, κ)) jNo :=
  r_body (by decide) (Nat.le_of_ble_eq_true rfl) fun F C hl hG hs ho hx => by
    subst hs
    exact w_X7_isDue_0 C ha0 (by rw [ho]; exact ⟨rfl, rfl⟩) h
set_option maxRecDepth 20000 in
theorem w_X7_delivers_0 {F : jFm} (C : jB F RX7 cX7_delivers 3 (some .int) 4 0 0 87) {κ : jKt} {a0 : Nat} (ha0 : jSof F a0 = (1, 11, 22)) {x1 : Int32} {r : Int32 × jKt} (hq : jOut F (some (.int r.1)) r.2) (h : P_X7_delivers κ a0 x1 = some r) : jW F 3 0 0 κ 0 [(0, .ref a0), (1, .int x1)] [] := by
  unfold P_X7_delivers at h
  refine r_iload_n C.1 1 1 rfl dX7_delivers_0 rfl ?_
  refine r_if_ge C.1 10 4 rfl dX7_delivers_1 rfl ⟨fun c51 => ?_, fun c51 => ?_⟩
  · have h := if_some_t c51 h
    refine r_aload_n C.1 0 11 rfl dX7_delivers_10 rfl ?_
    refine r_iload_n C.1 1 12 rfl dX7_delivers_11 rfl ?_
    obtain ⟨y53, e52, h⟩ := bd_some h
    refine r_cVi C.1 (st := []) (c_X7_isDue ha0 e52) yv_X7_isDue ml_X7_159 rfl ha0 rfl ⟨Nat.le_of_ble_eq_true rfl, Nat.le_of_ble_eq_true rfl⟩ ⟨Nat.le_of_ble_eq_true rfl, Nat.le_of_ble_eq_true rfl⟩ (Nat.le_of_ble_eq_true rfl) rfl 0 0 rfl rfl 15 rfl dX7_delivers_12 ?_
    refine r_if_ne C.1 24 18 rfl dX7_delivers_15 rfl ⟨fun c54 => ?_, fun c54 => ?_⟩
    · have h := if_some_f c54 h
      refine r_aload_n C.1 0 25 rfl dX7_delivers_24 rfl ?_
      refine r_iload_n C.1 1 26 rfl dX7_delivers_25 rfl ?_
      obtain ⟨y56, e55, h⟩ := bd_some h
      refine r_cVi C.1 (st := []) (c_X7_worth ha0 e55) yv_X7_worth ml_X7_162 rfl ha0 rfl ⟨Nat.le_of_ble_eq_true rfl, Nat.le_of_ble_eq_true rfl⟩ ⟨Nat.le_of_ble_eq_true rfl, Nat.le_of_ble_eq_true rfl⟩ (Nat.le_of_ble_eq_true rfl) rfl 0 0 rfl rfl 29 rfl dX7_delivers_26 ?_
      refine r_istore_n C.1 (lv' := [(0, .ref a0), (1, .int x1), (2, .int y56)]) [1, 2, 0] 30 rfl dX7_delivers_29 (Nat.le_of_ble_eq_true rfl) rfl ?_
      refine r_aload_n C.1 0 31 rfl dX7_delivers_30 rfl ?_
      refine r_getR C.1 5 fl_X7_16 rfl ha0 34 rfl dX7_delivers_31 (fun (h57 : jSof F (kR κ a0 5) = (2, 0, 457)) => ?_)
      refine r_iconst C.1 5 rfl 35 rfl dX7_delivers_34 ?_
      refine r_dup2 C.1 rfl rfl 36 rfl dX7_delivers_35 ?_
      refine r_iald C.1 h57 (by decide) 37 rfl dX7_delivers_36 ?_
      refine r_aload_n C.1 0 38 rfl dX7_delivers_37 rfl ?_
      refine r_iload_n C.1 1 39 rfl dX7_delivers_38 rfl ?_
      obtain ⟨y59, e58, h⟩ := bd_some h
      refine r_cVi C.1 (st := [.int (kI κ (kR κ a0 5) (ix 5)), .int 5, .ref (kR κ a0 5)]) (c_X7_cloth ha0 e58) yv_X7_cloth ml_X7_165 rfl ha0 rfl ⟨Nat.le_of_ble_eq_true rfl, Nat.le_of_ble_eq_true rfl⟩ ⟨Nat.le_of_ble_eq_true rfl, Nat.le_of_ble_eq_true rfl⟩ (Nat.le_of_ble_eq_true rfl) rfl 0 0 rfl rfl 42 rfl dX7_delivers_39 ?_
      refine r_iadd C.1 43 rfl dX7_delivers_42 ?_
      obtain ⟨κ60, e61, h⟩ := bnd_some h
      refine r_iast C.1 h57 (by decide) e61 44 rfl dX7_delivers_43 ?_
      refine r_aload_n C.1 0 45 rfl dX7_delivers_44 rfl ?_
      refine r_getR C.1 5 fl_X7_16 rfl ha0 48 rfl dX7_delivers_45 (fun (h62 : jSof F (kR κ60 a0 5) = (2, 0, 457)) => ?_)
      refine r_bipush C.1 6 rfl 50 rfl dX7_delivers_48 ?_
      refine r_dup2 C.1 rfl rfl 51 rfl dX7_delivers_50 ?_
      refine r_iald C.1 h62 (by decide) 52 rfl dX7_delivers_51 ?_
      refine r_iload_n C.1 2 53 rfl dX7_delivers_52 rfl ?_
      refine r_iadd C.1 54 rfl dX7_delivers_53 ?_
      obtain ⟨κ63, e64, h⟩ := bnd_some h
      refine r_iast C.1 h62 (by decide) e64 55 rfl dX7_delivers_54 ?_
      refine r_aload_n C.1 0 56 rfl dX7_delivers_55 rfl ?_
      refine r_getR C.1 5 fl_X7_16 rfl ha0 59 rfl dX7_delivers_56 (fun (h65 : jSof F (kR κ63 a0 5) = (2, 0, 457)) => ?_)
      refine r_bipush C.1 7 rfl 61 rfl dX7_delivers_59 ?_
      refine r_dup2 C.1 rfl rfl 62 rfl dX7_delivers_61 ?_
      refine r_iald C.1 h65 (by decide) 63 rfl dX7_delivers_62 ?_
      refine r_iconst C.1 1 rfl 64 rfl dX7_delivers_63 ?_
      refine r_iadd C.1 65 rfl dX7_delivers_64 ?_
      obtain ⟨κ66, e67, h⟩ := bnd_some h
      refine r_iast C.1 h65 (by decide) e67 66 rfl dX7_delivers_65 ?_
      refine r_aload_n C.1 0 67 rfl dX7_delivers_66 rfl ?_
      refine r_iload_n C.1 1 68 rfl dX7_delivers_67 rfl ?_
      obtain ⟨κ69, e68, h⟩ := bd_some h
      refine r_cVv C.1 (st := []) (c_X7_goes ha0 e68) yv_X7_goes ml_X7_168 rfl ha0 rfl ⟨Nat.le_of_ble_eq_true rfl, Nat.le_of_ble_eq_true rfl⟩ ⟨Nat.le_of_ble_eq_true rfl, Nat.le_of_ble_eq_true rfl⟩ (Nat.le_of_ble_eq_true rfl) rfl 0 0 rfl rfl 71 rfl dX7_delivers_68 ?_
      refine r_iload_n C.1 2 72 rfl dX7_delivers_71 rfl ?_
      cases h
      exact r_zret C rfl rfl (Nat.le_of_ble_eq_true rfl) (Nat.le_of_ble_eq_true rfl) dX7_delivers_72 hq
    · have h := if_some_t c54 h
      refine r_aload_n C.1 0 19 rfl dX7_delivers_18 rfl ?_
      refine r_iconst C.1 2 rfl 20 rfl dX7_delivers_19 ?_
      obtain ⟨y71, κ72, e70, h⟩ := bd2_some h
      refine r_cVi C.1 (st := []) (c_X7_fail ha0 e70) yv_X7_fail ml_X7_91 rfl ha0 rfl ⟨Nat.le_of_ble_eq_true rfl, Nat.le_of_ble_eq_true rfl⟩ ⟨Nat.le_of_ble_eq_true rfl, Nat.le_of_ble_eq_true rfl⟩ (Nat.le_of_ble_eq_true rfl) rfl 0 0 rfl rfl 23 rfl dX7_delivers_20 ?_
      cases h
      exact r_zret C rfl rfl (Nat.le_of_ble_eq_true rfl) (Nat.le_of_ble_eq_true rfl) dX7_delivers_23 hq
  · have h := if_some_f c51 h
    refine r_aload_n C.1 0 5 rfl dX7_delivers_4 rfl ?_
    refine r_iconst C.1 1 rfl 6 rfl dX7_delivers_5 ?_
    obtain ⟨y74, κ75, e73, h⟩ := bd2_some h
    refine r_cVi C.1 (st := []) (c_X7_fail ha0 e73) yv_X7_fail ml_X7_91 rfl ha0 rfl ⟨Nat.le_of_ble_eq_true rfl, Nat.le_of_ble_eq_true rfl⟩ ⟨Nat.le_of_ble_eq_true rfl, Nat.le_of_ble_eq_true rfl⟩ (Nat.le_of_ble_eq_true rfl) rfl 0 0 rfl rfl 9 rfl dX7_delivers_6 ?_
    cases h
    exact r_zret C rfl rfl (Nat.le_of_ble_eq_true rfl) (Nat.le_of_ble_eq_true rfl) dX7_delivers_9 hq
theorem c_X7_delivers {l : Launch} {G : jG} {sh : jSh} {κ : jKt} {a0 : Nat} (ha0 : sh a0 = (1, 11, 22)) {x1 : Int32} {r : Int32} {κr : jKt} (h : P_X7_delivers κ a0 x1 = some (r, κr)) : jM l G yX7_delivers cX7_delivers 3 (some .int) 4 0 0 87 [.ref a0, .int x1] (sh, κ) (jIs (some (.int r)) (sh, κr)) jNo :=
  r_body (by decide) (Nat.le_of_ble_eq_true rfl) fun F C hl hG hs ho hx => by
    subst hs
    exact w_X7_delivers_0 C ha0 (by rw [ho]; exact ⟨rfl, rfl⟩) h
set_option maxRecDepth 20000 in
theorem w_X7_deliver_0 {F : jFm} (C : jB F RX7 cX7_deliver 2 (some .int) 5 0 0 109) {κ : jKt} {a0 : Nat} (ha0 : jSof F a0 = (1, 11, 22)) {x1 : Int32} {r : Int32 × jKt} (hq : jOut F (some (.int r.1)) r.2) (h : P_X7_deliver κ a0 x1 = some r) : jW F 2 0 0 κ 0 [(0, .ref a0), (1, .int x1)] [] := by
  unfold P_X7_deliver at h
  refine r_aload_n C.1 0 1 rfl dX7_deliver_0 rfl ?_
  obtain ⟨κ22, e21, h⟩ := bd_some h
  refine r_cVv C.1 (st := []) (c_X7_begins ha0 e21) yv_X7_begins ml_X7_94 rfl ha0 rfl ⟨Nat.le_of_ble_eq_true rfl, Nat.le_of_ble_eq_true rfl⟩ ⟨Nat.le_of_ble_eq_true rfl, Nat.le_of_ble_eq_true rfl⟩ (Nat.le_of_ble_eq_true rfl) rfl 0 0 rfl rfl 4 rfl dX7_deliver_1 ?_
  refine r_aload_n C.1 0 5 rfl dX7_deliver_4 rfl ?_
  refine r_aload_n C.1 0 6 rfl dX7_deliver_5 rfl ?_
  refine r_aload_n C.1 0 7 rfl dX7_deliver_6 rfl ?_
  refine r_iload_n C.1 1 8 rfl dX7_deliver_7 rfl ?_
  obtain ⟨y24, e23, h⟩ := bd_some h
  refine r_cVi C.1 (st := [.ref a0, .ref a0]) (c_X7_find ha0 e23) yv_X7_find ml_X7_123 rfl ha0 rfl ⟨Nat.le_of_ble_eq_true rfl, Nat.le_of_ble_eq_true rfl⟩ ⟨Nat.le_of_ble_eq_true rfl, Nat.le_of_ble_eq_true rfl⟩ (Nat.le_of_ble_eq_true rfl) rfl 0 0 rfl rfl 11 rfl dX7_deliver_8 ?_
  obtain ⟨y26, κ27, e25, h⟩ := bd2_some h
  refine r_cVi C.1 (st := [.ref a0]) (c_X7_delivers ha0 e25) yv_X7_delivers ml_X7_172 rfl ha0 rfl ⟨Nat.le_of_ble_eq_true rfl, Nat.le_of_ble_eq_true rfl⟩ ⟨Nat.le_of_ble_eq_true rfl, Nat.le_of_ble_eq_true rfl⟩ (Nat.le_of_ble_eq_true rfl) rfl 0 0 rfl rfl 14 rfl dX7_deliver_11 ?_
  obtain ⟨y29, κ30, e28, h⟩ := bd2_some h
  refine r_cVi C.1 (st := []) (c_X7_ends ha0 e28) yv_X7_ends ml_X7_100 rfl ha0 rfl ⟨Nat.le_of_ble_eq_true rfl, Nat.le_of_ble_eq_true rfl⟩ ⟨Nat.le_of_ble_eq_true rfl, Nat.le_of_ble_eq_true rfl⟩ (Nat.le_of_ble_eq_true rfl) rfl 0 0 rfl rfl 17 rfl dX7_deliver_14 ?_
  cases h
  exact r_zret C rfl rfl (Nat.le_of_ble_eq_true rfl) (Nat.le_of_ble_eq_true rfl) dX7_deliver_17 hq
theorem c_X7_deliver {l : Launch} {G : jG} {sh : jSh} {κ : jKt} {a0 : Nat} (ha0 : sh a0 = (1, 11, 22)) {x1 : Int32} {r : Int32} {κr : jKt} (h : P_X7_deliver κ a0 x1 = some (r, κr)) : jM l G yX7_deliver cX7_deliver 2 (some .int) 5 0 0 109 [.ref a0, .int x1] (sh, κ) (jIs (some (.int r)) (sh, κr)) jNo :=
  r_body (by decide) (Nat.le_of_ble_eq_true rfl) fun F C hl hG hs ho hx => by
    subst hs
    exact w_X7_deliver_0 C ha0 (by rw [ho]; exact ⟨rfl, rfl⟩) h
set_option maxRecDepth 20000 in
theorem w_X7_scrap_0 {F : jFm} (C : jB F RX7 cX7_scrap 2 (some .int) 5 0 0 107) {κ : jKt} {a0 : Nat} (ha0 : jSof F a0 = (1, 11, 22)) {x1 : Int32} {r : Int32 × jKt} (hq : jOut F (some (.int r.1)) r.2) (h : P_X7_scrap κ a0 x1 = some r) : jW F 2 0 0 κ 0 [(0, .ref a0), (1, .int x1)] [] := by
  unfold P_X7_scrap at h
  refine r_aload_n C.1 0 1 rfl dX7_scrap_0 rfl ?_
  obtain ⟨κ22, e21, h⟩ := bd_some h
  refine r_cVv C.1 (st := []) (c_X7_begins ha0 e21) yv_X7_begins ml_X7_94 rfl ha0 rfl ⟨Nat.le_of_ble_eq_true rfl, Nat.le_of_ble_eq_true rfl⟩ ⟨Nat.le_of_ble_eq_true rfl, Nat.le_of_ble_eq_true rfl⟩ (Nat.le_of_ble_eq_true rfl) rfl 0 0 rfl rfl 4 rfl dX7_scrap_1 ?_
  refine r_aload_n C.1 0 5 rfl dX7_scrap_4 rfl ?_
  refine r_aload_n C.1 0 6 rfl dX7_scrap_5 rfl ?_
  refine r_aload_n C.1 0 7 rfl dX7_scrap_6 rfl ?_
  refine r_iload_n C.1 1 8 rfl dX7_scrap_7 rfl ?_
  obtain ⟨y24, e23, h⟩ := bd_some h
  refine r_cVi C.1 (st := [.ref a0, .ref a0]) (c_X7_find ha0 e23) yv_X7_find ml_X7_123 rfl ha0 rfl ⟨Nat.le_of_ble_eq_true rfl, Nat.le_of_ble_eq_true rfl⟩ ⟨Nat.le_of_ble_eq_true rfl, Nat.le_of_ble_eq_true rfl⟩ (Nat.le_of_ble_eq_true rfl) rfl 0 0 rfl rfl 11 rfl dX7_scrap_8 ?_
  obtain ⟨y26, κ27, e25, h⟩ := bd2_some h
  refine r_cVi C.1 (st := [.ref a0]) (c_X7_scraps ha0 e25) yv_X7_scraps ml_X7_175 rfl ha0 rfl ⟨Nat.le_of_ble_eq_true rfl, Nat.le_of_ble_eq_true rfl⟩ ⟨Nat.le_of_ble_eq_true rfl, Nat.le_of_ble_eq_true rfl⟩ (Nat.le_of_ble_eq_true rfl) rfl 0 0 rfl rfl 14 rfl dX7_scrap_11 ?_
  obtain ⟨y29, κ30, e28, h⟩ := bd2_some h
  refine r_cVi C.1 (st := []) (c_X7_ends ha0 e28) yv_X7_ends ml_X7_100 rfl ha0 rfl ⟨Nat.le_of_ble_eq_true rfl, Nat.le_of_ble_eq_true rfl⟩ ⟨Nat.le_of_ble_eq_true rfl, Nat.le_of_ble_eq_true rfl⟩ (Nat.le_of_ble_eq_true rfl) rfl 0 0 rfl rfl 17 rfl dX7_scrap_14 ?_
  cases h
  exact r_zret C rfl rfl (Nat.le_of_ble_eq_true rfl) (Nat.le_of_ble_eq_true rfl) dX7_scrap_17 hq
theorem c_X7_scrap {l : Launch} {G : jG} {sh : jSh} {κ : jKt} {a0 : Nat} (ha0 : sh a0 = (1, 11, 22)) {x1 : Int32} {r : Int32} {κr : jKt} (h : P_X7_scrap κ a0 x1 = some (r, κr)) : jM l G yX7_scrap cX7_scrap 2 (some .int) 5 0 0 107 [.ref a0, .int x1] (sh, κ) (jIs (some (.int r)) (sh, κr)) jNo :=
  r_body (by decide) (Nat.le_of_ble_eq_true rfl) fun F C hl hG hs ho hx => by
    subst hs
    exact w_X7_scrap_0 C ha0 (by rw [ho]; exact ⟨rfl, rfl⟩) h
set_option maxRecDepth 20000 in
theorem w_X7_tellsOf_14 {F : jFm} (C : jB F RX7 cX7_tellsOf 3 (some .int) 2 0 0 43) {κ : jKt} {a0 : Nat} (ha0 : jSof F a0 = (1, 11, 22)) {v1 : Int32} {v2 : Int32} {s0 : Int32} {a1 : Nat} (ha1 : jSof F a1 = (1, 11, 22)) {r : Int32 × jKt} (hq : jOut F (some (.int r.1)) r.2) (h : P_X7_tellsOf_14 κ a0 v1 v2 s0 a1 = some r) : jW F 3 0 0 κ 14 [(0, .ref a0), (1, .int v1), (2, .int v2)] [.int s0, .ref a1] := by
  unfold P_X7_tellsOf_14 at h
  obtain ⟨κ25, e26, h⟩ := bnd_some h
  refine r_putI C.1 0 fw_X7_50 rfl rfl rfl ha1 e26 17 rfl dX7_tellsOf_14 ?_
  refine r_aload_n C.1 0 18 rfl dX7_tellsOf_17 rfl ?_
  refine r_getI C.1 0 fl_X7_50 rfl ha0 21 rfl dX7_tellsOf_18 ?_
  refine r_if_ne C.1 41 24 rfl dX7_tellsOf_21 rfl ⟨fun c27 => ?_, fun c27 => ?_⟩
  · have h := if_some_f c27 h
    refine r_iconst C.1 0 rfl 42 rfl dX7_tellsOf_41 ?_
    cases h
    exact r_zret C rfl rfl (Nat.le_of_ble_eq_true rfl) (Nat.le_of_ble_eq_true rfl) dX7_tellsOf_42 hq
  · have h := if_some_t c27 h
    refine r_aload_n C.1 0 25 rfl dX7_tellsOf_24 rfl ?_
    refine r_getR C.1 5 fl_X7_16 rfl ha0 28 rfl dX7_tellsOf_25 (fun (h28 : jSof F (kR κ25 a0 5) = (2, 0, 457)) => ?_)
    refine r_aload_n C.1 0 29 rfl dX7_tellsOf_28 rfl ?_
    refine r_iload_n C.1 1 30 rfl dX7_tellsOf_29 rfl ?_
    obtain ⟨y30, e29, h⟩ := bd_some h
    refine r_cVi C.1 (st := [.ref (kR κ25 a0 5)]) (c_X7_find ha0 e29) yv_X7_find ml_X7_123 rfl ha0 rfl ⟨Nat.le_of_ble_eq_true rfl, Nat.le_of_ble_eq_true rfl⟩ ⟨Nat.le_of_ble_eq_true rfl, Nat.le_of_ble_eq_true rfl⟩ (Nat.le_of_ble_eq_true rfl) rfl 0 0 rfl rfl 33 rfl dX7_tellsOf_30 ?_
    refine r_iload_n C.1 2 34 rfl dX7_tellsOf_33 rfl ?_
    obtain ⟨y32, e31, h⟩ := bd_some h
    refine r_cSi C.1 (st := [.ref (kR κ25 a0 5)]) (c_X7_of e31) yv_X7_of ml_X7_75 rfl ⟨Nat.le_of_ble_eq_true rfl, Nat.le_of_ble_eq_true rfl⟩ ⟨Nat.le_of_ble_eq_true rfl, Nat.le_of_ble_eq_true rfl⟩ (Nat.le_of_ble_eq_true rfl) rfl 0 0 rfl rfl 37 rfl dX7_tellsOf_34 ?_
    obtain ⟨i33, h⟩ := ck_some h
    refine r_iald C.1 h28 i33 38 rfl dX7_tellsOf_37 ?_
    refine r_goto C.1 42 dX7_tellsOf_38 rfl ?_
    cases h
    exact r_zret C rfl rfl (Nat.le_of_ble_eq_true rfl) (Nat.le_of_ble_eq_true rfl) dX7_tellsOf_42 hq
set_option maxRecDepth 20000 in
theorem w_X7_tellsOf_0 {F : jFm} (C : jB F RX7 cX7_tellsOf 3 (some .int) 2 0 0 43) {κ : jKt} {a0 : Nat} (ha0 : jSof F a0 = (1, 11, 22)) {x1 : Int32} {x2 : Int32} {r : Int32 × jKt} (hq : jOut F (some (.int r.1)) r.2) (h : P_X7_tellsOf κ a0 x1 x2 = some r) : jW F 3 0 0 κ 0 [(0, .ref a0), (1, .int x1), (2, .int x2)] [] := by
  unfold P_X7_tellsOf at h
  refine r_aload_n C.1 0 1 rfl dX7_tellsOf_0 rfl ?_
  refine r_aload_n C.1 0 2 rfl dX7_tellsOf_1 rfl ?_
  refine r_iload_n C.1 1 3 rfl dX7_tellsOf_2 rfl ?_
  obtain ⟨y35, e34, h⟩ := bd_some h
  refine r_cVi C.1 (st := [.ref a0]) (c_X7_find ha0 e34) yv_X7_find ml_X7_123 rfl ha0 rfl ⟨Nat.le_of_ble_eq_true rfl, Nat.le_of_ble_eq_true rfl⟩ ⟨Nat.le_of_ble_eq_true rfl, Nat.le_of_ble_eq_true rfl⟩ (Nat.le_of_ble_eq_true rfl) rfl 0 0 rfl rfl 6 rfl dX7_tellsOf_3 ?_
  refine r_if_ge C.1 13 9 rfl dX7_tellsOf_6 rfl ⟨fun c36 => ?_, fun c36 => ?_⟩
  · have h := if_some_t c36 h
    refine r_iconst C.1 0 rfl 14 rfl dX7_tellsOf_13 ?_
    exact w_X7_tellsOf_14 C ha0 ha0 hq h
  · have h := if_some_f c36 h
    refine r_iconst C.1 1 rfl 10 rfl dX7_tellsOf_9 ?_
    refine r_goto C.1 14 dX7_tellsOf_10 rfl ?_
    exact w_X7_tellsOf_14 C ha0 ha0 hq h
theorem c_X7_tellsOf {l : Launch} {G : jG} {sh : jSh} {κ : jKt} {a0 : Nat} (ha0 : sh a0 = (1, 11, 22)) {x1 : Int32} {x2 : Int32} {r : Int32} {κr : jKt} (h : P_X7_tellsOf κ a0 x1 x2 = some (r, κr)) : jM l G yX7_tellsOf cX7_tellsOf 3 (some .int) 2 0 0 43 [.ref a0, .int x1, .int x2] (sh, κ) (jIs (some (.int r)) (sh, κr)) jNo :=
  r_body (by decide) (Nat.le_of_ble_eq_true rfl) fun F C hl hG hs ho hx => by
    subst hs
    exact w_X7_tellsOf_0 C ha0 (by rw [ho]; exact ⟨rfl, rfl⟩) h
set_option maxRecDepth 20000 in
theorem w_X7_customerOf_0 {F : jFm} (C : jB F RX7 cX7_customerOf 2 (some .int) 3 0 0 65) {κ : jKt} {a0 : Nat} (ha0 : jSof F a0 = (1, 11, 22)) {x1 : Int32} {r : Int32 × jKt} (hq : jOut F (some (.int r.1)) r.2) (h : P_X7_customerOf κ a0 x1 = some r) : jW F 2 0 0 κ 0 [(0, .ref a0), (1, .int x1)] [] := by
  unfold P_X7_customerOf at h
  refine r_aload_n C.1 0 1 rfl dX7_customerOf_0 rfl ?_
  refine r_iload_n C.1 1 2 rfl dX7_customerOf_1 rfl ?_
  refine r_iconst C.1 1 rfl 3 rfl dX7_customerOf_2 ?_
  obtain ⟨y8, κ9, e7, h⟩ := bd2_some h
  refine r_cVi C.1 (st := []) (c_X7_tellsOf ha0 e7) yv_X7_tellsOf ml_X7_184 rfl ha0 rfl ⟨Nat.le_of_ble_eq_true rfl, Nat.le_of_ble_eq_true rfl⟩ ⟨Nat.le_of_ble_eq_true rfl, Nat.le_of_ble_eq_true rfl⟩ (Nat.le_of_ble_eq_true rfl) rfl 0 0 rfl rfl 6 rfl dX7_customerOf_3 ?_
  cases h
  exact r_zret C rfl rfl (Nat.le_of_ble_eq_true rfl) (Nat.le_of_ble_eq_true rfl) dX7_customerOf_6 hq
theorem c_X7_customerOf {l : Launch} {G : jG} {sh : jSh} {κ : jKt} {a0 : Nat} (ha0 : sh a0 = (1, 11, 22)) {x1 : Int32} {r : Int32} {κr : jKt} (h : P_X7_customerOf κ a0 x1 = some (r, κr)) : jM l G yX7_customerOf cX7_customerOf 2 (some .int) 3 0 0 65 [.ref a0, .int x1] (sh, κ) (jIs (some (.int r)) (sh, κr)) jNo :=
  r_body (by decide) (Nat.le_of_ble_eq_true rfl) fun F C hl hG hs ho hx => by
    subst hs
    exact w_X7_customerOf_0 C ha0 (by rw [ho]; exact ⟨rfl, rfl⟩) h
set_option maxRecDepth 20000 in
theorem w_X7_clothOf_0 {F : jFm} (C : jB F RX7 cX7_clothOf 2 (some .int) 3 0 0 65) {κ : jKt} {a0 : Nat} (ha0 : jSof F a0 = (1, 11, 22)) {x1 : Int32} {r : Int32 × jKt} (hq : jOut F (some (.int r.1)) r.2) (h : P_X7_clothOf κ a0 x1 = some r) : jW F 2 0 0 κ 0 [(0, .ref a0), (1, .int x1)] [] := by
  unfold P_X7_clothOf at h
  refine r_aload_n C.1 0 1 rfl dX7_clothOf_0 rfl ?_
  refine r_iload_n C.1 1 2 rfl dX7_clothOf_1 rfl ?_
  refine r_iconst C.1 2 rfl 3 rfl dX7_clothOf_2 ?_
  obtain ⟨y8, κ9, e7, h⟩ := bd2_some h
  refine r_cVi C.1 (st := []) (c_X7_tellsOf ha0 e7) yv_X7_tellsOf ml_X7_184 rfl ha0 rfl ⟨Nat.le_of_ble_eq_true rfl, Nat.le_of_ble_eq_true rfl⟩ ⟨Nat.le_of_ble_eq_true rfl, Nat.le_of_ble_eq_true rfl⟩ (Nat.le_of_ble_eq_true rfl) rfl 0 0 rfl rfl 6 rfl dX7_clothOf_3 ?_
  cases h
  exact r_zret C rfl rfl (Nat.le_of_ble_eq_true rfl) (Nat.le_of_ble_eq_true rfl) dX7_clothOf_6 hq
theorem c_X7_clothOf {l : Launch} {G : jG} {sh : jSh} {κ : jKt} {a0 : Nat} (ha0 : sh a0 = (1, 11, 22)) {x1 : Int32} {r : Int32} {κr : jKt} (h : P_X7_clothOf κ a0 x1 = some (r, κr)) : jM l G yX7_clothOf cX7_clothOf 2 (some .int) 3 0 0 65 [.ref a0, .int x1] (sh, κ) (jIs (some (.int r)) (sh, κr)) jNo :=
  r_body (by decide) (Nat.le_of_ble_eq_true rfl) fun F C hl hG hs ho hx => by
    subst hs
    exact w_X7_clothOf_0 C ha0 (by rw [ho]; exact ⟨rfl, rfl⟩) h
set_option maxRecDepth 20000 in
theorem w_X7_looks_0 {F : jFm} (C : jB F RX7 cX7_looks 3 (some .int) 4 0 0 84) {κ : jKt} {a0 : Nat} (ha0 : jSof F a0 = (1, 11, 22)) {x1 : Int32} {x2 : Int32} {r : Int32 × jKt} (hq : jOut F (some (.int r.1)) r.2) (h : P_X7_looks κ a0 x1 x2 = some r) : jW F 3 0 0 κ 0 [(0, .ref a0), (1, .int x1), (2, .int x2)] [] := by
  unfold P_X7_looks at h
  refine r_aload_n C.1 0 1 rfl dX7_looks_0 rfl ?_
  refine r_aload_n C.1 0 2 rfl dX7_looks_1 rfl ?_
  refine r_iload_n C.1 1 3 rfl dX7_looks_2 rfl ?_
  obtain ⟨y30, e29, h⟩ := bd_some h
  refine r_cVi C.1 (st := [.ref a0]) (c_X7_find ha0 e29) yv_X7_find ml_X7_123 rfl ha0 rfl ⟨Nat.le_of_ble_eq_true rfl, Nat.le_of_ble_eq_true rfl⟩ ⟨Nat.le_of_ble_eq_true rfl, Nat.le_of_ble_eq_true rfl⟩ (Nat.le_of_ble_eq_true rfl) rfl 0 0 rfl rfl 6 rfl dX7_looks_3 ?_
  refine r_if_ge C.1 13 9 rfl dX7_looks_6 rfl ⟨fun c31 => ?_, fun c31 => ?_⟩
  · have h := if_some_t c31 h
    refine r_aload_n C.1 0 14 rfl dX7_looks_13 rfl ?_
    refine r_aload_n C.1 0 15 rfl dX7_looks_14 rfl ?_
    refine r_iload_n C.1 1 16 rfl dX7_looks_15 rfl ?_
    obtain ⟨y33, e32, h⟩ := bd_some h
    refine r_cVi C.1 (st := [.ref a0, .ref a0]) (c_X7_find ha0 e32) yv_X7_find ml_X7_123 rfl ha0 rfl ⟨Nat.le_of_ble_eq_true rfl, Nat.le_of_ble_eq_true rfl⟩ ⟨Nat.le_of_ble_eq_true rfl, Nat.le_of_ble_eq_true rfl⟩ (Nat.le_of_ble_eq_true rfl) rfl 0 0 rfl rfl 19 rfl dX7_looks_16 ?_
    refine r_iload_n C.1 2 20 rfl dX7_looks_19 rfl ?_
    obtain ⟨y35, e34, h⟩ := bd_some h
    refine r_cVi C.1 (st := [.ref a0]) (c_X7_isSleeve ha0 e34) yv_X7_isSleeve ml_X7_117 rfl ha0 rfl ⟨Nat.le_of_ble_eq_true rfl, Nat.le_of_ble_eq_true rfl⟩ ⟨Nat.le_of_ble_eq_true rfl, Nat.le_of_ble_eq_true rfl⟩ (Nat.le_of_ble_eq_true rfl) rfl 0 0 rfl rfl 23 rfl dX7_looks_20 ?_
    refine r_if_eq C.1 30 26 rfl dX7_looks_23 rfl ⟨fun c36 => ?_, fun c36 => ?_⟩
    · have h := if_some_t c36 h
      refine r_iconst C.1 2 rfl 31 rfl dX7_looks_30 ?_
      obtain ⟨κ37, e38, h⟩ := bnd_some h
      refine r_putI C.1 0 fw_X7_50 rfl rfl rfl ha0 e38 34 rfl dX7_looks_31 ?_
      refine r_aload_n C.1 0 35 rfl dX7_looks_34 rfl ?_
      refine r_getI C.1 0 fl_X7_50 rfl ha0 38 rfl dX7_looks_35 ?_
      cases h
      exact r_zret C rfl rfl (Nat.le_of_ble_eq_true rfl) (Nat.le_of_ble_eq_true rfl) dX7_looks_38 hq
    · have h := if_some_f c36 h
      refine r_iconst C.1 0 rfl 27 rfl dX7_looks_26 ?_
      refine r_goto C.1 31 dX7_looks_27 rfl ?_
      obtain ⟨κ39, e40, h⟩ := bnd_some h
      refine r_putI C.1 0 fw_X7_50 rfl rfl rfl ha0 e40 34 rfl dX7_looks_31 ?_
      refine r_aload_n C.1 0 35 rfl dX7_looks_34 rfl ?_
      refine r_getI C.1 0 fl_X7_50 rfl ha0 38 rfl dX7_looks_35 ?_
      cases h
      exact r_zret C rfl rfl (Nat.le_of_ble_eq_true rfl) (Nat.le_of_ble_eq_true rfl) dX7_looks_38 hq
  · have h := if_some_f c31 h
    refine r_iconst C.1 1 rfl 10 rfl dX7_looks_9 ?_
    refine r_goto C.1 31 dX7_looks_10 rfl ?_
    obtain ⟨κ41, e42, h⟩ := bnd_some h
    refine r_putI C.1 0 fw_X7_50 rfl rfl rfl ha0 e42 34 rfl dX7_looks_31 ?_
    refine r_aload_n C.1 0 35 rfl dX7_looks_34 rfl ?_
    refine r_getI C.1 0 fl_X7_50 rfl ha0 38 rfl dX7_looks_35 ?_
    cases h
    exact r_zret C rfl rfl (Nat.le_of_ble_eq_true rfl) (Nat.le_of_ble_eq_true rfl) dX7_looks_38 hq
theorem c_X7_looks {l : Launch} {G : jG} {sh : jSh} {κ : jKt} {a0 : Nat} (ha0 : sh a0 = (1, 11, 22)) {x1 : Int32} {x2 : Int32} {r : Int32} {κr : jKt} (h : P_X7_looks κ a0 x1 x2 = some (r, κr)) : jM l G yX7_looks cX7_looks 3 (some .int) 4 0 0 84 [.ref a0, .int x1, .int x2] (sh, κ) (jIs (some (.int r)) (sh, κr)) jNo :=
  r_body (by decide) (Nat.le_of_ble_eq_true rfl) fun F C hl hG hs ho hx => by
    subst hs
    exact w_X7_looks_0 C ha0 (by rw [ho]; exact ⟨rfl, rfl⟩) h
set_option maxRecDepth 20000 in
theorem w_X7_sleeveState_0 {F : jFm} (C : jB F RX7 cX7_sleeveState 4 (some .char) 5 0 0 106) {κ : jKt} {a0 : Nat} (ha0 : jSof F a0 = (1, 11, 22)) {x1 : Int32} {x2 : Int32} {r : Int32 × jKt} (hq : jOut F (some (.int r.1)) r.2) (h : P_X7_sleeveState κ a0 x1 x2 = some r) : jW F 4 0 0 κ 0 [(0, .ref a0), (1, .int x1), (2, .int x2)] [] := by
  unfold P_X7_sleeveState at h
  refine r_aload_n C.1 0 1 rfl dX7_sleeveState_0 rfl ?_
  refine r_iload_n C.1 1 2 rfl dX7_sleeveState_1 rfl ?_
  refine r_iload_n C.1 2 3 rfl dX7_sleeveState_2 rfl ?_
  obtain ⟨y30, κ31, e29, h⟩ := bd2_some h
  refine r_cVi C.1 (st := []) (c_X7_looks ha0 e29) yv_X7_looks ml_X7_187 rfl ha0 rfl ⟨Nat.le_of_ble_eq_true rfl, Nat.le_of_ble_eq_true rfl⟩ ⟨Nat.le_of_ble_eq_true rfl, Nat.le_of_ble_eq_true rfl⟩ (Nat.le_of_ble_eq_true rfl) rfl 0 0 rfl rfl 6 rfl dX7_sleeveState_3 ?_
  refine r_if_eq C.1 12 9 rfl dX7_sleeveState_6 rfl ⟨fun c32 => ?_, fun c32 => ?_⟩
  · have h := if_some_t c32 h
    refine r_aload_n C.1 0 13 rfl dX7_sleeveState_12 rfl ?_
    refine r_aload_n C.1 0 14 rfl dX7_sleeveState_13 rfl ?_
    refine r_iload_n C.1 1 15 rfl dX7_sleeveState_14 rfl ?_
    obtain ⟨y34, e33, h⟩ := bd_some h
    refine r_cVi C.1 (st := [.ref a0]) (c_X7_find ha0 e33) yv_X7_find ml_X7_123 rfl ha0 rfl ⟨Nat.le_of_ble_eq_true rfl, Nat.le_of_ble_eq_true rfl⟩ ⟨Nat.le_of_ble_eq_true rfl, Nat.le_of_ble_eq_true rfl⟩ (Nat.le_of_ble_eq_true rfl) rfl 0 0 rfl rfl 18 rfl dX7_sleeveState_15 ?_
    refine r_iload_n C.1 2 19 rfl dX7_sleeveState_18 rfl ?_
    obtain ⟨y36, e35, h⟩ := bd_some h
    refine r_cVi C.1 (st := []) (c_X7_state ha0 e35) yv_X7_state ml_X7_85 rfl ha0 rfl ⟨Nat.le_of_ble_eq_true rfl, Nat.le_of_ble_eq_true rfl⟩ ⟨Nat.le_of_ble_eq_true rfl, Nat.le_of_ble_eq_true rfl⟩ (Nat.le_of_ble_eq_true rfl) rfl 0 0 rfl rfl 22 rfl dX7_sleeveState_19 ?_
    refine r_istore_n C.1 (lv' := [(0, .ref a0), (1, .int x1), (2, .int x2), (3, .int y36)]) [1, 2, 3, 0] 23 rfl dX7_sleeveState_22 (Nat.le_of_ble_eq_true rfl) rfl ?_
    refine r_iload_n C.1 3 24 rfl dX7_sleeveState_23 rfl ?_
    refine r_if_ne C.1 32 27 rfl dX7_sleeveState_24 rfl ⟨fun c37 => ?_, fun c37 => ?_⟩
    · have h := if_some_f c37 h
      refine r_iload_n C.1 3 33 rfl dX7_sleeveState_32 rfl ?_
      refine r_iconst C.1 1 rfl 34 rfl dX7_sleeveState_33 ?_
      refine r_icmp_ne C.1 42 37 rfl dX7_sleeveState_34 rfl ⟨fun c38 => ?_, fun c38 => ?_⟩
      · have h := if_some_f c38 h
        refine r_bipush C.1 115 rfl 44 rfl dX7_sleeveState_42 ?_
        obtain ⟨z39, h⟩ := ck_some h
        cases h
        exact r_zret C rfl (jch_narrow z39) (Nat.le_of_ble_eq_true rfl) (Nat.le_of_ble_eq_true rfl) dX7_sleeveState_44 hq
      · have h := if_some_t c38 h
        refine r_bipush C.1 99 rfl 39 rfl dX7_sleeveState_37 ?_
        refine r_goto C.1 44 dX7_sleeveState_39 rfl ?_
        obtain ⟨z40, h⟩ := ck_some h
        cases h
        exact r_zret C rfl (jch_narrow z40) (Nat.le_of_ble_eq_true rfl) (Nat.le_of_ble_eq_true rfl) dX7_sleeveState_44 hq
    · have h := if_some_t c37 h
      refine r_bipush C.1 112 rfl 29 rfl dX7_sleeveState_27 ?_
      refine r_goto C.1 44 dX7_sleeveState_29 rfl ?_
      obtain ⟨z41, h⟩ := ck_some h
      cases h
      exact r_zret C rfl (jch_narrow z41) (Nat.le_of_ble_eq_true rfl) (Nat.le_of_ble_eq_true rfl) dX7_sleeveState_44 hq
  · have h := if_some_f c32 h
    refine r_bipush C.1 97 rfl 11 rfl dX7_sleeveState_9 ?_
    obtain ⟨z42, h⟩ := ck_some h
    cases h
    exact r_zret C rfl (jch_narrow z42) (Nat.le_of_ble_eq_true rfl) (Nat.le_of_ble_eq_true rfl) dX7_sleeveState_11 hq
theorem c_X7_sleeveState {l : Launch} {G : jG} {sh : jSh} {κ : jKt} {a0 : Nat} (ha0 : sh a0 = (1, 11, 22)) {x1 : Int32} {x2 : Int32} {r : Int32} {κr : jKt} (h : P_X7_sleeveState κ a0 x1 x2 = some (r, κr)) : jM l G yX7_sleeveState cX7_sleeveState 4 (some .char) 5 0 0 106 [.ref a0, .int x1, .int x2] (sh, κ) (jIs (some (.int r)) (sh, κr)) jNo :=
  r_body (by decide) (Nat.le_of_ble_eq_true rfl) fun F C hl hG hs ho hx => by
    subst hs
    exact w_X7_sleeveState_0 C ha0 (by rw [ho]; exact ⟨rfl, rfl⟩) h
set_option maxRecDepth 20000 in
theorem w_X7_looksCut_0 {F : jFm} (C : jB F RX7 cX7_looksCut 3 (some .int) 5 0 0 106) {κ : jKt} {a0 : Nat} (ha0 : jSof F a0 = (1, 11, 22)) {x1 : Int32} {x2 : Int32} {r : Int32 × jKt} (hq : jOut F (some (.int r.1)) r.2) (h : P_X7_looksCut κ a0 x1 x2 = some r) : jW F 3 0 0 κ 0 [(0, .ref a0), (1, .int x1), (2, .int x2)] [] := by
  unfold P_X7_looksCut at h
  refine r_aload_n C.1 0 1 rfl dX7_looksCut_0 rfl ?_
  refine r_iload_n C.1 1 2 rfl dX7_looksCut_1 rfl ?_
  refine r_iload_n C.1 2 3 rfl dX7_looksCut_2 rfl ?_
  obtain ⟨y28, κ29, e27, h⟩ := bd2_some h
  refine r_cVi C.1 (st := []) (c_X7_looks ha0 e27) yv_X7_looks ml_X7_187 rfl ha0 rfl ⟨Nat.le_of_ble_eq_true rfl, Nat.le_of_ble_eq_true rfl⟩ ⟨Nat.le_of_ble_eq_true rfl, Nat.le_of_ble_eq_true rfl⟩ (Nat.le_of_ble_eq_true rfl) rfl 0 0 rfl rfl 6 rfl dX7_looksCut_3 ?_
  refine r_if_ne C.1 31 9 rfl dX7_looksCut_6 rfl ⟨fun c30 => ?_, fun c30 => ?_⟩
  · have h := if_some_f c30 h
    refine r_aload_n C.1 0 32 rfl dX7_looksCut_31 rfl ?_
    refine r_getI C.1 0 fl_X7_50 rfl ha0 35 rfl dX7_looksCut_32 ?_
    cases h
    exact r_zret C rfl rfl (Nat.le_of_ble_eq_true rfl) (Nat.le_of_ble_eq_true rfl) dX7_looksCut_35 hq
  · have h := if_some_t c30 h
    refine r_aload_n C.1 0 10 rfl dX7_looksCut_9 rfl ?_
    refine r_aload_n C.1 0 11 rfl dX7_looksCut_10 rfl ?_
    refine r_aload_n C.1 0 12 rfl dX7_looksCut_11 rfl ?_
    refine r_iload_n C.1 1 13 rfl dX7_looksCut_12 rfl ?_
    obtain ⟨y32, e31, h⟩ := bd_some h
    refine r_cVi C.1 (st := [.ref a0, .ref a0]) (c_X7_find ha0 e31) yv_X7_find ml_X7_123 rfl ha0 rfl ⟨Nat.le_of_ble_eq_true rfl, Nat.le_of_ble_eq_true rfl⟩ ⟨Nat.le_of_ble_eq_true rfl, Nat.le_of_ble_eq_true rfl⟩ (Nat.le_of_ble_eq_true rfl) rfl 0 0 rfl rfl 16 rfl dX7_looksCut_13 ?_
    refine r_iload_n C.1 2 17 rfl dX7_looksCut_16 rfl ?_
    obtain ⟨y34, e33, h⟩ := bd_some h
    refine r_cVi C.1 (st := [.ref a0]) (c_X7_state ha0 e33) yv_X7_state ml_X7_85 rfl ha0 rfl ⟨Nat.le_of_ble_eq_true rfl, Nat.le_of_ble_eq_true rfl⟩ ⟨Nat.le_of_ble_eq_true rfl, Nat.le_of_ble_eq_true rfl⟩ (Nat.le_of_ble_eq_true rfl) rfl 0 0 rfl rfl 20 rfl dX7_looksCut_17 ?_
    refine r_if_ne C.1 27 23 rfl dX7_looksCut_20 rfl ⟨fun c35 => ?_, fun c35 => ?_⟩
    · have h := if_some_f c35 h
      refine r_iconst C.1 0 rfl 28 rfl dX7_looksCut_27 ?_
      obtain ⟨κ36, e37, h⟩ := bnd_some h
      refine r_putI C.1 0 fw_X7_50 rfl rfl rfl ha0 e37 31 rfl dX7_looksCut_28 ?_
      refine r_aload_n C.1 0 32 rfl dX7_looksCut_31 rfl ?_
      refine r_getI C.1 0 fl_X7_50 rfl ha0 35 rfl dX7_looksCut_32 ?_
      cases h
      exact r_zret C rfl rfl (Nat.le_of_ble_eq_true rfl) (Nat.le_of_ble_eq_true rfl) dX7_looksCut_35 hq
    · have h := if_some_t c35 h
      refine r_iconst C.1 3 rfl 24 rfl dX7_looksCut_23 ?_
      refine r_goto C.1 28 dX7_looksCut_24 rfl ?_
      obtain ⟨κ38, e39, h⟩ := bnd_some h
      refine r_putI C.1 0 fw_X7_50 rfl rfl rfl ha0 e39 31 rfl dX7_looksCut_28 ?_
      refine r_aload_n C.1 0 32 rfl dX7_looksCut_31 rfl ?_
      refine r_getI C.1 0 fl_X7_50 rfl ha0 35 rfl dX7_looksCut_32 ?_
      cases h
      exact r_zret C rfl rfl (Nat.le_of_ble_eq_true rfl) (Nat.le_of_ble_eq_true rfl) dX7_looksCut_35 hq
theorem c_X7_looksCut {l : Launch} {G : jG} {sh : jSh} {κ : jKt} {a0 : Nat} (ha0 : sh a0 = (1, 11, 22)) {x1 : Int32} {x2 : Int32} {r : Int32} {κr : jKt} (h : P_X7_looksCut κ a0 x1 x2 = some (r, κr)) : jM l G yX7_looksCut cX7_looksCut 3 (some .int) 5 0 0 106 [.ref a0, .int x1, .int x2] (sh, κ) (jIs (some (.int r)) (sh, κr)) jNo :=
  r_body (by decide) (Nat.le_of_ble_eq_true rfl) fun F C hl hG hs ho hx => by
    subst hs
    exact w_X7_looksCut_0 C ha0 (by rw [ho]; exact ⟨rfl, rfl⟩) h
set_option maxRecDepth 20000 in
theorem w_X7_sleeveLength_0 {F : jFm} (C : jB F RX7 cX7_sleeveLength 3 (some .int) 6 0 0 128) {κ : jKt} {a0 : Nat} (ha0 : jSof F a0 = (1, 11, 22)) {x1 : Int32} {x2 : Int32} {r : Int32 × jKt} (hq : jOut F (some (.int r.1)) r.2) (h : P_X7_sleeveLength κ a0 x1 x2 = some r) : jW F 3 0 0 κ 0 [(0, .ref a0), (1, .int x1), (2, .int x2)] [] := by
  unfold P_X7_sleeveLength at h
  refine r_aload_n C.1 0 1 rfl dX7_sleeveLength_0 rfl ?_
  refine r_iload_n C.1 1 2 rfl dX7_sleeveLength_1 rfl ?_
  refine r_iload_n C.1 2 3 rfl dX7_sleeveLength_2 rfl ?_
  obtain ⟨y18, κ19, e17, h⟩ := bd2_some h
  refine r_cVi C.1 (st := []) (c_X7_looksCut ha0 e17) yv_X7_looksCut ml_X7_190 rfl ha0 rfl ⟨Nat.le_of_ble_eq_true rfl, Nat.le_of_ble_eq_true rfl⟩ ⟨Nat.le_of_ble_eq_true rfl, Nat.le_of_ble_eq_true rfl⟩ (Nat.le_of_ble_eq_true rfl) rfl 0 0 rfl rfl 6 rfl dX7_sleeveLength_3 ?_
  refine r_if_ne C.1 22 9 rfl dX7_sleeveLength_6 rfl ⟨fun c20 => ?_, fun c20 => ?_⟩
  · have h := if_some_f c20 h
    refine r_iconst C.1 0 rfl 23 rfl dX7_sleeveLength_22 ?_
    cases h
    exact r_zret C rfl rfl (Nat.le_of_ble_eq_true rfl) (Nat.le_of_ble_eq_true rfl) dX7_sleeveLength_23 hq
  · have h := if_some_t c20 h
    refine r_aload_n C.1 0 10 rfl dX7_sleeveLength_9 rfl ?_
    refine r_aload_n C.1 0 11 rfl dX7_sleeveLength_10 rfl ?_
    refine r_iload_n C.1 1 12 rfl dX7_sleeveLength_11 rfl ?_
    obtain ⟨y22, e21, h⟩ := bd_some h
    refine r_cVi C.1 (st := [.ref a0]) (c_X7_find ha0 e21) yv_X7_find ml_X7_123 rfl ha0 rfl ⟨Nat.le_of_ble_eq_true rfl, Nat.le_of_ble_eq_true rfl⟩ ⟨Nat.le_of_ble_eq_true rfl, Nat.le_of_ble_eq_true rfl⟩ (Nat.le_of_ble_eq_true rfl) rfl 0 0 rfl rfl 15 rfl dX7_sleeveLength_12 ?_
    refine r_iload_n C.1 2 16 rfl dX7_sleeveLength_15 rfl ?_
    obtain ⟨y24, e23, h⟩ := bd_some h
    refine r_cVi C.1 (st := []) (c_X7_own ha0 e23) yv_X7_own ml_X7_141 rfl ha0 rfl ⟨Nat.le_of_ble_eq_true rfl, Nat.le_of_ble_eq_true rfl⟩ ⟨Nat.le_of_ble_eq_true rfl, Nat.le_of_ble_eq_true rfl⟩ (Nat.le_of_ble_eq_true rfl) rfl 0 0 rfl rfl 19 rfl dX7_sleeveLength_16 ?_
    refine r_goto C.1 23 dX7_sleeveLength_19 rfl ?_
    cases h
    exact r_zret C rfl rfl (Nat.le_of_ble_eq_true rfl) (Nat.le_of_ble_eq_true rfl) dX7_sleeveLength_23 hq
theorem c_X7_sleeveLength {l : Launch} {G : jG} {sh : jSh} {κ : jKt} {a0 : Nat} (ha0 : sh a0 = (1, 11, 22)) {x1 : Int32} {x2 : Int32} {r : Int32} {κr : jKt} (h : P_X7_sleeveLength κ a0 x1 x2 = some (r, κr)) : jM l G yX7_sleeveLength cX7_sleeveLength 3 (some .int) 6 0 0 128 [.ref a0, .int x1, .int x2] (sh, κ) (jIs (some (.int r)) (sh, κr)) jNo :=
  r_body (by decide) (Nat.le_of_ble_eq_true rfl) fun F C hl hG hs ho hx => by
    subst hs
    exact w_X7_sleeveLength_0 C ha0 (by rw [ho]; exact ⟨rfl, rfl⟩) h
set_option maxRecDepth 20000 in
theorem w_X7_doesFit_0 {F : jFm} (C : jB F RX7 cX7_doesFit 3 (some .boolean) 6 0 0 128) {κ : jKt} {a0 : Nat} (ha0 : jSof F a0 = (1, 11, 22)) {x1 : Int32} {x2 : Int32} {r : Int32 × jKt} (hq : jOut F (some (.int r.1)) r.2) (h : P_X7_doesFit κ a0 x1 x2 = some r) : jW F 3 0 0 κ 0 [(0, .ref a0), (1, .int x1), (2, .int x2)] [] := by
  unfold P_X7_doesFit at h
  refine r_aload_n C.1 0 1 rfl dX7_doesFit_0 rfl ?_
  refine r_iload_n C.1 1 2 rfl dX7_doesFit_1 rfl ?_
  refine r_iload_n C.1 2 3 rfl dX7_doesFit_2 rfl ?_
  obtain ⟨y28, κ29, e27, h⟩ := bd2_some h
  refine r_cVi C.1 (st := []) (c_X7_looksCut ha0 e27) yv_X7_looksCut ml_X7_190 rfl ha0 rfl ⟨Nat.le_of_ble_eq_true rfl, Nat.le_of_ble_eq_true rfl⟩ ⟨Nat.le_of_ble_eq_true rfl, Nat.le_of_ble_eq_true rfl⟩ (Nat.le_of_ble_eq_true rfl) rfl 0 0 rfl rfl 6 rfl dX7_doesFit_3 ?_
  refine r_if_ne C.1 36 9 rfl dX7_doesFit_6 rfl ⟨fun c30 => ?_, fun c30 => ?_⟩
  · have h := if_some_f c30 h
    refine r_iconst C.1 0 rfl 37 rfl dX7_doesFit_36 ?_
    cases h
    exact r_zret C rfl rfl (Nat.le_of_ble_eq_true rfl) (Nat.le_of_ble_eq_true rfl) dX7_doesFit_37 hq
  · have h := if_some_t c30 h
    refine r_aload_n C.1 0 10 rfl dX7_doesFit_9 rfl ?_
    refine r_aload_n C.1 0 11 rfl dX7_doesFit_10 rfl ?_
    refine r_iload_n C.1 1 12 rfl dX7_doesFit_11 rfl ?_
    obtain ⟨y32, e31, h⟩ := bd_some h
    refine r_cVi C.1 (st := [.ref a0]) (c_X7_find ha0 e31) yv_X7_find ml_X7_123 rfl ha0 rfl ⟨Nat.le_of_ble_eq_true rfl, Nat.le_of_ble_eq_true rfl⟩ ⟨Nat.le_of_ble_eq_true rfl, Nat.le_of_ble_eq_true rfl⟩ (Nat.le_of_ble_eq_true rfl) rfl 0 0 rfl rfl 15 rfl dX7_doesFit_12 ?_
    refine r_iload_n C.1 2 16 rfl dX7_doesFit_15 rfl ?_
    obtain ⟨y34, e33, h⟩ := bd_some h
    refine r_cVi C.1 (st := []) (c_X7_own ha0 e33) yv_X7_own ml_X7_141 rfl ha0 rfl ⟨Nat.le_of_ble_eq_true rfl, Nat.le_of_ble_eq_true rfl⟩ ⟨Nat.le_of_ble_eq_true rfl, Nat.le_of_ble_eq_true rfl⟩ (Nat.le_of_ble_eq_true rfl) rfl 0 0 rfl rfl 19 rfl dX7_doesFit_16 ?_
    refine r_aload_n C.1 0 20 rfl dX7_doesFit_19 rfl ?_
    refine r_aload_n C.1 0 21 rfl dX7_doesFit_20 rfl ?_
    refine r_iload_n C.1 1 22 rfl dX7_doesFit_21 rfl ?_
    obtain ⟨y36, e35, h⟩ := bd_some h
    refine r_cVi C.1 (st := [.ref a0, .int y34]) (c_X7_find ha0 e35) yv_X7_find ml_X7_123 rfl ha0 rfl ⟨Nat.le_of_ble_eq_true rfl, Nat.le_of_ble_eq_true rfl⟩ ⟨Nat.le_of_ble_eq_true rfl, Nat.le_of_ble_eq_true rfl⟩ (Nat.le_of_ble_eq_true rfl) rfl 0 0 rfl rfl 25 rfl dX7_doesFit_22 ?_
    refine r_iload_n C.1 2 26 rfl dX7_doesFit_25 rfl ?_
    obtain ⟨y38, e37, h⟩ := bd_some h
    refine r_cVi C.1 (st := [.int y34]) (c_X7_wanted ha0 e37) yv_X7_wanted ml_X7_120 rfl ha0 rfl ⟨Nat.le_of_ble_eq_true rfl, Nat.le_of_ble_eq_true rfl⟩ ⟨Nat.le_of_ble_eq_true rfl, Nat.le_of_ble_eq_true rfl⟩ (Nat.le_of_ble_eq_true rfl) rfl 0 0 rfl rfl 29 rfl dX7_doesFit_26 ?_
    refine r_icmp_ne C.1 36 32 rfl dX7_doesFit_29 rfl ⟨fun c39 => ?_, fun c39 => ?_⟩
    · have h := if_some_f c39 h
      refine r_iconst C.1 0 rfl 37 rfl dX7_doesFit_36 ?_
      cases h
      exact r_zret C rfl rfl (Nat.le_of_ble_eq_true rfl) (Nat.le_of_ble_eq_true rfl) dX7_doesFit_37 hq
    · have h := if_some_t c39 h
      refine r_iconst C.1 1 rfl 33 rfl dX7_doesFit_32 ?_
      refine r_goto C.1 37 dX7_doesFit_33 rfl ?_
      cases h
      exact r_zret C rfl rfl (Nat.le_of_ble_eq_true rfl) (Nat.le_of_ble_eq_true rfl) dX7_doesFit_37 hq
theorem c_X7_doesFit {l : Launch} {G : jG} {sh : jSh} {κ : jKt} {a0 : Nat} (ha0 : sh a0 = (1, 11, 22)) {x1 : Int32} {x2 : Int32} {r : Int32} {κr : jKt} (h : P_X7_doesFit κ a0 x1 x2 = some (r, κr)) : jM l G yX7_doesFit cX7_doesFit 3 (some .boolean) 6 0 0 128 [.ref a0, .int x1, .int x2] (sh, κ) (jIs (some (.int r)) (sh, κr)) jNo :=
  r_body (by decide) (Nat.le_of_ble_eq_true rfl) fun F C hl hG hs ho hx => by
    subst hs
    exact w_X7_doesFit_0 C ha0 (by rw [ho]; exact ⟨rfl, rfl⟩) h
set_option maxRecDepth 20000 in
theorem w_X7_sewnSleeves_14 {F : jFm} (C : jB F RX7 cX7_sewnSleeves 2 (some .int) 4 0 0 86) {κ : jKt} {a0 : Nat} (ha0 : jSof F a0 = (1, 11, 22)) {v1 : Int32} {s0 : Int32} {a1 : Nat} (ha1 : jSof F a1 = (1, 11, 22)) {r : Int32 × jKt} (hq : jOut F (some (.int r.1)) r.2) (h : P_X7_sewnSleeves_14 κ a0 v1 s0 a1 = some r) : jW F 2 0 0 κ 14 [(0, .ref a0), (1, .int v1)] [.int s0, .ref a1] := by
  unfold P_X7_sewnSleeves_14 at h
  obtain ⟨κ21, e22, h⟩ := bnd_some h
  refine r_putI C.1 0 fw_X7_50 rfl rfl rfl ha1 e22 17 rfl dX7_sewnSleeves_14 ?_
  refine r_aload_n C.1 0 18 rfl dX7_sewnSleeves_17 rfl ?_
  refine r_getI C.1 0 fl_X7_50 rfl ha0 21 rfl dX7_sewnSleeves_18 ?_
  refine r_if_ne C.1 37 24 rfl dX7_sewnSleeves_21 rfl ⟨fun c23 => ?_, fun c23 => ?_⟩
  · have h := if_some_f c23 h
    refine r_iconst C.1 0 rfl 38 rfl dX7_sewnSleeves_37 ?_
    cases h
    exact r_zret C rfl rfl (Nat.le_of_ble_eq_true rfl) (Nat.le_of_ble_eq_true rfl) dX7_sewnSleeves_38 hq
  · have h := if_some_t c23 h
    refine r_aload_n C.1 0 25 rfl dX7_sewnSleeves_24 rfl ?_
    refine r_aload_n C.1 0 26 rfl dX7_sewnSleeves_25 rfl ?_
    refine r_iload_n C.1 1 27 rfl dX7_sewnSleeves_26 rfl ?_
    obtain ⟨y25, e24, h⟩ := bd_some h
    refine r_cVi C.1 (st := [.ref a0]) (c_X7_find ha0 e24) yv_X7_find ml_X7_123 rfl ha0 rfl ⟨Nat.le_of_ble_eq_true rfl, Nat.le_of_ble_eq_true rfl⟩ ⟨Nat.le_of_ble_eq_true rfl, Nat.le_of_ble_eq_true rfl⟩ (Nat.le_of_ble_eq_true rfl) rfl 0 0 rfl rfl 30 rfl dX7_sewnSleeves_27 ?_
    refine r_iconst C.1 2 rfl 31 rfl dX7_sewnSleeves_30 ?_
    obtain ⟨y27, e26, h⟩ := bd_some h
    refine r_cVi C.1 (st := []) (c_X7_count ha0 e26) yv_X7_count ml_X7_135 rfl ha0 rfl ⟨Nat.le_of_ble_eq_true rfl, Nat.le_of_ble_eq_true rfl⟩ ⟨Nat.le_of_ble_eq_true rfl, Nat.le_of_ble_eq_true rfl⟩ (Nat.le_of_ble_eq_true rfl) rfl 0 0 rfl rfl 34 rfl dX7_sewnSleeves_31 ?_
    refine r_goto C.1 38 dX7_sewnSleeves_34 rfl ?_
    cases h
    exact r_zret C rfl rfl (Nat.le_of_ble_eq_true rfl) (Nat.le_of_ble_eq_true rfl) dX7_sewnSleeves_38 hq
set_option maxRecDepth 20000 in
theorem w_X7_sewnSleeves_0 {F : jFm} (C : jB F RX7 cX7_sewnSleeves 2 (some .int) 4 0 0 86) {κ : jKt} {a0 : Nat} (ha0 : jSof F a0 = (1, 11, 22)) {x1 : Int32} {r : Int32 × jKt} (hq : jOut F (some (.int r.1)) r.2) (h : P_X7_sewnSleeves κ a0 x1 = some r) : jW F 2 0 0 κ 0 [(0, .ref a0), (1, .int x1)] [] := by
  unfold P_X7_sewnSleeves at h
  refine r_aload_n C.1 0 1 rfl dX7_sewnSleeves_0 rfl ?_
  refine r_aload_n C.1 0 2 rfl dX7_sewnSleeves_1 rfl ?_
  refine r_iload_n C.1 1 3 rfl dX7_sewnSleeves_2 rfl ?_
  obtain ⟨y29, e28, h⟩ := bd_some h
  refine r_cVi C.1 (st := [.ref a0]) (c_X7_find ha0 e28) yv_X7_find ml_X7_123 rfl ha0 rfl ⟨Nat.le_of_ble_eq_true rfl, Nat.le_of_ble_eq_true rfl⟩ ⟨Nat.le_of_ble_eq_true rfl, Nat.le_of_ble_eq_true rfl⟩ (Nat.le_of_ble_eq_true rfl) rfl 0 0 rfl rfl 6 rfl dX7_sewnSleeves_3 ?_
  refine r_if_ge C.1 13 9 rfl dX7_sewnSleeves_6 rfl ⟨fun c30 => ?_, fun c30 => ?_⟩
  · have h := if_some_t c30 h
    refine r_iconst C.1 0 rfl 14 rfl dX7_sewnSleeves_13 ?_
    exact w_X7_sewnSleeves_14 C ha0 ha0 hq h
  · have h := if_some_f c30 h
    refine r_iconst C.1 1 rfl 10 rfl dX7_sewnSleeves_9 ?_
    refine r_goto C.1 14 dX7_sewnSleeves_10 rfl ?_
    exact w_X7_sewnSleeves_14 C ha0 ha0 hq h
theorem c_X7_sewnSleeves {l : Launch} {G : jG} {sh : jSh} {κ : jKt} {a0 : Nat} (ha0 : sh a0 = (1, 11, 22)) {x1 : Int32} {r : Int32} {κr : jKt} (h : P_X7_sewnSleeves κ a0 x1 = some (r, κr)) : jM l G yX7_sewnSleeves cX7_sewnSleeves 2 (some .int) 4 0 0 86 [.ref a0, .int x1] (sh, κ) (jIs (some (.int r)) (sh, κr)) jNo :=
  r_body (by decide) (Nat.le_of_ble_eq_true rfl) fun F C hl hG hs ho hx => by
    subst hs
    exact w_X7_sewnSleeves_0 C ha0 (by rw [ho]; exact ⟨rfl, rfl⟩) h
set_option maxRecDepth 20000 in
theorem w_X7_demandCount_0 {F : jFm} (C : jB F RX7 cX7_demandCount 2 (some .int) 3 0 0 65) {κ : jKt} {a0 : Nat} (ha0 : jSof F a0 = (1, 11, 22)) {x1 : Int32} {r : Int32 × jKt} (hq : jOut F (some (.int r.1)) r.2) (h : P_X7_demandCount κ a0 x1 = some r) : jW F 2 0 0 κ 0 [(0, .ref a0), (1, .int x1)] [] := by
  unfold P_X7_demandCount at h
  refine r_aload_n C.1 0 1 rfl dX7_demandCount_0 rfl ?_
  refine r_iload_n C.1 1 2 rfl dX7_demandCount_1 rfl ?_
  refine r_iconst C.1 3 rfl 3 rfl dX7_demandCount_2 ?_
  obtain ⟨y8, κ9, e7, h⟩ := bd2_some h
  refine r_cVi C.1 (st := []) (c_X7_tellsOf ha0 e7) yv_X7_tellsOf ml_X7_184 rfl ha0 rfl ⟨Nat.le_of_ble_eq_true rfl, Nat.le_of_ble_eq_true rfl⟩ ⟨Nat.le_of_ble_eq_true rfl, Nat.le_of_ble_eq_true rfl⟩ (Nat.le_of_ble_eq_true rfl) rfl 0 0 rfl rfl 6 rfl dX7_demandCount_3 ?_
  cases h
  exact r_zret C rfl rfl (Nat.le_of_ble_eq_true rfl) (Nat.le_of_ble_eq_true rfl) dX7_demandCount_6 hq
theorem c_X7_demandCount {l : Launch} {G : jG} {sh : jSh} {κ : jKt} {a0 : Nat} (ha0 : sh a0 = (1, 11, 22)) {x1 : Int32} {r : Int32} {κr : jKt} (h : P_X7_demandCount κ a0 x1 = some (r, κr)) : jM l G yX7_demandCount cX7_demandCount 2 (some .int) 3 0 0 65 [.ref a0, .int x1] (sh, κ) (jIs (some (.int r)) (sh, κr)) jNo :=
  r_body (by decide) (Nat.le_of_ble_eq_true rfl) fun F C hl hG hs ho hx => by
    subst hs
    exact w_X7_demandCount_0 C ha0 (by rw [ho]; exact ⟨rfl, rfl⟩) h
set_option maxRecDepth 20000 in
theorem w_X7_isBefore_0 {F : jFm} (C : jB F RX7 cX7_isBefore 4 (some .boolean) 5 0 0 106) {κ : jKt} {a0 : Nat} (ha0 : jSof F a0 = (1, 11, 22)) {x1 : Int32} {x2 : Int32} {x3 : Int32} {r : Int32 × jKt} (hq : jOut F (some (.int r.1)) r.2) (h : P_X7_isBefore κ a0 x1 x2 x3 = some r) : jW F 4 0 0 κ 0 [(0, .ref a0), (1, .int x1), (2, .int x2), (3, .int x3)] [] := by
  unfold P_X7_isBefore at h
  refine r_aload_n C.1 0 1 rfl dX7_isBefore_0 rfl ?_
  refine r_iload_n C.1 1 2 rfl dX7_isBefore_1 rfl ?_
  refine r_iload_n C.1 2 3 rfl dX7_isBefore_2 rfl ?_
  obtain ⟨y28, κ29, e27, h⟩ := bd2_some h
  refine r_cVi C.1 (st := []) (c_X7_looks ha0 e27) yv_X7_looks ml_X7_187 rfl ha0 rfl ⟨Nat.le_of_ble_eq_true rfl, Nat.le_of_ble_eq_true rfl⟩ ⟨Nat.le_of_ble_eq_true rfl, Nat.le_of_ble_eq_true rfl⟩ (Nat.le_of_ble_eq_true rfl) rfl 0 0 rfl rfl 6 rfl dX7_isBefore_3 ?_
  refine r_if_ne C.1 18 9 rfl dX7_isBefore_6 rfl ⟨fun c30 => ?_, fun c30 => ?_⟩
  · have h := if_some_f c30 h
    refine r_iconst C.1 0 rfl 19 rfl dX7_isBefore_18 ?_
    cases h
    exact r_zret C rfl rfl (Nat.le_of_ble_eq_true rfl) (Nat.le_of_ble_eq_true rfl) dX7_isBefore_19 hq
  · have h := if_some_t c30 h
    refine r_aload_n C.1 0 10 rfl dX7_isBefore_9 rfl ?_
    refine r_iload_n C.1 1 11 rfl dX7_isBefore_10 rfl ?_
    refine r_iload_n C.1 3 12 rfl dX7_isBefore_11 rfl ?_
    obtain ⟨y32, κ33, e31, h⟩ := bd2_some h
    refine r_cVi C.1 (st := []) (c_X7_looks ha0 e31) yv_X7_looks ml_X7_187 rfl ha0 rfl ⟨Nat.le_of_ble_eq_true rfl, Nat.le_of_ble_eq_true rfl⟩ ⟨Nat.le_of_ble_eq_true rfl, Nat.le_of_ble_eq_true rfl⟩ (Nat.le_of_ble_eq_true rfl) rfl 0 0 rfl rfl 15 rfl dX7_isBefore_12 ?_
    refine r_if_eq C.1 20 18 rfl dX7_isBefore_15 rfl ⟨fun c34 => ?_, fun c34 => ?_⟩
    · have h := if_some_t c34 h
      refine r_aload_n C.1 0 21 rfl dX7_isBefore_20 rfl ?_
      refine r_aload_n C.1 0 22 rfl dX7_isBefore_21 rfl ?_
      refine r_iload_n C.1 1 23 rfl dX7_isBefore_22 rfl ?_
      obtain ⟨y36, e35, h⟩ := bd_some h
      refine r_cVi C.1 (st := [.ref a0]) (c_X7_find ha0 e35) yv_X7_find ml_X7_123 rfl ha0 rfl ⟨Nat.le_of_ble_eq_true rfl, Nat.le_of_ble_eq_true rfl⟩ ⟨Nat.le_of_ble_eq_true rfl, Nat.le_of_ble_eq_true rfl⟩ (Nat.le_of_ble_eq_true rfl) rfl 0 0 rfl rfl 26 rfl dX7_isBefore_23 ?_
      refine r_iload_n C.1 2 27 rfl dX7_isBefore_26 rfl ?_
      obtain ⟨y38, e37, h⟩ := bd_some h
      refine r_cVi C.1 (st := []) (c_X7_behind ha0 e37) yv_X7_behind ml_X7_150 rfl ha0 rfl ⟨Nat.le_of_ble_eq_true rfl, Nat.le_of_ble_eq_true rfl⟩ ⟨Nat.le_of_ble_eq_true rfl, Nat.le_of_ble_eq_true rfl⟩ (Nat.le_of_ble_eq_true rfl) rfl 0 0 rfl rfl 30 rfl dX7_isBefore_27 ?_
      refine r_iload_n C.1 3 31 rfl dX7_isBefore_30 rfl ?_
      refine r_ishr C.1 32 rfl dX7_isBefore_31 ?_
      refine r_iconst C.1 1 rfl 33 rfl dX7_isBefore_32 ?_
      refine r_iand C.1 34 rfl dX7_isBefore_33 ?_
      refine r_iconst C.1 1 rfl 35 rfl dX7_isBefore_34 ?_
      refine r_icmp_ne C.1 42 38 rfl dX7_isBefore_35 rfl ⟨fun c39 => ?_, fun c39 => ?_⟩
      · have h := if_some_f c39 h
        refine r_iconst C.1 0 rfl 43 rfl dX7_isBefore_42 ?_
        cases h
        exact r_zret C rfl rfl (Nat.le_of_ble_eq_true rfl) (Nat.le_of_ble_eq_true rfl) dX7_isBefore_43 hq
      · have h := if_some_t c39 h
        refine r_iconst C.1 1 rfl 39 rfl dX7_isBefore_38 ?_
        refine r_goto C.1 43 dX7_isBefore_39 rfl ?_
        cases h
        exact r_zret C rfl rfl (Nat.le_of_ble_eq_true rfl) (Nat.le_of_ble_eq_true rfl) dX7_isBefore_43 hq
    · have h := if_some_f c34 h
      refine r_iconst C.1 0 rfl 19 rfl dX7_isBefore_18 ?_
      cases h
      exact r_zret C rfl rfl (Nat.le_of_ble_eq_true rfl) (Nat.le_of_ble_eq_true rfl) dX7_isBefore_19 hq
theorem c_X7_isBefore {l : Launch} {G : jG} {sh : jSh} {κ : jKt} {a0 : Nat} (ha0 : sh a0 = (1, 11, 22)) {x1 : Int32} {x2 : Int32} {x3 : Int32} {r : Int32} {κr : jKt} (h : P_X7_isBefore κ a0 x1 x2 x3 = some (r, κr)) : jM l G yX7_isBefore cX7_isBefore 4 (some .boolean) 5 0 0 106 [.ref a0, .int x1, .int x2, .int x3] (sh, κ) (jIs (some (.int r)) (sh, κr)) jNo :=
  r_body (by decide) (Nat.le_of_ble_eq_true rfl) fun F C hl hG hs ho hx => by
    subst hs
    exact w_X7_isBefore_0 C ha0 (by rw [ho]; exact ⟨rfl, rfl⟩) h
set_option maxRecDepth 20000 in
theorem w_X7_canDeliver_14 {F : jFm} (C : jB F RX7 cX7_canDeliver 2 (some .boolean) 4 0 0 86) {κ : jKt} {a0 : Nat} (ha0 : jSof F a0 = (1, 11, 22)) {v1 : Int32} {s0 : Int32} {a1 : Nat} (ha1 : jSof F a1 = (1, 11, 22)) {r : Int32 × jKt} (hq : jOut F (some (.int r.1)) r.2) (h : P_X7_canDeliver_14 κ a0 v1 s0 a1 = some r) : jW F 2 0 0 κ 14 [(0, .ref a0), (1, .int v1)] [.int s0, .ref a1] := by
  unfold P_X7_canDeliver_14 at h
  obtain ⟨κ23, e24, h⟩ := bnd_some h
  refine r_putI C.1 0 fw_X7_50 rfl rfl rfl ha1 e24 17 rfl dX7_canDeliver_14 ?_
  refine r_aload_n C.1 0 18 rfl dX7_canDeliver_17 rfl ?_
  refine r_getI C.1 0 fl_X7_50 rfl ha0 21 rfl dX7_canDeliver_18 ?_
  refine r_if_ne C.1 40 24 rfl dX7_canDeliver_21 rfl ⟨fun c25 => ?_, fun c25 => ?_⟩
  · have h := if_some_f c25 h
    refine r_iconst C.1 0 rfl 41 rfl dX7_canDeliver_40 ?_
    cases h
    exact r_zret C rfl rfl (Nat.le_of_ble_eq_true rfl) (Nat.le_of_ble_eq_true rfl) dX7_canDeliver_41 hq
  · have h := if_some_t c25 h
    refine r_aload_n C.1 0 25 rfl dX7_canDeliver_24 rfl ?_
    refine r_aload_n C.1 0 26 rfl dX7_canDeliver_25 rfl ?_
    refine r_iload_n C.1 1 27 rfl dX7_canDeliver_26 rfl ?_
    obtain ⟨y27, e26, h⟩ := bd_some h
    refine r_cVi C.1 (st := [.ref a0]) (c_X7_find ha0 e26) yv_X7_find ml_X7_123 rfl ha0 rfl ⟨Nat.le_of_ble_eq_true rfl, Nat.le_of_ble_eq_true rfl⟩ ⟨Nat.le_of_ble_eq_true rfl, Nat.le_of_ble_eq_true rfl⟩ (Nat.le_of_ble_eq_true rfl) rfl 0 0 rfl rfl 30 rfl dX7_canDeliver_27 ?_
    obtain ⟨y29, e28, h⟩ := bd_some h
    refine r_cVi C.1 (st := []) (c_X7_isDue ha0 e28) yv_X7_isDue ml_X7_159 rfl ha0 rfl ⟨Nat.le_of_ble_eq_true rfl, Nat.le_of_ble_eq_true rfl⟩ ⟨Nat.le_of_ble_eq_true rfl, Nat.le_of_ble_eq_true rfl⟩ (Nat.le_of_ble_eq_true rfl) rfl 0 0 rfl rfl 33 rfl dX7_canDeliver_30 ?_
    refine r_if_eq C.1 40 36 rfl dX7_canDeliver_33 rfl ⟨fun c30 => ?_, fun c30 => ?_⟩
    · have h := if_some_t c30 h
      refine r_iconst C.1 0 rfl 41 rfl dX7_canDeliver_40 ?_
      cases h
      exact r_zret C rfl rfl (Nat.le_of_ble_eq_true rfl) (Nat.le_of_ble_eq_true rfl) dX7_canDeliver_41 hq
    · have h := if_some_f c30 h
      refine r_iconst C.1 1 rfl 37 rfl dX7_canDeliver_36 ?_
      refine r_goto C.1 41 dX7_canDeliver_37 rfl ?_
      cases h
      exact r_zret C rfl rfl (Nat.le_of_ble_eq_true rfl) (Nat.le_of_ble_eq_true rfl) dX7_canDeliver_41 hq
set_option maxRecDepth 20000 in
theorem w_X7_canDeliver_0 {F : jFm} (C : jB F RX7 cX7_canDeliver 2 (some .boolean) 4 0 0 86) {κ : jKt} {a0 : Nat} (ha0 : jSof F a0 = (1, 11, 22)) {x1 : Int32} {r : Int32 × jKt} (hq : jOut F (some (.int r.1)) r.2) (h : P_X7_canDeliver κ a0 x1 = some r) : jW F 2 0 0 κ 0 [(0, .ref a0), (1, .int x1)] [] := by
  unfold P_X7_canDeliver at h
  refine r_aload_n C.1 0 1 rfl dX7_canDeliver_0 rfl ?_
  refine r_aload_n C.1 0 2 rfl dX7_canDeliver_1 rfl ?_
  refine r_iload_n C.1 1 3 rfl dX7_canDeliver_2 rfl ?_
  obtain ⟨y32, e31, h⟩ := bd_some h
  refine r_cVi C.1 (st := [.ref a0]) (c_X7_find ha0 e31) yv_X7_find ml_X7_123 rfl ha0 rfl ⟨Nat.le_of_ble_eq_true rfl, Nat.le_of_ble_eq_true rfl⟩ ⟨Nat.le_of_ble_eq_true rfl, Nat.le_of_ble_eq_true rfl⟩ (Nat.le_of_ble_eq_true rfl) rfl 0 0 rfl rfl 6 rfl dX7_canDeliver_3 ?_
  refine r_if_ge C.1 13 9 rfl dX7_canDeliver_6 rfl ⟨fun c33 => ?_, fun c33 => ?_⟩
  · have h := if_some_t c33 h
    refine r_iconst C.1 0 rfl 14 rfl dX7_canDeliver_13 ?_
    exact w_X7_canDeliver_14 C ha0 ha0 hq h
  · have h := if_some_f c33 h
    refine r_iconst C.1 1 rfl 10 rfl dX7_canDeliver_9 ?_
    refine r_goto C.1 14 dX7_canDeliver_10 rfl ?_
    exact w_X7_canDeliver_14 C ha0 ha0 hq h
theorem c_X7_canDeliver {l : Launch} {G : jG} {sh : jSh} {κ : jKt} {a0 : Nat} (ha0 : sh a0 = (1, 11, 22)) {x1 : Int32} {r : Int32} {κr : jKt} (h : P_X7_canDeliver κ a0 x1 = some (r, κr)) : jM l G yX7_canDeliver cX7_canDeliver 2 (some .boolean) 4 0 0 86 [.ref a0, .int x1] (sh, κ) (jIs (some (.int r)) (sh, κr)) jNo :=
  r_body (by decide) (Nat.le_of_ble_eq_true rfl) fun F C hl hG hs ho hx => by
    subst hs
    exact w_X7_canDeliver_0 C ha0 (by rw [ho]; exact ⟨rfl, rfl⟩) h
set_option maxRecDepth 20000 in
theorem w_X7_price_14 {F : jFm} (C : jB F RX7 cX7_price 2 (some .int) 4 0 0 87) {κ : jKt} {a0 : Nat} (ha0 : jSof F a0 = (1, 11, 22)) {v1 : Int32} {s0 : Int32} {a1 : Nat} (ha1 : jSof F a1 = (1, 11, 22)) {r : Int32 × jKt} (hq : jOut F (some (.int r.1)) r.2) (h : P_X7_price_14 κ a0 v1 s0 a1 = some r) : jW F 2 0 0 κ 14 [(0, .ref a0), (1, .int v1)] [.int s0, .ref a1] := by
  unfold P_X7_price_14 at h
  obtain ⟨κ21, e22, h⟩ := bnd_some h
  refine r_putI C.1 0 fw_X7_50 rfl rfl rfl ha1 e22 17 rfl dX7_price_14 ?_
  refine r_aload_n C.1 0 18 rfl dX7_price_17 rfl ?_
  refine r_getI C.1 0 fl_X7_50 rfl ha0 21 rfl dX7_price_18 ?_
  refine r_if_ne C.1 36 24 rfl dX7_price_21 rfl ⟨fun c23 => ?_, fun c23 => ?_⟩
  · have h := if_some_f c23 h
    refine r_iconst C.1 0 rfl 37 rfl dX7_price_36 ?_
    cases h
    exact r_zret C rfl rfl (Nat.le_of_ble_eq_true rfl) (Nat.le_of_ble_eq_true rfl) dX7_price_37 hq
  · have h := if_some_t c23 h
    refine r_aload_n C.1 0 25 rfl dX7_price_24 rfl ?_
    refine r_aload_n C.1 0 26 rfl dX7_price_25 rfl ?_
    refine r_iload_n C.1 1 27 rfl dX7_price_26 rfl ?_
    obtain ⟨y25, e24, h⟩ := bd_some h
    refine r_cVi C.1 (st := [.ref a0]) (c_X7_find ha0 e24) yv_X7_find ml_X7_123 rfl ha0 rfl ⟨Nat.le_of_ble_eq_true rfl, Nat.le_of_ble_eq_true rfl⟩ ⟨Nat.le_of_ble_eq_true rfl, Nat.le_of_ble_eq_true rfl⟩ (Nat.le_of_ble_eq_true rfl) rfl 0 0 rfl rfl 30 rfl dX7_price_27 ?_
    obtain ⟨y27, e26, h⟩ := bd_some h
    refine r_cVi C.1 (st := []) (c_X7_worth ha0 e26) yv_X7_worth ml_X7_162 rfl ha0 rfl ⟨Nat.le_of_ble_eq_true rfl, Nat.le_of_ble_eq_true rfl⟩ ⟨Nat.le_of_ble_eq_true rfl, Nat.le_of_ble_eq_true rfl⟩ (Nat.le_of_ble_eq_true rfl) rfl 0 0 rfl rfl 33 rfl dX7_price_30 ?_
    refine r_goto C.1 37 dX7_price_33 rfl ?_
    cases h
    exact r_zret C rfl rfl (Nat.le_of_ble_eq_true rfl) (Nat.le_of_ble_eq_true rfl) dX7_price_37 hq
set_option maxRecDepth 20000 in
theorem w_X7_price_0 {F : jFm} (C : jB F RX7 cX7_price 2 (some .int) 4 0 0 87) {κ : jKt} {a0 : Nat} (ha0 : jSof F a0 = (1, 11, 22)) {x1 : Int32} {r : Int32 × jKt} (hq : jOut F (some (.int r.1)) r.2) (h : P_X7_price κ a0 x1 = some r) : jW F 2 0 0 κ 0 [(0, .ref a0), (1, .int x1)] [] := by
  unfold P_X7_price at h
  refine r_aload_n C.1 0 1 rfl dX7_price_0 rfl ?_
  refine r_aload_n C.1 0 2 rfl dX7_price_1 rfl ?_
  refine r_iload_n C.1 1 3 rfl dX7_price_2 rfl ?_
  obtain ⟨y29, e28, h⟩ := bd_some h
  refine r_cVi C.1 (st := [.ref a0]) (c_X7_find ha0 e28) yv_X7_find ml_X7_123 rfl ha0 rfl ⟨Nat.le_of_ble_eq_true rfl, Nat.le_of_ble_eq_true rfl⟩ ⟨Nat.le_of_ble_eq_true rfl, Nat.le_of_ble_eq_true rfl⟩ (Nat.le_of_ble_eq_true rfl) rfl 0 0 rfl rfl 6 rfl dX7_price_3 ?_
  refine r_if_ge C.1 13 9 rfl dX7_price_6 rfl ⟨fun c30 => ?_, fun c30 => ?_⟩
  · have h := if_some_t c30 h
    refine r_iconst C.1 0 rfl 14 rfl dX7_price_13 ?_
    exact w_X7_price_14 C ha0 ha0 hq h
  · have h := if_some_f c30 h
    refine r_iconst C.1 1 rfl 10 rfl dX7_price_9 ?_
    refine r_goto C.1 14 dX7_price_10 rfl ?_
    exact w_X7_price_14 C ha0 ha0 hq h
theorem c_X7_price {l : Launch} {G : jG} {sh : jSh} {κ : jKt} {a0 : Nat} (ha0 : sh a0 = (1, 11, 22)) {x1 : Int32} {r : Int32} {κr : jKt} (h : P_X7_price κ a0 x1 = some (r, κr)) : jM l G yX7_price cX7_price 2 (some .int) 4 0 0 87 [.ref a0, .int x1] (sh, κ) (jIs (some (.int r)) (sh, κr)) jNo :=
  r_body (by decide) (Nat.le_of_ble_eq_true rfl) fun F C hl hG hs ho hx => by
    subst hs
    exact w_X7_price_0 C ha0 (by rw [ho]; exact ⟨rfl, rfl⟩) h
set_option maxRecDepth 20000 in
theorem w_X7_sleevesLeft_14 {F : jFm} (C : jB F RX7 cX7_sleevesLeft 2 (some .int) 4 0 0 86) {κ : jKt} {a0 : Nat} (ha0 : jSof F a0 = (1, 11, 22)) {v1 : Int32} {s0 : Int32} {a1 : Nat} (ha1 : jSof F a1 = (1, 11, 22)) {r : Int32 × jKt} (hq : jOut F (some (.int r.1)) r.2) (h : P_X7_sleevesLeft_14 κ a0 v1 s0 a1 = some r) : jW F 2 0 0 κ 14 [(0, .ref a0), (1, .int v1)] [.int s0, .ref a1] := by
  unfold P_X7_sleevesLeft_14 at h
  obtain ⟨κ29, e30, h⟩ := bnd_some h
  refine r_putI C.1 0 fw_X7_50 rfl rfl rfl ha1 e30 17 rfl dX7_sleevesLeft_14 ?_
  refine r_aload_n C.1 0 18 rfl dX7_sleevesLeft_17 rfl ?_
  refine r_getI C.1 0 fl_X7_50 rfl ha0 21 rfl dX7_sleevesLeft_18 ?_
  refine r_if_ne C.1 47 24 rfl dX7_sleevesLeft_21 rfl ⟨fun c31 => ?_, fun c31 => ?_⟩
  · have h := if_some_f c31 h
    refine r_iconst C.1 0 rfl 48 rfl dX7_sleevesLeft_47 ?_
    cases h
    exact r_zret C rfl rfl (Nat.le_of_ble_eq_true rfl) (Nat.le_of_ble_eq_true rfl) dX7_sleevesLeft_48 hq
  · have h := if_some_t c31 h
    refine r_aload_n C.1 0 25 rfl dX7_sleevesLeft_24 rfl ?_
    refine r_aload_n C.1 0 26 rfl dX7_sleevesLeft_25 rfl ?_
    refine r_iload_n C.1 1 27 rfl dX7_sleevesLeft_26 rfl ?_
    obtain ⟨y33, e32, h⟩ := bd_some h
    refine r_cVi C.1 (st := [.ref a0]) (c_X7_find ha0 e32) yv_X7_find ml_X7_123 rfl ha0 rfl ⟨Nat.le_of_ble_eq_true rfl, Nat.le_of_ble_eq_true rfl⟩ ⟨Nat.le_of_ble_eq_true rfl, Nat.le_of_ble_eq_true rfl⟩ (Nat.le_of_ble_eq_true rfl) rfl 0 0 rfl rfl 30 rfl dX7_sleevesLeft_27 ?_
    obtain ⟨y35, e34, h⟩ := bd_some h
    refine r_cVi C.1 (st := []) (c_X7_sleeves ha0 e34) yv_X7_sleeves ml_X7_79 rfl ha0 rfl ⟨Nat.le_of_ble_eq_true rfl, Nat.le_of_ble_eq_true rfl⟩ ⟨Nat.le_of_ble_eq_true rfl, Nat.le_of_ble_eq_true rfl⟩ (Nat.le_of_ble_eq_true rfl) rfl 0 0 rfl rfl 33 rfl dX7_sleevesLeft_30 ?_
    refine r_aload_n C.1 0 34 rfl dX7_sleevesLeft_33 rfl ?_
    refine r_aload_n C.1 0 35 rfl dX7_sleevesLeft_34 rfl ?_
    refine r_iload_n C.1 1 36 rfl dX7_sleevesLeft_35 rfl ?_
    obtain ⟨y37, e36, h⟩ := bd_some h
    refine r_cVi C.1 (st := [.ref a0, .int y35]) (c_X7_find ha0 e36) yv_X7_find ml_X7_123 rfl ha0 rfl ⟨Nat.le_of_ble_eq_true rfl, Nat.le_of_ble_eq_true rfl⟩ ⟨Nat.le_of_ble_eq_true rfl, Nat.le_of_ble_eq_true rfl⟩ (Nat.le_of_ble_eq_true rfl) rfl 0 0 rfl rfl 39 rfl dX7_sleevesLeft_36 ?_
    refine r_iconst C.1 2 rfl 40 rfl dX7_sleevesLeft_39 ?_
    obtain ⟨y39, e38, h⟩ := bd_some h
    refine r_cVi C.1 (st := [.int y35]) (c_X7_count ha0 e38) yv_X7_count ml_X7_135 rfl ha0 rfl ⟨Nat.le_of_ble_eq_true rfl, Nat.le_of_ble_eq_true rfl⟩ ⟨Nat.le_of_ble_eq_true rfl, Nat.le_of_ble_eq_true rfl⟩ (Nat.le_of_ble_eq_true rfl) rfl 0 0 rfl rfl 43 rfl dX7_sleevesLeft_40 ?_
    refine r_isub C.1 44 rfl dX7_sleevesLeft_43 ?_
    refine r_goto C.1 48 dX7_sleevesLeft_44 rfl ?_
    cases h
    exact r_zret C rfl rfl (Nat.le_of_ble_eq_true rfl) (Nat.le_of_ble_eq_true rfl) dX7_sleevesLeft_48 hq
set_option maxRecDepth 20000 in
theorem w_X7_sleevesLeft_0 {F : jFm} (C : jB F RX7 cX7_sleevesLeft 2 (some .int) 4 0 0 86) {κ : jKt} {a0 : Nat} (ha0 : jSof F a0 = (1, 11, 22)) {x1 : Int32} {r : Int32 × jKt} (hq : jOut F (some (.int r.1)) r.2) (h : P_X7_sleevesLeft κ a0 x1 = some r) : jW F 2 0 0 κ 0 [(0, .ref a0), (1, .int x1)] [] := by
  unfold P_X7_sleevesLeft at h
  refine r_aload_n C.1 0 1 rfl dX7_sleevesLeft_0 rfl ?_
  refine r_aload_n C.1 0 2 rfl dX7_sleevesLeft_1 rfl ?_
  refine r_iload_n C.1 1 3 rfl dX7_sleevesLeft_2 rfl ?_
  obtain ⟨y41, e40, h⟩ := bd_some h
  refine r_cVi C.1 (st := [.ref a0]) (c_X7_find ha0 e40) yv_X7_find ml_X7_123 rfl ha0 rfl ⟨Nat.le_of_ble_eq_true rfl, Nat.le_of_ble_eq_true rfl⟩ ⟨Nat.le_of_ble_eq_true rfl, Nat.le_of_ble_eq_true rfl⟩ (Nat.le_of_ble_eq_true rfl) rfl 0 0 rfl rfl 6 rfl dX7_sleevesLeft_3 ?_
  refine r_if_ge C.1 13 9 rfl dX7_sleevesLeft_6 rfl ⟨fun c42 => ?_, fun c42 => ?_⟩
  · have h := if_some_t c42 h
    refine r_iconst C.1 0 rfl 14 rfl dX7_sleevesLeft_13 ?_
    exact w_X7_sleevesLeft_14 C ha0 ha0 hq h
  · have h := if_some_f c42 h
    refine r_iconst C.1 1 rfl 10 rfl dX7_sleevesLeft_9 ?_
    refine r_goto C.1 14 dX7_sleevesLeft_10 rfl ?_
    exact w_X7_sleevesLeft_14 C ha0 ha0 hq h
theorem c_X7_sleevesLeft {l : Launch} {G : jG} {sh : jSh} {κ : jKt} {a0 : Nat} (ha0 : sh a0 = (1, 11, 22)) {x1 : Int32} {r : Int32} {κr : jKt} (h : P_X7_sleevesLeft κ a0 x1 = some (r, κr)) : jM l G yX7_sleevesLeft cX7_sleevesLeft 2 (some .int) 4 0 0 86 [.ref a0, .int x1] (sh, κ) (jIs (some (.int r)) (sh, κr)) jNo :=
  r_body (by decide) (Nat.le_of_ble_eq_true rfl) fun F C hl hG hs ho hx => by
    subst hs
    exact w_X7_sleevesLeft_0 C ha0 (by rw [ho]; exact ⟨rfl, rfl⟩) h
set_option maxRecDepth 20000 in
theorem w_X7_sewingOrder_39 {F : jFm} (C : jB F RX7 cX7_sewingOrder 3 (some .int) 4 0 0 90) {κ : jKt} {a0 : Nat} (ha0 : jSof F a0 = (1, 11, 22)) {v2 : Int32} {s0 : Int32} {a1 : Nat} (ha1 : jSof F a1 = (1, 11, 22)) {r : Int32 × jKt} (hq : jOut F (some (.int r.1)) r.2) (h : P_X7_sewingOrder_39 κ a0 v2 s0 a1 = some r) : jW F 3 0 0 κ 39 [(0, .ref a0), (2, .int v2)] [.int s0, .ref a1] := by
  unfold P_X7_sewingOrder_39 at h
  obtain ⟨κ39, e40, h⟩ := bnd_some h
  refine r_putI C.1 0 fw_X7_50 rfl rfl rfl ha1 e40 42 rfl dX7_sewingOrder_39 ?_
  refine r_aload_n C.1 0 43 rfl dX7_sewingOrder_42 rfl ?_
  refine r_getI C.1 0 fl_X7_50 rfl ha0 46 rfl dX7_sewingOrder_43 ?_
  refine r_if_ne C.1 58 49 rfl dX7_sewingOrder_46 rfl ⟨fun c41 => ?_, fun c41 => ?_⟩
  · have h := if_some_f c41 h
    refine r_iconst C.1 0 rfl 59 rfl dX7_sewingOrder_58 ?_
    cases h
    exact r_zret C rfl rfl (Nat.le_of_ble_eq_true rfl) (Nat.le_of_ble_eq_true rfl) dX7_sewingOrder_59 hq
  · have h := if_some_t c41 h
    refine r_aload_n C.1 0 50 rfl dX7_sewingOrder_49 rfl ?_
    refine r_getR C.1 9 fl_X7_29 rfl ha0 53 rfl dX7_sewingOrder_50 (fun (h42 : jSof F (kR κ39 a0 9) = (2, 0, 16)) => ?_)
    refine r_iload_n C.1 1 54 rfl dX7_sewingOrder_53 rfl ?_
    obtain ⟨i43, h⟩ := ck_some h
    refine r_iald C.1 h42 i43 55 rfl dX7_sewingOrder_54 ?_
    refine r_goto C.1 59 dX7_sewingOrder_55 rfl ?_
    cases h
    exact r_zret C rfl rfl (Nat.le_of_ble_eq_true rfl) (Nat.le_of_ble_eq_true rfl) dX7_sewingOrder_59 hq
set_option maxRecDepth 20000 in
theorem w_X7_sewingOrder_0 {F : jFm} (C : jB F RX7 cX7_sewingOrder 3 (some .int) 4 0 0 90) {κ : jKt} {a0 : Nat} (ha0 : jSof F a0 = (1, 11, 22)) {x1 : Int32} {x2 : Int32} {r : Int32 × jKt} (hq : jOut F (some (.int r.1)) r.2) (h : P_X7_sewingOrder κ a0 x1 x2 = some r) : jW F 3 0 0 κ 0 [(0, .ref a0), (1, .int x1), (2, .int x2)] [] := by
  unfold P_X7_sewingOrder at h
  refine r_aload_n C.1 0 1 rfl dX7_sewingOrder_0 rfl ?_
  refine r_iload_n C.1 1 2 rfl dX7_sewingOrder_1 rfl ?_
  obtain ⟨y45, e44, h⟩ := bd_some h
  refine r_cVi C.1 (st := []) (c_X7_find ha0 e44) yv_X7_find ml_X7_123 rfl ha0 rfl ⟨Nat.le_of_ble_eq_true rfl, Nat.le_of_ble_eq_true rfl⟩ ⟨Nat.le_of_ble_eq_true rfl, Nat.le_of_ble_eq_true rfl⟩ (Nat.le_of_ble_eq_true rfl) rfl 0 0 rfl rfl 5 rfl dX7_sewingOrder_2 ?_
  refine r_if_ge C.1 14 8 rfl dX7_sewingOrder_5 rfl ⟨fun c46 => ?_, fun c46 => ?_⟩
  · have h := if_some_t c46 h
    refine r_aload_n C.1 0 15 rfl dX7_sewingOrder_14 rfl ?_
    refine r_iload_n C.1 2 16 rfl dX7_sewingOrder_15 rfl ?_
    refine r_iconst C.1 0 rfl 17 rfl dX7_sewingOrder_16 ?_
    refine r_aload_n C.1 0 18 rfl dX7_sewingOrder_17 rfl ?_
    refine r_aload_n C.1 0 19 rfl dX7_sewingOrder_18 rfl ?_
    refine r_iload_n C.1 1 20 rfl dX7_sewingOrder_19 rfl ?_
    obtain ⟨y48, e47, h⟩ := bd_some h
    refine r_cVi C.1 (st := [.ref a0, .int 0, .int x2, .ref a0]) (c_X7_find ha0 e47) yv_X7_find ml_X7_123 rfl ha0 rfl ⟨Nat.le_of_ble_eq_true rfl, Nat.le_of_ble_eq_true rfl⟩ ⟨Nat.le_of_ble_eq_true rfl, Nat.le_of_ble_eq_true rfl⟩ (Nat.le_of_ble_eq_true rfl) rfl 0 0 rfl rfl 23 rfl dX7_sewingOrder_20 ?_
    obtain ⟨y50, κ51, e49, h⟩ := bd2_some h
    refine r_cVi C.1 (st := [.int 0, .int x2, .ref a0]) (c_X7_sorts ha0 e49) yv_X7_sorts ml_X7_196 rfl ha0 rfl ⟨Nat.le_of_ble_eq_true rfl, Nat.le_of_ble_eq_true rfl⟩ ⟨Nat.le_of_ble_eq_true rfl, Nat.le_of_ble_eq_true rfl⟩ (Nat.le_of_ble_eq_true rfl) rfl 0 0 rfl rfl 26 rfl dX7_sewingOrder_23 ?_
    refine r_iconst C.1 1 rfl 27 rfl dX7_sewingOrder_26 ?_
    refine r_isub C.1 28 rfl dX7_sewingOrder_27 ?_
    obtain ⟨y53, e52, h⟩ := bd_some h
    refine r_cSi C.1 (st := [.ref a0]) (c_X7_isIn e52) yv_X7_isIn ml_X7_60 rfl ⟨Nat.le_of_ble_eq_true rfl, Nat.le_of_ble_eq_true rfl⟩ ⟨Nat.le_of_ble_eq_true rfl, Nat.le_of_ble_eq_true rfl⟩ (Nat.le_of_ble_eq_true rfl) rfl 0 0 rfl rfl 31 rfl dX7_sewingOrder_28 ?_
    refine r_if_eq C.1 38 34 rfl dX7_sewingOrder_31 rfl ⟨fun c54 => ?_, fun c54 => ?_⟩
    · have h := if_some_t c54 h
      refine r_iconst C.1 2 rfl 39 rfl dX7_sewingOrder_38 ?_
      refine r_lv [0, 2] rfl ?_
      exact w_X7_sewingOrder_39 C ha0 ha0 hq h
    · have h := if_some_f c54 h
      refine r_iconst C.1 0 rfl 35 rfl dX7_sewingOrder_34 ?_
      refine r_goto C.1 39 dX7_sewingOrder_35 rfl ?_
      refine r_lv [0, 2] rfl ?_
      exact w_X7_sewingOrder_39 C ha0 ha0 hq h
  · have h := if_some_f c46 h
    refine r_aload_n C.1 0 9 rfl dX7_sewingOrder_8 rfl ?_
    refine r_iconst C.1 1 rfl 10 rfl dX7_sewingOrder_9 ?_
    obtain ⟨y56, κ57, e55, h⟩ := bd2_some h
    refine r_cVi C.1 (st := []) (c_X7_fail ha0 e55) yv_X7_fail ml_X7_91 rfl ha0 rfl ⟨Nat.le_of_ble_eq_true rfl, Nat.le_of_ble_eq_true rfl⟩ ⟨Nat.le_of_ble_eq_true rfl, Nat.le_of_ble_eq_true rfl⟩ (Nat.le_of_ble_eq_true rfl) rfl 0 0 rfl rfl 13 rfl dX7_sewingOrder_10 ?_
    cases h
    exact r_zret C rfl rfl (Nat.le_of_ble_eq_true rfl) (Nat.le_of_ble_eq_true rfl) dX7_sewingOrder_13 hq
theorem c_X7_sewingOrder {l : Launch} {G : jG} {sh : jSh} {κ : jKt} {a0 : Nat} (ha0 : sh a0 = (1, 11, 22)) {x1 : Int32} {x2 : Int32} {r : Int32} {κr : jKt} (h : P_X7_sewingOrder κ a0 x1 x2 = some (r, κr)) : jM l G yX7_sewingOrder cX7_sewingOrder 3 (some .int) 4 0 0 90 [.ref a0, .int x1, .int x2] (sh, κ) (jIs (some (.int r)) (sh, κr)) jNo :=
  r_body (by decide) (Nat.le_of_ble_eq_true rfl) fun F C hl hG hs ho hx => by
    subst hs
    exact w_X7_sewingOrder_0 C ha0 (by rw [ho]; exact ⟨rfl, rfl⟩) h
set_option maxRecDepth 20000 in
theorem w_X7_sewingOrderByQueue_0 {F : jFm} (C : jB F RX7 cX7_sewingOrderByQueue 3 (some .int) 5 0 0 112) {κ : jKt} {a0 : Nat} (ha0 : jSof F a0 = (1, 11, 22)) {x1 : Int32} {x2 : Int32} {r : Int32 × jKt} (hq : jOut F (some (.int r.1)) r.2) (h : P_X7_sewingOrderByQueue κ a0 x1 x2 = some r) : jW F 3 0 0 κ 0 [(0, .ref a0), (1, .int x1), (2, .int x2)] [] := by
  unfold P_X7_sewingOrderByQueue at h
  refine r_aload_n C.1 0 1 rfl dX7_sewingOrderByQueue_0 rfl ?_
  refine r_iload_n C.1 1 2 rfl dX7_sewingOrderByQueue_1 rfl ?_
  refine r_iload_n C.1 2 3 rfl dX7_sewingOrderByQueue_2 rfl ?_
  obtain ⟨y8, κ9, e7, h⟩ := bd2_some h
  refine r_cVi C.1 (st := []) (c_X7_sewingOrder ha0 e7) yv_X7_sewingOrder ml_X7_199 rfl ha0 rfl ⟨Nat.le_of_ble_eq_true rfl, Nat.le_of_ble_eq_true rfl⟩ ⟨Nat.le_of_ble_eq_true rfl, Nat.le_of_ble_eq_true rfl⟩ (Nat.le_of_ble_eq_true rfl) rfl 0 0 rfl rfl 6 rfl dX7_sewingOrderByQueue_3 ?_
  cases h
  exact r_zret C rfl rfl (Nat.le_of_ble_eq_true rfl) (Nat.le_of_ble_eq_true rfl) dX7_sewingOrderByQueue_6 hq
theorem c_X7_sewingOrderByQueue {l : Launch} {G : jG} {sh : jSh} {κ : jKt} {a0 : Nat} (ha0 : sh a0 = (1, 11, 22)) {x1 : Int32} {x2 : Int32} {r : Int32} {κr : jKt} (h : P_X7_sewingOrderByQueue κ a0 x1 x2 = some (r, κr)) : jM l G yX7_sewingOrderByQueue cX7_sewingOrderByQueue 3 (some .int) 5 0 0 112 [.ref a0, .int x1, .int x2] (sh, κ) (jIs (some (.int r)) (sh, κr)) jNo :=
  r_body (by decide) (Nat.le_of_ble_eq_true rfl) fun F C hl hG hs ho hx => by
    subst hs
    exact w_X7_sewingOrderByQueue_0 C ha0 (by rw [ho]; exact ⟨rfl, rfl⟩) h
set_option maxRecDepth 20000 in
theorem w_X7_rounds_89 {F : jFm} (C : jB F RX7 cX7_rounds 9 (some .int) 4 0 0 90) {a0 : Nat} (ha0 : jSof F a0 = (1, 11, 22)) {v2 : Int32} {v3 : Int32} {v4 : Int32} {v5 : Int32} {v6 : Int32} {r : Int32 × jKt} (hq : jOut F (some (.int r.1)) r.2) {K68 : jKt → Int32 → Int32 → Option (Int32 × jKt)} (hK68 : ∀ (κ : jKt) (u4 : Int32) (u5 : Int32), K68 κ u4 u5 = some r → jW F 9 0 0 κ 68 [(0, .ref a0), (2, .int v2), (3, .int v3), (4, .int u4), (5, .int u5)] []) : ∀ (n : Nat) (κ : jKt) (v7 : Int32) (v8 : Int32), P_X7_rounds_89 a0 v2 v3 v4 v5 v6 K68 n κ v7 v8 = some r → jW F 9 0 0 κ 89 [(0, .ref a0), (2, .int v2), (3, .int v3), (4, .int v4), (5, .int v5), (6, .int v6), (7, .int v7), (8, .int v8)] [] := by
  intro n
  induction n with
  | zero => intro κ v7 v8 h; cases h
  | succ n ih =>
    intro κ v7 v8 h
    rw [P_X7_rounds_89] at h
    refine r_iload C.1 7 91 rfl dX7_rounds_89 rfl ?_
    refine r_aload_n C.1 0 92 rfl dX7_rounds_91 rfl ?_
    refine r_getR C.1 5 fl_X7_16 rfl ha0 95 rfl dX7_rounds_92 (fun (h91 : jSof F (kR κ a0 5) = (2, 0, 457)) => ?_)
    refine r_iload_n C.1 1 96 rfl dX7_rounds_95 rfl ?_
    refine r_iconst C.1 3 rfl 97 rfl dX7_rounds_96 ?_
    obtain ⟨y93, e92, h⟩ := bd_some h
    refine r_cSi C.1 (st := [.ref (kR κ a0 5), .int v8]) (c_X7_of e92) yv_X7_of ml_X7_75 rfl ⟨Nat.le_of_ble_eq_true rfl, Nat.le_of_ble_eq_true rfl⟩ ⟨Nat.le_of_ble_eq_true rfl, Nat.le_of_ble_eq_true rfl⟩ (Nat.le_of_ble_eq_true rfl) rfl 0 0 rfl rfl 100 rfl dX7_rounds_97 ?_
    obtain ⟨i94, h⟩ := ck_some h
    refine r_iald C.1 h91 i94 101 rfl dX7_rounds_100 ?_
    refine r_icmp_ge C.1 155 104 rfl dX7_rounds_101 rfl ⟨fun c95 => ?_, fun c95 => ?_⟩
    · have h := if_some_t c95 h
      refine r_aload_n C.1 0 156 rfl dX7_rounds_155 rfl ?_
      refine r_getR C.1 10 fl_X7_32 rfl ha0 159 rfl dX7_rounds_156 (fun (h96 : jSof F (kR κ a0 10) = (2, 0, 16)) => ?_)
      refine r_iload C.1 5 161 rfl dX7_rounds_159 rfl ?_
      refine r_iload C.1 6 163 rfl dX7_rounds_161 rfl ?_
      obtain ⟨i97, h⟩ := ck_some h
      obtain ⟨κ98, e99, h⟩ := bnd_some h
      refine r_iast C.1 h96 i97 e99 164 rfl dX7_rounds_163 ?_
      refine r_iload C.1 6 166 rfl dX7_rounds_164 rfl ?_
      refine r_iload C.1 3 168 rfl dX7_rounds_166 rfl ?_
      refine r_icmp_le C.1 176 171 rfl dX7_rounds_168 rfl ⟨fun c100 => ?_, fun c100 => ?_⟩
      · have h := if_some_t c100 h
        refine r_iload C.1 3 178 rfl dX7_rounds_176 rfl ?_
        refine r_istore C.1 (lv' := [(0, .ref a0), (2, .int v2), (3, .int v3), (4, .int v4), (5, .int v5), (6, .int v6), (7, .int v7), (8, .int v8)]) [1, 2, 3, 0, 4, 5, 6, 7] 180 rfl dX7_rounds_178 (Nat.le_of_ble_eq_true rfl) rfl ?_
        refine r_iinc C.1 (lv' := [(0, .ref a0), (2, .int v2), (3, .int v3), (4, .int v4), (5, .int (v5 + 1)), (6, .int v6), (7, .int v7), (8, .int v8)]) 4 [1, 2, 3, 4, 0, 5, 6, 7] 183 rfl dX7_rounds_180 rfl (Nat.le_of_ble_eq_true rfl) rfl rfl ?_
        refine r_goto C.1 68 dX7_rounds_183 rfl ?_
        refine r_lv [0, 1, 2, 3, 4] rfl ?_
        exact hK68 κ98 v4 (v5 + 1) h
      · have h := if_some_f c100 h
        refine r_iload C.1 6 173 rfl dX7_rounds_171 rfl ?_
        refine r_goto C.1 178 dX7_rounds_173 rfl ?_
        refine r_istore C.1 (lv' := [(0, .ref a0), (2, .int v2), (3, .int v3), (4, .int v7), (5, .int v5), (6, .int v6), (7, .int v7), (8, .int v8)]) [1, 2, 3, 0, 4, 5, 6, 7] 180 rfl dX7_rounds_178 (Nat.le_of_ble_eq_true rfl) rfl ?_
        refine r_iinc C.1 (lv' := [(0, .ref a0), (2, .int v2), (3, .int v3), (4, .int v7), (5, .int (v5 + 1)), (6, .int v6), (7, .int v7), (8, .int v8)]) 4 [1, 2, 3, 4, 0, 5, 6, 7] 183 rfl dX7_rounds_180 rfl (Nat.le_of_ble_eq_true rfl) rfl rfl ?_
        refine r_goto C.1 68 dX7_rounds_183 rfl ?_
        refine r_lv [0, 1, 2, 3, 4] rfl ?_
        exact hK68 κ98 v7 (v5 + 1) h
    · have h := if_some_f c95 h
      refine r_aload_n C.1 0 105 rfl dX7_rounds_104 rfl ?_
      refine r_iload_n C.1 1 106 rfl dX7_rounds_105 rfl ?_
      refine r_iload C.1 7 108 rfl dX7_rounds_106 rfl ?_
      obtain ⟨y102, e101, h⟩ := bd_some h
      refine r_cVi C.1 (st := []) (c_X7_second ha0 e101) yv_X7_second ml_X7_129 rfl ha0 rfl ⟨Nat.le_of_ble_eq_true rfl, Nat.le_of_ble_eq_true rfl⟩ ⟨Nat.le_of_ble_eq_true rfl, Nat.le_of_ble_eq_true rfl⟩ (Nat.le_of_ble_eq_true rfl) rfl 0 0 rfl rfl 111 rfl dX7_rounds_108 ?_
      refine r_iload C.1 5 113 rfl dX7_rounds_111 rfl ?_
      refine r_icmp_ne C.1 149 116 rfl dX7_rounds_113 rfl ⟨fun c103 => ?_, fun c103 => ?_⟩
      · have h := if_some_f c103 h
        refine r_iinc C.1 (lv' := [(0, .ref a0), (2, .int v2), (3, .int v3), (4, .int v4), (5, .int v5), (6, .int v6), (7, .int v7), (8, .int (v8 + 1))]) 7 [1, 2, 3, 4, 5, 6, 7, 0] 152 rfl dX7_rounds_149 rfl (Nat.le_of_ble_eq_true rfl) rfl rfl ?_
        refine r_goto C.1 89 dX7_rounds_152 rfl ?_
        exact ih κ v7 (v8 + 1) h
      · have h := if_some_t c103 h
        refine r_aload_n C.1 0 117 rfl dX7_rounds_116 rfl ?_
        refine r_getR C.1 10 fl_X7_32 rfl ha0 120 rfl dX7_rounds_117 (fun (h104 : jSof F (kR κ a0 10) = (2, 0, 16)) => ?_)
        refine r_aload_n C.1 0 121 rfl dX7_rounds_120 rfl ?_
        refine r_iload_n C.1 1 122 rfl dX7_rounds_121 rfl ?_
        refine r_iload C.1 7 124 rfl dX7_rounds_122 rfl ?_
        obtain ⟨y106, e105, h⟩ := bd_some h
        refine r_cVi C.1 (st := [.ref (kR κ a0 10)]) (c_X7_first ha0 e105) yv_X7_first ml_X7_132 rfl ha0 rfl ⟨Nat.le_of_ble_eq_true rfl, Nat.le_of_ble_eq_true rfl⟩ ⟨Nat.le_of_ble_eq_true rfl, Nat.le_of_ble_eq_true rfl⟩ (Nat.le_of_ble_eq_true rfl) rfl 0 0 rfl rfl 127 rfl dX7_rounds_124 ?_
        obtain ⟨i107, h⟩ := ck_some h
        refine r_iald C.1 h104 i107 128 rfl dX7_rounds_127 ?_
        refine r_iload C.1 6 130 rfl dX7_rounds_128 rfl ?_
        refine r_icmp_lt C.1 149 133 rfl dX7_rounds_130 rfl ⟨fun c108 => ?_, fun c108 => ?_⟩
        · have h := if_some_t c108 h
          refine r_iinc C.1 (lv' := [(0, .ref a0), (2, .int v2), (3, .int v3), (4, .int v4), (5, .int v5), (6, .int v6), (7, .int v7), (8, .int (v8 + 1))]) 7 [1, 2, 3, 4, 5, 6, 7, 0] 152 rfl dX7_rounds_149 rfl (Nat.le_of_ble_eq_true rfl) rfl rfl ?_
          refine r_goto C.1 89 dX7_rounds_152 rfl ?_
          exact ih κ v7 (v8 + 1) h
        · have h := if_some_f c108 h
          refine r_aload_n C.1 0 134 rfl dX7_rounds_133 rfl ?_
          refine r_getR C.1 10 fl_X7_32 rfl ha0 137 rfl dX7_rounds_134 (fun (h109 : jSof F (kR κ a0 10) = (2, 0, 16)) => ?_)
          refine r_aload_n C.1 0 138 rfl dX7_rounds_137 rfl ?_
          refine r_iload_n C.1 1 139 rfl dX7_rounds_138 rfl ?_
          refine r_iload C.1 7 141 rfl dX7_rounds_139 rfl ?_
          obtain ⟨y111, e110, h⟩ := bd_some h
          refine r_cVi C.1 (st := [.ref (kR κ a0 10)]) (c_X7_first ha0 e110) yv_X7_first ml_X7_132 rfl ha0 rfl ⟨Nat.le_of_ble_eq_true rfl, Nat.le_of_ble_eq_true rfl⟩ ⟨Nat.le_of_ble_eq_true rfl, Nat.le_of_ble_eq_true rfl⟩ (Nat.le_of_ble_eq_true rfl) rfl 0 0 rfl rfl 144 rfl dX7_rounds_141 ?_
          obtain ⟨i112, h⟩ := ck_some h
          refine r_iald C.1 h109 i112 145 rfl dX7_rounds_144 ?_
          refine r_iconst C.1 1 rfl 146 rfl dX7_rounds_145 ?_
          refine r_iadd C.1 147 rfl dX7_rounds_146 ?_
          obtain ⟨y113, e114, h⟩ := bnd_some h
          refine r_top e114 ?_
          refine r_istore C.1 (lv' := [(0, .ref a0), (2, .int v2), (3, .int v3), (4, .int v4), (5, .int v5), (6, .int v6), (7, .int y113), (8, .int v8)]) [1, 2, 3, 4, 5, 6, 0, 7] 149 rfl dX7_rounds_147 (Nat.le_of_ble_eq_true rfl) rfl ?_
          refine r_iinc C.1 (lv' := [(0, .ref a0), (2, .int v2), (3, .int v3), (4, .int v4), (5, .int v5), (6, .int v6), (7, .int y113), (8, .int (v8 + 1))]) 7 [1, 2, 3, 4, 5, 6, 7, 0] 152 rfl dX7_rounds_149 rfl (Nat.le_of_ble_eq_true rfl) rfl rfl ?_
          refine r_goto C.1 89 dX7_rounds_152 rfl ?_
          exact ih κ y113 (v8 + 1) h
set_option maxRecDepth 20000 in
theorem w_X7_rounds_68 {F : jFm} (C : jB F RX7 cX7_rounds 9 (some .int) 4 0 0 90) {a0 : Nat} (ha0 : jSof F a0 = (1, 11, 22)) {v2 : Int32} {v3 : Int32} {r : Int32 × jKt} (hq : jOut F (some (.int r.1)) r.2) : ∀ (n : Nat) (κ : jKt) (v4 : Int32) (v5 : Int32), P_X7_rounds_68 a0 v2 v3 n κ v4 v5 = some r → jW F 9 0 0 κ 68 [(0, .ref a0), (2, .int v2), (3, .int v3), (4, .int v4), (5, .int v5)] [] := by
  intro n
  induction n with
  | zero => intro κ v4 v5 h; cases h
  | succ n ih =>
    intro κ v4 v5 h
    rw [P_X7_rounds_68] at h
    refine r_iload C.1 4 70 rfl dX7_rounds_68 rfl ?_
    refine r_iload_n C.1 2 71 rfl dX7_rounds_70 rfl ?_
    refine r_icmp_ge C.1 186 74 rfl dX7_rounds_71 rfl ⟨fun c115 => ?_, fun c115 => ?_⟩
    · have h := if_some_t c115 h
      refine r_iload C.1 3 188 rfl dX7_rounds_186 rfl ?_
      cases h
      exact r_zret C rfl rfl (Nat.le_of_ble_eq_true rfl) (Nat.le_of_ble_eq_true rfl) dX7_rounds_188 hq
    · have h := if_some_f c115 h
      refine r_aload_n C.1 0 75 rfl dX7_rounds_74 rfl ?_
      refine r_getR C.1 9 fl_X7_29 rfl ha0 78 rfl dX7_rounds_75 (fun (h116 : jSof F (kR κ a0 9) = (2, 0, 16)) => ?_)
      refine r_iload C.1 4 80 rfl dX7_rounds_78 rfl ?_
      obtain ⟨i117, h⟩ := ck_some h
      refine r_iald C.1 h116 i117 81 rfl dX7_rounds_80 ?_
      obtain ⟨y118, e119, h⟩ := bnd_some h
      refine r_top e119 ?_
      refine r_istore C.1 (lv' := [(0, .ref a0), (2, .int v2), (3, .int v3), (4, .int v4), (5, .int v5), (6, .int y118)]) [1, 2, 3, 4, 5, 0] 83 rfl dX7_rounds_81 (Nat.le_of_ble_eq_true rfl) rfl ?_
      refine r_iconst C.1 1 rfl 84 rfl dX7_rounds_83 ?_
      refine r_istore C.1 (lv' := [(0, .ref a0), (2, .int v2), (3, .int v3), (4, .int v4), (5, .int v5), (6, .int y118), (7, .int 1)]) [1, 2, 3, 4, 5, 6, 0] 86 rfl dX7_rounds_84 (Nat.le_of_ble_eq_true rfl) rfl ?_
      refine r_iconst C.1 0 rfl 87 rfl dX7_rounds_86 ?_
      refine r_istore C.1 (lv' := [(0, .ref a0), (2, .int v2), (3, .int v3), (4, .int v4), (5, .int v5), (6, .int y118), (7, .int 1), (8, .int 0)]) [1, 2, 3, 4, 5, 6, 7, 0] 89 rfl dX7_rounds_87 (Nat.le_of_ble_eq_true rfl) rfl ?_
      exact w_X7_rounds_89 C ha0 hq ih 4000 κ 1 0 h
set_option maxRecDepth 20000 in
theorem w_X7_rounds_44 {F : jFm} (C : jB F RX7 cX7_rounds 9 (some .int) 4 0 0 90) {a0 : Nat} (ha0 : jSof F a0 = (1, 11, 22)) {v2 : Int32} {v3 : Int32} {v4 : Int32} {r : Int32 × jKt} (hq : jOut F (some (.int r.1)) r.2) : ∀ (n : Nat) (κ : jKt) (v5 : Int32), P_X7_rounds_44 a0 v2 v3 v4 n κ v5 = some r → jW F 9 0 0 κ 44 [(0, .ref a0), (2, .int v2), (3, .int v3), (4, .int v4), (5, .int v5)] [] := by
  intro n
  induction n with
  | zero => intro κ v5 h; cases h
  | succ n ih =>
    intro κ v5 h
    rw [P_X7_rounds_44] at h
    refine r_iload C.1 4 46 rfl dX7_rounds_44 rfl ?_
    refine r_bipush C.1 16 rfl 48 rfl dX7_rounds_46 ?_
    refine r_icmp_ge C.1 65 51 rfl dX7_rounds_48 rfl ⟨fun c120 => ?_, fun c120 => ?_⟩
    · have h := if_some_t c120 h
      refine r_iconst C.1 0 rfl 66 rfl dX7_rounds_65 ?_
      refine r_istore C.1 (lv' := [(0, .ref a0), (2, .int v2), (3, .int v3), (4, .int v4), (5, .int 0)]) [1, 2, 3, 4, 0] 68 rfl dX7_rounds_66 (Nat.le_of_ble_eq_true rfl) rfl ?_
      exact w_X7_rounds_68 C ha0 hq 4000 κ v4 0 h
    · have h := if_some_f c120 h
      refine r_aload_n C.1 0 52 rfl dX7_rounds_51 rfl ?_
      refine r_getR C.1 10 fl_X7_32 rfl ha0 55 rfl dX7_rounds_52 (fun (h121 : jSof F (kR κ a0 10) = (2, 0, 16)) => ?_)
      refine r_iload C.1 4 57 rfl dX7_rounds_55 rfl ?_
      refine r_iconst C.1 0 rfl 58 rfl dX7_rounds_57 ?_
      obtain ⟨i122, h⟩ := ck_some h
      obtain ⟨κ123, e124, h⟩ := bnd_some h
      refine r_iast C.1 h121 i122 e124 59 rfl dX7_rounds_58 ?_
      refine r_iinc C.1 (lv' := [(0, .ref a0), (2, .int v2), (3, .int v3), (4, .int v4), (5, .int (v5 + 1))]) 4 [1, 2, 3, 4, 0] 62 rfl dX7_rounds_59 rfl (Nat.le_of_ble_eq_true rfl) rfl rfl ?_
      refine r_goto C.1 44 dX7_rounds_62 rfl ?_
      exact ih κ123 (v5 + 1) h
set_option maxRecDepth 20000 in
theorem w_X7_rounds_14 {F : jFm} (C : jB F RX7 cX7_rounds 9 (some .int) 4 0 0 90) {κ : jKt} {a0 : Nat} (ha0 : jSof F a0 = (1, 11, 22)) {v1 : Int32} {s0 : Int32} {a1 : Nat} (ha1 : jSof F a1 = (1, 11, 22)) {r : Int32 × jKt} (hq : jOut F (some (.int r.1)) r.2) (h : P_X7_rounds_14 κ a0 v1 s0 a1 = some r) : jW F 9 0 0 κ 14 [(0, .ref a0), (1, .int v1)] [.int s0, .ref a1] := by
  unfold P_X7_rounds_14 at h
  obtain ⟨κ125, e126, h⟩ := bnd_some h
  refine r_putI C.1 0 fw_X7_50 rfl rfl rfl ha1 e126 17 rfl dX7_rounds_14 ?_
  refine r_aload_n C.1 0 18 rfl dX7_rounds_17 rfl ?_
  refine r_getI C.1 0 fl_X7_50 rfl ha0 21 rfl dX7_rounds_18 ?_
  refine r_if_eq C.1 26 24 rfl dX7_rounds_21 rfl ⟨fun c127 => ?_, fun c127 => ?_⟩
  · have h := if_some_t c127 h
    refine r_aload_n C.1 0 27 rfl dX7_rounds_26 rfl ?_
    refine r_iload_n C.1 1 28 rfl dX7_rounds_27 rfl ?_
    obtain ⟨y129, e128, h⟩ := bd_some h
    refine r_cVi C.1 (st := []) (c_X7_find ha0 e128) yv_X7_find ml_X7_123 rfl ha0 rfl ⟨Nat.le_of_ble_eq_true rfl, Nat.le_of_ble_eq_true rfl⟩ ⟨Nat.le_of_ble_eq_true rfl, Nat.le_of_ble_eq_true rfl⟩ (Nat.le_of_ble_eq_true rfl) rfl 0 0 rfl rfl 31 rfl dX7_rounds_28 ?_
    refine r_istore_n C.1 (lv' := [(0, .ref a0), (1, .int v1), (2, .int y129)]) [1, 2, 0] 32 rfl dX7_rounds_31 (Nat.le_of_ble_eq_true rfl) rfl ?_
    refine r_aload_n C.1 0 33 rfl dX7_rounds_32 rfl ?_
    refine r_iload_n C.1 2 34 rfl dX7_rounds_33 rfl ?_
    obtain ⟨y131, κ132, e130, h⟩ := bd2_some h
    refine r_cVi C.1 (st := []) (c_X7_sorts ha0 e130) yv_X7_sorts ml_X7_196 rfl ha0 rfl ⟨Nat.le_of_ble_eq_true rfl, Nat.le_of_ble_eq_true rfl⟩ ⟨Nat.le_of_ble_eq_true rfl, Nat.le_of_ble_eq_true rfl⟩ (Nat.le_of_ble_eq_true rfl) rfl 0 0 rfl rfl 37 rfl dX7_rounds_34 ?_
    refine r_istore_n C.1 (lv' := [(0, .ref a0), (1, .int v1), (2, .int y129), (3, .int y131)]) [1, 2, 3, 0] 38 rfl dX7_rounds_37 (Nat.le_of_ble_eq_true rfl) rfl ?_
    refine r_iconst C.1 0 rfl 39 rfl dX7_rounds_38 ?_
    refine r_istore C.1 (lv' := [(0, .ref a0), (1, .int v1), (2, .int y129), (3, .int y131), (4, .int 0)]) [1, 2, 3, 4, 0] 41 rfl dX7_rounds_39 (Nat.le_of_ble_eq_true rfl) rfl ?_
    refine r_iconst C.1 0 rfl 42 rfl dX7_rounds_41 ?_
    refine r_istore C.1 (lv' := [(0, .ref a0), (1, .int v1), (2, .int y129), (3, .int y131), (4, .int 0), (5, .int 0)]) [1, 2, 3, 4, 5, 0] 44 rfl dX7_rounds_42 (Nat.le_of_ble_eq_true rfl) rfl ?_
    refine r_lv [0, 2, 3, 4, 5] rfl ?_
    exact w_X7_rounds_44 C ha0 hq 4000 κ132 0 h
  · have h := if_some_f c127 h
    refine r_iconst C.1 0 rfl 25 rfl dX7_rounds_24 ?_
    cases h
    exact r_zret C rfl rfl (Nat.le_of_ble_eq_true rfl) (Nat.le_of_ble_eq_true rfl) dX7_rounds_25 hq
set_option maxRecDepth 20000 in
theorem w_X7_rounds_0 {F : jFm} (C : jB F RX7 cX7_rounds 9 (some .int) 4 0 0 90) {κ : jKt} {a0 : Nat} (ha0 : jSof F a0 = (1, 11, 22)) {x1 : Int32} {r : Int32 × jKt} (hq : jOut F (some (.int r.1)) r.2) (h : P_X7_rounds κ a0 x1 = some r) : jW F 9 0 0 κ 0 [(0, .ref a0), (1, .int x1)] [] := by
  unfold P_X7_rounds at h
  refine r_aload_n C.1 0 1 rfl dX7_rounds_0 rfl ?_
  refine r_aload_n C.1 0 2 rfl dX7_rounds_1 rfl ?_
  refine r_iload_n C.1 1 3 rfl dX7_rounds_2 rfl ?_
  obtain ⟨y134, e133, h⟩ := bd_some h
  refine r_cVi C.1 (st := [.ref a0]) (c_X7_find ha0 e133) yv_X7_find ml_X7_123 rfl ha0 rfl ⟨Nat.le_of_ble_eq_true rfl, Nat.le_of_ble_eq_true rfl⟩ ⟨Nat.le_of_ble_eq_true rfl, Nat.le_of_ble_eq_true rfl⟩ (Nat.le_of_ble_eq_true rfl) rfl 0 0 rfl rfl 6 rfl dX7_rounds_3 ?_
  refine r_if_ge C.1 13 9 rfl dX7_rounds_6 rfl ⟨fun c135 => ?_, fun c135 => ?_⟩
  · have h := if_some_t c135 h
    refine r_iconst C.1 0 rfl 14 rfl dX7_rounds_13 ?_
    exact w_X7_rounds_14 C ha0 ha0 hq h
  · have h := if_some_f c135 h
    refine r_iconst C.1 1 rfl 10 rfl dX7_rounds_9 ?_
    refine r_goto C.1 14 dX7_rounds_10 rfl ?_
    exact w_X7_rounds_14 C ha0 ha0 hq h
theorem c_X7_rounds {l : Launch} {G : jG} {sh : jSh} {κ : jKt} {a0 : Nat} (ha0 : sh a0 = (1, 11, 22)) {x1 : Int32} {r : Int32} {κr : jKt} (h : P_X7_rounds κ a0 x1 = some (r, κr)) : jM l G yX7_rounds cX7_rounds 9 (some .int) 4 0 0 90 [.ref a0, .int x1] (sh, κ) (jIs (some (.int r)) (sh, κr)) jNo :=
  r_body (by decide) (Nat.le_of_ble_eq_true rfl) fun F C hl hG hs ho hx => by
    subst hs
    exact w_X7_rounds_0 C ha0 (by rw [ho]; exact ⟨rfl, rfl⟩) h
set_option maxRecDepth 20000 in
theorem w_X7_clothNeeded_37 {F : jFm} (C : jB F RX7 cX7_clothNeeded 5 (some .int) 3 0 0 64) {a0 : Nat} (ha0 : jSof F a0 = (1, 11, 22)) {v2 : Int32} {r : Int32 × jKt} (hq : jOut F (some (.int r.1)) r.2) : ∀ (n : Nat) (κ : jKt) (v3 : Int32) (v4 : Int32), P_X7_clothNeeded_37 a0 v2 n κ v3 v4 = some r → jW F 5 0 0 κ 37 [(0, .ref a0), (2, .int v2), (3, .int v3), (4, .int v4)] [] := by
  intro n
  induction n with
  | zero => intro κ v3 v4 h; cases h
  | succ n ih =>
    intro κ v3 v4 h
    rw [P_X7_clothNeeded_37] at h
    refine r_iload C.1 3 39 rfl dX7_clothNeeded_37 rfl ?_
    refine r_aload_n C.1 0 40 rfl dX7_clothNeeded_39 rfl ?_
    refine r_iload_n C.1 1 41 rfl dX7_clothNeeded_40 rfl ?_
    obtain ⟨y34, e33, h⟩ := bd_some h
    refine r_cVi C.1 (st := [.int v4]) (c_X7_sleeves ha0 e33) yv_X7_sleeves ml_X7_79 rfl ha0 rfl ⟨Nat.le_of_ble_eq_true rfl, Nat.le_of_ble_eq_true rfl⟩ ⟨Nat.le_of_ble_eq_true rfl, Nat.le_of_ble_eq_true rfl⟩ (Nat.le_of_ble_eq_true rfl) rfl 0 0 rfl rfl 44 rfl dX7_clothNeeded_41 ?_
    refine r_icmp_ge C.1 79 47 rfl dX7_clothNeeded_44 rfl ⟨fun c35 => ?_, fun c35 => ?_⟩
    · have h := if_some_t c35 h
      refine r_iload_n C.1 2 80 rfl dX7_clothNeeded_79 rfl ?_
      cases h
      exact r_zret C rfl rfl (Nat.le_of_ble_eq_true rfl) (Nat.le_of_ble_eq_true rfl) dX7_clothNeeded_80 hq
    · have h := if_some_f c35 h
      refine r_iload_n C.1 2 48 rfl dX7_clothNeeded_47 rfl ?_
      refine r_aload_n C.1 0 49 rfl dX7_clothNeeded_48 rfl ?_
      refine r_iload_n C.1 1 50 rfl dX7_clothNeeded_49 rfl ?_
      refine r_iload C.1 3 52 rfl dX7_clothNeeded_50 rfl ?_
      obtain ⟨y37, e36, h⟩ := bd_some h
      refine r_cVi C.1 (st := [.int v3]) (c_X7_state ha0 e36) yv_X7_state ml_X7_85 rfl ha0 rfl ⟨Nat.le_of_ble_eq_true rfl, Nat.le_of_ble_eq_true rfl⟩ ⟨Nat.le_of_ble_eq_true rfl, Nat.le_of_ble_eq_true rfl⟩ (Nat.le_of_ble_eq_true rfl) rfl 0 0 rfl rfl 55 rfl dX7_clothNeeded_52 ?_
      refine r_if_ne C.1 70 58 rfl dX7_clothNeeded_55 rfl ⟨fun c38 => ?_, fun c38 => ?_⟩
      · have h := if_some_f c38 h
        refine r_iconst C.1 0 rfl 71 rfl dX7_clothNeeded_70 ?_
        refine r_iadd C.1 72 rfl dX7_clothNeeded_71 ?_
        refine r_istore_n C.1 (lv' := [(0, .ref a0), (2, .int v2), (3, .int (v3 + 0)), (4, .int v4)]) [1, 2, 0, 3] 73 rfl dX7_clothNeeded_72 (Nat.le_of_ble_eq_true rfl) rfl ?_
        refine r_iinc C.1 (lv' := [(0, .ref a0), (2, .int v2), (3, .int (v3 + 0)), (4, .int (v4 + 1))]) 3 [1, 2, 3, 0] 76 rfl dX7_clothNeeded_73 rfl (Nat.le_of_ble_eq_true rfl) rfl rfl ?_
        refine r_goto C.1 37 dX7_clothNeeded_76 rfl ?_
        exact ih κ (v3 + 0) (v4 + 1) h
      · have h := if_some_t c38 h
        refine r_aload_n C.1 0 59 rfl dX7_clothNeeded_58 rfl ?_
        refine r_iload_n C.1 1 60 rfl dX7_clothNeeded_59 rfl ?_
        refine r_iload C.1 3 62 rfl dX7_clothNeeded_60 rfl ?_
        obtain ⟨y40, e39, h⟩ := bd_some h
        refine r_cVi C.1 (st := [.int v3]) (c_X7_wanted ha0 e39) yv_X7_wanted ml_X7_120 rfl ha0 rfl ⟨Nat.le_of_ble_eq_true rfl, Nat.le_of_ble_eq_true rfl⟩ ⟨Nat.le_of_ble_eq_true rfl, Nat.le_of_ble_eq_true rfl⟩ (Nat.le_of_ble_eq_true rfl) rfl 0 0 rfl rfl 65 rfl dX7_clothNeeded_62 ?_
        refine r_iconst C.1 2 rfl 66 rfl dX7_clothNeeded_65 ?_
        refine r_iadd C.1 67 rfl dX7_clothNeeded_66 ?_
        refine r_goto C.1 71 dX7_clothNeeded_67 rfl ?_
        refine r_iadd C.1 72 rfl dX7_clothNeeded_71 ?_
        refine r_istore_n C.1 (lv' := [(0, .ref a0), (2, .int v2), (3, .int (v3 + (y40 + 2))), (4, .int v4)]) [1, 2, 0, 3] 73 rfl dX7_clothNeeded_72 (Nat.le_of_ble_eq_true rfl) rfl ?_
        refine r_iinc C.1 (lv' := [(0, .ref a0), (2, .int v2), (3, .int (v3 + (y40 + 2))), (4, .int (v4 + 1))]) 3 [1, 2, 3, 0] 76 rfl dX7_clothNeeded_73 rfl (Nat.le_of_ble_eq_true rfl) rfl rfl ?_
        refine r_goto C.1 37 dX7_clothNeeded_76 rfl ?_
        exact ih κ (v3 + (y40 + 2)) (v4 + 1) h
set_option maxRecDepth 20000 in
theorem w_X7_clothNeeded_14 {F : jFm} (C : jB F RX7 cX7_clothNeeded 5 (some .int) 3 0 0 64) {κ : jKt} {a0 : Nat} (ha0 : jSof F a0 = (1, 11, 22)) {v1 : Int32} {s0 : Int32} {a1 : Nat} (ha1 : jSof F a1 = (1, 11, 22)) {r : Int32 × jKt} (hq : jOut F (some (.int r.1)) r.2) (h : P_X7_clothNeeded_14 κ a0 v1 s0 a1 = some r) : jW F 5 0 0 κ 14 [(0, .ref a0), (1, .int v1)] [.int s0, .ref a1] := by
  unfold P_X7_clothNeeded_14 at h
  obtain ⟨κ41, e42, h⟩ := bnd_some h
  refine r_putI C.1 0 fw_X7_50 rfl rfl rfl ha1 e42 17 rfl dX7_clothNeeded_14 ?_
  refine r_aload_n C.1 0 18 rfl dX7_clothNeeded_17 rfl ?_
  refine r_getI C.1 0 fl_X7_50 rfl ha0 21 rfl dX7_clothNeeded_18 ?_
  refine r_if_eq C.1 26 24 rfl dX7_clothNeeded_21 rfl ⟨fun c43 => ?_, fun c43 => ?_⟩
  · have h := if_some_t c43 h
    refine r_aload_n C.1 0 27 rfl dX7_clothNeeded_26 rfl ?_
    refine r_iload_n C.1 1 28 rfl dX7_clothNeeded_27 rfl ?_
    obtain ⟨y45, e44, h⟩ := bd_some h
    refine r_cVi C.1 (st := []) (c_X7_find ha0 e44) yv_X7_find ml_X7_123 rfl ha0 rfl ⟨Nat.le_of_ble_eq_true rfl, Nat.le_of_ble_eq_true rfl⟩ ⟨Nat.le_of_ble_eq_true rfl, Nat.le_of_ble_eq_true rfl⟩ (Nat.le_of_ble_eq_true rfl) rfl 0 0 rfl rfl 31 rfl dX7_clothNeeded_28 ?_
    refine r_istore_n C.1 (lv' := [(0, .ref a0), (1, .int v1), (2, .int y45)]) [1, 2, 0] 32 rfl dX7_clothNeeded_31 (Nat.le_of_ble_eq_true rfl) rfl ?_
    refine r_iconst C.1 0 rfl 33 rfl dX7_clothNeeded_32 ?_
    refine r_istore_n C.1 (lv' := [(0, .ref a0), (1, .int v1), (2, .int y45), (3, .int 0)]) [1, 2, 3, 0] 34 rfl dX7_clothNeeded_33 (Nat.le_of_ble_eq_true rfl) rfl ?_
    refine r_iconst C.1 0 rfl 35 rfl dX7_clothNeeded_34 ?_
    refine r_istore C.1 (lv' := [(0, .ref a0), (1, .int v1), (2, .int y45), (3, .int 0), (4, .int 0)]) [1, 2, 3, 4, 0] 37 rfl dX7_clothNeeded_35 (Nat.le_of_ble_eq_true rfl) rfl ?_
    refine r_lv [0, 2, 3, 4] rfl ?_
    exact w_X7_clothNeeded_37 C ha0 hq 4000 κ41 0 0 h
  · have h := if_some_f c43 h
    refine r_iconst C.1 0 rfl 25 rfl dX7_clothNeeded_24 ?_
    cases h
    exact r_zret C rfl rfl (Nat.le_of_ble_eq_true rfl) (Nat.le_of_ble_eq_true rfl) dX7_clothNeeded_25 hq
set_option maxRecDepth 20000 in
theorem w_X7_clothNeeded_0 {F : jFm} (C : jB F RX7 cX7_clothNeeded 5 (some .int) 3 0 0 64) {κ : jKt} {a0 : Nat} (ha0 : jSof F a0 = (1, 11, 22)) {x1 : Int32} {r : Int32 × jKt} (hq : jOut F (some (.int r.1)) r.2) (h : P_X7_clothNeeded κ a0 x1 = some r) : jW F 5 0 0 κ 0 [(0, .ref a0), (1, .int x1)] [] := by
  unfold P_X7_clothNeeded at h
  refine r_aload_n C.1 0 1 rfl dX7_clothNeeded_0 rfl ?_
  refine r_aload_n C.1 0 2 rfl dX7_clothNeeded_1 rfl ?_
  refine r_iload_n C.1 1 3 rfl dX7_clothNeeded_2 rfl ?_
  obtain ⟨y47, e46, h⟩ := bd_some h
  refine r_cVi C.1 (st := [.ref a0]) (c_X7_find ha0 e46) yv_X7_find ml_X7_123 rfl ha0 rfl ⟨Nat.le_of_ble_eq_true rfl, Nat.le_of_ble_eq_true rfl⟩ ⟨Nat.le_of_ble_eq_true rfl, Nat.le_of_ble_eq_true rfl⟩ (Nat.le_of_ble_eq_true rfl) rfl 0 0 rfl rfl 6 rfl dX7_clothNeeded_3 ?_
  refine r_if_ge C.1 13 9 rfl dX7_clothNeeded_6 rfl ⟨fun c48 => ?_, fun c48 => ?_⟩
  · have h := if_some_t c48 h
    refine r_iconst C.1 0 rfl 14 rfl dX7_clothNeeded_13 ?_
    exact w_X7_clothNeeded_14 C ha0 ha0 hq h
  · have h := if_some_f c48 h
    refine r_iconst C.1 1 rfl 10 rfl dX7_clothNeeded_9 ?_
    refine r_goto C.1 14 dX7_clothNeeded_10 rfl ?_
    exact w_X7_clothNeeded_14 C ha0 ha0 hq h
theorem c_X7_clothNeeded {l : Launch} {G : jG} {sh : jSh} {κ : jKt} {a0 : Nat} (ha0 : sh a0 = (1, 11, 22)) {x1 : Int32} {r : Int32} {κr : jKt} (h : P_X7_clothNeeded κ a0 x1 = some (r, κr)) : jM l G yX7_clothNeeded cX7_clothNeeded 5 (some .int) 3 0 0 64 [.ref a0, .int x1] (sh, κ) (jIs (some (.int r)) (sh, κr)) jNo :=
  r_body (by decide) (Nat.le_of_ble_eq_true rfl) fun F C hl hG hs ho hx => by
    subst hs
    exact w_X7_clothNeeded_0 C ha0 (by rw [ho]; exact ⟨rfl, rfl⟩) h
set_option maxRecDepth 20000 in
theorem w_X7_clothNeededByDifference_0 {F : jFm} (C : jB F RX7 cX7_clothNeededByDifference 2 (some .int) 4 0 0 88) {κ : jKt} {a0 : Nat} (ha0 : jSof F a0 = (1, 11, 22)) {x1 : Int32} {r : Int32 × jKt} (hq : jOut F (some (.int r.1)) r.2) (h : P_X7_clothNeededByDifference κ a0 x1 = some r) : jW F 2 0 0 κ 0 [(0, .ref a0), (1, .int x1)] [] := by
  unfold P_X7_clothNeededByDifference at h
  refine r_aload_n C.1 0 1 rfl dX7_clothNeededByDifference_0 rfl ?_
  refine r_iload_n C.1 1 2 rfl dX7_clothNeededByDifference_1 rfl ?_
  obtain ⟨y8, κ9, e7, h⟩ := bd2_some h
  refine r_cVi C.1 (st := []) (c_X7_clothNeeded ha0 e7) yv_X7_clothNeeded ml_X7_202 rfl ha0 rfl ⟨Nat.le_of_ble_eq_true rfl, Nat.le_of_ble_eq_true rfl⟩ ⟨Nat.le_of_ble_eq_true rfl, Nat.le_of_ble_eq_true rfl⟩ (Nat.le_of_ble_eq_true rfl) rfl 0 0 rfl rfl 5 rfl dX7_clothNeededByDifference_2 ?_
  cases h
  exact r_zret C rfl rfl (Nat.le_of_ble_eq_true rfl) (Nat.le_of_ble_eq_true rfl) dX7_clothNeededByDifference_5 hq
theorem c_X7_clothNeededByDifference {l : Launch} {G : jG} {sh : jSh} {κ : jKt} {a0 : Nat} (ha0 : sh a0 = (1, 11, 22)) {x1 : Int32} {r : Int32} {κr : jKt} (h : P_X7_clothNeededByDifference κ a0 x1 = some (r, κr)) : jM l G yX7_clothNeededByDifference cX7_clothNeededByDifference 2 (some .int) 4 0 0 88 [.ref a0, .int x1] (sh, κ) (jIs (some (.int r)) (sh, κr)) jNo :=
  r_body (by decide) (Nat.le_of_ble_eq_true rfl) fun F C hl hG hs ho hx => by
    subst hs
    exact w_X7_clothNeededByDifference_0 C ha0 (by rw [ho]; exact ⟨rfl, rfl⟩) h
set_option maxRecDepth 20000 in
theorem w_X7_renderSuit_70 {F : jFm} (C : jB F RX7 cX7_renderSuit 4 (some .int) 3 0 0 62) {κ : jKt} {a0 : Nat} (ha0 : jSof F a0 = (1, 11, 22)) {v2 : Int32} {v3 : Int32} {r : Int32 × jKt} (hq : jOut F (some (.int r.1)) r.2) {K39 : jKt → Int32 → Option (Int32 × jKt)} (hK39 : ∀ (κ : jKt) (u3 : Int32), K39 κ u3 = some r → jW F 4 0 0 κ 39 [(0, .ref a0), (2, .int v2), (3, .int u3)] []) (h : P_X7_renderSuit_70 κ a0 v2 v3 K39 = some r) : jW F 4 0 0 κ 70 [(0, .ref a0), (2, .int v2), (3, .int v3)] [] := by
  unfold P_X7_renderSuit_70 at h
  refine r_aload_n C.1 0 71 rfl dX7_renderSuit_70 rfl ?_
  refine r_iload_n C.1 1 72 rfl dX7_renderSuit_71 rfl ?_
  refine r_iload_n C.1 2 73 rfl dX7_renderSuit_72 rfl ?_
  obtain ⟨y68, e67, h⟩ := bd_some h
  refine r_cVi C.1 (st := []) (c_X7_state ha0 e67) yv_X7_state ml_X7_85 rfl ha0 rfl ⟨Nat.le_of_ble_eq_true rfl, Nat.le_of_ble_eq_true rfl⟩ ⟨Nat.le_of_ble_eq_true rfl, Nat.le_of_ble_eq_true rfl⟩ (Nat.le_of_ble_eq_true rfl) rfl 0 0 rfl rfl 76 rfl dX7_renderSuit_73 ?_
  refine r_if_ne C.1 88 79 rfl dX7_renderSuit_76 rfl ⟨fun c69 => ?_, fun c69 => ?_⟩
  · have h := if_some_f c69 h
    refine r_aload_n C.1 0 89 rfl dX7_renderSuit_88 rfl ?_
    refine r_aload_n C.1 0 90 rfl dX7_renderSuit_89 rfl ?_
    refine r_iload_n C.1 1 91 rfl dX7_renderSuit_90 rfl ?_
    refine r_iload_n C.1 2 92 rfl dX7_renderSuit_91 rfl ?_
    obtain ⟨y71, e70, h⟩ := bd_some h
    refine r_cVi C.1 (st := [.ref a0]) (c_X7_own ha0 e70) yv_X7_own ml_X7_141 rfl ha0 rfl ⟨Nat.le_of_ble_eq_true rfl, Nat.le_of_ble_eq_true rfl⟩ ⟨Nat.le_of_ble_eq_true rfl, Nat.le_of_ble_eq_true rfl⟩ (Nat.le_of_ble_eq_true rfl) rfl 0 0 rfl rfl 95 rfl dX7_renderSuit_92 ?_
    obtain ⟨κ73, e72, h⟩ := bd_some h
    refine r_cVv C.1 (st := []) (c_X7_writesNumber ha0 e72) yv_X7_writesNumber ml_X7_211 rfl ha0 rfl ⟨Nat.le_of_ble_eq_true rfl, Nat.le_of_ble_eq_true rfl⟩ ⟨Nat.le_of_ble_eq_true rfl, Nat.le_of_ble_eq_true rfl⟩ (Nat.le_of_ble_eq_true rfl) rfl 0 0 rfl rfl 98 rfl dX7_renderSuit_95 ?_
    refine r_aload_n C.1 0 99 rfl dX7_renderSuit_98 rfl ?_
    refine r_aload_n C.1 0 100 rfl dX7_renderSuit_99 rfl ?_
    refine r_iload_n C.1 1 101 rfl dX7_renderSuit_100 rfl ?_
    refine r_iload_n C.1 2 102 rfl dX7_renderSuit_101 rfl ?_
    obtain ⟨y75, e74, h⟩ := bd_some h
    refine r_cVi C.1 (st := [.ref a0]) (c_X7_state ha0 e74) yv_X7_state ml_X7_85 rfl ha0 rfl ⟨Nat.le_of_ble_eq_true rfl, Nat.le_of_ble_eq_true rfl⟩ ⟨Nat.le_of_ble_eq_true rfl, Nat.le_of_ble_eq_true rfl⟩ (Nat.le_of_ble_eq_true rfl) rfl 0 0 rfl rfl 105 rfl dX7_renderSuit_102 ?_
    refine r_iconst C.1 1 rfl 106 rfl dX7_renderSuit_105 ?_
    refine r_icmp_ne C.1 114 109 rfl dX7_renderSuit_106 rfl ⟨fun c76 => ?_, fun c76 => ?_⟩
    · have h := if_some_f c76 h
      refine r_bipush C.1 115 rfl 116 rfl dX7_renderSuit_114 ?_
      obtain ⟨κ78, e77, h⟩ := bd_some h
      refine r_cVv C.1 (st := []) (c_X7_writes ha0 e77) yv_X7_writes ml_X7_208 rfl ha0 rfl ⟨Nat.le_of_ble_eq_true rfl, Nat.le_of_ble_eq_true rfl⟩ ⟨Nat.le_of_ble_eq_true rfl, Nat.le_of_ble_eq_true rfl⟩ (Nat.le_of_ble_eq_true rfl) rfl 0 0 rfl rfl 119 rfl dX7_renderSuit_116 ?_
      refine r_iinc C.1 (lv' := [(0, .ref a0), (2, .int v2), (3, .int (v3 + 1))]) 2 [1, 2, 0] 122 rfl dX7_renderSuit_119 rfl (Nat.le_of_ble_eq_true rfl) rfl rfl ?_
      refine r_goto C.1 39 dX7_renderSuit_122 rfl ?_
      exact hK39 κ78 (v3 + 1) h
    · have h := if_some_t c76 h
      refine r_bipush C.1 99 rfl 111 rfl dX7_renderSuit_109 ?_
      refine r_goto C.1 116 dX7_renderSuit_111 rfl ?_
      obtain ⟨κ80, e79, h⟩ := bd_some h
      refine r_cVv C.1 (st := []) (c_X7_writes ha0 e79) yv_X7_writes ml_X7_208 rfl ha0 rfl ⟨Nat.le_of_ble_eq_true rfl, Nat.le_of_ble_eq_true rfl⟩ ⟨Nat.le_of_ble_eq_true rfl, Nat.le_of_ble_eq_true rfl⟩ (Nat.le_of_ble_eq_true rfl) rfl 0 0 rfl rfl 119 rfl dX7_renderSuit_116 ?_
      refine r_iinc C.1 (lv' := [(0, .ref a0), (2, .int v2), (3, .int (v3 + 1))]) 2 [1, 2, 0] 122 rfl dX7_renderSuit_119 rfl (Nat.le_of_ble_eq_true rfl) rfl rfl ?_
      refine r_goto C.1 39 dX7_renderSuit_122 rfl ?_
      exact hK39 κ80 (v3 + 1) h
  · have h := if_some_t c69 h
    refine r_aload_n C.1 0 80 rfl dX7_renderSuit_79 rfl ?_
    refine r_bipush C.1 46 rfl 82 rfl dX7_renderSuit_80 ?_
    obtain ⟨κ82, e81, h⟩ := bd_some h
    refine r_cVv C.1 (st := []) (c_X7_writes ha0 e81) yv_X7_writes ml_X7_208 rfl ha0 rfl ⟨Nat.le_of_ble_eq_true rfl, Nat.le_of_ble_eq_true rfl⟩ ⟨Nat.le_of_ble_eq_true rfl, Nat.le_of_ble_eq_true rfl⟩ (Nat.le_of_ble_eq_true rfl) rfl 0 0 rfl rfl 85 rfl dX7_renderSuit_82 ?_
    refine r_goto C.1 119 dX7_renderSuit_85 rfl ?_
    refine r_iinc C.1 (lv' := [(0, .ref a0), (2, .int v2), (3, .int (v3 + 1))]) 2 [1, 2, 0] 122 rfl dX7_renderSuit_119 rfl (Nat.le_of_ble_eq_true rfl) rfl rfl ?_
    refine r_goto C.1 39 dX7_renderSuit_122 rfl ?_
    exact hK39 κ82 (v3 + 1) h
set_option maxRecDepth 20000 in
theorem w_X7_renderSuit_67 {F : jFm} (C : jB F RX7 cX7_renderSuit 4 (some .int) 3 0 0 62) {κ : jKt} {a0 : Nat} (ha0 : jSof F a0 = (1, 11, 22)) {v2 : Int32} {v3 : Int32} {s0 : Int32} {a1 : Nat} (ha1 : jSof F a1 = (1, 11, 22)) {r : Int32 × jKt} (hq : jOut F (some (.int r.1)) r.2) {K39 : jKt → Int32 → Option (Int32 × jKt)} (hK39 : ∀ (κ : jKt) (u3 : Int32), K39 κ u3 = some r → jW F 4 0 0 κ 39 [(0, .ref a0), (2, .int v2), (3, .int u3)] []) (h : P_X7_renderSuit_67 κ a0 v2 v3 s0 a1 K39 = some r) : jW F 4 0 0 κ 67 [(0, .ref a0), (2, .int v2), (3, .int v3)] [.int s0, .ref a1] := by
  unfold P_X7_renderSuit_67 at h
  obtain ⟨κ84, e83, h⟩ := bd_some h
  refine r_cVv C.1 (st := []) (c_X7_writes ha1 e83) yv_X7_writes ml_X7_208 rfl ha1 rfl ⟨Nat.le_of_ble_eq_true rfl, Nat.le_of_ble_eq_true rfl⟩ ⟨Nat.le_of_ble_eq_true rfl, Nat.le_of_ble_eq_true rfl⟩ (Nat.le_of_ble_eq_true rfl) rfl 0 0 rfl rfl 70 rfl dX7_renderSuit_67 ?_
  exact w_X7_renderSuit_70 C ha0 hq hK39 h
set_option maxRecDepth 20000 in
theorem w_X7_renderSuit_39 {F : jFm} (C : jB F RX7 cX7_renderSuit 4 (some .int) 3 0 0 62) {a0 : Nat} (ha0 : jSof F a0 = (1, 11, 22)) {v2 : Int32} {r : Int32 × jKt} (hq : jOut F (some (.int r.1)) r.2) : ∀ (n : Nat) (κ : jKt) (v3 : Int32), P_X7_renderSuit_39 a0 v2 n κ v3 = some r → jW F 4 0 0 κ 39 [(0, .ref a0), (2, .int v2), (3, .int v3)] [] := by
  intro n
  induction n with
  | zero => intro κ v3 h; cases h
  | succ n ih =>
    intro κ v3 h
    rw [P_X7_renderSuit_39] at h
    refine r_iload_n C.1 2 40 rfl dX7_renderSuit_39 rfl ?_
    refine r_aload_n C.1 0 41 rfl dX7_renderSuit_40 rfl ?_
    refine r_iload_n C.1 1 42 rfl dX7_renderSuit_41 rfl ?_
    obtain ⟨y86, e85, h⟩ := bd_some h
    refine r_cVi C.1 (st := [.int v3]) (c_X7_sleeves ha0 e85) yv_X7_sleeves ml_X7_79 rfl ha0 rfl ⟨Nat.le_of_ble_eq_true rfl, Nat.le_of_ble_eq_true rfl⟩ ⟨Nat.le_of_ble_eq_true rfl, Nat.le_of_ble_eq_true rfl⟩ (Nat.le_of_ble_eq_true rfl) rfl 0 0 rfl rfl 45 rfl dX7_renderSuit_42 ?_
    refine r_icmp_ge C.1 125 48 rfl dX7_renderSuit_45 rfl ⟨fun c87 => ?_, fun c87 => ?_⟩
    · have h := if_some_t c87 h
      refine r_aload_n C.1 0 126 rfl dX7_renderSuit_125 rfl ?_
      refine r_getI C.1 19 fl_X7_205 rfl ha0 129 rfl dX7_renderSuit_126 ?_
      cases h
      exact r_zret C rfl rfl (Nat.le_of_ble_eq_true rfl) (Nat.le_of_ble_eq_true rfl) dX7_renderSuit_129 hq
    · have h := if_some_f c87 h
      refine r_iload_n C.1 2 49 rfl dX7_renderSuit_48 rfl ?_
      refine r_if_le C.1 70 52 rfl dX7_renderSuit_49 rfl ⟨fun c88 => ?_, fun c88 => ?_⟩
      · have h := if_some_t c88 h
        exact w_X7_renderSuit_70 C ha0 hq ih h
      · have h := if_some_f c88 h
        refine r_aload_n C.1 0 53 rfl dX7_renderSuit_52 rfl ?_
        refine r_iload_n C.1 2 54 rfl dX7_renderSuit_53 rfl ?_
        refine r_iconst C.1 2 rfl 55 rfl dX7_renderSuit_54 ?_
        refine r_irem C.1 56 rfl dX7_renderSuit_55 (by decide) ?_
        refine r_iconst C.1 1 rfl 57 rfl dX7_renderSuit_56 ?_
        refine r_icmp_ne C.1 65 60 rfl dX7_renderSuit_57 rfl ⟨fun c89 => ?_, fun c89 => ?_⟩
        · have h := if_some_f c89 h
          refine r_bipush C.1 124 rfl 67 rfl dX7_renderSuit_65 ?_
          exact w_X7_renderSuit_67 C ha0 ha0 hq ih h
        · have h := if_some_t c89 h
          refine r_bipush C.1 32 rfl 62 rfl dX7_renderSuit_60 ?_
          refine r_goto C.1 67 dX7_renderSuit_62 rfl ?_
          exact w_X7_renderSuit_67 C ha0 ha0 hq ih h
set_option maxRecDepth 20000 in
theorem w_X7_renderSuit_14 {F : jFm} (C : jB F RX7 cX7_renderSuit 4 (some .int) 3 0 0 62) {κ : jKt} {a0 : Nat} (ha0 : jSof F a0 = (1, 11, 22)) {v1 : Int32} {s0 : Int32} {a1 : Nat} (ha1 : jSof F a1 = (1, 11, 22)) {r : Int32 × jKt} (hq : jOut F (some (.int r.1)) r.2) (h : P_X7_renderSuit_14 κ a0 v1 s0 a1 = some r) : jW F 4 0 0 κ 14 [(0, .ref a0), (1, .int v1)] [.int s0, .ref a1] := by
  unfold P_X7_renderSuit_14 at h
  obtain ⟨κ90, e91, h⟩ := bnd_some h
  refine r_putI C.1 0 fw_X7_50 rfl rfl rfl ha1 e91 17 rfl dX7_renderSuit_14 ?_
  refine r_aload_n C.1 0 18 rfl dX7_renderSuit_17 rfl ?_
  refine r_getI C.1 0 fl_X7_50 rfl ha0 21 rfl dX7_renderSuit_18 ?_
  refine r_if_eq C.1 26 24 rfl dX7_renderSuit_21 rfl ⟨fun c92 => ?_, fun c92 => ?_⟩
  · have h := if_some_t c92 h
    refine r_aload_n C.1 0 27 rfl dX7_renderSuit_26 rfl ?_
    refine r_iload_n C.1 1 28 rfl dX7_renderSuit_27 rfl ?_
    obtain ⟨y94, e93, h⟩ := bd_some h
    refine r_cVi C.1 (st := []) (c_X7_find ha0 e93) yv_X7_find ml_X7_123 rfl ha0 rfl ⟨Nat.le_of_ble_eq_true rfl, Nat.le_of_ble_eq_true rfl⟩ ⟨Nat.le_of_ble_eq_true rfl, Nat.le_of_ble_eq_true rfl⟩ (Nat.le_of_ble_eq_true rfl) rfl 0 0 rfl rfl 31 rfl dX7_renderSuit_28 ?_
    refine r_istore_n C.1 (lv' := [(0, .ref a0), (1, .int v1), (2, .int y94)]) [1, 2, 0] 32 rfl dX7_renderSuit_31 (Nat.le_of_ble_eq_true rfl) rfl ?_
    refine r_aload_n C.1 0 33 rfl dX7_renderSuit_32 rfl ?_
    refine r_iconst C.1 0 rfl 34 rfl dX7_renderSuit_33 ?_
    obtain ⟨κ95, e96, h⟩ := bnd_some h
    refine r_putI C.1 19 fw_X7_205 rfl rfl rfl ha0 e96 37 rfl dX7_renderSuit_34 ?_
    refine r_iconst C.1 0 rfl 38 rfl dX7_renderSuit_37 ?_
    refine r_istore_n C.1 (lv' := [(0, .ref a0), (1, .int v1), (2, .int y94), (3, .int 0)]) [1, 2, 3, 0] 39 rfl dX7_renderSuit_38 (Nat.le_of_ble_eq_true rfl) rfl ?_
    refine r_lv [0, 2, 3] rfl ?_
    exact w_X7_renderSuit_39 C ha0 hq 4000 κ95 0 h
  · have h := if_some_f c92 h
    refine r_iconst C.1 0 rfl 25 rfl dX7_renderSuit_24 ?_
    cases h
    exact r_zret C rfl rfl (Nat.le_of_ble_eq_true rfl) (Nat.le_of_ble_eq_true rfl) dX7_renderSuit_25 hq
set_option maxRecDepth 20000 in
theorem w_X7_renderSuit_0 {F : jFm} (C : jB F RX7 cX7_renderSuit 4 (some .int) 3 0 0 62) {κ : jKt} {a0 : Nat} (ha0 : jSof F a0 = (1, 11, 22)) {x1 : Int32} {r : Int32 × jKt} (hq : jOut F (some (.int r.1)) r.2) (h : P_X7_renderSuit κ a0 x1 = some r) : jW F 4 0 0 κ 0 [(0, .ref a0), (1, .int x1)] [] := by
  unfold P_X7_renderSuit at h
  refine r_aload_n C.1 0 1 rfl dX7_renderSuit_0 rfl ?_
  refine r_aload_n C.1 0 2 rfl dX7_renderSuit_1 rfl ?_
  refine r_iload_n C.1 1 3 rfl dX7_renderSuit_2 rfl ?_
  obtain ⟨y98, e97, h⟩ := bd_some h
  refine r_cVi C.1 (st := [.ref a0]) (c_X7_find ha0 e97) yv_X7_find ml_X7_123 rfl ha0 rfl ⟨Nat.le_of_ble_eq_true rfl, Nat.le_of_ble_eq_true rfl⟩ ⟨Nat.le_of_ble_eq_true rfl, Nat.le_of_ble_eq_true rfl⟩ (Nat.le_of_ble_eq_true rfl) rfl 0 0 rfl rfl 6 rfl dX7_renderSuit_3 ?_
  refine r_if_ge C.1 13 9 rfl dX7_renderSuit_6 rfl ⟨fun c99 => ?_, fun c99 => ?_⟩
  · have h := if_some_t c99 h
    refine r_iconst C.1 0 rfl 14 rfl dX7_renderSuit_13 ?_
    exact w_X7_renderSuit_14 C ha0 ha0 hq h
  · have h := if_some_f c99 h
    refine r_iconst C.1 1 rfl 10 rfl dX7_renderSuit_9 ?_
    refine r_goto C.1 14 dX7_renderSuit_10 rfl ?_
    exact w_X7_renderSuit_14 C ha0 ha0 hq h
theorem c_X7_renderSuit {l : Launch} {G : jG} {sh : jSh} {κ : jKt} {a0 : Nat} (ha0 : sh a0 = (1, 11, 22)) {x1 : Int32} {r : Int32} {κr : jKt} (h : P_X7_renderSuit κ a0 x1 = some (r, κr)) : jM l G yX7_renderSuit cX7_renderSuit 4 (some .int) 3 0 0 62 [.ref a0, .int x1] (sh, κ) (jIs (some (.int r)) (sh, κr)) jNo :=
  r_body (by decide) (Nat.le_of_ble_eq_true rfl) fun F C hl hG hs ho hx => by
    subst hs
    exact w_X7_renderSuit_0 C ha0 (by rw [ho]; exact ⟨rfl, rfl⟩) h
set_option maxRecDepth 20000 in
theorem w_X7_renderOrder_43 {F : jFm} (C : jB F RX7 cX7_renderOrder 4 (some .int) 4 0 0 90) {a0 : Nat} (ha0 : jSof F a0 = (1, 11, 22)) {v2 : Int32} {r : Int32 × jKt} (hq : jOut F (some (.int r.1)) r.2) : ∀ (n : Nat) (κ : jKt) (v3 : Int32), P_X7_renderOrder_43 a0 v2 n κ v3 = some r → jW F 4 0 0 κ 43 [(0, .ref a0), (2, .int v2), (3, .int v3)] [] := by
  intro n
  induction n with
  | zero => intro κ v3 h; cases h
  | succ n ih =>
    intro κ v3 h
    rw [P_X7_renderOrder_43] at h
    refine r_iload_n C.1 2 44 rfl dX7_renderOrder_43 rfl ?_
    refine r_iload_n C.1 1 45 rfl dX7_renderOrder_44 rfl ?_
    refine r_icmp_ge C.1 74 48 rfl dX7_renderOrder_45 rfl ⟨fun c51 => ?_, fun c51 => ?_⟩
    · have h := if_some_t c51 h
      refine r_aload_n C.1 0 75 rfl dX7_renderOrder_74 rfl ?_
      refine r_getI C.1 19 fl_X7_205 rfl ha0 78 rfl dX7_renderOrder_75 ?_
      cases h
      exact r_zret C rfl rfl (Nat.le_of_ble_eq_true rfl) (Nat.le_of_ble_eq_true rfl) dX7_renderOrder_78 hq
    · have h := if_some_f c51 h
      refine r_iload_n C.1 2 49 rfl dX7_renderOrder_48 rfl ?_
      refine r_if_le C.1 58 52 rfl dX7_renderOrder_49 rfl ⟨fun c52 => ?_, fun c52 => ?_⟩
      · have h := if_some_t c52 h
        refine r_aload_n C.1 0 59 rfl dX7_renderOrder_58 rfl ?_
        refine r_aload_n C.1 0 60 rfl dX7_renderOrder_59 rfl ?_
        refine r_getR C.1 9 fl_X7_29 rfl ha0 63 rfl dX7_renderOrder_60 (fun (h53 : jSof F (kR κ a0 9) = (2, 0, 16)) => ?_)
        refine r_iload_n C.1 2 64 rfl dX7_renderOrder_63 rfl ?_
        obtain ⟨i54, h⟩ := ck_some h
        refine r_iald C.1 h53 i54 65 rfl dX7_renderOrder_64 ?_
        obtain ⟨κ56, e55, h⟩ := bd_some h
        refine r_cVv C.1 (st := []) (c_X7_writesNumber ha0 e55) yv_X7_writesNumber ml_X7_211 rfl ha0 rfl ⟨Nat.le_of_ble_eq_true rfl, Nat.le_of_ble_eq_true rfl⟩ ⟨Nat.le_of_ble_eq_true rfl, Nat.le_of_ble_eq_true rfl⟩ (Nat.le_of_ble_eq_true rfl) rfl 0 0 rfl rfl 68 rfl dX7_renderOrder_65 ?_
        refine r_iinc C.1 (lv' := [(0, .ref a0), (2, .int v2), (3, .int (v3 + 1))]) 2 [1, 2, 0] 71 rfl dX7_renderOrder_68 rfl (Nat.le_of_ble_eq_true rfl) rfl rfl ?_
        refine r_goto C.1 43 dX7_renderOrder_71 rfl ?_
        exact ih κ56 (v3 + 1) h
      · have h := if_some_f c52 h
        refine r_aload_n C.1 0 53 rfl dX7_renderOrder_52 rfl ?_
        refine r_bipush C.1 44 rfl 55 rfl dX7_renderOrder_53 ?_
        obtain ⟨κ58, e57, h⟩ := bd_some h
        refine r_cVv C.1 (st := []) (c_X7_writes ha0 e57) yv_X7_writes ml_X7_208 rfl ha0 rfl ⟨Nat.le_of_ble_eq_true rfl, Nat.le_of_ble_eq_true rfl⟩ ⟨Nat.le_of_ble_eq_true rfl, Nat.le_of_ble_eq_true rfl⟩ (Nat.le_of_ble_eq_true rfl) rfl 0 0 rfl rfl 58 rfl dX7_renderOrder_55 ?_
        refine r_aload_n C.1 0 59 rfl dX7_renderOrder_58 rfl ?_
        refine r_aload_n C.1 0 60 rfl dX7_renderOrder_59 rfl ?_
        refine r_getR C.1 9 fl_X7_29 rfl ha0 63 rfl dX7_renderOrder_60 (fun (h59 : jSof F (kR κ58 a0 9) = (2, 0, 16)) => ?_)
        refine r_iload_n C.1 2 64 rfl dX7_renderOrder_63 rfl ?_
        obtain ⟨i60, h⟩ := ck_some h
        refine r_iald C.1 h59 i60 65 rfl dX7_renderOrder_64 ?_
        obtain ⟨κ62, e61, h⟩ := bd_some h
        refine r_cVv C.1 (st := []) (c_X7_writesNumber ha0 e61) yv_X7_writesNumber ml_X7_211 rfl ha0 rfl ⟨Nat.le_of_ble_eq_true rfl, Nat.le_of_ble_eq_true rfl⟩ ⟨Nat.le_of_ble_eq_true rfl, Nat.le_of_ble_eq_true rfl⟩ (Nat.le_of_ble_eq_true rfl) rfl 0 0 rfl rfl 68 rfl dX7_renderOrder_65 ?_
        refine r_iinc C.1 (lv' := [(0, .ref a0), (2, .int v2), (3, .int (v3 + 1))]) 2 [1, 2, 0] 71 rfl dX7_renderOrder_68 rfl (Nat.le_of_ble_eq_true rfl) rfl rfl ?_
        refine r_goto C.1 43 dX7_renderOrder_71 rfl ?_
        exact ih κ62 (v3 + 1) h
set_option maxRecDepth 20000 in
theorem w_X7_renderOrder_14 {F : jFm} (C : jB F RX7 cX7_renderOrder 4 (some .int) 4 0 0 90) {κ : jKt} {a0 : Nat} (ha0 : jSof F a0 = (1, 11, 22)) {v1 : Int32} {s0 : Int32} {a1 : Nat} (ha1 : jSof F a1 = (1, 11, 22)) {r : Int32 × jKt} (hq : jOut F (some (.int r.1)) r.2) (h : P_X7_renderOrder_14 κ a0 v1 s0 a1 = some r) : jW F 4 0 0 κ 14 [(0, .ref a0), (1, .int v1)] [.int s0, .ref a1] := by
  unfold P_X7_renderOrder_14 at h
  obtain ⟨κ63, e64, h⟩ := bnd_some h
  refine r_putI C.1 0 fw_X7_50 rfl rfl rfl ha1 e64 17 rfl dX7_renderOrder_14 ?_
  refine r_aload_n C.1 0 18 rfl dX7_renderOrder_17 rfl ?_
  refine r_getI C.1 0 fl_X7_50 rfl ha0 21 rfl dX7_renderOrder_18 ?_
  refine r_if_eq C.1 26 24 rfl dX7_renderOrder_21 rfl ⟨fun c65 => ?_, fun c65 => ?_⟩
  · have h := if_some_t c65 h
    refine r_aload_n C.1 0 27 rfl dX7_renderOrder_26 rfl ?_
    refine r_aload_n C.1 0 28 rfl dX7_renderOrder_27 rfl ?_
    refine r_iload_n C.1 1 29 rfl dX7_renderOrder_28 rfl ?_
    obtain ⟨y67, e66, h⟩ := bd_some h
    refine r_cVi C.1 (st := [.ref a0]) (c_X7_find ha0 e66) yv_X7_find ml_X7_123 rfl ha0 rfl ⟨Nat.le_of_ble_eq_true rfl, Nat.le_of_ble_eq_true rfl⟩ ⟨Nat.le_of_ble_eq_true rfl, Nat.le_of_ble_eq_true rfl⟩ (Nat.le_of_ble_eq_true rfl) rfl 0 0 rfl rfl 32 rfl dX7_renderOrder_29 ?_
    obtain ⟨y69, κ70, e68, h⟩ := bd2_some h
    refine r_cVi C.1 (st := []) (c_X7_sorts ha0 e68) yv_X7_sorts ml_X7_196 rfl ha0 rfl ⟨Nat.le_of_ble_eq_true rfl, Nat.le_of_ble_eq_true rfl⟩ ⟨Nat.le_of_ble_eq_true rfl, Nat.le_of_ble_eq_true rfl⟩ (Nat.le_of_ble_eq_true rfl) rfl 0 0 rfl rfl 35 rfl dX7_renderOrder_32 ?_
    refine r_istore_n C.1 (lv' := [(0, .ref a0), (1, .int v1), (2, .int y69)]) [1, 2, 0] 36 rfl dX7_renderOrder_35 (Nat.le_of_ble_eq_true rfl) rfl ?_
    refine r_aload_n C.1 0 37 rfl dX7_renderOrder_36 rfl ?_
    refine r_iconst C.1 0 rfl 38 rfl dX7_renderOrder_37 ?_
    obtain ⟨κ71, e72, h⟩ := bnd_some h
    refine r_putI C.1 19 fw_X7_205 rfl rfl rfl ha0 e72 41 rfl dX7_renderOrder_38 ?_
    refine r_iconst C.1 0 rfl 42 rfl dX7_renderOrder_41 ?_
    refine r_istore_n C.1 (lv' := [(0, .ref a0), (1, .int v1), (2, .int y69), (3, .int 0)]) [1, 2, 3, 0] 43 rfl dX7_renderOrder_42 (Nat.le_of_ble_eq_true rfl) rfl ?_
    refine r_lv [0, 2, 3] rfl ?_
    exact w_X7_renderOrder_43 C ha0 hq 4000 κ71 0 h
  · have h := if_some_f c65 h
    refine r_iconst C.1 0 rfl 25 rfl dX7_renderOrder_24 ?_
    cases h
    exact r_zret C rfl rfl (Nat.le_of_ble_eq_true rfl) (Nat.le_of_ble_eq_true rfl) dX7_renderOrder_25 hq
set_option maxRecDepth 20000 in
theorem w_X7_renderOrder_0 {F : jFm} (C : jB F RX7 cX7_renderOrder 4 (some .int) 4 0 0 90) {κ : jKt} {a0 : Nat} (ha0 : jSof F a0 = (1, 11, 22)) {x1 : Int32} {r : Int32 × jKt} (hq : jOut F (some (.int r.1)) r.2) (h : P_X7_renderOrder κ a0 x1 = some r) : jW F 4 0 0 κ 0 [(0, .ref a0), (1, .int x1)] [] := by
  unfold P_X7_renderOrder at h
  refine r_aload_n C.1 0 1 rfl dX7_renderOrder_0 rfl ?_
  refine r_aload_n C.1 0 2 rfl dX7_renderOrder_1 rfl ?_
  refine r_iload_n C.1 1 3 rfl dX7_renderOrder_2 rfl ?_
  obtain ⟨y74, e73, h⟩ := bd_some h
  refine r_cVi C.1 (st := [.ref a0]) (c_X7_find ha0 e73) yv_X7_find ml_X7_123 rfl ha0 rfl ⟨Nat.le_of_ble_eq_true rfl, Nat.le_of_ble_eq_true rfl⟩ ⟨Nat.le_of_ble_eq_true rfl, Nat.le_of_ble_eq_true rfl⟩ (Nat.le_of_ble_eq_true rfl) rfl 0 0 rfl rfl 6 rfl dX7_renderOrder_3 ?_
  refine r_if_ge C.1 13 9 rfl dX7_renderOrder_6 rfl ⟨fun c75 => ?_, fun c75 => ?_⟩
  · have h := if_some_t c75 h
    refine r_iconst C.1 0 rfl 14 rfl dX7_renderOrder_13 ?_
    exact w_X7_renderOrder_14 C ha0 ha0 hq h
  · have h := if_some_f c75 h
    refine r_iconst C.1 1 rfl 10 rfl dX7_renderOrder_9 ?_
    refine r_goto C.1 14 dX7_renderOrder_10 rfl ?_
    exact w_X7_renderOrder_14 C ha0 ha0 hq h
theorem c_X7_renderOrder {l : Launch} {G : jG} {sh : jSh} {κ : jKt} {a0 : Nat} (ha0 : sh a0 = (1, 11, 22)) {x1 : Int32} {r : Int32} {κr : jKt} (h : P_X7_renderOrder κ a0 x1 = some (r, κr)) : jM l G yX7_renderOrder cX7_renderOrder 4 (some .int) 4 0 0 90 [.ref a0, .int x1] (sh, κ) (jIs (some (.int r)) (sh, κr)) jNo :=
  r_body (by decide) (Nat.le_of_ble_eq_true rfl) fun F C hl hG hs ho hx => by
    subst hs
    exact w_X7_renderOrder_0 C ha0 (by rw [ho]; exact ⟨rfl, rfl⟩) h
set_option maxRecDepth 20000 in
theorem w_X7_does_0 {F : jFm} (C : jB F RX7 cX7_does 5 (some .int) 5 0 0 109) {κ : jKt} {a0 : Nat} (ha0 : jSof F a0 = (1, 11, 22)) {x1 : Int32} {x2 : Int32} {x3 : Int32} {x4 : Int32} {r : Int32 × jKt} (hq : jOut F (some (.int r.1)) r.2) (h : P_X7_does κ a0 x1 x2 x3 x4 = some r) : jW F 5 0 0 κ 0 [(0, .ref a0), (1, .int x1), (2, .int x2), (3, .int x3), (4, .int x4)] [] := by
  unfold P_X7_does at h
  refine r_iload_n C.1 1 1 rfl dX7_does_0 rfl ?_
  by_cases c103 : x1 = 0
  · have h := if_some_t c103 h
    refine r_tableAt C.1 52 (x0 := 0) c103 dX7_does_1 (by decide) (by decide) rfl rfl ?_
    refine r_aload_n C.1 0 53 rfl dX7_does_52 rfl ?_
    refine r_iload_n C.1 2 54 rfl dX7_does_53 rfl ?_
    refine r_iload_n C.1 3 55 rfl dX7_does_54 rfl ?_
    obtain ⟨y105, κ106, e104, h⟩ := bd2_some h
    refine r_cVi C.1 (st := []) (c_X7_buys ha0 e104) yv_X7_buys ml_X7_97 rfl ha0 rfl ⟨Nat.le_of_ble_eq_true rfl, Nat.le_of_ble_eq_true rfl⟩ ⟨Nat.le_of_ble_eq_true rfl, Nat.le_of_ble_eq_true rfl⟩ (Nat.le_of_ble_eq_true rfl) rfl 0 0 rfl rfl 58 rfl dX7_does_55 ?_
    cases h
    exact r_zret C rfl rfl (Nat.le_of_ble_eq_true rfl) (Nat.le_of_ble_eq_true rfl) dX7_does_58 hq
  replace h := if_some_f c103 h
  by_cases c107 : x1 = 1
  · have h := if_some_t c107 h
    refine r_tableAt C.1 59 (x0 := 1) c107 dX7_does_1 (by decide) (by decide) rfl rfl ?_
    refine r_aload_n C.1 0 60 rfl dX7_does_59 rfl ?_
    refine r_iload_n C.1 2 61 rfl dX7_does_60 rfl ?_
    refine r_iload_n C.1 3 62 rfl dX7_does_61 rfl ?_
    obtain ⟨y109, κ110, e108, h⟩ := bd2_some h
    refine r_cVi C.1 (st := []) (c_X7_adds ha0 e108) yv_X7_adds ml_X7_103 rfl ha0 rfl ⟨Nat.le_of_ble_eq_true rfl, Nat.le_of_ble_eq_true rfl⟩ ⟨Nat.le_of_ble_eq_true rfl, Nat.le_of_ble_eq_true rfl⟩ (Nat.le_of_ble_eq_true rfl) rfl 0 0 rfl rfl 65 rfl dX7_does_62 ?_
    cases h
    exact r_zret C rfl rfl (Nat.le_of_ble_eq_true rfl) (Nat.le_of_ble_eq_true rfl) dX7_does_65 hq
  replace h := if_some_f c107 h
  by_cases c111 : x1 = 2
  · have h := if_some_t c111 h
    refine r_tableAt C.1 66 (x0 := 2) c111 dX7_does_1 (by decide) (by decide) rfl rfl ?_
    refine r_aload_n C.1 0 67 rfl dX7_does_66 rfl ?_
    refine r_iload_n C.1 2 68 rfl dX7_does_67 rfl ?_
    refine r_iload_n C.1 3 69 rfl dX7_does_68 rfl ?_
    refine r_iload C.1 4 71 rfl dX7_does_69 rfl ?_
    obtain ⟨y113, κ114, e112, h⟩ := bd2_some h
    refine r_cVi C.1 (st := []) (c_X7_fits ha0 e112) yv_X7_fits ml_X7_110 rfl ha0 rfl ⟨Nat.le_of_ble_eq_true rfl, Nat.le_of_ble_eq_true rfl⟩ ⟨Nat.le_of_ble_eq_true rfl, Nat.le_of_ble_eq_true rfl⟩ (Nat.le_of_ble_eq_true rfl) rfl 0 0 rfl rfl 74 rfl dX7_does_71 ?_
    cases h
    exact r_zret C rfl rfl (Nat.le_of_ble_eq_true rfl) (Nat.le_of_ble_eq_true rfl) dX7_does_74 hq
  replace h := if_some_f c111 h
  by_cases c115 : x1 = 3
  · have h := if_some_t c115 h
    refine r_tableAt C.1 75 (x0 := 3) c115 dX7_does_1 (by decide) (by decide) rfl rfl ?_
    refine r_aload_n C.1 0 76 rfl dX7_does_75 rfl ?_
    refine r_iload_n C.1 2 77 rfl dX7_does_76 rfl ?_
    refine r_iload_n C.1 3 78 rfl dX7_does_77 rfl ?_
    obtain ⟨y117, κ118, e116, h⟩ := bd2_some h
    refine r_cVi C.1 (st := []) (c_X7_orders ha0 e116) yv_X7_orders ml_X7_114 rfl ha0 rfl ⟨Nat.le_of_ble_eq_true rfl, Nat.le_of_ble_eq_true rfl⟩ ⟨Nat.le_of_ble_eq_true rfl, Nat.le_of_ble_eq_true rfl⟩ (Nat.le_of_ble_eq_true rfl) rfl 0 0 rfl rfl 81 rfl dX7_does_78 ?_
    cases h
    exact r_zret C rfl rfl (Nat.le_of_ble_eq_true rfl) (Nat.le_of_ble_eq_true rfl) dX7_does_81 hq
  replace h := if_some_f c115 h
  by_cases c119 : x1 = 4
  · have h := if_some_t c119 h
    refine r_tableAt C.1 82 (x0 := 4) c119 dX7_does_1 (by decide) (by decide) rfl rfl ?_
    refine r_aload_n C.1 0 83 rfl dX7_does_82 rfl ?_
    refine r_aload_n C.1 0 84 rfl dX7_does_83 rfl ?_
    refine r_iload_n C.1 2 85 rfl dX7_does_84 rfl ?_
    obtain ⟨y121, e120, h⟩ := bd_some h
    refine r_cVi C.1 (st := [.ref a0]) (c_X7_find ha0 e120) yv_X7_find ml_X7_123 rfl ha0 rfl ⟨Nat.le_of_ble_eq_true rfl, Nat.le_of_ble_eq_true rfl⟩ ⟨Nat.le_of_ble_eq_true rfl, Nat.le_of_ble_eq_true rfl⟩ (Nat.le_of_ble_eq_true rfl) rfl 0 0 rfl rfl 88 rfl dX7_does_85 ?_
    refine r_iload_n C.1 3 89 rfl dX7_does_88 rfl ?_
    obtain ⟨y123, κ124, e122, h⟩ := bd2_some h
    refine r_cVi C.1 (st := []) (c_X7_cuts ha0 e122) yv_X7_cuts ml_X7_126 rfl ha0 rfl ⟨Nat.le_of_ble_eq_true rfl, Nat.le_of_ble_eq_true rfl⟩ ⟨Nat.le_of_ble_eq_true rfl, Nat.le_of_ble_eq_true rfl⟩ (Nat.le_of_ble_eq_true rfl) rfl 0 0 rfl rfl 92 rfl dX7_does_89 ?_
    cases h
    exact r_zret C rfl rfl (Nat.le_of_ble_eq_true rfl) (Nat.le_of_ble_eq_true rfl) dX7_does_92 hq
  replace h := if_some_f c119 h
  by_cases c125 : x1 = 5
  · have h := if_some_t c125 h
    refine r_tableAt C.1 93 (x0 := 5) c125 dX7_does_1 (by decide) (by decide) rfl rfl ?_
    refine r_aload_n C.1 0 94 rfl dX7_does_93 rfl ?_
    refine r_aload_n C.1 0 95 rfl dX7_does_94 rfl ?_
    refine r_iload_n C.1 2 96 rfl dX7_does_95 rfl ?_
    obtain ⟨y127, e126, h⟩ := bd_some h
    refine r_cVi C.1 (st := [.ref a0]) (c_X7_find ha0 e126) yv_X7_find ml_X7_123 rfl ha0 rfl ⟨Nat.le_of_ble_eq_true rfl, Nat.le_of_ble_eq_true rfl⟩ ⟨Nat.le_of_ble_eq_true rfl, Nat.le_of_ble_eq_true rfl⟩ (Nat.le_of_ble_eq_true rfl) rfl 0 0 rfl rfl 99 rfl dX7_does_96 ?_
    refine r_iload_n C.1 3 100 rfl dX7_does_99 rfl ?_
    obtain ⟨y129, κ130, e128, h⟩ := bd2_some h
    refine r_cVi C.1 (st := []) (c_X7_sews ha0 e128) yv_X7_sews ml_X7_138 rfl ha0 rfl ⟨Nat.le_of_ble_eq_true rfl, Nat.le_of_ble_eq_true rfl⟩ ⟨Nat.le_of_ble_eq_true rfl, Nat.le_of_ble_eq_true rfl⟩ (Nat.le_of_ble_eq_true rfl) rfl 0 0 rfl rfl 103 rfl dX7_does_100 ?_
    cases h
    exact r_zret C rfl rfl (Nat.le_of_ble_eq_true rfl) (Nat.le_of_ble_eq_true rfl) dX7_does_103 hq
  replace h := if_some_f c125 h
  by_cases c131 : x1 = 6
  · have h := if_some_t c131 h
    refine r_tableAt C.1 104 (x0 := 6) c131 dX7_does_1 (by decide) (by decide) rfl rfl ?_
    refine r_aload_n C.1 0 105 rfl dX7_does_104 rfl ?_
    refine r_aload_n C.1 0 106 rfl dX7_does_105 rfl ?_
    refine r_iload_n C.1 2 107 rfl dX7_does_106 rfl ?_
    obtain ⟨y133, e132, h⟩ := bd_some h
    refine r_cVi C.1 (st := [.ref a0]) (c_X7_find ha0 e132) yv_X7_find ml_X7_123 rfl ha0 rfl ⟨Nat.le_of_ble_eq_true rfl, Nat.le_of_ble_eq_true rfl⟩ ⟨Nat.le_of_ble_eq_true rfl, Nat.le_of_ble_eq_true rfl⟩ (Nat.le_of_ble_eq_true rfl) rfl 0 0 rfl rfl 110 rfl dX7_does_107 ?_
    refine r_iload_n C.1 3 111 rfl dX7_does_110 rfl ?_
    obtain ⟨y135, κ136, e134, h⟩ := bd2_some h
    refine r_cVi C.1 (st := []) (c_X7_unpicks ha0 e134) yv_X7_unpicks ml_X7_144 rfl ha0 rfl ⟨Nat.le_of_ble_eq_true rfl, Nat.le_of_ble_eq_true rfl⟩ ⟨Nat.le_of_ble_eq_true rfl, Nat.le_of_ble_eq_true rfl⟩ (Nat.le_of_ble_eq_true rfl) rfl 0 0 rfl rfl 114 rfl dX7_does_111 ?_
    cases h
    exact r_zret C rfl rfl (Nat.le_of_ble_eq_true rfl) (Nat.le_of_ble_eq_true rfl) dX7_does_114 hq
  replace h := if_some_f c131 h
  by_cases c137 : x1 = 7
  · have h := if_some_t c137 h
    refine r_tableAt C.1 115 (x0 := 7) c137 dX7_does_1 (by decide) (by decide) rfl rfl ?_
    refine r_aload_n C.1 0 116 rfl dX7_does_115 rfl ?_
    refine r_aload_n C.1 0 117 rfl dX7_does_116 rfl ?_
    refine r_iload_n C.1 2 118 rfl dX7_does_117 rfl ?_
    obtain ⟨y139, e138, h⟩ := bd_some h
    refine r_cVi C.1 (st := [.ref a0]) (c_X7_find ha0 e138) yv_X7_find ml_X7_123 rfl ha0 rfl ⟨Nat.le_of_ble_eq_true rfl, Nat.le_of_ble_eq_true rfl⟩ ⟨Nat.le_of_ble_eq_true rfl, Nat.le_of_ble_eq_true rfl⟩ (Nat.le_of_ble_eq_true rfl) rfl 0 0 rfl rfl 121 rfl dX7_does_118 ?_
    refine r_iload_n C.1 3 122 rfl dX7_does_121 rfl ?_
    refine r_iload C.1 4 124 rfl dX7_does_122 rfl ?_
    obtain ⟨y141, κ142, e140, h⟩ := bd2_some h
    refine r_cVi C.1 (st := []) (c_X7_demands ha0 e140) yv_X7_demands ml_X7_153 rfl ha0 rfl ⟨Nat.le_of_ble_eq_true rfl, Nat.le_of_ble_eq_true rfl⟩ ⟨Nat.le_of_ble_eq_true rfl, Nat.le_of_ble_eq_true rfl⟩ (Nat.le_of_ble_eq_true rfl) rfl 0 0 rfl rfl 127 rfl dX7_does_124 ?_
    cases h
    exact r_zret C rfl rfl (Nat.le_of_ble_eq_true rfl) (Nat.le_of_ble_eq_true rfl) dX7_does_127 hq
  replace h := if_some_f c137 h
  by_cases c143 : x1 = 8
  · have h := if_some_t c143 h
    refine r_tableAt C.1 128 (x0 := 8) c143 dX7_does_1 (by decide) (by decide) rfl rfl ?_
    refine r_aload_n C.1 0 129 rfl dX7_does_128 rfl ?_
    refine r_aload_n C.1 0 130 rfl dX7_does_129 rfl ?_
    refine r_iload_n C.1 2 131 rfl dX7_does_130 rfl ?_
    obtain ⟨y145, e144, h⟩ := bd_some h
    refine r_cVi C.1 (st := [.ref a0]) (c_X7_find ha0 e144) yv_X7_find ml_X7_123 rfl ha0 rfl ⟨Nat.le_of_ble_eq_true rfl, Nat.le_of_ble_eq_true rfl⟩ ⟨Nat.le_of_ble_eq_true rfl, Nat.le_of_ble_eq_true rfl⟩ (Nat.le_of_ble_eq_true rfl) rfl 0 0 rfl rfl 134 rfl dX7_does_131 ?_
    obtain ⟨y147, κ148, e146, h⟩ := bd2_some h
    refine r_cVi C.1 (st := []) (c_X7_delivers ha0 e146) yv_X7_delivers ml_X7_172 rfl ha0 rfl ⟨Nat.le_of_ble_eq_true rfl, Nat.le_of_ble_eq_true rfl⟩ ⟨Nat.le_of_ble_eq_true rfl, Nat.le_of_ble_eq_true rfl⟩ (Nat.le_of_ble_eq_true rfl) rfl 0 0 rfl rfl 137 rfl dX7_does_134 ?_
    cases h
    exact r_zret C rfl rfl (Nat.le_of_ble_eq_true rfl) (Nat.le_of_ble_eq_true rfl) dX7_does_137 hq
  replace h := if_some_f c143 h
  refine r_tableOut C.1 138 dX7_does_1 (by have g0 : x1.toInt ≠ 0 := sw_ne c103; have g1 : x1.toInt ≠ 1 := sw_ne c107; have g2 : x1.toInt ≠ 2 := sw_ne c111; have g3 : x1.toInt ≠ 3 := sw_ne c115; have g4 : x1.toInt ≠ 4 := sw_ne c119; have g5 : x1.toInt ≠ 5 := sw_ne c125; have g6 : x1.toInt ≠ 6 := sw_ne c131; have g7 : x1.toInt ≠ 7 := sw_ne c137; have g8 : x1.toInt ≠ 8 := sw_ne c143; omega) rfl ?_
  refine r_aload_n C.1 0 139 rfl dX7_does_138 rfl ?_
  refine r_aload_n C.1 0 140 rfl dX7_does_139 rfl ?_
  refine r_iload_n C.1 2 141 rfl dX7_does_140 rfl ?_
  obtain ⟨y150, e149, h⟩ := bd_some h
  refine r_cVi C.1 (st := [.ref a0]) (c_X7_find ha0 e149) yv_X7_find ml_X7_123 rfl ha0 rfl ⟨Nat.le_of_ble_eq_true rfl, Nat.le_of_ble_eq_true rfl⟩ ⟨Nat.le_of_ble_eq_true rfl, Nat.le_of_ble_eq_true rfl⟩ (Nat.le_of_ble_eq_true rfl) rfl 0 0 rfl rfl 144 rfl dX7_does_141 ?_
  obtain ⟨y152, κ153, e151, h⟩ := bd2_some h
  refine r_cVi C.1 (st := []) (c_X7_scraps ha0 e151) yv_X7_scraps ml_X7_175 rfl ha0 rfl ⟨Nat.le_of_ble_eq_true rfl, Nat.le_of_ble_eq_true rfl⟩ ⟨Nat.le_of_ble_eq_true rfl, Nat.le_of_ble_eq_true rfl⟩ (Nat.le_of_ble_eq_true rfl) rfl 0 0 rfl rfl 147 rfl dX7_does_144 ?_
  cases h
  exact r_zret C rfl rfl (Nat.le_of_ble_eq_true rfl) (Nat.le_of_ble_eq_true rfl) dX7_does_147 hq
theorem c_X7_does {l : Launch} {G : jG} {sh : jSh} {κ : jKt} {a0 : Nat} (ha0 : sh a0 = (1, 11, 22)) {x1 : Int32} {x2 : Int32} {x3 : Int32} {x4 : Int32} {r : Int32} {κr : jKt} (h : P_X7_does κ a0 x1 x2 x3 x4 = some (r, κr)) : jM l G yX7_does cX7_does 5 (some .int) 5 0 0 109 [.ref a0, .int x1, .int x2, .int x3, .int x4] (sh, κ) (jIs (some (.int r)) (sh, κr)) jNo :=
  r_body (by decide) (Nat.le_of_ble_eq_true rfl) fun F C hl hG hs ho hx => by
    subst hs
    exact w_X7_does_0 C ha0 (by rw [ho]; exact ⟨rfl, rfl⟩) h
set_option maxRecDepth 20000 in
theorem w_X7_command_99 {F : jFm} (C : jB F RX7 cX7_command 6 none 6 0 0 133) {κ : jKt} {a0 : Nat} (ha0 : jSof F a0 = (1, 11, 22)) {v1 : Int32} {v2 : Int32} {v3 : Int32} {v4 : Int32} {r : jKt} (hq : jOut F none r) (h : P_X7_command_99 κ a0 v1 v2 v3 v4 = some r) : jW F 6 0 0 κ 99 [(0, .ref a0), (1, .int v1), (2, .int v2), (3, .int v3), (4, .int v4)] [] := by
  unfold P_X7_command_99 at h
  refine r_aload_n C.1 0 100 rfl dX7_command_99 rfl ?_
  refine r_getI C.1 20 fl_X7_223 rfl ha0 103 rfl dX7_command_100 ?_
  refine r_if_ne C.1 113 106 rfl dX7_command_103 rfl ⟨fun c53 => ?_, fun c53 => ?_⟩
  · have h := if_some_f c53 h
    cases h
    exact r_vret C rfl (Nat.le_of_ble_eq_true rfl) (Nat.le_of_ble_eq_true rfl) dX7_command_113 hq
  · have h := if_some_t c53 h
    refine r_aload_n C.1 0 107 rfl dX7_command_106 rfl ?_
    refine r_getI C.1 21 fl_X7_243 rfl ha0 110 rfl dX7_command_107 ?_
    refine r_if_ne C.1 114 113 rfl dX7_command_110 rfl ⟨fun c54 => ?_, fun c54 => ?_⟩
    · have h := if_some_f c54 h
      refine r_aload_n C.1 0 115 rfl dX7_command_114 rfl ?_
      refine r_iload_n C.1 1 116 rfl dX7_command_115 rfl ?_
      refine r_iload C.1 4 118 rfl dX7_command_116 rfl ?_
      refine r_iload_n C.1 2 119 rfl dX7_command_118 rfl ?_
      refine r_iload_n C.1 3 120 rfl dX7_command_119 rfl ?_
      obtain ⟨y56, κ57, e55, h⟩ := bd2_some h
      refine r_cVi C.1 (st := []) (c_X7_does ha0 e55) yv_X7_does ml_X7_246 rfl ha0 rfl ⟨Nat.le_of_ble_eq_true rfl, Nat.le_of_ble_eq_true rfl⟩ ⟨Nat.le_of_ble_eq_true rfl, Nat.le_of_ble_eq_true rfl⟩ (Nat.le_of_ble_eq_true rfl) rfl 0 0 rfl rfl 123 rfl dX7_command_120 ?_
      refine r_istore C.1 (lv' := [(0, .ref a0), (1, .int v1), (2, .int v2), (3, .int v3), (4, .int v4), (5, .int y56)]) [1, 2, 3, 4, 5, 0] 125 rfl dX7_command_123 (Nat.le_of_ble_eq_true rfl) rfl ?_
      cases h
      exact r_vret C rfl (Nat.le_of_ble_eq_true rfl) (Nat.le_of_ble_eq_true rfl) dX7_command_125 hq
    · have h := if_some_t c54 h
      cases h
      exact r_vret C rfl (Nat.le_of_ble_eq_true rfl) (Nat.le_of_ble_eq_true rfl) dX7_command_113 hq
set_option maxRecDepth 20000 in
theorem w_X7_command_94 {F : jFm} (C : jB F RX7 cX7_command 6 none 6 0 0 133) {κ : jKt} {a0 : Nat} (ha0 : jSof F a0 = (1, 11, 22)) {v1 : Int32} {v2 : Int32} {v4 : Int32} {s0 : Int32} {a1 : Nat} (ha1 : jSof F a1 = (1, 11, 22)) {r : jKt} (hq : jOut F none r) (h : P_X7_command_94 κ a0 v1 v2 v4 s0 a1 = some r) : jW F 6 0 0 κ 94 [(0, .ref a0), (1, .int v1), (2, .int v2), (4, .int v4)] [.int s0, .ref a1] := by
  unfold P_X7_command_94 at h
  refine r_iconst C.1 3 rfl 95 rfl dX7_command_94 ?_
  obtain ⟨y59, κ60, e58, h⟩ := bd2_some h
  refine r_cVi C.1 (st := []) (c_X7_behindSign ha1 e58) yv_X7_behindSign ml_X7_240 rfl ha1 rfl ⟨Nat.le_of_ble_eq_true rfl, Nat.le_of_ble_eq_true rfl⟩ ⟨Nat.le_of_ble_eq_true rfl, Nat.le_of_ble_eq_true rfl⟩ (Nat.le_of_ble_eq_true rfl) rfl 0 0 rfl rfl 98 rfl dX7_command_95 ?_
  refine r_istore_n C.1 (lv' := [(0, .ref a0), (1, .int v1), (2, .int v2), (3, .int y59), (4, .int v4)]) [1, 2, 3, 0, 4] 99 rfl dX7_command_98 (Nat.le_of_ble_eq_true rfl) rfl ?_
  exact w_X7_command_99 C ha0 hq h
set_option maxRecDepth 20000 in
theorem w_X7_command_74 {F : jFm} (C : jB F RX7 cX7_command 6 none 6 0 0 133) {κ : jKt} {a0 : Nat} (ha0 : jSof F a0 = (1, 11, 22)) {v1 : Int32} {v2 : Int32} {v3 : Int32} {v4 : Int32} {r : jKt} (hq : jOut F none r) (h : P_X7_command_74 κ a0 v1 v2 v3 v4 = some r) : jW F 6 0 0 κ 74 [(0, .ref a0), (1, .int v1), (2, .int v2), (3, .int v3), (4, .int v4)] [] := by
  unfold P_X7_command_74 at h
  refine r_aload_n C.1 0 75 rfl dX7_command_74 rfl ?_
  refine r_getI C.1 20 fl_X7_223 rfl ha0 78 rfl dX7_command_75 ?_
  refine r_if_ne C.1 99 81 rfl dX7_command_78 rfl ⟨fun c61 => ?_, fun c61 => ?_⟩
  · have h := if_some_f c61 h
    exact w_X7_command_99 C ha0 hq h
  · have h := if_some_t c61 h
    refine r_aload_n C.1 0 82 rfl dX7_command_81 rfl ?_
    refine r_iload_n C.1 1 83 rfl dX7_command_82 rfl ?_
    refine r_iconst C.1 2 rfl 84 rfl dX7_command_83 ?_
    refine r_icmp_ne C.1 92 87 rfl dX7_command_84 rfl ⟨fun c62 => ?_, fun c62 => ?_⟩
    · have h := if_some_f c62 h
      refine r_bipush C.1 60 rfl 94 rfl dX7_command_92 ?_
      refine r_lv [0, 1, 2, 4] rfl ?_
      exact w_X7_command_94 C ha0 ha0 hq h
    · have h := if_some_t c62 h
      refine r_bipush C.1 32 rfl 89 rfl dX7_command_87 ?_
      refine r_goto C.1 94 dX7_command_89 rfl ?_
      refine r_lv [0, 1, 2, 4] rfl ?_
      exact w_X7_command_94 C ha0 ha0 hq h
set_option maxRecDepth 20000 in
theorem w_X7_command_63 {F : jFm} (C : jB F RX7 cX7_command 6 none 6 0 0 133) {κ : jKt} {a0 : Nat} (ha0 : jSof F a0 = (1, 11, 22)) {v1 : Int32} {v2 : Int32} {v3 : Int32} {v4 : Int32} {r : jKt} (hq : jOut F none r) (h : P_X7_command_63 κ a0 v1 v2 v3 v4 = some r) : jW F 6 0 0 κ 63 [(0, .ref a0), (1, .int v1), (2, .int v2), (3, .int v3), (4, .int v4)] [] := by
  unfold P_X7_command_63 at h
  refine r_iload_n C.1 1 64 rfl dX7_command_63 rfl ?_
  refine r_iconst C.1 2 rfl 65 rfl dX7_command_64 ?_
  refine r_icmp_eq C.1 74 68 rfl dX7_command_65 rfl ⟨fun c63 => ?_, fun c63 => ?_⟩
  · have h := if_some_t c63 h
    exact w_X7_command_74 C ha0 hq h
  · have h := if_some_f c63 h
    refine r_iload_n C.1 1 69 rfl dX7_command_68 rfl ?_
    refine r_bipush C.1 7 rfl 71 rfl dX7_command_69 ?_
    refine r_icmp_ne C.1 99 74 rfl dX7_command_71 rfl ⟨fun c64 => ?_, fun c64 => ?_⟩
    · have h := if_some_f c64 h
      exact w_X7_command_99 C ha0 hq h
    · have h := if_some_t c64 h
      exact w_X7_command_74 C ha0 hq h
set_option maxRecDepth 20000 in
theorem w_X7_command_59 {F : jFm} (C : jB F RX7 cX7_command 6 none 6 0 0 133) {κ : jKt} {a0 : Nat} (ha0 : jSof F a0 = (1, 11, 22)) {v1 : Int32} {v3 : Int32} {v4 : Int32} {s0 : Int32} {s1 : Int32} {a2 : Nat} (ha2 : jSof F a2 = (1, 11, 22)) {r : jKt} (hq : jOut F none r) (h : P_X7_command_59 κ a0 v1 v3 v4 s0 s1 a2 = some r) : jW F 6 0 0 κ 59 [(0, .ref a0), (1, .int v1), (3, .int v3), (4, .int v4)] [.int s0, .int s1, .ref a2] := by
  unfold P_X7_command_59 at h
  obtain ⟨y66, κ67, e65, h⟩ := bd2_some h
  refine r_cVi C.1 (st := []) (c_X7_behindSign ha2 e65) yv_X7_behindSign ml_X7_240 rfl ha2 rfl ⟨Nat.le_of_ble_eq_true rfl, Nat.le_of_ble_eq_true rfl⟩ ⟨Nat.le_of_ble_eq_true rfl, Nat.le_of_ble_eq_true rfl⟩ (Nat.le_of_ble_eq_true rfl) rfl 0 0 rfl rfl 62 rfl dX7_command_59 ?_
  refine r_istore_n C.1 (lv' := [(0, .ref a0), (1, .int v1), (2, .int y66), (3, .int v3), (4, .int v4)]) [1, 2, 0, 3, 4] 63 rfl dX7_command_62 (Nat.le_of_ble_eq_true rfl) rfl ?_
  exact w_X7_command_63 C ha0 hq h
set_option maxRecDepth 20000 in
theorem w_X7_command_28 {F : jFm} (C : jB F RX7 cX7_command 6 none 6 0 0 133) {κ : jKt} {a0 : Nat} (ha0 : jSof F a0 = (1, 11, 22)) {v1 : Int32} {v2 : Int32} {v3 : Int32} {s0 : Int32} {a1 : Nat} (ha1 : jSof F a1 = (1, 11, 22)) {r : jKt} (hq : jOut F none r) (h : P_X7_command_28 κ a0 v1 v2 v3 s0 a1 = some r) : jW F 6 0 0 κ 28 [(0, .ref a0), (1, .int v1), (2, .int v2), (3, .int v3)] [.int s0, .ref a1] := by
  unfold P_X7_command_28 at h
  obtain ⟨y69, κ70, e68, h⟩ := bd2_some h
  refine r_cVi C.1 (st := []) (c_X7_digits ha1 e68) yv_X7_digits ml_X7_234 rfl ha1 rfl ⟨Nat.le_of_ble_eq_true rfl, Nat.le_of_ble_eq_true rfl⟩ ⟨Nat.le_of_ble_eq_true rfl, Nat.le_of_ble_eq_true rfl⟩ (Nat.le_of_ble_eq_true rfl) rfl 0 0 rfl rfl 31 rfl dX7_command_28 ?_
  refine r_istore C.1 (lv' := [(0, .ref a0), (1, .int v1), (2, .int v2), (3, .int v3), (4, .int y69)]) [1, 2, 3, 4, 0] 33 rfl dX7_command_31 (Nat.le_of_ble_eq_true rfl) rfl ?_
  refine r_iload_n C.1 1 34 rfl dX7_command_33 rfl ?_
  refine r_bipush C.1 8 rfl 36 rfl dX7_command_34 ?_
  refine r_icmp_ge C.1 63 39 rfl dX7_command_36 rfl ⟨fun c71 => ?_, fun c71 => ?_⟩
  · have h := if_some_t c71 h
    exact w_X7_command_63 C ha0 hq h
  · have h := if_some_f c71 h
    refine r_aload_n C.1 0 40 rfl dX7_command_39 rfl ?_
    refine r_getI C.1 20 fl_X7_223 rfl ha0 43 rfl dX7_command_40 ?_
    refine r_if_ne C.1 63 46 rfl dX7_command_43 rfl ⟨fun c72 => ?_, fun c72 => ?_⟩
    · have h := if_some_f c72 h
      exact w_X7_command_63 C ha0 hq h
    · have h := if_some_t c72 h
      refine r_aload_n C.1 0 47 rfl dX7_command_46 rfl ?_
      refine r_bipush C.1 32 rfl 49 rfl dX7_command_47 ?_
      refine r_iload_n C.1 1 50 rfl dX7_command_49 rfl ?_
      refine r_iconst C.1 3 rfl 51 rfl dX7_command_50 ?_
      refine r_icmp_ne C.1 58 54 rfl dX7_command_51 rfl ⟨fun c73 => ?_, fun c73 => ?_⟩
      · have h := if_some_f c73 h
        refine r_iconst C.1 3 rfl 59 rfl dX7_command_58 ?_
        refine r_lv [0, 1, 3, 4] rfl ?_
        exact w_X7_command_59 C ha0 ha0 hq h
      · have h := if_some_t c73 h
        refine r_iconst C.1 1 rfl 55 rfl dX7_command_54 ?_
        refine r_goto C.1 59 dX7_command_55 rfl ?_
        refine r_lv [0, 1, 3, 4] rfl ?_
        exact w_X7_command_59 C ha0 ha0 hq h
set_option maxRecDepth 20000 in
theorem w_X7_command_0 {F : jFm} (C : jB F RX7 cX7_command 6 none 6 0 0 133) {κ : jKt} {a0 : Nat} (ha0 : jSof F a0 = (1, 11, 22)) {r : jKt} (hq : jOut F none r) (h : P_X7_command κ a0 = some r) : jW F 6 0 0 κ 0 [(0, .ref a0)] [] := by
  unfold P_X7_command at h
  refine r_aload_n C.1 0 1 rfl dX7_command_0 rfl ?_
  obtain ⟨y75, κ76, e74, h⟩ := bd2_some h
  refine r_cVi C.1 (st := []) (c_X7_word ha0 e74) yv_X7_word ml_X7_237 rfl ha0 rfl ⟨Nat.le_of_ble_eq_true rfl, Nat.le_of_ble_eq_true rfl⟩ ⟨Nat.le_of_ble_eq_true rfl, Nat.le_of_ble_eq_true rfl⟩ (Nat.le_of_ble_eq_true rfl) rfl 0 0 rfl rfl 4 rfl dX7_command_1 ?_
  refine r_istore_n C.1 (lv' := [(0, .ref a0), (1, .int y75)]) [1, 0] 5 rfl dX7_command_4 (Nat.le_of_ble_eq_true rfl) rfl ?_
  refine r_iconst C.1 0 rfl 6 rfl dX7_command_5 ?_
  refine r_istore_n C.1 (lv' := [(0, .ref a0), (1, .int y75), (2, .int 0)]) [1, 2, 0] 7 rfl dX7_command_6 (Nat.le_of_ble_eq_true rfl) rfl ?_
  refine r_iconst C.1 0 rfl 8 rfl dX7_command_7 ?_
  refine r_istore_n C.1 (lv' := [(0, .ref a0), (1, .int y75), (2, .int 0), (3, .int 0)]) [1, 2, 3, 0] 9 rfl dX7_command_8 (Nat.le_of_ble_eq_true rfl) rfl ?_
  refine r_aload_n C.1 0 10 rfl dX7_command_9 rfl ?_
  refine r_getI C.1 20 fl_X7_223 rfl ha0 13 rfl dX7_command_10 ?_
  refine r_if_eq C.1 17 16 rfl dX7_command_13 rfl ⟨fun c77 => ?_, fun c77 => ?_⟩
  · have h := if_some_t c77 h
    refine r_aload_n C.1 0 18 rfl dX7_command_17 rfl ?_
    refine r_iload_n C.1 1 19 rfl dX7_command_18 rfl ?_
    refine r_iconst C.1 4 rfl 20 rfl dX7_command_19 ?_
    refine r_icmp_ge C.1 27 23 rfl dX7_command_20 rfl ⟨fun c78 => ?_, fun c78 => ?_⟩
    · have h := if_some_t c78 h
      refine r_iconst C.1 3 rfl 28 rfl dX7_command_27 ?_
      exact w_X7_command_28 C ha0 ha0 hq h
    · have h := if_some_f c78 h
      refine r_iconst C.1 1 rfl 24 rfl dX7_command_23 ?_
      refine r_goto C.1 28 dX7_command_24 rfl ?_
      exact w_X7_command_28 C ha0 ha0 hq h
  · have h := if_some_f c77 h
    cases h
    exact r_vret C rfl (Nat.le_of_ble_eq_true rfl) (Nat.le_of_ble_eq_true rfl) dX7_command_16 hq
theorem c_X7_command {l : Launch} {G : jG} {sh : jSh} {κ : jKt} {a0 : Nat} (ha0 : sh a0 = (1, 11, 22))  {κr : jKt} (h : P_X7_command κ a0 = some κr) : jM l G yX7_command cX7_command 6 none 6 0 0 133 [.ref a0] (sh, κ) (jIs none (sh, κr)) jNo :=
  r_body (by decide) (Nat.le_of_ble_eq_true rfl) fun F C hl hG hs ho hx => by
    subst hs
    exact w_X7_command_0 C ha0 (by rw [ho]; exact ⟨rfl, rfl⟩) h
set_option maxRecDepth 20000 in
theorem w_X7_commands_16 {F : jFm} (C : jB F RX7 cX7_commands 2 (some .int) 7 0 0 158) {a0 : Nat} (ha0 : jSof F a0 = (1, 11, 22)) {r : Int32 × jKt} (hq : jOut F (some (.int r.1)) r.2) : ∀ (n : Nat) (κ : jKt) (v1 : Int32), P_X7_commands_16 a0 n κ v1 = some r → jW F 2 0 0 κ 16 [(0, .ref a0), (1, .int v1)] [] := by
  intro n
  induction n with
  | zero => intro κ v1 h; cases h
  | succ n ih =>
    intro κ v1 h
    rw [P_X7_commands_16] at h
    refine r_aload_n C.1 0 17 rfl dX7_commands_16 rfl ?_
    refine r_getI C.1 20 fl_X7_223 rfl ha0 20 rfl dX7_commands_17 ?_
    refine r_if_ne C.1 64 23 rfl dX7_commands_20 rfl ⟨fun c29 => ?_, fun c29 => ?_⟩
    · have h := if_some_f c29 h
      refine r_iload_n C.1 1 65 rfl dX7_commands_64 rfl ?_
      cases h
      exact r_zret C rfl rfl (Nat.le_of_ble_eq_true rfl) (Nat.le_of_ble_eq_true rfl) dX7_commands_65 hq
    · have h := if_some_t c29 h
      refine r_aload_n C.1 0 24 rfl dX7_commands_23 rfl ?_
      refine r_getI C.1 0 fl_X7_50 rfl ha0 27 rfl dX7_commands_24 ?_
      refine r_if_ne C.1 64 30 rfl dX7_commands_27 rfl ⟨fun c30 => ?_, fun c30 => ?_⟩
      · have h := if_some_f c30 h
        refine r_iload_n C.1 1 65 rfl dX7_commands_64 rfl ?_
        cases h
        exact r_zret C rfl rfl (Nat.le_of_ble_eq_true rfl) (Nat.le_of_ble_eq_true rfl) dX7_commands_65 hq
      · have h := if_some_t c30 h
        refine r_aload_n C.1 0 31 rfl dX7_commands_30 rfl ?_
        refine r_getI C.1 17 fl_X7_217 rfl ha0 34 rfl dX7_commands_31 ?_
        refine r_aload_n C.1 0 35 rfl dX7_commands_34 rfl ?_
        refine r_getI C.1 18 fl_X7_220 rfl ha0 38 rfl dX7_commands_35 ?_
        refine r_icmp_ge C.1 64 41 rfl dX7_commands_38 rfl ⟨fun c31 => ?_, fun c31 => ?_⟩
        · have h := if_some_t c31 h
          refine r_iload_n C.1 1 65 rfl dX7_commands_64 rfl ?_
          cases h
          exact r_zret C rfl rfl (Nat.le_of_ble_eq_true rfl) (Nat.le_of_ble_eq_true rfl) dX7_commands_65 hq
        · have h := if_some_f c31 h
          refine r_aload_n C.1 0 42 rfl dX7_commands_41 rfl ?_
          refine r_bipush C.1 59 rfl 44 rfl dX7_commands_42 ?_
          obtain ⟨κ33, e32, h⟩ := bd_some h
          refine r_cVv C.1 (st := []) (c_X7_mark ha0 e32) yv_X7_mark ml_X7_231 rfl ha0 rfl ⟨Nat.le_of_ble_eq_true rfl, Nat.le_of_ble_eq_true rfl⟩ ⟨Nat.le_of_ble_eq_true rfl, Nat.le_of_ble_eq_true rfl⟩ (Nat.le_of_ble_eq_true rfl) rfl 0 0 rfl rfl 47 rfl dX7_commands_44 ?_
          refine r_aload_n C.1 0 48 rfl dX7_commands_47 rfl ?_
          refine r_getI C.1 20 fl_X7_223 rfl ha0 51 rfl dX7_commands_48 ?_
          refine r_if_ne C.1 58 54 rfl dX7_commands_51 rfl ⟨fun c34 => ?_, fun c34 => ?_⟩
          · have h := if_some_f c34 h
            refine r_iinc C.1 (lv' := [(0, .ref a0), (1, .int (v1 + 1))]) 1 [1, 0] 61 rfl dX7_commands_58 rfl (Nat.le_of_ble_eq_true rfl) rfl rfl ?_
            refine r_goto C.1 16 dX7_commands_61 rfl ?_
            exact ih κ33 (v1 + 1) h
          · have h := if_some_t c34 h
            refine r_aload_n C.1 0 55 rfl dX7_commands_54 rfl ?_
            obtain ⟨κ36, e35, h⟩ := bd_some h
            refine r_cVv C.1 (st := []) (c_X7_command ha0 e35) yv_X7_command ml_X7_250 rfl ha0 rfl ⟨Nat.le_of_ble_eq_true rfl, Nat.le_of_ble_eq_true rfl⟩ ⟨Nat.le_of_ble_eq_true rfl, Nat.le_of_ble_eq_true rfl⟩ (Nat.le_of_ble_eq_true rfl) rfl 0 0 rfl rfl 58 rfl dX7_commands_55 ?_
            refine r_iinc C.1 (lv' := [(0, .ref a0), (1, .int (v1 + 1))]) 1 [1, 0] 61 rfl dX7_commands_58 rfl (Nat.le_of_ble_eq_true rfl) rfl rfl ?_
            refine r_goto C.1 16 dX7_commands_61 rfl ?_
            exact ih κ36 (v1 + 1) h
set_option maxRecDepth 20000 in
theorem w_X7_commands_0 {F : jFm} (C : jB F RX7 cX7_commands 2 (some .int) 7 0 0 158) {κ : jKt} {a0 : Nat} (ha0 : jSof F a0 = (1, 11, 22)) {r : Int32 × jKt} (hq : jOut F (some (.int r.1)) r.2) (h : P_X7_commands κ a0 = some r) : jW F 2 0 0 κ 0 [(0, .ref a0)] [] := by
  unfold P_X7_commands at h
  refine r_aload_n C.1 0 1 rfl dX7_commands_0 rfl ?_
  refine r_iconst C.1 0 rfl 2 rfl dX7_commands_1 ?_
  obtain ⟨κ37, e38, h⟩ := bnd_some h
  refine r_putI C.1 17 fw_X7_217 rfl rfl rfl ha0 e38 5 rfl dX7_commands_2 ?_
  refine r_aload_n C.1 0 6 rfl dX7_commands_5 rfl ?_
  refine r_iconst C.1 0 rfl 7 rfl dX7_commands_6 ?_
  obtain ⟨κ39, e40, h⟩ := bnd_some h
  refine r_putI C.1 20 fw_X7_223 rfl rfl rfl ha0 e40 10 rfl dX7_commands_7 ?_
  refine r_iconst C.1 1 rfl 11 rfl dX7_commands_10 ?_
  refine r_istore_n C.1 (lv' := [(0, .ref a0), (1, .int 1)]) [1, 0] 12 rfl dX7_commands_11 (Nat.le_of_ble_eq_true rfl) rfl ?_
  refine r_aload_n C.1 0 13 rfl dX7_commands_12 rfl ?_
  obtain ⟨κ42, e41, h⟩ := bd_some h
  refine r_cVv C.1 (st := []) (c_X7_command ha0 e41) yv_X7_command ml_X7_250 rfl ha0 rfl ⟨Nat.le_of_ble_eq_true rfl, Nat.le_of_ble_eq_true rfl⟩ ⟨Nat.le_of_ble_eq_true rfl, Nat.le_of_ble_eq_true rfl⟩ (Nat.le_of_ble_eq_true rfl) rfl 0 0 rfl rfl 16 rfl dX7_commands_13 ?_
  exact w_X7_commands_16 C ha0 hq 4000 κ42 1 h
theorem c_X7_commands {l : Launch} {G : jG} {sh : jSh} {κ : jKt} {a0 : Nat} (ha0 : sh a0 = (1, 11, 22)) {r : Int32} {κr : jKt} (h : P_X7_commands κ a0 = some (r, κr)) : jM l G yX7_commands cX7_commands 2 (some .int) 7 0 0 158 [.ref a0] (sh, κ) (jIs (some (.int r)) (sh, κr)) jNo :=
  r_body (by decide) (Nat.le_of_ble_eq_true rfl) fun F C hl hG hs ho hx => by
    subst hs
    exact w_X7_commands_0 C ha0 (by rw [ho]; exact ⟨rfl, rfl⟩) h
set_option maxRecDepth 20000 in
theorem w_X7_runScript_0 {F : jFm} (C : jB F RX7 cX7_runScript 2 (some .int) 8 0 0 179) {κ : jKt} {a0 : Nat} (ha0 : jSof F a0 = (1, 11, 22)) {r : Int32 × jKt} (hq : jOut F (some (.int r.1)) r.2) (h : P_X7_runScript κ a0 = some r) : jW F 2 0 0 κ 0 [(0, .ref a0)] [] := by
  unfold P_X7_runScript at h
  refine r_aload_n C.1 0 1 rfl dX7_runScript_0 rfl ?_
  obtain ⟨κ68, e67, h⟩ := bd_some h
  refine r_cVv C.1 (st := []) (c_X7_begins ha0 e67) yv_X7_begins ml_X7_94 rfl ha0 rfl ⟨Nat.le_of_ble_eq_true rfl, Nat.le_of_ble_eq_true rfl⟩ ⟨Nat.le_of_ble_eq_true rfl, Nat.le_of_ble_eq_true rfl⟩ (Nat.le_of_ble_eq_true rfl) rfl 0 0 rfl rfl 4 rfl dX7_runScript_1 ?_
  refine r_aload_n C.1 0 5 rfl dX7_runScript_4 rfl ?_
  refine r_aload_n C.1 0 6 rfl dX7_runScript_5 rfl ?_
  refine r_getI C.1 16 fl_X7_214 rfl ha0 9 rfl dX7_runScript_6 ?_
  obtain ⟨κ69, e70, h⟩ := bnd_some h
  refine r_putI C.1 18 fw_X7_220 rfl rfl rfl ha0 e70 12 rfl dX7_runScript_9 ?_
  refine r_aload_n C.1 0 13 rfl dX7_runScript_12 rfl ?_
  refine r_iconst C.1 0 rfl 14 rfl dX7_runScript_13 ?_
  obtain ⟨κ71, e72, h⟩ := bnd_some h
  refine r_putI C.1 16 fw_X7_214 rfl rfl rfl ha0 e72 17 rfl dX7_runScript_14 ?_
  refine r_aload_n C.1 0 18 rfl dX7_runScript_17 rfl ?_
  refine r_iconst C.1 0 rfl 19 rfl dX7_runScript_18 ?_
  obtain ⟨κ73, e74, h⟩ := bnd_some h
  refine r_putI C.1 21 fw_X7_243 rfl rfl rfl ha0 e74 22 rfl dX7_runScript_19 ?_
  refine r_aload_n C.1 0 23 rfl dX7_runScript_22 rfl ?_
  obtain ⟨y76, κ77, e75, h⟩ := bd2_some h
  refine r_cVi C.1 (st := []) (c_X7_commands ha0 e75) yv_X7_commands ml_X7_253 rfl ha0 rfl ⟨Nat.le_of_ble_eq_true rfl, Nat.le_of_ble_eq_true rfl⟩ ⟨Nat.le_of_ble_eq_true rfl, Nat.le_of_ble_eq_true rfl⟩ (Nat.le_of_ble_eq_true rfl) rfl 0 0 rfl rfl 26 rfl dX7_runScript_23 ?_
  refine r_istore_n C.1 (lv' := [(0, .ref a0), (1, .int y76)]) [1, 0] 27 rfl dX7_runScript_26 (Nat.le_of_ble_eq_true rfl) rfl ?_
  refine r_aload_n C.1 0 28 rfl dX7_runScript_27 rfl ?_
  refine r_getI C.1 20 fl_X7_223 rfl ha0 31 rfl dX7_runScript_28 ?_
  refine r_if_eq C.1 48 34 rfl dX7_runScript_31 rfl ⟨fun c78 => ?_, fun c78 => ?_⟩
  · have h := if_some_t c78 h
    refine r_aload_n C.1 0 49 rfl dX7_runScript_48 rfl ?_
    refine r_iconst C.1 1 rfl 50 rfl dX7_runScript_49 ?_
    obtain ⟨κ79, e80, h⟩ := bnd_some h
    refine r_putI C.1 21 fw_X7_243 rfl rfl rfl ha0 e80 53 rfl dX7_runScript_50 ?_
    refine r_aload_n C.1 0 54 rfl dX7_runScript_53 rfl ?_
    obtain ⟨y82, κ83, e81, h⟩ := bd2_some h
    refine r_cVi C.1 (st := []) (c_X7_commands ha0 e81) yv_X7_commands ml_X7_253 rfl ha0 rfl ⟨Nat.le_of_ble_eq_true rfl, Nat.le_of_ble_eq_true rfl⟩ ⟨Nat.le_of_ble_eq_true rfl, Nat.le_of_ble_eq_true rfl⟩ (Nat.le_of_ble_eq_true rfl) rfl 0 0 rfl rfl 57 rfl dX7_runScript_54 ?_
    refine r_istore_n C.1 (lv' := [(0, .ref a0), (1, .int y82)]) [1, 0] 58 rfl dX7_runScript_57 (Nat.le_of_ble_eq_true rfl) rfl ?_
    refine r_aload_n C.1 0 59 rfl dX7_runScript_58 rfl ?_
    refine r_getI C.1 0 fl_X7_50 rfl ha0 62 rfl dX7_runScript_59 ?_
    refine r_if_eq C.1 77 65 rfl dX7_runScript_62 rfl ⟨fun c84 => ?_, fun c84 => ?_⟩
    · have h := if_some_t c84 h
      refine r_aload_n C.1 0 78 rfl dX7_runScript_77 rfl ?_
      refine r_iload_n C.1 1 79 rfl dX7_runScript_78 rfl ?_
      obtain ⟨y86, κ87, e85, h⟩ := bd2_some h
      refine r_cVi C.1 (st := []) (c_X7_ends ha0 e85) yv_X7_ends ml_X7_100 rfl ha0 rfl ⟨Nat.le_of_ble_eq_true rfl, Nat.le_of_ble_eq_true rfl⟩ ⟨Nat.le_of_ble_eq_true rfl, Nat.le_of_ble_eq_true rfl⟩ (Nat.le_of_ble_eq_true rfl) rfl 0 0 rfl rfl 82 rfl dX7_runScript_79 ?_
      cases h
      exact r_zret C rfl rfl (Nat.le_of_ble_eq_true rfl) (Nat.le_of_ble_eq_true rfl) dX7_runScript_82 hq
    · have h := if_some_f c84 h
      refine r_aload_n C.1 0 66 rfl dX7_runScript_65 rfl ?_
      refine r_iload_n C.1 1 67 rfl dX7_runScript_66 rfl ?_
      refine r_iconst C.1 1 rfl 68 rfl dX7_runScript_67 ?_
      refine r_isub C.1 69 rfl dX7_runScript_68 ?_
      obtain ⟨κ88, e89, h⟩ := bnd_some h
      refine r_putI C.1 3 fw_X7_13 rfl rfl rfl ha0 e89 72 rfl dX7_runScript_69 ?_
      refine r_aload_n C.1 0 73 rfl dX7_runScript_72 rfl ?_
      refine r_iconst C.1 2 rfl 74 rfl dX7_runScript_73 ?_
      obtain ⟨κ90, e91, h⟩ := bnd_some h
      refine r_putI C.1 0 fw_X7_50 rfl rfl rfl ha0 e91 77 rfl dX7_runScript_74 ?_
      refine r_aload_n C.1 0 78 rfl dX7_runScript_77 rfl ?_
      refine r_iload_n C.1 1 79 rfl dX7_runScript_78 rfl ?_
      obtain ⟨y93, κ94, e92, h⟩ := bd2_some h
      refine r_cVi C.1 (st := []) (c_X7_ends ha0 e92) yv_X7_ends ml_X7_100 rfl ha0 rfl ⟨Nat.le_of_ble_eq_true rfl, Nat.le_of_ble_eq_true rfl⟩ ⟨Nat.le_of_ble_eq_true rfl, Nat.le_of_ble_eq_true rfl⟩ (Nat.le_of_ble_eq_true rfl) rfl 0 0 rfl rfl 82 rfl dX7_runScript_79 ?_
      cases h
      exact r_zret C rfl rfl (Nat.le_of_ble_eq_true rfl) (Nat.le_of_ble_eq_true rfl) dX7_runScript_82 hq
  · have h := if_some_f c78 h
    refine r_aload_n C.1 0 35 rfl dX7_runScript_34 rfl ?_
    refine r_aload_n C.1 0 36 rfl dX7_runScript_35 rfl ?_
    refine r_getI C.1 17 fl_X7_217 rfl ha0 39 rfl dX7_runScript_36 ?_
    obtain ⟨κ95, e96, h⟩ := bnd_some h
    refine r_putI C.1 2 fw_X7_7 rfl rfl rfl ha0 e96 42 rfl dX7_runScript_39 ?_
    refine r_aload_n C.1 0 43 rfl dX7_runScript_42 rfl ?_
    refine r_iconst C.1 1 rfl 44 rfl dX7_runScript_43 ?_
    obtain ⟨y98, κ99, e97, h⟩ := bd2_some h
    refine r_cVi C.1 (st := []) (c_X7_fail ha0 e97) yv_X7_fail ml_X7_91 rfl ha0 rfl ⟨Nat.le_of_ble_eq_true rfl, Nat.le_of_ble_eq_true rfl⟩ ⟨Nat.le_of_ble_eq_true rfl, Nat.le_of_ble_eq_true rfl⟩ (Nat.le_of_ble_eq_true rfl) rfl 0 0 rfl rfl 47 rfl dX7_runScript_44 ?_
    cases h
    exact r_zret C rfl rfl (Nat.le_of_ble_eq_true rfl) (Nat.le_of_ble_eq_true rfl) dX7_runScript_47 hq
theorem c_X7_runScript {l : Launch} {G : jG} {sh : jSh} {κ : jKt} {a0 : Nat} (ha0 : sh a0 = (1, 11, 22)) {r : Int32} {κr : jKt} (h : P_X7_runScript κ a0 = some (r, κr)) : jM l G yX7_runScript cX7_runScript 2 (some .int) 8 0 0 179 [.ref a0] (sh, κ) (jIs (some (.int r)) (sh, κr)) jNo :=
  r_body (by decide) (Nat.le_of_ble_eq_true rfl) fun F C hl hG hs ho hx => by
    subst hs
    exact w_X7_runScript_0 C ha0 (by rw [ho]; exact ⟨rfl, rfl⟩) h
