def P_L_law_3082 (xs : Nat → Int32) (L : Nat) (κ : jKt) (a1 : Nat) (a2 : Nat) (a3 : Nat) (a4 : Nat) (v5 : Int32) (K28 : jKt → Int32 → Option (Int32 × jKt)) : Option (Int32 × jKt) :=
  K28 κ (v5 + 4)
def P_L_law_272 (xs : Nat → Int32) (L : Nat) (κ : jKt) (a1 : Nat) (a2 : Nat) (a3 : Nat) (a4 : Nat) (v5 : Int32) (K28 : jKt → Int32 → Option (Int32 × jKt)) : Option (Int32 × jKt) :=
  ck (jin (v5 + 1) L) <|
  ck (jin (v5 + 2) L) <|
  bd2 (P_L_buyCloth κ a1 (xs (ix (v5 + 1))) (xs (ix (v5 + 2))) a3) fun y1444 κ1445 =>
  ck (jin (v5 + 1) L) <|
  ck (jin (v5 + 2) L) <|
  bd2 (P_X7_buyCloth κ1445 a2 (xs (ix (v5 + 1))) (xs (ix (v5 + 2)))) fun y1449 κ1450 =>
  bd (P_X7_thrown κ1450 a2) fun y1452 =>
  if y1452 = y1444 then
  if y1444 = 0 then
  if (lg_cmp (kL κ1450 a3 (ix 0)) y1449.toInt64) = 0 then
  P_L_law_3082 xs L κ1450 a1 a2 a3 a4 v5 K28
  else
  some (0, κ1450)
  else
  P_L_law_3082 xs L κ1450 a1 a2 a3 a4 v5 K28
  else
  some (0, κ1450)
def P_L_law_340 (xs : Nat → Int32) (L : Nat) (κ : jKt) (a1 : Nat) (a2 : Nat) (a3 : Nat) (a4 : Nat) (v5 : Int32) (K28 : jKt → Int32 → Option (Int32 × jKt)) : Option (Int32 × jKt) :=
  ck (jin (v5 + 1) L) <|
  ck (jin (v5 + 2) L) <|
  bd2 (P_L_addCustomer κ a1 (xs (ix (v5 + 1))) (xs (ix (v5 + 2))) a3) fun y1459 κ1460 =>
  ck (jin (v5 + 1) L) <|
  ck (jin (v5 + 2) L) <|
  bd2 (P_X7_addCustomer κ1460 a2 (xs (ix (v5 + 1))) (xs (ix (v5 + 2)))) fun y1464 κ1465 =>
  bd (P_X7_thrown κ1465 a2) fun y1467 =>
  if y1467 = y1459 then
  if y1459 = 0 then
  if (lg_cmp (kL κ1465 a3 (ix 0)) y1464.toInt64) = 0 then
  P_L_law_3082 xs L κ1465 a1 a2 a3 a4 v5 K28
  else
  some (0, κ1465)
  else
  P_L_law_3082 xs L κ1465 a1 a2 a3 a4 v5 K28
  else
  some (0, κ1465)
def P_L_law_408 (xs : Nat → Int32) (L : Nat) (κ : jKt) (a1 : Nat) (a2 : Nat) (a3 : Nat) (a4 : Nat) (v5 : Int32) (K28 : jKt → Int32 → Option (Int32 × jKt)) : Option (Int32 × jKt) :=
  ck (jin (v5 + 1) L) <|
  ck (jin (v5 + 2) L) <|
  ck (jin (v5 + 3) L) <|
  bd2 (P_L_fit κ a1 (xs (ix (v5 + 1))) (xs (ix (v5 + 2))) (xs (ix (v5 + 3))) a3) fun y1475 κ1476 =>
  ck (jin (v5 + 1) L) <|
  ck (jin (v5 + 2) L) <|
  ck (jin (v5 + 3) L) <|
  bd2 (P_X7_fit κ1476 a2 (xs (ix (v5 + 1))) (xs (ix (v5 + 2))) (xs (ix (v5 + 3)))) fun y1481 κ1482 =>
  bd (P_X7_thrown κ1482 a2) fun y1484 =>
  if y1484 = y1475 then
  if y1475 = 0 then
  if (lg_cmp (kL κ1482 a3 (ix 0)) y1481.toInt64) = 0 then
  P_L_law_3082 xs L κ1482 a1 a2 a3 a4 v5 K28
  else
  some (0, κ1482)
  else
  P_L_law_3082 xs L κ1482 a1 a2 a3 a4 v5 K28
  else
  some (0, κ1482)
def P_L_law_488 (xs : Nat → Int32) (L : Nat) (κ : jKt) (a1 : Nat) (a2 : Nat) (a3 : Nat) (a4 : Nat) (v5 : Int32) (K28 : jKt → Int32 → Option (Int32 × jKt)) : Option (Int32 × jKt) :=
  ck (jin (v5 + 1) L) <|
  ck (jin (v5 + 2) L) <|
  bd2 (P_L_orderSuit κ a1 (xs (ix (v5 + 1))) (xs (ix (v5 + 2))) a3) fun y1491 κ1492 =>
  ck (jin (v5 + 1) L) <|
  ck (jin (v5 + 2) L) <|
  bd2 (P_X7_orderSuit κ1492 a2 (xs (ix (v5 + 1))) (xs (ix (v5 + 2)))) fun y1496 κ1497 =>
  bd (P_X7_thrown κ1497 a2) fun y1499 =>
  if y1499 = y1491 then
  if y1491 = 0 then
  if (lg_cmp (kL κ1497 a3 (ix 0)) y1496.toInt64) = 0 then
  P_L_law_3082 xs L κ1497 a1 a2 a3 a4 v5 K28
  else
  some (0, κ1497)
  else
  P_L_law_3082 xs L κ1497 a1 a2 a3 a4 v5 K28
  else
  some (0, κ1497)
def P_L_law_556 (xs : Nat → Int32) (L : Nat) (κ : jKt) (a1 : Nat) (a2 : Nat) (a3 : Nat) (a4 : Nat) (v5 : Int32) (K28 : jKt → Int32 → Option (Int32 × jKt)) : Option (Int32 × jKt) :=
  ck (jin (v5 + 1) L) <|
  ck (jin (v5 + 2) L) <|
  bd2 (P_L_cut κ a1 (xs (ix (v5 + 1))) (xs (ix (v5 + 2))) a3) fun y1506 κ1507 =>
  ck (jin (v5 + 1) L) <|
  ck (jin (v5 + 2) L) <|
  bd2 (P_X7_cut κ1507 a2 (xs (ix (v5 + 1))) (xs (ix (v5 + 2)))) fun y1511 κ1512 =>
  bd (P_X7_thrown κ1512 a2) fun y1514 =>
  if y1514 = y1506 then
  if y1506 = 0 then
  if (lg_cmp (kL κ1512 a3 (ix 0)) y1511.toInt64) = 0 then
  P_L_law_3082 xs L κ1512 a1 a2 a3 a4 v5 K28
  else
  some (0, κ1512)
  else
  P_L_law_3082 xs L κ1512 a1 a2 a3 a4 v5 K28
  else
  some (0, κ1512)
def P_L_law_624 (xs : Nat → Int32) (L : Nat) (κ : jKt) (a1 : Nat) (a2 : Nat) (a3 : Nat) (a4 : Nat) (v5 : Int32) (K28 : jKt → Int32 → Option (Int32 × jKt)) : Option (Int32 × jKt) :=
  ck (jin (v5 + 1) L) <|
  ck (jin (v5 + 2) L) <|
  bd2 (P_L_sew κ a1 (xs (ix (v5 + 1))) (xs (ix (v5 + 2))) a3) fun y1521 κ1522 =>
  ck (jin (v5 + 1) L) <|
  ck (jin (v5 + 2) L) <|
  bd2 (P_X7_sew κ1522 a2 (xs (ix (v5 + 1))) (xs (ix (v5 + 2)))) fun y1526 κ1527 =>
  bd (P_X7_thrown κ1527 a2) fun y1529 =>
  if y1529 = y1521 then
  if y1521 = 0 then
  if (lg_cmp (kL κ1527 a3 (ix 0)) y1526.toInt64) = 0 then
  P_L_law_3082 xs L κ1527 a1 a2 a3 a4 v5 K28
  else
  some (0, κ1527)
  else
  P_L_law_3082 xs L κ1527 a1 a2 a3 a4 v5 K28
  else
  some (0, κ1527)
def P_L_law_692 (xs : Nat → Int32) (L : Nat) (κ : jKt) (a1 : Nat) (a2 : Nat) (a3 : Nat) (a4 : Nat) (v5 : Int32) (K28 : jKt → Int32 → Option (Int32 × jKt)) : Option (Int32 × jKt) :=
  ck (jin (v5 + 1) L) <|
  ck (jin (v5 + 2) L) <|
  bd2 (P_L_unpick κ a1 (xs (ix (v5 + 1))) (xs (ix (v5 + 2))) a3) fun y1536 κ1537 =>
  ck (jin (v5 + 1) L) <|
  ck (jin (v5 + 2) L) <|
  bd2 (P_X7_unpick κ1537 a2 (xs (ix (v5 + 1))) (xs (ix (v5 + 2)))) fun y1541 κ1542 =>
  bd (P_X7_thrown κ1542 a2) fun y1544 =>
  if y1544 = y1536 then
  if y1536 = 0 then
  if (lg_cmp (kL κ1542 a3 (ix 0)) y1541.toInt64) = 0 then
  P_L_law_3082 xs L κ1542 a1 a2 a3 a4 v5 K28
  else
  some (0, κ1542)
  else
  P_L_law_3082 xs L κ1542 a1 a2 a3 a4 v5 K28
  else
  some (0, κ1542)
def P_L_law_760 (xs : Nat → Int32) (L : Nat) (κ : jKt) (a1 : Nat) (a2 : Nat) (a3 : Nat) (a4 : Nat) (v5 : Int32) (K28 : jKt → Int32 → Option (Int32 × jKt)) : Option (Int32 × jKt) :=
  ck (jin (v5 + 1) L) <|
  ck (jin (v5 + 2) L) <|
  ck (jin (v5 + 3) L) <|
  bd2 (P_L_demand κ a1 (xs (ix (v5 + 1))) (xs (ix (v5 + 2))) (xs (ix (v5 + 3))) a3) fun y1552 κ1553 =>
  ck (jin (v5 + 1) L) <|
  ck (jin (v5 + 2) L) <|
  ck (jin (v5 + 3) L) <|
  bd2 (P_X7_demand κ1553 a2 (xs (ix (v5 + 1))) (xs (ix (v5 + 2))) (xs (ix (v5 + 3)))) fun y1558 κ1559 =>
  bd (P_X7_thrown κ1559 a2) fun y1561 =>
  if y1561 = y1552 then
  if y1552 = 0 then
  if (lg_cmp (kL κ1559 a3 (ix 0)) y1558.toInt64) = 0 then
  P_L_law_3082 xs L κ1559 a1 a2 a3 a4 v5 K28
  else
  some (0, κ1559)
  else
  P_L_law_3082 xs L κ1559 a1 a2 a3 a4 v5 K28
  else
  some (0, κ1559)
def P_L_law_840 (xs : Nat → Int32) (L : Nat) (κ : jKt) (a1 : Nat) (a2 : Nat) (a3 : Nat) (a4 : Nat) (v5 : Int32) (K28 : jKt → Int32 → Option (Int32 × jKt)) : Option (Int32 × jKt) :=
  ck (jin (v5 + 1) L) <|
  bd2 (P_L_deliver κ a1 (xs (ix (v5 + 1))) a3) fun y1567 κ1568 =>
  ck (jin (v5 + 1) L) <|
  bd2 (P_X7_deliver κ1568 a2 (xs (ix (v5 + 1)))) fun y1571 κ1572 =>
  bd (P_X7_thrown κ1572 a2) fun y1574 =>
  if y1574 = y1567 then
  if y1567 = 0 then
  if (lg_cmp (kL κ1572 a3 (ix 0)) y1571.toInt64) = 0 then
  P_L_law_3082 xs L κ1572 a1 a2 a3 a4 v5 K28
  else
  some (0, κ1572)
  else
  P_L_law_3082 xs L κ1572 a1 a2 a3 a4 v5 K28
  else
  some (0, κ1572)
def P_L_law_896 (xs : Nat → Int32) (L : Nat) (κ : jKt) (a1 : Nat) (a2 : Nat) (a3 : Nat) (a4 : Nat) (v5 : Int32) (K28 : jKt → Int32 → Option (Int32 × jKt)) : Option (Int32 × jKt) :=
  ck (jin (v5 + 1) L) <|
  bd2 (P_L_scrap κ a1 (xs (ix (v5 + 1))) a3) fun y1580 κ1581 =>
  ck (jin (v5 + 1) L) <|
  bd2 (P_X7_scrap κ1581 a2 (xs (ix (v5 + 1)))) fun y1584 κ1585 =>
  bd (P_X7_thrown κ1585 a2) fun y1587 =>
  if y1587 = y1580 then
  if y1580 = 0 then
  if (lg_cmp (kL κ1585 a3 (ix 0)) y1584.toInt64) = 0 then
  P_L_law_3082 xs L κ1585 a1 a2 a3 a4 v5 K28
  else
  some (0, κ1585)
  else
  P_L_law_3082 xs L κ1585 a1 a2 a3 a4 v5 K28
  else
  some (0, κ1585)
def P_L_law_952 (xs : Nat → Int32) (L : Nat) (κ : jKt) (a1 : Nat) (a2 : Nat) (a3 : Nat) (a4 : Nat) (v5 : Int32) (K28 : jKt → Int32 → Option (Int32 × jKt)) : Option (Int32 × jKt) :=
  ck (jin (v5 + 1) L) <|
  bd2 (P_L_stock κ a1 (xs (ix (v5 + 1))) a3) fun y1593 κ1594 =>
  ck (jin (v5 + 1) L) <|
  bd2 (P_X7_stock κ1594 a2 (xs (ix (v5 + 1)))) fun y1597 κ1598 =>
  bd (P_X7_thrown κ1598 a2) fun y1600 =>
  if y1600 = y1593 then
  if y1593 = 0 then
  if (lg_cmp (kL κ1598 a3 (ix 0)) y1597.toInt64) = 0 then
  P_L_law_3082 xs L κ1598 a1 a2 a3 a4 v5 K28
  else
  some (0, κ1598)
  else
  P_L_law_3082 xs L κ1598 a1 a2 a3 a4 v5 K28
  else
  some (0, κ1598)
def P_L_law_1008 (xs : Nat → Int32) (L : Nat) (κ : jKt) (a1 : Nat) (a2 : Nat) (a3 : Nat) (a4 : Nat) (v5 : Int32) (K28 : jKt → Int32 → Option (Int32 × jKt)) : Option (Int32 × jKt) :=
  bd (P_X6_customerCount κ a1) fun y1605 =>
  bd2 (P_X7_customerCount κ a2) fun y1607 κ1608 =>
  if y1605 = y1607 then
  P_L_law_3082 xs L κ1608 a1 a2 a3 a4 v5 K28
  else
  some (0, κ1608)
def P_L_law_1021 (xs : Nat → Int32) (L : Nat) (κ : jKt) (a1 : Nat) (a2 : Nat) (a3 : Nat) (a4 : Nat) (v5 : Int32) (K28 : jKt → Int32 → Option (Int32 × jKt)) : Option (Int32 × jKt) :=
  ck (jin (v5 + 1) L) <|
  bd2 (P_L_pairs κ a1 (xs (ix (v5 + 1))) a3) fun y1612 κ1613 =>
  ck (jin (v5 + 1) L) <|
  bd2 (P_X7_pairs κ1613 a2 (xs (ix (v5 + 1)))) fun y1616 κ1617 =>
  bd (P_X7_thrown κ1617 a2) fun y1619 =>
  if y1619 = y1612 then
  if y1612 = 0 then
  if (lg_cmp (kL κ1617 a3 (ix 0)) y1616.toInt64) = 0 then
  P_L_law_3082 xs L κ1617 a1 a2 a3 a4 v5 K28
  else
  some (0, κ1617)
  else
  P_L_law_3082 xs L κ1617 a1 a2 a3 a4 v5 K28
  else
  some (0, κ1617)
def P_L_law_1077 (xs : Nat → Int32) (L : Nat) (κ : jKt) (a1 : Nat) (a2 : Nat) (a3 : Nat) (a4 : Nat) (v5 : Int32) (K28 : jKt → Int32 → Option (Int32 × jKt)) : Option (Int32 × jKt) :=
  ck (jin (v5 + 1) L) <|
  ck (jin (v5 + 2) L) <|
  bd2 (P_L_legLength κ a1 (xs (ix (v5 + 1))) (xs (ix (v5 + 2))) a3) fun y1626 κ1627 =>
  ck (jin (v5 + 1) L) <|
  ck (jin (v5 + 2) L) <|
  bd2 (P_X7_legLength κ1627 a2 (xs (ix (v5 + 1))) (xs (ix (v5 + 2)))) fun y1631 κ1632 =>
  bd (P_X7_thrown κ1632 a2) fun y1634 =>
  if y1634 = y1626 then
  if y1626 = 0 then
  if (lg_cmp (kL κ1632 a3 (ix 0)) y1631.toInt64) = 0 then
  P_L_law_3082 xs L κ1632 a1 a2 a3 a4 v5 K28
  else
  some (0, κ1632)
  else
  P_L_law_3082 xs L κ1632 a1 a2 a3 a4 v5 K28
  else
  some (0, κ1632)
def P_L_law_1145 (xs : Nat → Int32) (L : Nat) (κ : jKt) (a1 : Nat) (a2 : Nat) (a3 : Nat) (a4 : Nat) (v5 : Int32) (K28 : jKt → Int32 → Option (Int32 × jKt)) : Option (Int32 × jKt) :=
  ck (jin (v5 + 1) L) <|
  ck (jin (v5 + 2) L) <|
  bd2 (P_L_mirrorLeg κ a1 (xs (ix (v5 + 1))) (xs (ix (v5 + 2))) a3) fun y1641 κ1642 =>
  ck (jin (v5 + 1) L) <|
  ck (jin (v5 + 2) L) <|
  bd2 (P_X7_mirrorLeg κ1642 a2 (xs (ix (v5 + 1))) (xs (ix (v5 + 2)))) fun y1646 κ1647 =>
  bd (P_X7_thrown κ1647 a2) fun y1649 =>
  if y1649 = y1641 then
  if y1641 = 0 then
  if (lg_cmp (kL κ1647 a3 (ix 0)) y1646.toInt64) = 0 then
  P_L_law_3082 xs L κ1647 a1 a2 a3 a4 v5 K28
  else
  some (0, κ1647)
  else
  P_L_law_3082 xs L κ1647 a1 a2 a3 a4 v5 K28
  else
  some (0, κ1647)
def P_L_law_1267 (xs : Nat → Int32) (L : Nat) (κ : jKt) (a1 : Nat) (a2 : Nat) (a3 : Nat) (a4 : Nat) (v5 : Int32) (s0 : Int64) (s1 : Int64) (K28 : jKt → Int32 → Option (Int32 × jKt)) : Option (Int32 × jKt) :=
  if (lg_cmp s1 s0) = 0 then
  P_L_law_3082 xs L κ a1 a2 a3 a4 v5 K28
  else
  some (0, κ)
def P_L_law_1213 (xs : Nat → Int32) (L : Nat) (κ : jKt) (a1 : Nat) (a2 : Nat) (a3 : Nat) (a4 : Nat) (v5 : Int32) (K28 : jKt → Int32 → Option (Int32 × jKt)) : Option (Int32 × jKt) :=
  ck (jin (v5 + 1) L) <|
  bd2 (P_L_isMirrored κ a1 (xs (ix (v5 + 1))) a3) fun y1656 κ1657 =>
  ck (jin (v5 + 1) L) <|
  bd2 (P_X7_isMirrored κ1657 a2 (xs (ix (v5 + 1)))) fun y1660 κ1661 =>
  bd (P_X7_thrown κ1661 a2) fun y1663 =>
  if y1663 = y1656 then
  if y1656 = 0 then
  if y1660 = 0 then
  P_L_law_1267 xs L κ1661 a1 a2 a3 a4 v5 0 (kL κ1661 a3 (ix 0)) K28
  else
  P_L_law_1267 xs L κ1661 a1 a2 a3 a4 v5 1 (kL κ1661 a3 (ix 0)) K28
  else
  P_L_law_3082 xs L κ1661 a1 a2 a3 a4 v5 K28
  else
  some (0, κ1661)
def P_L_law_1276 (xs : Nat → Int32) (L : Nat) (κ : jKt) (a1 : Nat) (a2 : Nat) (a3 : Nat) (a4 : Nat) (v5 : Int32) (K28 : jKt → Int32 → Option (Int32 × jKt)) : Option (Int32 × jKt) :=
  ck (jin (v5 + 1) L) <|
  bd2 (P_L_customerByLegs κ a1 (xs (ix (v5 + 1))) a3) fun y1669 κ1670 =>
  ck (jin (v5 + 1) L) <|
  bd2 (P_X7_customerByLegs κ1670 a2 (xs (ix (v5 + 1)))) fun y1673 κ1674 =>
  bd (P_X7_thrown κ1674 a2) fun y1676 =>
  if y1676 = y1669 then
  if y1669 = 0 then
  if (lg_cmp (kL κ1674 a3 (ix 0)) y1673.toInt64) = 0 then
  P_L_law_3082 xs L κ1674 a1 a2 a3 a4 v5 K28
  else
  some (0, κ1674)
  else
  P_L_law_3082 xs L κ1674 a1 a2 a3 a4 v5 K28
  else
  some (0, κ1674)
def P_L_law_1332 (xs : Nat → Int32) (L : Nat) (κ : jKt) (a1 : Nat) (a2 : Nat) (a3 : Nat) (a4 : Nat) (v5 : Int32) (K28 : jKt → Int32 → Option (Int32 × jKt)) : Option (Int32 × jKt) :=
  bd (P_X6_suitCount κ a1) fun y1681 =>
  bd2 (P_X7_suitCount κ a2) fun y1683 κ1684 =>
  if y1681 = y1683 then
  P_L_law_3082 xs L κ1684 a1 a2 a3 a4 v5 K28
  else
  some (0, κ1684)
def P_L_law_1345 (xs : Nat → Int32) (L : Nat) (κ : jKt) (a1 : Nat) (a2 : Nat) (a3 : Nat) (a4 : Nat) (v5 : Int32) (K28 : jKt → Int32 → Option (Int32 × jKt)) : Option (Int32 × jKt) :=
  ck (jin (v5 + 1) L) <|
  bd2 (P_L_suitAt κ a1 (xs (ix (v5 + 1))) a3) fun y1688 κ1689 =>
  ck (jin (v5 + 1) L) <|
  bd2 (P_X7_suitAt κ1689 a2 (xs (ix (v5 + 1)))) fun y1692 κ1693 =>
  bd (P_X7_thrown κ1693 a2) fun y1695 =>
  if y1695 = y1688 then
  if y1688 = 0 then
  if (lg_cmp (kL κ1693 a3 (ix 0)) y1692.toInt64) = 0 then
  P_L_law_3082 xs L κ1693 a1 a2 a3 a4 v5 K28
  else
  some (0, κ1693)
  else
  P_L_law_3082 xs L κ1693 a1 a2 a3 a4 v5 K28
  else
  some (0, κ1693)
def P_L_law_1401 (xs : Nat → Int32) (L : Nat) (κ : jKt) (a1 : Nat) (a2 : Nat) (a3 : Nat) (a4 : Nat) (v5 : Int32) (K28 : jKt → Int32 → Option (Int32 × jKt)) : Option (Int32 × jKt) :=
  ck (jin (v5 + 1) L) <|
  bd2 (P_L_customerOf κ a1 (xs (ix (v5 + 1))) a3) fun y1701 κ1702 =>
  ck (jin (v5 + 1) L) <|
  bd2 (P_X7_customerOf κ1702 a2 (xs (ix (v5 + 1)))) fun y1705 κ1706 =>
  bd (P_X7_thrown κ1706 a2) fun y1708 =>
  if y1708 = y1701 then
  if y1701 = 0 then
  if (lg_cmp (kL κ1706 a3 (ix 0)) y1705.toInt64) = 0 then
  P_L_law_3082 xs L κ1706 a1 a2 a3 a4 v5 K28
  else
  some (0, κ1706)
  else
  P_L_law_3082 xs L κ1706 a1 a2 a3 a4 v5 K28
  else
  some (0, κ1706)
def P_L_law_1457 (xs : Nat → Int32) (L : Nat) (κ : jKt) (a1 : Nat) (a2 : Nat) (a3 : Nat) (a4 : Nat) (v5 : Int32) (K28 : jKt → Int32 → Option (Int32 × jKt)) : Option (Int32 × jKt) :=
  ck (jin (v5 + 1) L) <|
  bd2 (P_L_clothOf κ a1 (xs (ix (v5 + 1))) a3) fun y1714 κ1715 =>
  ck (jin (v5 + 1) L) <|
  bd2 (P_X7_clothOf κ1715 a2 (xs (ix (v5 + 1)))) fun y1718 κ1719 =>
  bd (P_X7_thrown κ1719 a2) fun y1721 =>
  if y1721 = y1714 then
  if y1714 = 0 then
  if (lg_cmp (kL κ1719 a3 (ix 0)) y1718.toInt64) = 0 then
  P_L_law_3082 xs L κ1719 a1 a2 a3 a4 v5 K28
  else
  some (0, κ1719)
  else
  P_L_law_3082 xs L κ1719 a1 a2 a3 a4 v5 K28
  else
  some (0, κ1719)
def P_L_law_1513 (xs : Nat → Int32) (L : Nat) (κ : jKt) (a1 : Nat) (a2 : Nat) (a3 : Nat) (a4 : Nat) (v5 : Int32) (K28 : jKt → Int32 → Option (Int32 × jKt)) : Option (Int32 × jKt) :=
  ck (jin (v5 + 1) L) <|
  ck (jin (v5 + 2) L) <|
  bd2 (P_L_sleeveState κ a1 (xs (ix (v5 + 1))) (xs (ix (v5 + 2))) a3) fun y1728 κ1729 =>
  ck (jin (v5 + 1) L) <|
  ck (jin (v5 + 2) L) <|
  bd2 (P_X7_sleeveState κ1729 a2 (xs (ix (v5 + 1))) (xs (ix (v5 + 2)))) fun y1733 κ1734 =>
  bd (P_X7_thrown κ1734 a2) fun y1736 =>
  if y1736 = y1728 then
  if y1728 = 0 then
  if (lg_cmp (kL κ1734 a3 (ix 0)) y1733.toInt64) = 0 then
  P_L_law_3082 xs L κ1734 a1 a2 a3 a4 v5 K28
  else
  some (0, κ1734)
  else
  P_L_law_3082 xs L κ1734 a1 a2 a3 a4 v5 K28
  else
  some (0, κ1734)
def P_L_law_1581 (xs : Nat → Int32) (L : Nat) (κ : jKt) (a1 : Nat) (a2 : Nat) (a3 : Nat) (a4 : Nat) (v5 : Int32) (K28 : jKt → Int32 → Option (Int32 × jKt)) : Option (Int32 × jKt) :=
  ck (jin (v5 + 1) L) <|
  ck (jin (v5 + 2) L) <|
  bd2 (P_L_sleeveLength κ a1 (xs (ix (v5 + 1))) (xs (ix (v5 + 2))) a3) fun y1743 κ1744 =>
  ck (jin (v5 + 1) L) <|
  ck (jin (v5 + 2) L) <|
  bd2 (P_X7_sleeveLength κ1744 a2 (xs (ix (v5 + 1))) (xs (ix (v5 + 2)))) fun y1748 κ1749 =>
  bd (P_X7_thrown κ1749 a2) fun y1751 =>
  if y1751 = y1743 then
  if y1743 = 0 then
  if (lg_cmp (kL κ1749 a3 (ix 0)) y1748.toInt64) = 0 then
  P_L_law_3082 xs L κ1749 a1 a2 a3 a4 v5 K28
  else
  some (0, κ1749)
  else
  P_L_law_3082 xs L κ1749 a1 a2 a3 a4 v5 K28
  else
  some (0, κ1749)
def P_L_law_1715 (xs : Nat → Int32) (L : Nat) (κ : jKt) (a1 : Nat) (a2 : Nat) (a3 : Nat) (a4 : Nat) (v5 : Int32) (s0 : Int64) (s1 : Int64) (K28 : jKt → Int32 → Option (Int32 × jKt)) : Option (Int32 × jKt) :=
  if (lg_cmp s1 s0) = 0 then
  P_L_law_3082 xs L κ a1 a2 a3 a4 v5 K28
  else
  some (0, κ)
def P_L_law_1649 (xs : Nat → Int32) (L : Nat) (κ : jKt) (a1 : Nat) (a2 : Nat) (a3 : Nat) (a4 : Nat) (v5 : Int32) (K28 : jKt → Int32 → Option (Int32 × jKt)) : Option (Int32 × jKt) :=
  ck (jin (v5 + 1) L) <|
  ck (jin (v5 + 2) L) <|
  bd2 (P_L_doesFit κ a1 (xs (ix (v5 + 1))) (xs (ix (v5 + 2))) a3) fun y1759 κ1760 =>
  ck (jin (v5 + 1) L) <|
  ck (jin (v5 + 2) L) <|
  bd2 (P_X7_doesFit κ1760 a2 (xs (ix (v5 + 1))) (xs (ix (v5 + 2)))) fun y1764 κ1765 =>
  bd (P_X7_thrown κ1765 a2) fun y1767 =>
  if y1767 = y1759 then
  if y1759 = 0 then
  if y1764 = 0 then
  P_L_law_1715 xs L κ1765 a1 a2 a3 a4 v5 0 (kL κ1765 a3 (ix 0)) K28
  else
  P_L_law_1715 xs L κ1765 a1 a2 a3 a4 v5 1 (kL κ1765 a3 (ix 0)) K28
  else
  P_L_law_3082 xs L κ1765 a1 a2 a3 a4 v5 K28
  else
  some (0, κ1765)
def P_L_law_1724 (xs : Nat → Int32) (L : Nat) (κ : jKt) (a1 : Nat) (a2 : Nat) (a3 : Nat) (a4 : Nat) (v5 : Int32) (K28 : jKt → Int32 → Option (Int32 × jKt)) : Option (Int32 × jKt) :=
  ck (jin (v5 + 1) L) <|
  bd2 (P_L_sewnSleeves κ a1 (xs (ix (v5 + 1))) a3) fun y1773 κ1774 =>
  ck (jin (v5 + 1) L) <|
  bd2 (P_X7_sewnSleeves κ1774 a2 (xs (ix (v5 + 1)))) fun y1777 κ1778 =>
  bd (P_X7_thrown κ1778 a2) fun y1780 =>
  if y1780 = y1773 then
  if y1773 = 0 then
  if (lg_cmp (kL κ1778 a3 (ix 0)) y1777.toInt64) = 0 then
  P_L_law_3082 xs L κ1778 a1 a2 a3 a4 v5 K28
  else
  some (0, κ1778)
  else
  P_L_law_3082 xs L κ1778 a1 a2 a3 a4 v5 K28
  else
  some (0, κ1778)
def P_L_law_1780 (xs : Nat → Int32) (L : Nat) (κ : jKt) (a1 : Nat) (a2 : Nat) (a3 : Nat) (a4 : Nat) (v5 : Int32) (K28 : jKt → Int32 → Option (Int32 × jKt)) : Option (Int32 × jKt) :=
  ck (jin (v5 + 1) L) <|
  bd2 (P_L_demandCount κ a1 (xs (ix (v5 + 1))) a3) fun y1786 κ1787 =>
  ck (jin (v5 + 1) L) <|
  bd2 (P_X7_demandCount κ1787 a2 (xs (ix (v5 + 1)))) fun y1790 κ1791 =>
  bd (P_X7_thrown κ1791 a2) fun y1793 =>
  if y1793 = y1786 then
  if y1786 = 0 then
  if (lg_cmp (kL κ1791 a3 (ix 0)) y1790.toInt64) = 0 then
  P_L_law_3082 xs L κ1791 a1 a2 a3 a4 v5 K28
  else
  some (0, κ1791)
  else
  P_L_law_3082 xs L κ1791 a1 a2 a3 a4 v5 K28
  else
  some (0, κ1791)
def P_L_law_1914 (xs : Nat → Int32) (L : Nat) (κ : jKt) (a1 : Nat) (a2 : Nat) (a3 : Nat) (a4 : Nat) (v5 : Int32) (s0 : Int64) (s1 : Int64) (K28 : jKt → Int32 → Option (Int32 × jKt)) : Option (Int32 × jKt) :=
  if (lg_cmp s1 s0) = 0 then
  P_L_law_3082 xs L κ a1 a2 a3 a4 v5 K28
  else
  some (0, κ)
def P_L_law_1836 (xs : Nat → Int32) (L : Nat) (κ : jKt) (a1 : Nat) (a2 : Nat) (a3 : Nat) (a4 : Nat) (v5 : Int32) (K28 : jKt → Int32 → Option (Int32 × jKt)) : Option (Int32 × jKt) :=
  ck (jin (v5 + 1) L) <|
  ck (jin (v5 + 2) L) <|
  ck (jin (v5 + 3) L) <|
  bd2 (P_L_isBefore κ a1 (xs (ix (v5 + 1))) (xs (ix (v5 + 2))) (xs (ix (v5 + 3))) a3) fun y1802 κ1803 =>
  ck (jin (v5 + 1) L) <|
  ck (jin (v5 + 2) L) <|
  ck (jin (v5 + 3) L) <|
  bd2 (P_X7_isBefore κ1803 a2 (xs (ix (v5 + 1))) (xs (ix (v5 + 2))) (xs (ix (v5 + 3)))) fun y1808 κ1809 =>
  bd (P_X7_thrown κ1809 a2) fun y1811 =>
  if y1811 = y1802 then
  if y1802 = 0 then
  if y1808 = 0 then
  P_L_law_1914 xs L κ1809 a1 a2 a3 a4 v5 0 (kL κ1809 a3 (ix 0)) K28
  else
  P_L_law_1914 xs L κ1809 a1 a2 a3 a4 v5 1 (kL κ1809 a3 (ix 0)) K28
  else
  P_L_law_3082 xs L κ1809 a1 a2 a3 a4 v5 K28
  else
  some (0, κ1809)
def P_L_law_1977 (xs : Nat → Int32) (L : Nat) (κ : jKt) (a1 : Nat) (a2 : Nat) (a3 : Nat) (a4 : Nat) (v5 : Int32) (s0 : Int64) (s1 : Int64) (K28 : jKt → Int32 → Option (Int32 × jKt)) : Option (Int32 × jKt) :=
  if (lg_cmp s1 s0) = 0 then
  P_L_law_3082 xs L κ a1 a2 a3 a4 v5 K28
  else
  some (0, κ)
def P_L_law_1923 (xs : Nat → Int32) (L : Nat) (κ : jKt) (a1 : Nat) (a2 : Nat) (a3 : Nat) (a4 : Nat) (v5 : Int32) (K28 : jKt → Int32 → Option (Int32 × jKt)) : Option (Int32 × jKt) :=
  ck (jin (v5 + 1) L) <|
  bd2 (P_L_canDeliver κ a1 (xs (ix (v5 + 1))) a3) fun y1818 κ1819 =>
  ck (jin (v5 + 1) L) <|
  bd2 (P_X7_canDeliver κ1819 a2 (xs (ix (v5 + 1)))) fun y1822 κ1823 =>
  bd (P_X7_thrown κ1823 a2) fun y1825 =>
  if y1825 = y1818 then
  if y1818 = 0 then
  if y1822 = 0 then
  P_L_law_1977 xs L κ1823 a1 a2 a3 a4 v5 0 (kL κ1823 a3 (ix 0)) K28
  else
  P_L_law_1977 xs L κ1823 a1 a2 a3 a4 v5 1 (kL κ1823 a3 (ix 0)) K28
  else
  P_L_law_3082 xs L κ1823 a1 a2 a3 a4 v5 K28
  else
  some (0, κ1823)
def P_L_law_1986 (xs : Nat → Int32) (L : Nat) (κ : jKt) (a1 : Nat) (a2 : Nat) (a3 : Nat) (a4 : Nat) (v5 : Int32) (K28 : jKt → Int32 → Option (Int32 × jKt)) : Option (Int32 × jKt) :=
  ck (jin (v5 + 1) L) <|
  bd2 (P_L_price κ a1 (xs (ix (v5 + 1))) a3) fun y1831 κ1832 =>
  ck (jin (v5 + 1) L) <|
  bd2 (P_X7_price κ1832 a2 (xs (ix (v5 + 1)))) fun y1835 κ1836 =>
  bd (P_X7_thrown κ1836 a2) fun y1838 =>
  if y1838 = y1831 then
  if y1831 = 0 then
  if (lg_cmp (kL κ1836 a3 (ix 0)) y1835.toInt64) = 0 then
  P_L_law_3082 xs L κ1836 a1 a2 a3 a4 v5 K28
  else
  some (0, κ1836)
  else
  P_L_law_3082 xs L κ1836 a1 a2 a3 a4 v5 K28
  else
  some (0, κ1836)
def P_L_law_2042 (xs : Nat → Int32) (L : Nat) (κ : jKt) (a1 : Nat) (a2 : Nat) (a3 : Nat) (a4 : Nat) (v5 : Int32) (K28 : jKt → Int32 → Option (Int32 × jKt)) : Option (Int32 × jKt) :=
  ck (jin (v5 + 1) L) <|
  bd2 (P_L_sleevesLeft κ a1 (xs (ix (v5 + 1))) a3) fun y1844 κ1845 =>
  ck (jin (v5 + 1) L) <|
  bd2 (P_X7_sleevesLeft κ1845 a2 (xs (ix (v5 + 1)))) fun y1848 κ1849 =>
  bd (P_X7_thrown κ1849 a2) fun y1851 =>
  if y1851 = y1844 then
  if y1844 = 0 then
  if (lg_cmp (kL κ1849 a3 (ix 0)) y1848.toInt64) = 0 then
  P_L_law_3082 xs L κ1849 a1 a2 a3 a4 v5 K28
  else
  some (0, κ1849)
  else
  P_L_law_3082 xs L κ1849 a1 a2 a3 a4 v5 K28
  else
  some (0, κ1849)
def P_L_law_2098 (xs : Nat → Int32) (L : Nat) (κ : jKt) (a1 : Nat) (a2 : Nat) (a3 : Nat) (a4 : Nat) (v5 : Int32) (K28 : jKt → Int32 → Option (Int32 × jKt)) : Option (Int32 × jKt) :=
  ck (jin (v5 + 1) L) <|
  ck (jin (v5 + 2) L) <|
  bd2 (P_L_sewingOrder κ a1 (xs (ix (v5 + 1))) (xs (ix (v5 + 2))) a3) fun y1858 κ1859 =>
  ck (jin (v5 + 1) L) <|
  ck (jin (v5 + 2) L) <|
  bd2 (P_X7_sewingOrder κ1859 a2 (xs (ix (v5 + 1))) (xs (ix (v5 + 2)))) fun y1863 κ1864 =>
  bd (P_X7_thrown κ1864 a2) fun y1866 =>
  if y1866 = y1858 then
  if y1858 = 0 then
  if (lg_cmp (kL κ1864 a3 (ix 0)) y1863.toInt64) = 0 then
  P_L_law_3082 xs L κ1864 a1 a2 a3 a4 v5 K28
  else
  some (0, κ1864)
  else
  P_L_law_3082 xs L κ1864 a1 a2 a3 a4 v5 K28
  else
  some (0, κ1864)
def P_L_law_2166 (xs : Nat → Int32) (L : Nat) (κ : jKt) (a1 : Nat) (a2 : Nat) (a3 : Nat) (a4 : Nat) (v5 : Int32) (K28 : jKt → Int32 → Option (Int32 × jKt)) : Option (Int32 × jKt) :=
  ck (jin (v5 + 1) L) <|
  ck (jin (v5 + 2) L) <|
  bd2 (P_L_sewingOrderByQueue κ a1 (xs (ix (v5 + 1))) (xs (ix (v5 + 2))) a3) fun y1873 κ1874 =>
  ck (jin (v5 + 1) L) <|
  ck (jin (v5 + 2) L) <|
  bd2 (P_X7_sewingOrderByQueue κ1874 a2 (xs (ix (v5 + 1))) (xs (ix (v5 + 2)))) fun y1878 κ1879 =>
  bd (P_X7_thrown κ1879 a2) fun y1881 =>
  if y1881 = y1873 then
  if y1873 = 0 then
  if (lg_cmp (kL κ1879 a3 (ix 0)) y1878.toInt64) = 0 then
  P_L_law_3082 xs L κ1879 a1 a2 a3 a4 v5 K28
  else
  some (0, κ1879)
  else
  P_L_law_3082 xs L κ1879 a1 a2 a3 a4 v5 K28
  else
  some (0, κ1879)
def P_L_law_2234 (xs : Nat → Int32) (L : Nat) (κ : jKt) (a1 : Nat) (a2 : Nat) (a3 : Nat) (a4 : Nat) (v5 : Int32) (K28 : jKt → Int32 → Option (Int32 × jKt)) : Option (Int32 × jKt) :=
  ck (jin (v5 + 1) L) <|
  bd2 (P_L_rounds κ a1 (xs (ix (v5 + 1))) a3) fun y1887 κ1888 =>
  ck (jin (v5 + 1) L) <|
  bd2 (P_X7_rounds κ1888 a2 (xs (ix (v5 + 1)))) fun y1891 κ1892 =>
  bd (P_X7_thrown κ1892 a2) fun y1894 =>
  if y1894 = y1887 then
  if y1887 = 0 then
  if (lg_cmp (kL κ1892 a3 (ix 0)) y1891.toInt64) = 0 then
  P_L_law_3082 xs L κ1892 a1 a2 a3 a4 v5 K28
  else
  some (0, κ1892)
  else
  P_L_law_3082 xs L κ1892 a1 a2 a3 a4 v5 K28
  else
  some (0, κ1892)
def P_L_law_2290 (xs : Nat → Int32) (L : Nat) (κ : jKt) (a1 : Nat) (a2 : Nat) (a3 : Nat) (a4 : Nat) (v5 : Int32) (K28 : jKt → Int32 → Option (Int32 × jKt)) : Option (Int32 × jKt) :=
  ck (jin (v5 + 1) L) <|
  bd2 (P_L_clothNeeded κ a1 (xs (ix (v5 + 1))) a3) fun y1900 κ1901 =>
  ck (jin (v5 + 1) L) <|
  bd2 (P_X7_clothNeeded κ1901 a2 (xs (ix (v5 + 1)))) fun y1904 κ1905 =>
  bd (P_X7_thrown κ1905 a2) fun y1907 =>
  if y1907 = y1900 then
  if y1900 = 0 then
  if (lg_cmp (kL κ1905 a3 (ix 0)) y1904.toInt64) = 0 then
  P_L_law_3082 xs L κ1905 a1 a2 a3 a4 v5 K28
  else
  some (0, κ1905)
  else
  P_L_law_3082 xs L κ1905 a1 a2 a3 a4 v5 K28
  else
  some (0, κ1905)
def P_L_law_2346 (xs : Nat → Int32) (L : Nat) (κ : jKt) (a1 : Nat) (a2 : Nat) (a3 : Nat) (a4 : Nat) (v5 : Int32) (K28 : jKt → Int32 → Option (Int32 × jKt)) : Option (Int32 × jKt) :=
  ck (jin (v5 + 1) L) <|
  bd2 (P_L_clothNeededByDifference κ a1 (xs (ix (v5 + 1))) a3) fun y1913 κ1914 =>
  ck (jin (v5 + 1) L) <|
  bd2 (P_X7_clothNeededByDifference κ1914 a2 (xs (ix (v5 + 1)))) fun y1917 κ1918 =>
  bd (P_X7_thrown κ1918 a2) fun y1920 =>
  if y1920 = y1913 then
  if y1913 = 0 then
  if (lg_cmp (kL κ1918 a3 (ix 0)) y1917.toInt64) = 0 then
  P_L_law_3082 xs L κ1918 a1 a2 a3 a4 v5 K28
  else
  some (0, κ1918)
  else
  P_L_law_3082 xs L κ1918 a1 a2 a3 a4 v5 K28
  else
  some (0, κ1918)
def P_L_law_2402 (xs : Nat → Int32) (L : Nat) (κ : jKt) (a1 : Nat) (a2 : Nat) (a3 : Nat) (a4 : Nat) (v5 : Int32) (K28 : jKt → Int32 → Option (Int32 × jKt)) : Option (Int32 × jKt) :=
  bd (P_X6_boughtTotal κ a1) fun y1925 =>
  bd2 (P_X7_boughtTotal κ a2) fun y1927 κ1928 =>
  if y1925 = y1927 then
  P_L_law_3082 xs L κ1928 a1 a2 a3 a4 v5 K28
  else
  some (0, κ1928)
def P_L_law_2415 (xs : Nat → Int32) (L : Nat) (κ : jKt) (a1 : Nat) (a2 : Nat) (a3 : Nat) (a4 : Nat) (v5 : Int32) (K28 : jKt → Int32 → Option (Int32 × jKt)) : Option (Int32 × jKt) :=
  bd (P_X6_wasteTotal κ a1) fun y1931 =>
  bd2 (P_X7_wasteTotal κ a2) fun y1933 κ1934 =>
  if y1931 = y1933 then
  P_L_law_3082 xs L κ1934 a1 a2 a3 a4 v5 K28
  else
  some (0, κ1934)
def P_L_law_2428 (xs : Nat → Int32) (L : Nat) (κ : jKt) (a1 : Nat) (a2 : Nat) (a3 : Nat) (a4 : Nat) (v5 : Int32) (K28 : jKt → Int32 → Option (Int32 × jKt)) : Option (Int32 × jKt) :=
  bd (P_X6_deliveredTotal κ a1) fun y1937 =>
  bd2 (P_X7_deliveredTotal κ a2) fun y1939 κ1940 =>
  if y1937 = y1939 then
  P_L_law_3082 xs L κ1940 a1 a2 a3 a4 v5 K28
  else
  some (0, κ1940)
def P_L_law_2441 (xs : Nat → Int32) (L : Nat) (κ : jKt) (a1 : Nat) (a2 : Nat) (a3 : Nat) (a4 : Nat) (v5 : Int32) (K28 : jKt → Int32 → Option (Int32 × jKt)) : Option (Int32 × jKt) :=
  bd (P_X6_income κ a1) fun y1943 =>
  bd2 (P_X7_income κ a2) fun y1945 κ1946 =>
  if y1943 = y1945 then
  P_L_law_3082 xs L κ1946 a1 a2 a3 a4 v5 K28
  else
  some (0, κ1946)
def P_L_law_2454 (xs : Nat → Int32) (L : Nat) (κ : jKt) (a1 : Nat) (a2 : Nat) (a3 : Nat) (a4 : Nat) (v5 : Int32) (K28 : jKt → Int32 → Option (Int32 × jKt)) : Option (Int32 × jKt) :=
  bd (P_X6_deliveredSuits κ a1) fun y1949 =>
  bd2 (P_X7_deliveredSuits κ a2) fun y1951 κ1952 =>
  if y1949 = y1951 then
  P_L_law_3082 xs L κ1952 a1 a2 a3 a4 v5 K28
  else
  some (0, κ1952)
def P_L_law_2467 (xs : Nat → Int32) (L : Nat) (κ : jKt) (a1 : Nat) (a2 : Nat) (a3 : Nat) (a4 : Nat) (v5 : Int32) (K28 : jKt → Int32 → Option (Int32 × jKt)) : Option (Int32 × jKt) :=
  ck (jin (v5 + 1) L) <|
  bd2 (P_L_meanLeg κ a1 (xs (ix (v5 + 1))) a4) fun y1956 κ1957 =>
  ck (jin (v5 + 1) L) <|
  bd2 (P_X7_meanLeg κ1957 a2 (xs (ix (v5 + 1)))) fun y1960 κ1961 =>
  bd (P_X7_thrown κ1961 a2) fun y1963 =>
  if y1963 = y1956 then
  if y1956 = 0 then
  if (Op.cmpValue (FP.dcmp (kD κ1961 a4 (ix 0)) y1960) .l) = 0 then
  P_L_law_3082 xs L κ1961 a1 a2 a3 a4 v5 K28
  else
  if (Op.cmpValue (FP.dcmp (kD κ1961 a4 (ix 0)) (kD κ1961 a4 (ix 0))) .l) = 0 then
  some (0, κ1961)
  else
  if (Op.cmpValue (FP.dcmp y1960 y1960) .l) = 0 then
  some (0, κ1961)
  else
  P_L_law_3082 xs L κ1961 a1 a2 a3 a4 v5 K28
  else
  P_L_law_3082 xs L κ1961 a1 a2 a3 a4 v5 K28
  else
  some (0, κ1961)
def P_L_law_2544 (xs : Nat → Int32) (L : Nat) (κ : jKt) (a1 : Nat) (a2 : Nat) (a3 : Nat) (a4 : Nat) (v5 : Int32) (K28 : jKt → Int32 → Option (Int32 × jKt)) : Option (Int32 × jKt) :=
  bd2 (P_L_wasteShare κ a1 a4) fun y1970 κ1971 =>
  bd2 (P_X7_wasteShare κ1971 a2) fun y1973 κ1974 =>
  bd (P_X7_thrown κ1974 a2) fun y1976 =>
  if y1976 = y1970 then
  if y1970 = 0 then
  ck ((FP.f2d y1973) &&& 0x7fffffffffffffff ≤ 0x7ff0000000000000) <|
  if (Op.cmpValue (FP.dcmp (kD κ1974 a4 (ix 0)) (FP.f2d y1973)) .l) = 0 then
  P_L_law_3082 xs L κ1974 a1 a2 a3 a4 v5 K28
  else
  if (Op.cmpValue (FP.dcmp (kD κ1974 a4 (ix 0)) (kD κ1974 a4 (ix 0))) .l) = 0 then
  some (0, κ1974)
  else
  if (Op.cmpValue (FP.fcmp y1973 y1973) .l) = 0 then
  some (0, κ1974)
  else
  P_L_law_3082 xs L κ1974 a1 a2 a3 a4 v5 K28
  else
  P_L_law_3082 xs L κ1974 a1 a2 a3 a4 v5 K28
  else
  some (0, κ1974)
def P_L_law_2610 (xs : Nat → Int32) (L : Nat) (κ : jKt) (a1 : Nat) (a2 : Nat) (a3 : Nat) (a4 : Nat) (v5 : Int32) (K28 : jKt → Int32 → Option (Int32 × jKt)) : Option (Int32 × jKt) :=
  bd2 (P_X6_isConsistent κ a1) fun y1984 κ1985 =>
  bd2 (P_X7_isConsistent κ1985 a2) fun y1987 κ1988 =>
  if y1984 = y1987 then
  P_L_law_3082 xs L κ1988 a1 a2 a3 a4 v5 K28
  else
  some (0, κ1988)
def P_L_law_2623 (xs : Nat → Int32) (L : Nat) (κ : jKt) (a1 : Nat) (a2 : Nat) (a3 : Nat) (a4 : Nat) (v5 : Int32) (K28 : jKt → Int32 → Option (Int32 × jKt)) : Option (Int32 × jKt) :=
  ck (jin (v5 + 1) L) <|
  bd2 (P_L_renderSuit κ a1 (xs (ix (v5 + 1))) a3) fun y1992 κ1993 =>
  ck (jin (v5 + 1) L) <|
  bd2 (P_X7_renderSuit κ1993 a2 (xs (ix (v5 + 1)))) fun y1996 κ1997 =>
  bd (P_X7_thrown κ1997 a2) fun y1999 =>
  if y1999 = y1992 then
  if y1992 = 0 then
  if (lg_cmp (kL κ1997 a3 (ix 0)) y1996.toInt64) = 0 then
  P_L_law_3082 xs L κ1997 a1 a2 a3 a4 v5 K28
  else
  some (0, κ1997)
  else
  P_L_law_3082 xs L κ1997 a1 a2 a3 a4 v5 K28
  else
  some (0, κ1997)
def P_L_law_2679 (xs : Nat → Int32) (L : Nat) (κ : jKt) (a1 : Nat) (a2 : Nat) (a3 : Nat) (a4 : Nat) (v5 : Int32) (K28 : jKt → Int32 → Option (Int32 × jKt)) : Option (Int32 × jKt) :=
  ck (jin (v5 + 1) L) <|
  bd2 (P_L_renderOrder κ a1 (xs (ix (v5 + 1))) a3) fun y2005 κ2006 =>
  ck (jin (v5 + 1) L) <|
  bd2 (P_X7_renderOrder κ2006 a2 (xs (ix (v5 + 1)))) fun y2009 κ2010 =>
  bd (P_X7_thrown κ2010 a2) fun y2012 =>
  if y2012 = y2005 then
  if y2005 = 0 then
  if (lg_cmp (kL κ2010 a3 (ix 0)) y2009.toInt64) = 0 then
  P_L_law_3082 xs L κ2010 a1 a2 a3 a4 v5 K28
  else
  some (0, κ2010)
  else
  P_L_law_3082 xs L κ2010 a1 a2 a3 a4 v5 K28
  else
  some (0, κ2010)
def P_L_law_2735 (xs : Nat → Int32) (L : Nat) (κ : jKt) (a1 : Nat) (a2 : Nat) (a3 : Nat) (a4 : Nat) (v5 : Int32) (K28 : jKt → Int32 → Option (Int32 × jKt)) : Option (Int32 × jKt) :=
  ck (jin (v5 + 1) L) <|
  bd2 (P_L_outputAt κ a1 (xs (ix (v5 + 1))) a3) fun y2018 κ2019 =>
  ck (jin (v5 + 1) L) <|
  bd2 (P_X7_outputAt κ2019 a2 (xs (ix (v5 + 1)))) fun y2022 κ2023 =>
  bd (P_X7_thrown κ2023 a2) fun y2025 =>
  if y2025 = y2018 then
  if y2018 = 0 then
  if (lg_cmp (kL κ2023 a3 (ix 0)) y2022.toInt64) = 0 then
  P_L_law_3082 xs L κ2023 a1 a2 a3 a4 v5 K28
  else
  some (0, κ2023)
  else
  P_L_law_3082 xs L κ2023 a1 a2 a3 a4 v5 K28
  else
  some (0, κ2023)
def P_L_law_2791 (xs : Nat → Int32) (L : Nat) (κ : jKt) (a1 : Nat) (a2 : Nat) (a3 : Nat) (a4 : Nat) (v5 : Int32) (K28 : jKt → Int32 → Option (Int32 × jKt)) : Option (Int32 × jKt) :=
  ck (jin (v5 + 1) L) <|
  bd2 (P_L_type κ a1 (i2c (xs (ix (v5 + 1)))) a3) fun y2031 κ2032 =>
  ck (jin (v5 + 1) L) <|
  bd2 (P_X7_type κ2032 a2 (i2c (xs (ix (v5 + 1))))) fun y2035 κ2036 =>
  bd (P_X7_thrown κ2036 a2) fun y2038 =>
  if y2038 = y2031 then
  if y2031 = 0 then
  if (lg_cmp (kL κ2036 a3 (ix 0)) y2035.toInt64) = 0 then
  P_L_law_3082 xs L κ2036 a1 a2 a3 a4 v5 K28
  else
  some (0, κ2036)
  else
  P_L_law_3082 xs L κ2036 a1 a2 a3 a4 v5 K28
  else
  some (0, κ2036)
def P_L_law_2849 (xs : Nat → Int32) (L : Nat) (κ : jKt) (a1 : Nat) (a2 : Nat) (a3 : Nat) (a4 : Nat) (v5 : Int32) (K28 : jKt → Int32 → Option (Int32 × jKt)) : Option (Int32 × jKt) :=
  bd2 (P_L_runScript κ a1 a3) fun y2043 κ2044 =>
  bd2 (P_X7_runScript κ2044 a2) fun y2046 κ2047 =>
  bd (P_X7_thrown κ2047 a2) fun y2049 =>
  if y2049 = y2043 then
  if y2043 = 0 then
  if (lg_cmp (kL κ2047 a3 (ix 0)) y2046.toInt64) = 0 then
  P_L_law_3082 xs L κ2047 a1 a2 a3 a4 v5 K28
  else
  some (0, κ2047)
  else
  P_L_law_3082 xs L κ2047 a1 a2 a3 a4 v5 K28
  else
  some (0, κ2047)
def P_L_law_2893 (xs : Nat → Int32) (L : Nat) (κ : jKt) (a1 : Nat) (a2 : Nat) (a3 : Nat) (a4 : Nat) (v5 : Int32) (K28 : jKt → Int32 → Option (Int32 × jKt)) : Option (Int32 × jKt) :=
  bd2 (P_L_errorPosition κ a1 a3) fun y2054 κ2055 =>
  bd2 (P_X7_errorPosition κ2055 a2) fun y2057 κ2058 =>
  bd (P_X7_thrown κ2058 a2) fun y2060 =>
  if y2060 = y2054 then
  if y2054 = 0 then
  if (lg_cmp (kL κ2058 a3 (ix 0)) y2057.toInt64) = 0 then
  P_L_law_3082 xs L κ2058 a1 a2 a3 a4 v5 K28
  else
  some (0, κ2058)
  else
  P_L_law_3082 xs L κ2058 a1 a2 a3 a4 v5 K28
  else
  some (0, κ2058)
def P_L_law_2937 (xs : Nat → Int32) (L : Nat) (κ : jKt) (a1 : Nat) (a2 : Nat) (a3 : Nat) (a4 : Nat) (v5 : Int32) (K28 : jKt → Int32 → Option (Int32 × jKt)) : Option (Int32 × jKt) :=
  bd2 (P_L_failedCommand κ a1 a3) fun y2065 κ2066 =>
  bd2 (P_X7_failedCommand κ2066 a2) fun y2068 κ2069 =>
  bd (P_X7_thrown κ2069 a2) fun y2071 =>
  if y2071 = y2065 then
  if y2065 = 0 then
  if (lg_cmp (kL κ2069 a3 (ix 0)) y2068.toInt64) = 0 then
  P_L_law_3082 xs L κ2069 a1 a2 a3 a4 v5 K28
  else
  some (0, κ2069)
  else
  P_L_law_3082 xs L κ2069 a1 a2 a3 a4 v5 K28
  else
  some (0, κ2069)
def P_L_law_2981 (xs : Nat → Int32) (L : Nat) (κ : jKt) (a1 : Nat) (a2 : Nat) (a3 : Nat) (a4 : Nat) (v5 : Int32) (K28 : jKt → Int32 → Option (Int32 × jKt)) : Option (Int32 × jKt) :=
  bd2 (P_L_undo κ a1 a3) fun y2076 κ2077 =>
  bd2 (P_X7_undo κ2077 a2) fun y2079 κ2080 =>
  bd (P_X7_thrown κ2080 a2) fun y2082 =>
  if y2082 = y2076 then
  if y2076 = 0 then
  if (lg_cmp (kL κ2080 a3 (ix 0)) y2079.toInt64) = 0 then
  P_L_law_3082 xs L κ2080 a1 a2 a3 a4 v5 K28
  else
  some (0, κ2080)
  else
  P_L_law_3082 xs L κ2080 a1 a2 a3 a4 v5 K28
  else
  some (0, κ2080)
def P_L_law_3025 (xs : Nat → Int32) (L : Nat) (κ : jKt) (a1 : Nat) (a2 : Nat) (a3 : Nat) (a4 : Nat) (v5 : Int32) (K28 : jKt → Int32 → Option (Int32 × jKt)) : Option (Int32 × jKt) :=
  bd2 (P_X6_save κ a1) fun y2087 κ2088 =>
  bd2 (P_X7_save κ2088 a2) fun y2090 κ2091 =>
  if y2087 = y2090 then
  P_L_law_3082 xs L κ2091 a1 a2 a3 a4 v5 K28
  else
  some (0, κ2091)
def P_L_law_3038 (xs : Nat → Int32) (L : Nat) (κ : jKt) (a1 : Nat) (a2 : Nat) (a3 : Nat) (a4 : Nat) (v5 : Int32) (K28 : jKt → Int32 → Option (Int32 × jKt)) : Option (Int32 × jKt) :=
  bd2 (P_L_restore κ a1 a3) fun y2094 κ2095 =>
  bd2 (P_X7_restore κ2095 a2) fun y2097 κ2098 =>
  bd (P_X7_thrown κ2098 a2) fun y2100 =>
  if y2100 = y2094 then
  if y2094 = 0 then
  if (lg_cmp (kL κ2098 a3 (ix 0)) y2097.toInt64) = 0 then
  P_L_law_3082 xs L κ2098 a1 a2 a3 a4 v5 K28
  else
  some (0, κ2098)
  else
  P_L_law_3082 xs L κ2098 a1 a2 a3 a4 v5 K28
  else
  some (0, κ2098)
def P_L_law_28 (xs : Nat → Int32) (L : Nat) (a1 : Nat) (a2 : Nat) (a3 : Nat) (a4 : Nat) : Nat → jKt → Int32 → Option (Int32 × jKt)
  | 0, _, _ => none
  | n + 1, κ, v5 =>
    if ((Int32.ofNat L) - 4) < v5 then
  some (1, κ)
  else
  ck (jin v5 L) <|
  bnd ((xs (ix v5)) &&& 63) fun y2106 =>
  if y2106 = 0 then
  P_L_law_272 xs L κ a1 a2 a3 a4 v5 (P_L_law_28 xs L a1 a2 a3 a4 n)
  else if y2106 = 1 then
  P_L_law_340 xs L κ a1 a2 a3 a4 v5 (P_L_law_28 xs L a1 a2 a3 a4 n)
  else if y2106 = 2 then
  P_L_law_408 xs L κ a1 a2 a3 a4 v5 (P_L_law_28 xs L a1 a2 a3 a4 n)
  else if y2106 = 3 then
  P_L_law_488 xs L κ a1 a2 a3 a4 v5 (P_L_law_28 xs L a1 a2 a3 a4 n)
  else if y2106 = 4 then
  P_L_law_556 xs L κ a1 a2 a3 a4 v5 (P_L_law_28 xs L a1 a2 a3 a4 n)
  else if y2106 = 5 then
  P_L_law_624 xs L κ a1 a2 a3 a4 v5 (P_L_law_28 xs L a1 a2 a3 a4 n)
  else if y2106 = 6 then
  P_L_law_692 xs L κ a1 a2 a3 a4 v5 (P_L_law_28 xs L a1 a2 a3 a4 n)
  else if y2106 = 7 then
  P_L_law_760 xs L κ a1 a2 a3 a4 v5 (P_L_law_28 xs L a1 a2 a3 a4 n)
  else if y2106 = 8 then
  P_L_law_840 xs L κ a1 a2 a3 a4 v5 (P_L_law_28 xs L a1 a2 a3 a4 n)
  else if y2106 = 9 then
  P_L_law_896 xs L κ a1 a2 a3 a4 v5 (P_L_law_28 xs L a1 a2 a3 a4 n)
  else if y2106 = 10 then
  P_L_law_952 xs L κ a1 a2 a3 a4 v5 (P_L_law_28 xs L a1 a2 a3 a4 n)
  else if y2106 = 11 then
  P_L_law_1008 xs L κ a1 a2 a3 a4 v5 (P_L_law_28 xs L a1 a2 a3 a4 n)
  else if y2106 = 12 then
  P_L_law_1021 xs L κ a1 a2 a3 a4 v5 (P_L_law_28 xs L a1 a2 a3 a4 n)
  else if y2106 = 13 then
  P_L_law_1077 xs L κ a1 a2 a3 a4 v5 (P_L_law_28 xs L a1 a2 a3 a4 n)
  else if y2106 = 14 then
  P_L_law_1145 xs L κ a1 a2 a3 a4 v5 (P_L_law_28 xs L a1 a2 a3 a4 n)
  else if y2106 = 15 then
  P_L_law_1213 xs L κ a1 a2 a3 a4 v5 (P_L_law_28 xs L a1 a2 a3 a4 n)
  else if y2106 = 16 then
  P_L_law_1276 xs L κ a1 a2 a3 a4 v5 (P_L_law_28 xs L a1 a2 a3 a4 n)
  else if y2106 = 17 then
  P_L_law_1332 xs L κ a1 a2 a3 a4 v5 (P_L_law_28 xs L a1 a2 a3 a4 n)
  else if y2106 = 18 then
  P_L_law_1345 xs L κ a1 a2 a3 a4 v5 (P_L_law_28 xs L a1 a2 a3 a4 n)
  else if y2106 = 19 then
  P_L_law_1401 xs L κ a1 a2 a3 a4 v5 (P_L_law_28 xs L a1 a2 a3 a4 n)
  else if y2106 = 20 then
  P_L_law_1457 xs L κ a1 a2 a3 a4 v5 (P_L_law_28 xs L a1 a2 a3 a4 n)
  else if y2106 = 21 then
  P_L_law_1513 xs L κ a1 a2 a3 a4 v5 (P_L_law_28 xs L a1 a2 a3 a4 n)
  else if y2106 = 22 then
  P_L_law_1581 xs L κ a1 a2 a3 a4 v5 (P_L_law_28 xs L a1 a2 a3 a4 n)
  else if y2106 = 23 then
  P_L_law_1649 xs L κ a1 a2 a3 a4 v5 (P_L_law_28 xs L a1 a2 a3 a4 n)
  else if y2106 = 24 then
  P_L_law_1724 xs L κ a1 a2 a3 a4 v5 (P_L_law_28 xs L a1 a2 a3 a4 n)
  else if y2106 = 25 then
  P_L_law_1780 xs L κ a1 a2 a3 a4 v5 (P_L_law_28 xs L a1 a2 a3 a4 n)
  else if y2106 = 26 then
  P_L_law_1836 xs L κ a1 a2 a3 a4 v5 (P_L_law_28 xs L a1 a2 a3 a4 n)
  else if y2106 = 27 then
  P_L_law_1923 xs L κ a1 a2 a3 a4 v5 (P_L_law_28 xs L a1 a2 a3 a4 n)
  else if y2106 = 28 then
  P_L_law_1986 xs L κ a1 a2 a3 a4 v5 (P_L_law_28 xs L a1 a2 a3 a4 n)
  else if y2106 = 29 then
  P_L_law_2042 xs L κ a1 a2 a3 a4 v5 (P_L_law_28 xs L a1 a2 a3 a4 n)
  else if y2106 = 30 then
  P_L_law_2098 xs L κ a1 a2 a3 a4 v5 (P_L_law_28 xs L a1 a2 a3 a4 n)
  else if y2106 = 31 then
  P_L_law_2166 xs L κ a1 a2 a3 a4 v5 (P_L_law_28 xs L a1 a2 a3 a4 n)
  else if y2106 = 32 then
  P_L_law_2234 xs L κ a1 a2 a3 a4 v5 (P_L_law_28 xs L a1 a2 a3 a4 n)
  else if y2106 = 33 then
  P_L_law_2290 xs L κ a1 a2 a3 a4 v5 (P_L_law_28 xs L a1 a2 a3 a4 n)
  else if y2106 = 34 then
  P_L_law_2346 xs L κ a1 a2 a3 a4 v5 (P_L_law_28 xs L a1 a2 a3 a4 n)
  else if y2106 = 35 then
  P_L_law_2402 xs L κ a1 a2 a3 a4 v5 (P_L_law_28 xs L a1 a2 a3 a4 n)
  else if y2106 = 36 then
  P_L_law_2415 xs L κ a1 a2 a3 a4 v5 (P_L_law_28 xs L a1 a2 a3 a4 n)
  else if y2106 = 37 then
  P_L_law_2428 xs L κ a1 a2 a3 a4 v5 (P_L_law_28 xs L a1 a2 a3 a4 n)
  else if y2106 = 38 then
  P_L_law_2441 xs L κ a1 a2 a3 a4 v5 (P_L_law_28 xs L a1 a2 a3 a4 n)
  else if y2106 = 39 then
  P_L_law_2454 xs L κ a1 a2 a3 a4 v5 (P_L_law_28 xs L a1 a2 a3 a4 n)
  else if y2106 = 40 then
  P_L_law_2467 xs L κ a1 a2 a3 a4 v5 (P_L_law_28 xs L a1 a2 a3 a4 n)
  else if y2106 = 41 then
  P_L_law_2544 xs L κ a1 a2 a3 a4 v5 (P_L_law_28 xs L a1 a2 a3 a4 n)
  else if y2106 = 42 then
  P_L_law_2610 xs L κ a1 a2 a3 a4 v5 (P_L_law_28 xs L a1 a2 a3 a4 n)
  else if y2106 = 43 then
  P_L_law_2623 xs L κ a1 a2 a3 a4 v5 (P_L_law_28 xs L a1 a2 a3 a4 n)
  else if y2106 = 44 then
  P_L_law_2679 xs L κ a1 a2 a3 a4 v5 (P_L_law_28 xs L a1 a2 a3 a4 n)
  else if y2106 = 45 then
  P_L_law_2735 xs L κ a1 a2 a3 a4 v5 (P_L_law_28 xs L a1 a2 a3 a4 n)
  else if y2106 = 46 then
  P_L_law_2791 xs L κ a1 a2 a3 a4 v5 (P_L_law_28 xs L a1 a2 a3 a4 n)
  else if y2106 = 47 then
  P_L_law_2849 xs L κ a1 a2 a3 a4 v5 (P_L_law_28 xs L a1 a2 a3 a4 n)
  else if y2106 = 48 then
  P_L_law_2893 xs L κ a1 a2 a3 a4 v5 (P_L_law_28 xs L a1 a2 a3 a4 n)
  else if y2106 = 49 then
  P_L_law_2937 xs L κ a1 a2 a3 a4 v5 (P_L_law_28 xs L a1 a2 a3 a4 n)
  else if y2106 = 50 then
  P_L_law_2981 xs L κ a1 a2 a3 a4 v5 (P_L_law_28 xs L a1 a2 a3 a4 n)
  else if y2106 = 51 then
  P_L_law_3025 xs L κ a1 a2 a3 a4 v5 (P_L_law_28 xs L a1 a2 a3 a4 n)
  else if y2106 = 52 then
  P_L_law_3038 xs L κ a1 a2 a3 a4 v5 (P_L_law_28 xs L a1 a2 a3 a4 n)
  else P_L_law_3082 xs L κ a1 a2 a3 a4 v5 (P_L_law_28 xs L a1 a2 a3 a4 n)
