/-! ===== layer 3: the class's changes ===== -/
abbrev inR (r n : Nat) : Prop := bR r ≤ n ∧ n < bR r + 38
def uS (S : Nat → Nat → Int32) (n j : Nat) (x : Int32) : Nat → Nat → Int32 := fun a b => if a = n ∧ b = j then x else S a b
theorem uS_e (S : Nat → Nat → Int32) (n j : Nat) (x : Int32) : uS S n j x n j = x := if_pos ⟨rfl, rfl⟩
theorem uS_n {S : Nat → Nat → Int32} {n j a b : Nat} {x : Int32} (h : ¬ (a = n ∧ b = j)) : uS S n j x a b = S a b := if_neg h
/-- only ints of the room r have changed; all ints are S1 now -/
def CS (ad : Nat → Nat) (r : Nat) (κ κ1 : jKt) (S1 : Nat → Nat → Int32) : Prop := Fr ad (inR r) κ κ1 ∧ ∀ n j, iS ad κ1 n j = S1 n j
theorem CS.refl {ad : Nat → Nat} {r : Nat} (κ : jKt) : CS ad r κ κ (iS ad κ) := ⟨Fr.refl κ, fun _ _ => rfl⟩
theorem CS.U {ad : Nat → Nat} (hi : ∀ a b, ad a = ad b → a = b) {r : Nat} {κ κ1 : jKt} {S1 : Nat → Nat → Int32} (h : CS ad r κ κ1 S1) {n j : Nat} {x : Int32} (hs : iSl n j) (hr : inR r n) : CS ad r κ (kU κ1 (ad n) j (.int x)) (uS S1 n j x) := by
  refine ⟨h.1.trans (Fr.U hi hs hr), fun a b => ?_⟩
  rw [iS_U hi]
  unfold uS
  by_cases e : a = n ∧ b = j
  · rw [if_pos e, if_pos e]
  · rw [if_neg e, if_neg e]; exact h.2 a b
theorem CS.rd {ad : Nat → Nat} {r : Nat} {κ κ1 : jKt} {S1 : Nat → Nat → Int32} (h : CS ad r κ κ1 S1) (n j : Nat) : kI κ1 (ad n) j = S1 n j := h.2 n j
theorem CS.c {ad : Nat → Nat} {r : Nat} {κ κ1 : jKt} {S1 S2 : Nat → Nat → Int32} (h : CS ad r κ κ1 S1) (e : ∀ n j, S1 n j = S2 n j) : CS ad r κ κ1 S2 := ⟨h.1, fun n j => (h.2 n j).trans (e n j)⟩
/-- the outcome of a change in the room r -/
def CO (ad : Nat → Nat) (κ κ' : jKt) (r pr tr : Nat) (pa : Nat → Nat) (su : Nat → Nat → Nat) (res : oR) (x : Int32) : Prop :=
  ∃ su', (∀ q, q ≠ r → su' q = su q) ∧ PT ad κ' pr tr pa su' ∧ (∀ n j, ¬ inR r n → κ' (ad n) j = κ (ad n) j) ∧ match res with
    | .ok (y, v') => x = y ∧ RRel (iS ad κ') r (su' r) v'
    | .error e => x = e ∧ κ' = κ
theorem iSl_r0 {r j : Nat} (h : j ≠ 0 ∧ j ≠ 1 ∧ j ≠ 3) : iSl (bR r) j := by
  unfold iSl
  exact Or.inr (Or.inr (Or.inr (Or.inr (Or.inr (Or.inr ⟨r, Or.inl ⟨rfl, h.1, h.2.1, h.2.2⟩⟩)))))
theorem iSl_r1 (r j : Nat) : iSl (bR r + 1) j := by
  unfold iSl
  exact Or.inr (Or.inr (Or.inr (Or.inr (Or.inr (Or.inr ⟨r, Or.inr (Or.inl rfl)⟩)))))
theorem iSl_c0 {r i : Nat} (h : i < 5) : iSl (bR r + 4 + 2 * i) 0 := by
  unfold iSl
  exact Or.inr (Or.inr (Or.inr (Or.inr (Or.inr (Or.inr ⟨r, Or.inr (Or.inr (Or.inl ⟨i, h, Or.inl ⟨rfl, rfl⟩⟩))⟩)))))
theorem iSl_c1 {r i : Nat} (j : Nat) (h : i < 5) : iSl (bR r + 5 + 2 * i) j := by
  unfold iSl
  exact Or.inr (Or.inr (Or.inr (Or.inr (Or.inr (Or.inr ⟨r, Or.inr (Or.inr (Or.inl ⟨i, h, Or.inr rfl⟩))⟩)))))
theorem iSl_s0 {r k j : Nat} (h : k < 6) (hj : j < 5) : iSl (bR r + 14 + 4 * k) j := by
  unfold iSl
  exact Or.inr (Or.inr (Or.inr (Or.inr (Or.inr (Or.inr ⟨r, Or.inr (Or.inr (Or.inr ⟨k, h, Or.inl ⟨rfl, hj⟩⟩))⟩)))))
theorem iSl_s1 {r k : Nat} (j : Nat) (h : k < 6) : iSl (bR r + 15 + 4 * k) j := by
  unfold iSl
  exact Or.inr (Or.inr (Or.inr (Or.inr (Or.inr (Or.inr ⟨r, Or.inr (Or.inr (Or.inr ⟨k, h, Or.inr (Or.inl rfl)⟩))⟩)))))
theorem iSl_s2 {r k : Nat} (j : Nat) (h : k < 6) : iSl (bR r + 16 + 4 * k) j := by
  unfold iSl
  exact Or.inr (Or.inr (Or.inr (Or.inr (Or.inr (Or.inr ⟨r, Or.inr (Or.inr (Or.inr ⟨k, h, Or.inr (Or.inr (Or.inl rfl))⟩))⟩)))))
theorem iSl_s3 {r k : Nat} (j : Nat) (h : k < 6) : iSl (bR r + 17 + 4 * k) j := by
  unfold iSl
  exact Or.inr (Or.inr (Or.inr (Or.inr (Or.inr (Or.inr ⟨r, Or.inr (Or.inr (Or.inr ⟨k, h, Or.inr (Or.inr (Or.inr rfl))⟩))⟩)))))
/-- the first i places of the row n0 hold b -/
def lgF (S : Nat → Nat → Int32) (n0 i : Nat) (b : Int32) : Nat → Nat → Int32 := fun n j => if n = n0 ∧ j < i then b else S n j
theorem lgF_e {S : Nat → Nat → Int32} {n0 i j : Nat} {b : Int32} (h : j < i) : lgF S n0 i b n0 j = b := if_pos ⟨rfl, h⟩
theorem lgF_n {S : Nat → Nat → Int32} {n0 i n j : Nat} {b : Int32} (h : ¬ (n = n0 ∧ j < i)) : lgF S n0 i b n j = S n j := if_neg h
theorem lgF_0 (S : Nat → Nat → Int32) (n0 : Nat) (b : Int32) (n j : Nat) : S n j = lgF S n0 0 b n j := (lgF_n (by omega)).symm
theorem lgF_s (S : Nat → Nat → Int32) (n0 i : Nat) (b : Int32) : uS (lgF S n0 i b) n0 i b = lgF S n0 (i + 1) b := by
  funext n j
  by_cases e : n = n0 ∧ j = i
  · rw [e.1, e.2, uS_e, lgF_e (by omega)]
  · rw [uS_n e]
    by_cases e3 : n = n0 ∧ j < i
    · rw [e3.1, lgF_e e3.2, lgF_e (by omega)]
    · rw [lgF_n e3, lgF_n (by omega)]
theorem lgF_u {S : Nat → Nat → Int32} {n0 m : Nat} (h : n0 ≠ m) (i j : Nat) (b x : Int32) : uS (lgF S n0 i b) m j x = lgF (uS S m j x) n0 i b := by
  funext a c
  by_cases e : a = m ∧ c = j
  · rw [e.1, e.2, uS_e, lgF_n (by omega), uS_e]
  · rw [uS_n e]
    by_cases e3 : a = n0 ∧ c < i
    · rw [e3.1, lgF_e e3.2, lgF_e e3.2]
    · rw [lgF_n e3, lgF_n e3, uS_n e]
section COPS
variable {ad : Nat → Nat} {κ κ1 : jKt} {pr tr r : Nat} {pa : Nat → Nat} {su : Nat → Nat → Nat} {v : Nat → Int32}
theorem CS.pt {S1 : Nat → Nat → Int32} (h : CS ad r κ κ1 S1) (hP : PT ad κ pr tr pa su) : PT ad κ1 pr tr pa su := h.1.pt hP
theorem CO_e (hP : PT ad κ pr tr pa su) (e : Int32) : CO ad κ κ r pr tr pa su (.error e) e := ⟨su, fun _ _ => rfl, hP, fun _ _ _ => rfl, rfl, rfl⟩
theorem CS.ok {S1 : Nat → Nat → Int32} (h : CS ad r κ κ1 S1) (hP : PT ad κ pr tr pa su) {v' : Nat → Int32} {y : Int32} (hR : RRel S1 r (su r) v') : CO ad κ κ1 r pr tr pa su (.ok (y, v')) y := by
  refine ⟨su, fun _ _ => rfl, h.pt hP, fun n j hn => h.1 n j (fun g => absurd g hn), rfl, ?_⟩
  have e : iS ad κ1 = S1 := funext fun n => funext fun j => h.2 n j
  rw [e]; exact hR
theorem PT.r0 (hP : PT ad κ pr tr pa su) (hr : r < 11) : kR κ (ad (bR r)) 0 = ad (bR r + 1) := (hP.2.2.2.2.2 r hr).1.1
theorem PT.r1 (hP : PT ad κ pr tr pa su) (hr : r < 11) : kR κ (ad (bR r)) 1 = ad (bR r + 2) := (hP.2.2.2.2.2 r hr).1.2.1
theorem PT.r3 (hP : PT ad κ pr tr pa su) (hr : r < 11) : kR κ (ad (bR r)) 3 = ad (bR r + 3) := (hP.2.2.2.2.2 r hr).1.2.2
theorem PT.cu (hP : PT ad κ pr tr pa su) (hr : r < 11) {i : Nat} (h : i < 5) : kR κ (ad (bR r + 2)) i = ad (bR r + 4 + 2 * i) := ((hP.2.2.2.2.2 r hr).2.1 i h).1
theorem PT.lg (hP : PT ad κ pr tr pa su) (hr : r < 11) {i : Nat} (h : i < 5) : kR κ (ad (bR r + 4 + 2 * i)) 1 = ad (bR r + 5 + 2 * i) := ((hP.2.2.2.2.2 r hr).2.1 i h).2
theorem PT.st (hP : PT ad κ pr tr pa su) (hr : r < 11) {i : Nat} (h : i < 6) : kR κ (ad (bR r + 3)) i = ad (bR r + 14 + 4 * su r i) := ((hP.2.2.2.2.2 r hr).2.2.1 i h).1
theorem PT.s6 (hP : PT ad κ pr tr pa su) (hr : r < 11) {i : Nat} (h : i < 6) : su r i < 6 := ((hP.2.2.2.2.2 r hr).2.2.1 i h).2
theorem PT.q5 (hP : PT ad κ pr tr pa su) (hr : r < 11) {k : Nat} (h : k < 6) : kR κ (ad (bR r + 14 + 4 * k)) 5 = ad (bR r + 15 + 4 * k) := ((hP.2.2.2.2.2 r hr).2.2.2 k h).1
theorem PT.q6 (hP : PT ad κ pr tr pa su) (hr : r < 11) {k : Nat} (h : k < 6) : kR κ (ad (bR r + 14 + 4 * k)) 6 = ad (bR r + 16 + 4 * k) := ((hP.2.2.2.2.2 r hr).2.2.2 k h).2.1
theorem PT.q7 (hP : PT ad κ pr tr pa su) (hr : r < 11) {k : Nat} (h : k < 6) : kR κ (ad (bR r + 14 + 4 * k)) 7 = ad (bR r + 17 + 4 * k) := ((hP.2.2.2.2.2 r hr).2.2.2 k h).2.2
theorem X5_hasCloth (κ : jKt) (a : Nat) (x : Int32) : P_X5_hasCloth κ a x = some (if 0 ≤ x ∧ x ≤ 3 then 1 else 0) := by
  unfold P_X5_hasCloth
  have e4 : (4 ≤ x) ↔ ¬ (x ≤ 3) := by rw [Int32.le_iff_toInt_le, Int32.le_iff_toInt_le, show (4 : Int32).toInt = 4 from rfl, show (3 : Int32).toInt = 3 from rfl]; omega
  by_cases h0 : x < 0
  · rw [if_pos h0, if_neg (fun g => absurd h0 (Int32.not_lt.mpr g.1))]
  · rw [if_neg h0]
    by_cases h3 : x ≤ 3
    · rw [if_neg (fun g => e4.mp g h3), if_pos ⟨Int32.not_lt.mp h0, h3⟩]
    · rw [if_pos (e4.mpr h3), if_neg (fun g => h3 g.2)]
theorem X5_hasCust {x y : Int32} {a : Nat} (h : kI κ a 2 = y) : P_X5_hasCustomer κ a x = some (if 0 ≤ x ∧ x < y then 1 else 0) := by
  unfold P_X5_hasCustomer
  rw [h]
  by_cases h0 : x < 0
  · rw [if_pos h0, if_neg (fun g => absurd h0 (Int32.not_lt.mpr g.1))]
  · rw [if_neg h0]
    by_cases h3 : x < y
    · rw [if_neg (Int32.not_le.mpr h3), if_pos ⟨Int32.not_lt.mp h0, h3⟩]
    · rw [if_pos (Int32.not_lt.mp h3), if_neg (fun g => h3 g.2)]
theorem X0_hasLeg {x y : Int32} {a : Nat} (h : kI κ a 0 = y) : P_X0_hasLeg κ a x = some (if 0 ≤ x ∧ x < y then 1 else 0) := by
  unfold P_X0_hasLeg
  rw [h]
  by_cases h0 : x < 0
  · rw [if_pos h0, if_neg (fun g => absurd h0 (Int32.not_lt.mpr g.1))]
  · rw [if_neg h0]
    by_cases h3 : x < y
    · rw [if_neg (Int32.not_le.mpr h3), if_pos ⟨Int32.not_lt.mp h0, h3⟩]
    · rw [if_pos (Int32.not_lt.mp h3), if_neg (fun g => h3 g.2)]
theorem X4_hasSleeve {x y : Int32} {a : Nat} (h : kI κ a 3 = y) : P_X4_hasSleeve κ a x = some (if 0 ≤ x ∧ x < y then 1 else 0) := by
  unfold P_X4_hasSleeve
  rw [h]
  by_cases h0 : x < 0
  · rw [if_pos h0, if_neg (fun g => absurd h0 (Int32.not_lt.mpr g.1))]
  · rw [if_neg h0]
    by_cases h3 : x < y
    · rw [if_neg (Int32.not_le.mpr h3), if_pos ⟨Int32.not_lt.mp h0, h3⟩]
    · rw [if_pos (Int32.not_lt.mp h3), if_neg (fun g => h3 g.2)]
theorem X5_isLegLength (κ : jKt) (x : Int32) : P_X5_isLegLength κ x = some (if 10 ≤ x ∧ x ≤ 60 then 1 else 0) := by
  unfold P_X5_isLegLength
  by_cases h0 : x < 10
  · rw [if_pos h0, if_neg (fun g => absurd h0 (Int32.not_lt.mpr g.1))]
  · rw [if_neg h0]
    by_cases h3 : x ≤ 60
    · rw [if_neg (Int32.not_lt.mpr h3), if_pos ⟨Int32.not_lt.mp h0, h3⟩]
    · rw [if_pos (Int32.not_le.mp h3), if_neg (fun g => h3 g.2)]
theorem C0 (hi : ∀ a b, ad a = ad b → a = b) (hP : PT ad κ pr tr pa su) (hr : r < 11) (hR : RRel (iS ad κ) r (su r) v) (hG : GR v) (a b : Int32) : ∃ x κ', P_X5_storeCloth κ (ad (bR r)) a b = some (x, κ') ∧ CO ad κ κ' r pr tr pa su (o0 v a b) x := by
  have h0 := CS.refl (ad := ad) (r := r) κ
  obtain ⟨b1, ⟨b2, b4, b5, b6, b7, b8, b9, b10⟩, b3, bs, bi⟩ := hR
  have hR' := GR_iff.mp hG
  have c5 := hR'.1.2.2
  have m6 := hR'.2.1.2.2
  unfold o0 P_X5_storeCloth
  rw [X5_hasCloth, bd_s]
  by_cases g1 : 0 ≤ a ∧ a ≤ 3
  · obtain ⟨n, n1, n2, n3⟩ := in_n (lo := 0) (hi := 3) g1.1 g1.2 (by omega) (by omega)
    have hix : ix a = n := by rw [n1, oN_ix (by omega)]
    have hj : jin a 4 := by rw [n1]; exact (oN_jin (by omega)).mpr (by omega)
    rw [ifnn g1, if_pos g1, if_neg (by decide)]
    by_cases g2 : 1 ≤ b ∧ b ≤ 999
    · rw [ifnn g2, if_neg (Int32.not_lt.mpr g2.1), if_pos g2.2, ck_t hj, hix, hP.r0 hr, h0.rd, b1 n (by omega)]
      by_cases g3 : v (8 + n) + b ≤ 2000
      · have h1 := h0.U hi (n := bR r + 1) (j := n) (x := v (8 + n) + b) (iSl_r1 r n) ⟨by omega, by omega⟩
        have r6 := h1.rd (bR r) 6
        rw [uS_n (by omega), b6] at r6
        have h2 := h1.U hi (n := bR r) (j := 6) (x := v 3 + b) (iSl_r0 (by omega)) ⟨by omega, by omega⟩
        have r9 := h2.rd (bR r + 1) n
        rw [uS_n (by omega), uS_e] at r9
        rw [if_pos g3, if_pos g3, ck_t hj, ck_t hj, bnd_e, r6, bnd_e, ck_t hj, (h2.pt hP).r0 hr, r9]
        refine ⟨_, _, rfl, h2.ok hP ⟨fun c hc => ?_, ⟨?_, ?_, ?_, ?_, ?_, ?_, ?_, ?_⟩, fun c hc => ?_, fun s hs => ?_, bi⟩⟩
        · rw [uS_n (by omega)]
          by_cases e : c = n
          · rw [e, uS_e, ud_n (by omega), ud_e]
          · rw [uS_n (by omega), ud_n (by omega), ud_n (by omega)]; exact b1 c hc
        · rw [uS_n (by omega), uS_n (by omega), ud_n (by omega), ud_n (by omega)]; exact b2
        · rw [uS_n (by omega), uS_n (by omega), ud_n (by omega), ud_n (by omega)]; exact b4
        · rw [uS_n (by omega), uS_n (by omega), ud_n (by omega), ud_n (by omega)]; exact b5
        · rw [uS_e, ud_e]
        · rw [uS_n (by omega), uS_n (by omega), ud_n (by omega), ud_n (by omega)]; exact b7
        · rw [uS_n (by omega), uS_n (by omega), ud_n (by omega), ud_n (by omega)]; exact b8
        · rw [uS_n (by omega), uS_n (by omega), ud_n (by omega), ud_n (by omega)]; exact b9
        · rw [uS_n (by omega), uS_n (by omega), ud_n (by omega), ud_n (by omega)]; exact b10
        · have hc' : c < nn v 0 := by rw [nn_c (v := v) (i := 0) (by rw [ud_n (by omega), ud_n (by omega)])] at hc; exact hc
          exact CRel_c (fun i _ j => by rw [uS_n (by omega), uS_n (by omega)]) (fun k _ => by rw [ud_n (by omega), ud_n (by omega)]) (hR'.2.2.1 c hc') (b3 c hc')
        · have hs' : s < nn v 1 := by rw [nn_c (v := v) (i := 1) (by rw [ud_n (by omega), ud_n (by omega)])] at hs; exact hs
          exact SRel_c (s := s) (fun i _ j => by rw [uS_n (by omega), uS_n (by omega)]) ⟨fun k _ => by rw [ud_n (by omega), ud_n (by omega)], by rw [ud_n (by omega), ud_n (by omega)]⟩ (hR'.2.2.2 s hs') (hG.sl16 hs').1 (bs s hs')
      · rw [if_neg g3, if_neg g3]
        exact ⟨_, _, rfl, CO_e hP _⟩
    · rw [if_pos g2]
      by_cases g4 : b < 1
      · rw [if_pos g4]
        exact ⟨_, _, rfl, CO_e hP _⟩
      · rw [if_neg g4, if_neg (fun g => g2 ⟨Int32.not_lt.mp g4, g⟩)]
        exact ⟨_, _, rfl, CO_e hP _⟩
  · rw [if_pos g1, if_neg g1, if_pos rfl]
    exact ⟨_, _, rfl, CO_e hP _⟩
theorem C1 (hi : ∀ a b, ad a = ad b → a = b) (hP : PT ad κ pr tr pa su) (hr : r < 11) (hR : RRel (iS ad κ) r (su r) v) (hG : GR v) (a b : Int32) : ∃ x κ', P_X5_welcome κ (ad (bR r)) a b = some (x, κ') ∧ CO ad κ κ' r pr tr pa su (o1 v a b) x := by
  have h0 := CS.refl (ad := ad) (r := r) κ
  obtain ⟨b1, ⟨b2, b4, b5, b6, b7, b8, b9, b10⟩, b3, bs, bi⟩ := hR
  have hR' := GR_iff.mp hG
  have hn0 := hR'.1
  have c5 := hn0.2.2
  have m6 := hR'.2.1.2.2
  unfold o1 P_X5_welcome
  by_cases g1 : 1 ≤ a ∧ a ≤ 8
  · obtain ⟨p, p1, p2, p3⟩ := in_n (lo := 1) (hi := 8) g1.1 g1.2 (by omega) (by omega)
    rw [ifnn g1, if_neg (Int32.not_lt.mpr g1.1), if_neg (Int32.not_lt.mpr g1.2), X5_isLegLength, bd_s]
    by_cases g2 : 10 ≤ b ∧ b ≤ 60
    · have e2' : kI κ (ad (bR r)) 2 = v 0 := b2
      rw [ifnn g2, if_pos g2, if_neg (by decide), e2']
      by_cases g3 : v 0 = 5
      · rw [if_pos g3, if_pos g3]
        exact ⟨_, _, rfl, CO_e hP _⟩
      · have hc5 : nn v 0 < 5 := by
          rcases Nat.lt_or_ge (nn v 0) 5 with q | q
          · exact q
          · exact absurd (by rw [hn0.1, show nn v 0 = 5 by omega]; rfl) g3
        have hix : ix (v 0) = nn v 0 := rfl
        have hj : jin (v 0) 5 := by rw [hn0.1]; exact (oN_jin (by omega)).mpr (by omega)
        have hpix : ix a = p := by rw [p1, oN_ix (by omega)]
        have e2p : (2 * a : Int32) = oN (2 * p) := by rw [p1, show (2 : Int32) = oN 2 from rfl, oN_mul]
        rw [if_neg g3, if_neg g3, ck_t hj, hix, hP.r1 hr, hP.cu hr hc5, hpix]
        generalize hC : nn v 0 = C at *
        unfold P_X0_begin
        rw [e2p, bnd_e]
        have h1 := h0.U hi (n := bR r + 4 + 2 * C) (j := 0) (x := oN (2 * p)) (iSl_c0 hc5) ⟨by omega, by omega⟩
        have L : ∀ (k i f : Nat) (κ2 : jKt), i + k = 2 * p → k < f → CS ad r κ κ2 (lgF (uS (iS ad κ) (bR r + 4 + 2 * C) 0 (oN (2 * p))) (bR r + 5 + 2 * C) i b) →
            ∃ κ3, P_X0_begin_9 (ad (bR r + 4 + 2 * C)) b f κ2 (oN i) = some κ3 ∧ CS ad r κ κ3 (lgF (uS (iS ad κ) (bR r + 4 + 2 * C) 0 (oN (2 * p))) (bR r + 5 + 2 * C) (2 * p) b) := by
          intro k
          induction k with
          | zero =>
            intro i f κ2 k1 k2 hM
            obtain ⟨f, rfl⟩ : ∃ g, f = g + 1 := ⟨f - 1, by omega⟩
            have r0 := hM.rd (bR r + 4 + 2 * C) 0
            rw [lgF_n (by omega), uS_e] at r0
            have ei : i = 2 * p := by omega
            subst ei
            exact ⟨κ2, by rw [P_X0_begin_9, r0, if_pos ((oN_le (by omega) (by omega)).mpr (by omega))], hM⟩
          | succ k ih =>
            intro i f κ2 k1 k2 hM
            obtain ⟨f, rfl⟩ : ∃ g, f = g + 1 := ⟨f - 1, by omega⟩
            have e1 : (oN i + 1 : Int32) = oN (i + 1) := oN_add i 1
            have r0 := hM.rd (bR r + 4 + 2 * C) 0
            rw [lgF_n (by omega), uS_e] at r0
            rw [P_X0_begin_9, r0, if_neg (fun h => by have := (oN_le (by omega) (by omega)).mp h; omega), ck_t ((oN_jin (by omega)).mpr (by omega)), oN_ix (by omega), (hM.pt hP).lg hr hc5, bnd_e, e1]
            have hN := hM.U hi (n := bR r + 5 + 2 * C) (j := i) (x := b) (iSl_c1 i hc5) ⟨by omega, by omega⟩
            rw [lgF_s] at hN
            exact ih (i + 1) f _ (by omega) (by omega) hN
        obtain ⟨κ3, q1, q2⟩ := L (2 * p) 0 4000 _ (by omega) (by omega) (h1.c fun n j => lgF_0 _ _ _ n j)
        have q1' : P_X0_begin_9 (ad (bR r + 4 + 2 * C)) b 4000 (kU κ (ad (bR r + 4 + 2 * C)) 0 (.int (oN (2 * p)))) 0 = some κ3 := q1
        have r2 := q2.rd (bR r) 2
        rw [lgF_n (by omega), uS_n (by omega), b2] at r2
        have h3 := q2.U hi (n := bR r) (j := 2) (x := v 0 + 1) (iSl_r0 (by omega)) ⟨by omega, by omega⟩
        have r3 := h3.rd (bR r) 2
        rw [uS_e] at r3
        rw [q1', bd_s, r2, bnd_e, r3, Int32.add_sub_cancel]
        have sm : ∀ n j, (n ≠ bR r ∨ j ≠ 2) → (n ≠ bR r + 4 + 2 * C ∨ j ≠ 0) → n ≠ bR r + 5 + 2 * C → uS (lgF (uS (iS ad κ) (bR r + 4 + 2 * C) 0 (oN (2 * p))) (bR r + 5 + 2 * C) (2 * p) b) (bR r) 2 (v 0 + 1) n j = iS ad κ n j := by
          intro n j z1 z2 z3
          rw [uS_n (by omega), lgF_n (by omega), uS_n (by omega)]
        have rw0 : ∀ j, j ≠ 0 → j ≠ 12 + 17 * C → ¬ (13 + 17 * C ≤ j ∧ j < 29 + 17 * C) → (fun j => if j = 0 then v 0 + 1 else if j = 12 + 17 * C then a else if 13 + 17 * C ≤ j ∧ j < 29 + 17 * C then (if j < 13 + 17 * C + 2 * p then b else 0) else v j) j = v j := by
          intro j z1 z2 z3
          simp only []
          rw [if_neg z1, if_neg z2, if_neg z3]
        generalize hS : uS (lgF (uS (iS ad κ) (bR r + 4 + 2 * C) 0 (oN (2 * p))) (bR r + 5 + 2 * C) (2 * p) b) (bR r) 2 (v 0 + 1) = S' at *
        have v0' : (fun j => if j = 0 then v 0 + 1 else if j = 12 + 17 * C then a else if 13 + 17 * C ≤ j ∧ j < 29 + 17 * C then (if j < 13 + 17 * C + 2 * p then b else 0) else v j) 0 = oN (C + 1) := by simp only [if_true]; rw [hn0.1, hC]; exact oN_add C 1
        have vC' : (fun j => if j = 0 then v 0 + 1 else if j = 12 + 17 * C then a else if 13 + 17 * C ≤ j ∧ j < 29 + 17 * C then (if j < 13 + 17 * C + 2 * p then b else 0) else v j) (12 + 17 * C) = oN p := by simp only [if_true]; rw [if_neg (by omega), p1]
        have vL' : ∀ l, l < 2 * p → (fun j => if j = 0 then v 0 + 1 else if j = 12 + 17 * C then a else if 13 + 17 * C ≤ j ∧ j < 29 + 17 * C then (if j < 13 + 17 * C + 2 * p then b else 0) else v j) (13 + 17 * C + l) = b := by
          intro l hl
          simp only []
          rw [if_neg (by omega), if_neg (by omega), if_pos (by omega), if_pos (by omega)]
        generalize (fun j => if j = 0 then v 0 + 1 else if j = 12 + 17 * C then a else if 13 + 17 * C ≤ j ∧ j < 29 + 17 * C then (if j < 13 + 17 * C + 2 * p then b else 0) else v j) = v' at *
        have n1 : nn v' 1 = nn v 1 := nn_c (rw0 1 (by omega) (by omega) (by omega))
        refine ⟨_, _, rfl, h3.ok hP ⟨fun c hc => ?_, ⟨?_, ?_, ?_, ?_, ?_, ?_, ?_, ?_⟩, fun c hc => ?_, fun s hs => ?_, bi⟩⟩
        · rw [sm _ _ (by omega) (by omega) (by omega), rw0 _ (by omega) (by omega) (by omega)]; exact b1 c hc
        · rw [← hS, uS_e, v0', hn0.1, hC]; exact oN_add C 1
        · rw [sm _ _ (by omega) (by omega) (by omega), rw0 _ (by omega) (by omega) (by omega)]; exact b4
        · rw [sm _ _ (by omega) (by omega) (by omega), rw0 _ (by omega) (by omega) (by omega)]; exact b5
        · rw [sm _ _ (by omega) (by omega) (by omega), rw0 _ (by omega) (by omega) (by omega)]; exact b6
        · rw [sm _ _ (by omega) (by omega) (by omega), rw0 _ (by omega) (by omega) (by omega)]; exact b7
        · rw [sm _ _ (by omega) (by omega) (by omega), rw0 _ (by omega) (by omega) (by omega)]; exact b8
        · rw [sm _ _ (by omega) (by omega) (by omega), rw0 _ (by omega) (by omega) (by omega)]; exact b9
        · rw [sm _ _ (by omega) (by omega) (by omega), rw0 _ (by omega) (by omega) (by omega)]; exact b10
        · rw [nn_n v0' (by omega)] at hc
          by_cases e : c = C
          · subst e
            have np : nn v' (12 + 17 * c) = p := nn_n vC' (by omega)
            refine ⟨?_, fun l hl => ?_⟩
            · rw [np, ← hS, uS_n (by omega), lgF_n (by omega), uS_e]
            · rw [np] at hl
              rw [vL' l hl, ← hS, uS_n (by omega), show bR r + 4 + 2 * c + 1 = bR r + 5 + 2 * c by omega, lgF_e hl]
          · refine CRel_c (fun i hi2 j => sm _ _ (by omega) (by omega) (by omega)) (fun k _ => rw0 _ (by omega) (by omega) (by omega)) (hR'.2.2.1 c (by omega)) (b3 c (by omega))
        · rw [n1] at hs
          have hw := (hR'.2.2.2 s hs).2.1
          exact SRel_c (s := s) (fun i hi2 j => sm _ _ (by omega) (by omega) (by omega)) ⟨fun k _ => rw0 _ (by omega) (by omega) (by omega), rw0 _ (by omega) (by omega) (by omega)⟩ (hR'.2.2.2 s hs) (hG.sl16 hs).1 (bs s hs)
    · rw [if_pos g2, if_neg g2, if_pos rfl]
      exact ⟨_, _, rfl, CO_e hP _⟩
  · rw [if_pos g1]
    by_cases g4 : a < 1
    · rw [if_pos g4]
      exact ⟨_, _, rfl, CO_e hP _⟩
    · rw [if_neg g4, if_pos (Int32.not_le.mp fun g => g1 ⟨Int32.not_lt.mp g4, g⟩)]
      exact ⟨_, _, rfl, CO_e hP _⟩
theorem C2 (hi : ∀ a b, ad a = ad b → a = b) (hP : PT ad κ pr tr pa su) (hr : r < 11) (hR : RRel (iS ad κ) r (su r) v) (hG : GR v) (a l b : Int32) : ∃ x κ', P_X5_measure κ (ad (bR r)) a l b = some (x, κ') ∧ CO ad κ κ' r pr tr pa su (o2 v a l b) x := by
  have h0 := CS.refl (ad := ad) (r := r) κ
  obtain ⟨b1, ⟨b2, b4, b5, b6, b7, b8, b9, b10⟩, b3, bs, bi⟩ := hR
  have hR' := GR_iff.mp hG
  have hn0 := hR'.1
  have c5 := hn0.2.2
  have m6 := hR'.2.1.2.2
  have e2' : kI κ (ad (bR r)) 2 = v 0 := b2
  unfold o2 P_X5_measure
  rw [X5_hasCust e2', bd_s]
  by_cases g0 : 0 ≤ a ∧ a < v 0
  · obtain ⟨m, m1, m2⟩ := lt_n g0.1 (by rw [← hn0.1]; exact g0.2) (by omega)
    obtain ⟨p1, pl⟩ := hR'.2.2.1 m m2
    have p8 := p1.2.2
    have hx : ix a = m := by rw [m1, oN_ix (by omega)]
    have hj : jin a 5 := by rw [m1]; exact (oN_jin (by omega)).mpr (by omega)
    have e2 : 2 * v (12 + 17 * m) = oN (2 * nn v (12 + 17 * m)) := by rw [p1.1, show (2 : Int32) = oN 2 from rfl, oN_mul, nn_n p1.1 (by omega)]
    have hlc : kI κ (ad (bR r + 4 + 2 * m)) 0 = oN (2 * nn v (12 + 17 * m)) := (b3 m m2).1
    rw [if_pos g0, if_neg (by decide), ck_t hj, hx, hP.r1 hr, hP.cu hr (by omega), X0_hasLeg hlc, bd_s, e2]
    by_cases g1 : 0 ≤ l ∧ l < oN (2 * nn v (12 + 17 * m))
    · obtain ⟨t, t1, t2⟩ := lt_n g1.1 g1.2 (by omega)
      have hlx : ix l = t := by rw [t1, oN_ix (by omega)]
      have hj2 : jin l 16 := by rw [t1]; exact (oN_jin (by omega)).mpr (by omega)
      rw [if_pos g1, if_neg (by decide), if_neg (fun q => q ⟨g0.1, g0.2, g1⟩), X5_isLegLength, bd_s]
      by_cases g2 : 10 ≤ b ∧ b ≤ 60
      · have r7 : kI κ (ad (bR r + 5 + 2 * m)) t = v (13 + 17 * m + t) := by
          have := (b3 m m2).2 t t2
          rw [show bR r + 4 + 2 * m + 1 = bR r + 5 + 2 * m by omega] at this
          exact this
        have h1 := h0.U hi (n := bR r + 5 + 2 * m) (j := t) (x := b) (iSl_c1 t (by omega)) ⟨by omega, by omega⟩
        rw [if_pos g2, if_neg (by decide), ifnn g2, ck_t hj, ck_t hj2, hlx, hP.lg hr (by omega), r7, bnd_e, ck_t hj, ck_t hj2, bnd_e]
        have sm : ∀ n j, ¬ (n = bR r + 5 + 2 * m ∧ j = t) → uS (iS ad κ) (bR r + 5 + 2 * m) t b n j = iS ad κ n j := fun n j z => uS_n z
        refine ⟨_, _, rfl, h1.ok hP ⟨fun c hc => ?_, ⟨?_, ?_, ?_, ?_, ?_, ?_, ?_, ?_⟩, fun c hc => ?_, fun s hs => ?_, bi⟩⟩
        · rw [sm _ _ (by omega), ud_n (by omega)]; exact b1 c hc
        · rw [sm _ _ (by omega), ud_n (by omega)]; exact b2
        · rw [sm _ _ (by omega), ud_n (by omega)]; exact b4
        · rw [sm _ _ (by omega), ud_n (by omega)]; exact b5
        · rw [sm _ _ (by omega), ud_n (by omega)]; exact b6
        · rw [sm _ _ (by omega), ud_n (by omega)]; exact b7
        · rw [sm _ _ (by omega), ud_n (by omega)]; exact b8
        · rw [sm _ _ (by omega), ud_n (by omega)]; exact b9
        · rw [sm _ _ (by omega), ud_n (by omega)]; exact b10
        · rw [nn_c (v := v) (i := 0) (ud_n (by omega))] at hc
          by_cases e : c = m
          · subst e
            obtain ⟨z1, z2⟩ := b3 c hc
            refine ⟨by rw [sm _ _ (by omega), nn_c (v := v) (i := 12 + 17 * c) (ud_n (by omega))]; exact z1, fun i hi2 => ?_⟩
            rw [nn_c (v := v) (i := 12 + 17 * c) (ud_n (by omega))] at hi2
            by_cases ei : i = t
            · subst ei
              rw [ud_e, show bR r + 4 + 2 * c + 1 = bR r + 5 + 2 * c by omega, uS_e]
            · rw [sm _ _ (by omega), ud_n (by omega)]; exact z2 i hi2
          · refine CRel_c (fun i hi2 j => sm _ _ (by omega)) (fun k _ => ud_n ?_) (hR'.2.2.1 c hc) (b3 c hc)
            rcases Nat.lt_or_gt_of_ne e with q9 | q9 <;> omega
        · rw [nn_c (v := v) (i := 1) (ud_n (by omega))] at hs
          have hw := (hR'.2.2.2 s hs).2.1
          refine SRel_c (s := s) (fun i hi2 j => sm _ _ (by omega)) ⟨fun k _ => ud_n (by omega), ud_n ?_⟩ (hR'.2.2.2 s hs) (hG.sl16 hs).1 (bs s hs)
          rcases Nat.lt_trichotomy (nn v (98 + 60 * s)) m with q8 | q8 | q8 <;> omega
      · rw [if_neg g2, if_pos rfl, if_pos g2]
        exact ⟨_, _, rfl, CO_e hP _⟩
    · rw [if_neg g1, if_pos rfl, if_pos (fun q => g1 q.2.2)]
      exact ⟨_, _, rfl, CO_e hP _⟩
  · rw [if_neg g0, if_pos rfl, if_pos (fun q => g0 ⟨q.1, q.2.1⟩)]
    exact ⟨_, _, rfl, CO_e hP _⟩
theorem C3 (hi : ∀ a b, ad a = ad b → a = b) (hP : PT ad κ pr tr pa su) (hr : r < 11) (hR : RRel (iS ad κ) r (su r) v) (hG : GR v) (a b : Int32) : ∃ x κ', P_X5_beginSuit κ (ad (bR r)) a b = some (x, κ') ∧ CO ad κ κ' r pr tr pa su (o3 v a b) x := by
  have h0 := CS.refl (ad := ad) (r := r) κ
  obtain ⟨b1, ⟨b2, b4, b5, b6, b7, b8, b9, b10⟩, b3, bs, bi⟩ := hR
  have hR' := GR_iff.mp hG
  have hn0 := hR'.1
  have hn1 := hR'.2.1
  have c5 := hn0.2.2
  have m6 := hn1.2.2
  have e2' : kI κ (ad (bR r)) 2 = v 0 := b2
  have e4' : kI κ (ad (bR r)) 4 = v 1 := b4
  have e5' : kI κ (ad (bR r)) 5 = v 2 := b5
  unfold o3 P_X5_beginSuit
  rw [X5_hasCust e2', bd_s]
  by_cases g1 : 0 ≤ a ∧ a < v 0
  · obtain ⟨m, m1, m2⟩ := lt_n g1.1 (by rw [← hn0.1]; exact g1.2) (by omega)
    have p1 := (hR'.2.2.1 m m2).1
    have p8 := p1.2.2
    have hx : ix a = m := by rw [m1, oN_ix (by omega)]
    have hj : jin a 5 := by rw [m1]; exact (oN_jin (by omega)).mpr (by omega)
    rw [if_pos g1, if_neg (by decide), ifnn g1, X5_hasCloth, bd_s]
    by_cases g2 : 0 ≤ b ∧ b ≤ 3
    · rw [if_pos g2, if_neg (by decide), ifnn g2, e4']
      by_cases g3 : v 1 = 6
      · rw [if_pos g3, if_pos g3]
        exact ⟨_, _, rfl, CO_e hP _⟩
      · have hs6 : nn v 1 < 6 := by
          rcases Nat.lt_or_ge (nn v 1) 6 with q | q
          · exact q
          · exact absurd (by rw [hn1.1, show nn v 1 = 6 by omega]; rfl) g3
        have hj6 : jin (v 1) 6 := by rw [hn1.1]; exact (oN_jin (by omega)).mpr (by omega)
        have hix1 : ix (v 1) = nn v 1 := rfl
        have hlc : kI κ (ad (bR r + 4 + 2 * m)) 0 = oN (2 * nn v (12 + 17 * m)) := (b3 m m2).1
        have hk6 := hP.s6 hr hs6
        rw [if_neg g3, if_neg g3, ck_t hj6, ck_t hj, hix1, hx, hP.r3 hr, hP.st hr hs6, hP.r1 hr, hP.cu hr (by omega), hlc, e5']
        generalize hKK : su r (nn v 1) = k at *
        generalize hpp : nn v (12 + 17 * m) = p at *
        unfold P_X4_begin
        rw [bnd_e, bnd_e, bnd_e, bnd_e, bnd_e]
        have h1 := h0.U hi (n := bR r + 14 + 4 * k) (j := 0) (x := v 2) (iSl_s0 hk6 (by omega)) ⟨by omega, by omega⟩
        have h2 := h1.U hi (n := bR r + 14 + 4 * k) (j := 1) (x := a) (iSl_s0 hk6 (by omega)) ⟨by omega, by omega⟩
        have h3 := h2.U hi (n := bR r + 14 + 4 * k) (j := 2) (x := b) (iSl_s0 hk6 (by omega)) ⟨by omega, by omega⟩
        have h4 := h3.U hi (n := bR r + 14 + 4 * k) (j := 3) (x := oN (2 * p)) (iSl_s0 hk6 (by omega)) ⟨by omega, by omega⟩
        have h5 := h4.U hi (n := bR r + 14 + 4 * k) (j := 4) (x := 0) (iSl_s0 hk6 (by omega)) ⟨by omega, by omega⟩
        generalize hB : uS (uS (uS (uS (uS (iS ad κ) (bR r + 14 + 4 * k) 0 (v 2)) (bR r + 14 + 4 * k) 1 a) (bR r + 14 + 4 * k) 2 b) (bR r + 14 + 4 * k) 3 (oN (2 * p))) (bR r + 14 + 4 * k) 4 0 = B at *
        have B0 : B (bR r + 14 + 4 * k) 0 = v 2 := by rw [← hB, uS_n (by omega), uS_n (by omega), uS_n (by omega), uS_n (by omega), uS_e]
        have B1 : B (bR r + 14 + 4 * k) 1 = a := by rw [← hB, uS_n (by omega), uS_n (by omega), uS_n (by omega), uS_e]
        have B2 : B (bR r + 14 + 4 * k) 2 = b := by rw [← hB, uS_n (by omega), uS_n (by omega), uS_e]
        have B3 : B (bR r + 14 + 4 * k) 3 = oN (2 * p) := by rw [← hB, uS_n (by omega), uS_e]
        have B4 : B (bR r + 14 + 4 * k) 4 = 0 := by rw [← hB, uS_e]
        have BN : ∀ n j, n ≠ bR r + 14 + 4 * k → B n j = iS ad κ n j := fun n j z => by rw [← hB, uS_n (by omega), uS_n (by omega), uS_n (by omega), uS_n (by omega), uS_n (by omega)]
        have L : ∀ (q i f : Nat) (κ2 : jKt), i + q = 2 * p → q < f → CS ad r κ κ2 (lgF (lgF (lgF B (bR r + 17 + 4 * k) i 0) (bR r + 16 + 4 * k) i 0) (bR r + 15 + 4 * k) i 112) →
            ∃ κ3, P_X4_begin_29 (ad (bR r + 14 + 4 * k)) f κ2 (oN i) = some κ3 ∧ CS ad r κ κ3 (lgF (lgF (lgF B (bR r + 17 + 4 * k) (2 * p) 0) (bR r + 16 + 4 * k) (2 * p) 0) (bR r + 15 + 4 * k) (2 * p) 112) := by
          intro q
          induction q with
          | zero =>
            intro i f κ2 k1 k2 hM
            obtain ⟨f, rfl⟩ : ∃ g, f = g + 1 := ⟨f - 1, by omega⟩
            have r0 := hM.rd (bR r + 14 + 4 * k) 3
            rw [lgF_n (by omega), lgF_n (by omega), lgF_n (by omega), B3] at r0
            have ei : i = 2 * p := by omega
            subst ei
            exact ⟨κ2, by rw [P_X4_begin_29, r0, if_pos ((oN_le (by omega) (by omega)).mpr (by omega))], hM⟩
          | succ q ih =>
            intro i f κ2 k1 k2 hM
            obtain ⟨f, rfl⟩ : ∃ g, f = g + 1 := ⟨f - 1, by omega⟩
            have e1 : (oN i + 1 : Int32) = oN (i + 1) := oN_add i 1
            have r0 := hM.rd (bR r + 14 + 4 * k) 3
            rw [lgF_n (by omega), lgF_n (by omega), lgF_n (by omega), B3] at r0
            have j1 := hM.U hi (n := bR r + 15 + 4 * k) (j := i) (x := 112) (iSl_s1 i hk6) ⟨by omega, by omega⟩
            have j2 := j1.U hi (n := bR r + 16 + 4 * k) (j := i) (x := 0) (iSl_s2 i hk6) ⟨by omega, by omega⟩
            have j3 := j2.U hi (n := bR r + 17 + 4 * k) (j := i) (x := 0) (iSl_s3 i hk6) ⟨by omega, by omega⟩
            rw [P_X4_begin_29, r0, if_neg (fun h => by have := (oN_le (by omega) (by omega)).mp h; omega), ck_t ((oN_jin (by omega)).mpr (by omega)), oN_ix (by omega), (hM.pt hP).q5 hr hk6, bnd_e, ck_t ((oN_jin (by omega)).mpr (by omega)), (j1.pt hP).q6 hr hk6, bnd_e, ck_t ((oN_jin (by omega)).mpr (by omega)), (j2.pt hP).q7 hr hk6, bnd_e, e1]
            rw [lgF_s, lgF_u (by omega), lgF_s, lgF_u (by omega), lgF_u (by omega), lgF_s] at j3
            exact ih (i + 1) f _ (by omega) (by omega) j3
        obtain ⟨κ3, q1, q2⟩ := L (2 * p) 0 4000 _ (by omega) (by omega) (h5.c fun n j => by rw [lgF_n (by omega), lgF_n (by omega), lgF_n (by omega)])
        have q1' : P_X4_begin_29 (ad (bR r + 14 + 4 * k)) 4000 (kU (kU (kU (kU (kU κ (ad (bR r + 14 + 4 * k)) 0 (.int (v 2))) (ad (bR r + 14 + 4 * k)) 1 (.int a)) (ad (bR r + 14 + 4 * k)) 2 (.int b)) (ad (bR r + 14 + 4 * k)) 3 (.int (oN (2 * p)))) (ad (bR r + 14 + 4 * k)) 4 (.int 0)) 0 = some κ3 := q1
        have r4 := q2.rd (bR r) 4
        rw [lgF_n (by omega), lgF_n (by omega), lgF_n (by omega), BN _ _ (by omega), b4] at r4
        have h6 := q2.U hi (n := bR r) (j := 4) (x := v 1 + 1) (iSl_r0 (by omega)) ⟨by omega, by omega⟩
        have r5 := h6.rd (bR r) 5
        rw [uS_n (by omega), lgF_n (by omega), lgF_n (by omega), lgF_n (by omega), BN _ _ (by omega), b5] at r5
        have h7 := h6.U hi (n := bR r) (j := 5) (x := v 2 + 1) (iSl_r0 (by omega)) ⟨by omega, by omega⟩
        have r6 := h7.rd (bR r) 5
        rw [uS_e] at r6
        rw [q1', bd_s, r4, bnd_e, r5, bnd_e, r6, Int32.add_sub_cancel]
        have sm : ∀ n j, (n ≠ bR r ∨ (j ≠ 4 ∧ j ≠ 5)) → ¬ (bR r + 14 + 4 * k ≤ n ∧ n < bR r + 18 + 4 * k) → uS (uS (lgF (lgF (lgF B (bR r + 17 + 4 * k) (2 * p) 0) (bR r + 16 + 4 * k) (2 * p) 0) (bR r + 15 + 4 * k) (2 * p) 112) (bR r) 4 (v 1 + 1)) (bR r) 5 (v 2 + 1) n j = iS ad κ n j := by
          intro n j z1 z2
          rw [uS_n (by omega), uS_n (by omega), lgF_n (by omega), lgF_n (by omega), lgF_n (by omega), BN _ _ (by omega)]
        have smB : ∀ j, uS (uS (lgF (lgF (lgF B (bR r + 17 + 4 * k) (2 * p) 0) (bR r + 16 + 4 * k) (2 * p) 0) (bR r + 15 + 4 * k) (2 * p) 112) (bR r) 4 (v 1 + 1)) (bR r) 5 (v 2 + 1) (bR r + 14 + 4 * k) j = B (bR r + 14 + 4 * k) j := by
          intro j
          rw [uS_n (by omega), uS_n (by omega), lgF_n (by omega), lgF_n (by omega), lgF_n (by omega)]
        have sm1 : ∀ j, j < 2 * p → uS (uS (lgF (lgF (lgF B (bR r + 17 + 4 * k) (2 * p) 0) (bR r + 16 + 4 * k) (2 * p) 0) (bR r + 15 + 4 * k) (2 * p) 112) (bR r) 4 (v 1 + 1)) (bR r) 5 (v 2 + 1) (bR r + 14 + 4 * k + 1) j = 112 := by
          intro j hj
          rw [uS_n (by omega), uS_n (by omega), show bR r + 14 + 4 * k + 1 = bR r + 15 + 4 * k by omega, lgF_e hj]
        have sm3 : ∀ j, j < 2 * p → uS (uS (lgF (lgF (lgF B (bR r + 17 + 4 * k) (2 * p) 0) (bR r + 16 + 4 * k) (2 * p) 0) (bR r + 15 + 4 * k) (2 * p) 112) (bR r) 4 (v 1 + 1)) (bR r) 5 (v 2 + 1) (bR r + 14 + 4 * k + 3) j = 0 := by
          intro j hj
          rw [uS_n (by omega), uS_n (by omega), show bR r + 14 + 4 * k + 3 = bR r + 17 + 4 * k by omega, lgF_n (by omega), lgF_n (by omega), lgF_e hj]
        have sm4 : uS (uS (lgF (lgF (lgF B (bR r + 17 + 4 * k) (2 * p) 0) (bR r + 16 + 4 * k) (2 * p) 0) (bR r + 15 + 4 * k) (2 * p) 112) (bR r) 4 (v 1 + 1)) (bR r) 5 (v 2 + 1) (bR r) 4 = v 1 + 1 := by rw [uS_n (by omega), uS_e]
        have sm5 : uS (uS (lgF (lgF (lgF B (bR r + 17 + 4 * k) (2 * p) 0) (bR r + 16 + 4 * k) (2 * p) 0) (bR r + 15 + 4 * k) (2 * p) 112) (bR r) 4 (v 1 + 1)) (bR r) 5 (v 2 + 1) (bR r) 5 = v 2 + 1 := by rw [uS_e]
        generalize uS (uS (lgF (lgF (lgF B (bR r + 17 + 4 * k) (2 * p) 0) (bR r + 16 + 4 * k) (2 * p) 0) (bR r + 15 + 4 * k) (2 * p) 112) (bR r) 4 (v 1 + 1)) (bR r) 5 (v 2 + 1) = S' at *
        generalize hMM : nn v 1 = M at *
        have rw0 : ∀ j, j ≠ 1 → j ≠ 2 → ¬ (97 + 60 * M ≤ j ∧ j < 157 + 60 * M) → (fun j => if j = 1 then v 1 + 1 else if j = 2 then v 2 + 1 else if 97 + 60 * M ≤ j ∧ j < 157 + 60 * M then (if j = 97 + 60 * M then v 2 else if j = 98 + 60 * M then a else if j = 99 + 60 * M then b else 0) else v j) j = v j := by
          intro j z1 z2 z3
          simp only []
          rw [if_neg z1, if_neg z2, if_neg z3]
        have w1' : (fun j => if j = 1 then v 1 + 1 else if j = 2 then v 2 + 1 else if 97 + 60 * M ≤ j ∧ j < 157 + 60 * M then (if j = 97 + 60 * M then v 2 else if j = 98 + 60 * M then a else if j = 99 + 60 * M then b else 0) else v j) 1 = v 1 + 1 := by simp only [if_true]
        have w2' : (fun j => if j = 1 then v 1 + 1 else if j = 2 then v 2 + 1 else if 97 + 60 * M ≤ j ∧ j < 157 + 60 * M then (if j = 97 + 60 * M then v 2 else if j = 98 + 60 * M then a else if j = 99 + 60 * M then b else 0) else v j) 2 = v 2 + 1 := by simp only [if_true]; rw [if_neg (by omega)]
        have w97 : (fun j => if j = 1 then v 1 + 1 else if j = 2 then v 2 + 1 else if 97 + 60 * M ≤ j ∧ j < 157 + 60 * M then (if j = 97 + 60 * M then v 2 else if j = 98 + 60 * M then a else if j = 99 + 60 * M then b else 0) else v j) (97 + 60 * M) = v 2 := by simp only []; rw [if_neg (by omega), if_neg (by omega), if_pos (by omega), if_pos trivial]
        have w98 : (fun j => if j = 1 then v 1 + 1 else if j = 2 then v 2 + 1 else if 97 + 60 * M ≤ j ∧ j < 157 + 60 * M then (if j = 97 + 60 * M then v 2 else if j = 98 + 60 * M then a else if j = 99 + 60 * M then b else 0) else v j) (98 + 60 * M) = a := by simp only []; rw [if_neg (by omega), if_neg (by omega), if_pos (by omega), if_neg (by omega), if_pos trivial]
        have w99 : (fun j => if j = 1 then v 1 + 1 else if j = 2 then v 2 + 1 else if 97 + 60 * M ≤ j ∧ j < 157 + 60 * M then (if j = 97 + 60 * M then v 2 else if j = 98 + 60 * M then a else if j = 99 + 60 * M then b else 0) else v j) (99 + 60 * M) = b := by simp only []; rw [if_neg (by omega), if_neg (by omega), if_pos (by omega), if_neg (by omega), if_neg (by omega), if_pos trivial]
        have wz : ∀ j, 100 + 60 * M ≤ j → j < 157 + 60 * M → (fun j => if j = 1 then v 1 + 1 else if j = 2 then v 2 + 1 else if 97 + 60 * M ≤ j ∧ j < 157 + 60 * M then (if j = 97 + 60 * M then v 2 else if j = 98 + 60 * M then a else if j = 99 + 60 * M then b else 0) else v j) j = 0 := by
          intro j z1 z2
          simp only []
          rw [if_neg (by omega), if_neg (by omega), if_pos (by omega), if_neg (by omega), if_neg (by omega), if_neg (by omega)]
        generalize (fun j => if j = 1 then v 1 + 1 else if j = 2 then v 2 + 1 else if 97 + 60 * M ≤ j ∧ j < 157 + 60 * M then (if j = 97 + 60 * M then v 2 else if j = 98 + 60 * M then a else if j = 99 + 60 * M then b else 0) else v j) = v' at *
        have v1' : v' 1 = oN (M + 1) := by rw [w1', hn1.1, hMM]; exact oN_add M 1
        have n0 : nn v' 0 = nn v 0 := nn_c (rw0 0 (by omega) (by omega) (by omega))
        refine ⟨_, _, rfl, h7.ok hP ⟨fun c hc => ?_, ⟨?_, ?_, ?_, ?_, ?_, ?_, ?_, ?_⟩, fun c hc => ?_, fun s hs => ?_, bi⟩⟩
        · rw [sm _ _ (by omega) (by omega), rw0 _ (by omega) (by omega) (by omega)]; exact b1 c hc
        · rw [sm _ _ (by omega) (by omega), rw0 _ (by omega) (by omega) (by omega)]; exact b2
        · rw [sm4, w1']
        · rw [sm5, w2']
        · rw [sm _ _ (by omega) (by omega), rw0 _ (by omega) (by omega) (by omega)]; exact b6
        · rw [sm _ _ (by omega) (by omega), rw0 _ (by omega) (by omega) (by omega)]; exact b7
        · rw [sm _ _ (by omega) (by omega), rw0 _ (by omega) (by omega) (by omega)]; exact b8
        · rw [sm _ _ (by omega) (by omega), rw0 _ (by omega) (by omega) (by omega)]; exact b9
        · rw [sm _ _ (by omega) (by omega), rw0 _ (by omega) (by omega) (by omega)]; exact b10
        · rw [n0] at hc
          exact CRel_c (fun i hi2 j => sm _ _ (by omega) (by omega)) (fun q _ => rw0 _ (by omega) (by omega) (by omega)) (hR'.2.2.1 c hc) (b3 c hc)
        · rw [nn_n v1' (by omega)] at hs
          by_cases e : s = M
          · subst e
            have nw : nn v' (98 + 60 * s) = m := nn_n (by rw [w98, m1]) (by omega)
            have esl : sl v' s = 2 * p := by
              unfold sl
              rw [nw, nn_c (v := v) (i := 12 + 17 * m) (rw0 _ (by omega) (by omega) (by omega)), hpp]
            have n100 : nn v' (100 + 60 * s) = 0 := nn_n (n := 0) (wz _ (by omega) (by omega)) (by omega)
            rw [hKK]
            refine ⟨by rw [smB, B0, w97], by rw [smB, B1, w98], by rw [smB, B2, w99], by rw [smB, B3, esl], by rw [smB, B4, wz _ (by omega) (by omega)], fun l hl => ?_⟩
            rw [esl] at hl
            refine ⟨by rw [sm1 l hl, wz _ (by omega) (by omega)]; rfl, fun hp => absurd (wz _ (by omega) (by omega)) hp, fun f hf => ?_⟩
            rw [sm3 l hl]
            constructor
            · intro z; rw [b_0] at z; cases z
            · rintro ⟨d, d1, -⟩; rw [n100] at d1; omega
          · have hs' : s < M := by omega
            have hks := hP.s6 hr (i := s) (by omega)
            have hne : su r s ≠ k := fun z => e (bi s M (by omega) hs6 (z.trans hKK.symm))
            have hw := (hR'.2.2.2 s (by omega)).1.2.2
            refine SRel_c (s := s) (fun i hi2 j => sm _ _ (by omega) ?_) ⟨fun q _ => rw0 _ (by omega) (by omega) ?_, rw0 _ (by omega) (by omega) (by omega)⟩ (hR'.2.2.2 s (by omega)) (hG.sl16 (by omega)).1 (bs s (by omega))
            · rcases Nat.lt_or_gt_of_ne hne with q9 | q9 <;> omega
            · omega
    · rw [if_neg g2, if_pos rfl, if_pos g2]
      exact ⟨_, _, rfl, CO_e hP _⟩
  · rw [if_neg g1, if_pos rfl, if_pos g1]
    exact ⟨_, _, rfl, CO_e hP _⟩
end COPS
