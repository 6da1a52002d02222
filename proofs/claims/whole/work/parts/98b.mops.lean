/-! ===== layer 3: the model's changes ===== -/
/-- the model's own cells: the row, and what is thrown -/
def FM (ad : Nat → Nat) (κ κ' : jKt) : Prop := ∀ n j, n ≠ 21 → ¬ (n = 20 ∧ j = 0) → κ' (ad n) j = κ (ad n) j
theorem FM.fr {ad : Nat → Nat} {κ κ' : jKt} (h : FM ad κ κ') : Fr ad (fun n => n = 20 ∨ n = 21) κ κ' := fun n j hn => h n j (fun e => hn (Or.inr e) (by unfold iSl; omega)) (fun e => hn (Or.inl e.1) (by unfold iSl; omega))
theorem FM.trans {ad : Nat → Nat} {κ κ1 κ2 : jKt} (h : FM ad κ κ1) (g : FM ad κ1 κ2) : FM ad κ κ2 := fun n j a b => (g n j a b).trans (h n j a b)
theorem FM.i {ad : Nat → Nat} {κ κ' : jKt} (h : FM ad κ κ') {n j : Nat} (h1 : n ≠ 21) (h2 : ¬ (n = 20 ∧ j = 0)) : iS ad κ' n j = iS ad κ n j := by
  unfold iS kI
  rw [h n j h1 h2]
def MO (ad : Nat → Nat) (κ κ' : jKt) (k : Nat) (v : Nat → Int32) (res : oR) (r : Int32) : Prop := FM ad κ κ' ∧ match res with
  | .ok (x, v') => r = x ∧ (∀ j, iS ad κ' 21 j = v' j) ∧ iS ad κ' 20 0 = iS ad κ 20 0
  | .error e => r = 0 ∧ (∀ j, iS ad κ' 21 j = v j) ∧ iS ad κ' 20 0 = thk k e
/-- the row has become v1 -/
def MS (ad : Nat → Nat) (κ κ1 : jKt) (v1 : Nat → Int32) : Prop := FM ad κ κ1 ∧ (∀ j, iS ad κ1 21 j = v1 j) ∧ iS ad κ1 20 0 = iS ad κ 20 0
theorem ifnn {α : Type} {c : Prop} {i : Decidable (¬ c)} {a b : α} (h : c) : @ite α (¬ c) i a b = b := if_neg (fun q => q h)
section MOPS
variable {ad : Nat → Nat} {κ κ1 : jKt} {pr tr : Nat} {pa : Nat → Nat} {su : Nat → Nat → Nat} {v v1 : Nat → Int32}
theorem MS.refl (hv : ∀ j, iS ad κ 21 j = v j) : MS ad κ κ v := ⟨fun _ _ _ _ => rfl, hv, rfl⟩
theorem MS.U (hi : ∀ a b, ad a = ad b → a = b) (h : MS ad κ κ1 v1) (i : Nat) (x : Int32) : MS ad κ (kU κ1 (ad 21) i (.int x)) (ud v1 i x) := by
  refine ⟨fun n j h1 h2 => ?_, fun j => ?_, ?_⟩
  · rw [← h.1 n j h1 h2]
    unfold kU
    rw [if_neg (fun g => h1 (hi _ _ g.1))]
  · rw [iS_U hi]
    unfold ud
    by_cases e : j = i
    · rw [if_pos ⟨rfl, e⟩, if_pos e]
    · rw [if_neg (fun g => e g.2), if_neg e]; exact h.2.1 j
  · rw [iS_U hi, if_neg (by omega)]; exact h.2.2
theorem MS.pt (h : MS ad κ κ1 v1) (hP : PT ad κ pr tr pa su) : PT ad κ1 pr tr pa su := h.1.fr.pt hP
theorem PT.p5 (hP : PT ad κ pr tr pa su) : kR κ (ad 20) 5 = ad 21 := hP.2.2.2.2.1 0 (by omega)
theorem MS.rd (h : MS ad κ κ1 v1) (hP : PT ad κ pr tr pa su) (j : Nat) : kI κ1 (kR κ1 (ad 20) 5) j = v1 j := by
  rw [(h.pt hP).p5]; exact h.2.1 j
theorem MS.mv (h : MS ad κ κ1 v1) (hP : PT ad κ pr tr pa su) : mv κ1 (ad 20) = v1 := by
  rw [(h.pt hP).mv]; exact funext h.2.1
theorem MS.W (hi : ∀ a b, ad a = ad b → a = b) (hP : PT ad κ pr tr pa su) (h : MS ad κ κ1 v1) (i : Nat) (x : Int32) : MS ad κ (kU κ1 (kR κ1 (ad 20) 5) i (.int x)) (ud v1 i x) := by
  rw [(h.pt hP).p5]; exact h.U hi i x
theorem MS.ok (h : MS ad κ κ1 v1) {k : Nat} {x : Int32} : MO ad κ κ1 k v (.ok (x, v1)) x := ⟨h.1, rfl, h.2.1, h.2.2⟩
theorem MS.c (h : MS ad κ κ1 v1) {v2 : Nat → Int32} (e : ∀ j, v1 j = v2 j) : MS ad κ κ1 v2 := ⟨h.1, fun j => (h.2.1 j).trans (e j), h.2.2⟩
theorem MO_fail (hi : ∀ a b, ad a = ad b → a = b) (hv : ∀ j, iS ad κ 21 j = v j) {k : Nat} {t e : Int32} (ht : thk k e = t) : ∃ r κ', (bd2 (P_X7_fail κ (ad 20) t) fun y κ' => some (y, κ')) = some (r, κ') ∧ MO ad κ κ' k v (.error e) r := by
  refine ⟨0, kU κ (ad 20) 0 (.int t), rfl, fun n j h1 h2 => ?_, rfl, fun j => ?_, ?_⟩
  · unfold kU
    rw [if_neg (fun g => h2 ⟨hi _ _ g.1, g.2⟩)]
  · rw [iS_U hi, if_neg (by omega)]; exact hv j
  · rw [iS_U hi, if_pos ⟨rfl, rfl⟩, ht]
theorem X7_isCloth (κ : jKt) (x : Int32) : P_X7_isCloth κ x = some (if 0 ≤ x ∧ x ≤ 3 then 1 else 0) := by
  unfold P_X7_isCloth
  rw [X7_isIn, bd_s]
  by_cases h : 0 ≤ x ∧ x ≤ 3
  · rw [if_pos h]; rfl
  · rw [if_neg h]; rfl
theorem pred_lt {n : Nat} (h : n < 2 ^ 31) (x : Int32) : x ≤ oN n - 1 ↔ x < oN n := by
  rcases Nat.eq_zero_or_pos n with e | e
  · subst e
    rw [Int32.le_iff_toInt_le, Int32.lt_iff_toInt_lt, show (oN 0 - 1 : Int32).toInt = -1 from rfl, show (oN 0 : Int32).toInt = 0 from rfl]
    omega
  · rw [show (1 : Int32) = oN 1 from rfl, oN_sub (by omega), Int32.le_iff_toInt_le, Int32.lt_iff_toInt_lt, oN_toInt (by omega), oN_toInt (by omega)]
    omega
theorem X7_isCustomer (h : MS ad κ κ1 v1) (hP : PT ad κ pr tr pa su) (h0 : isN v1 0 0 5) (x : Int32) : P_X7_isCustomer κ1 (ad 20) x = some (if 0 ≤ x ∧ x < v1 0 then 1 else 0) := by
  unfold P_X7_isCustomer
  have h5 := h0.2.2
  have e : (x ≤ v1 0 - 1) ↔ (x < v1 0) := by rw [h0.1]; exact pred_lt (by omega) x
  rw [X7_isIn, bd_s, show ix 0 = 0 from rfl, h.rd hP]
  simp only [e]
  by_cases g : 0 ≤ x ∧ x < v1 0
  · rw [if_pos g]; rfl
  · rw [if_neg g]; rfl
/-- a number below a small one -/
theorem lt_n {x : Int32} {n : Nat} (h0 : 0 ≤ x) (h : x < oN n) (hn : n < 2 ^ 31) : ∃ m, x = oN m ∧ m < n := by
  obtain ⟨m, m1, m2⟩ := oN_of h0
  rw [m2] at h
  exact ⟨m, m2, (oN_lt (by omega) (by omega)).mp h⟩
theorem X7_isLeg (h : MS ad κ κ1 v1) (hP : PT ad κ pr tr pa su) (hG : GR v1) (x l : Int32) : P_X7_isLeg κ1 (ad 20) x l = some (if 0 ≤ x ∧ x < v1 0 ∧ 0 ≤ l ∧ l < 2 * v1 (12 + 17 * ix x) then 1 else 0) := by
  unfold P_X7_isLeg
  have h5 := hG.1.2.2
  rw [X7_isCustomer h hP hG.1, bd_s]
  by_cases g : 0 ≤ x ∧ x < v1 0
  · obtain ⟨m, m1, m2⟩ := lt_n g.1 (by rw [← hG.1.1]; exact g.2) (by omega)
    have p1 := (hG.2.2.1 m m2).1
    have p8 := p1.2.2
    have hx : ix x = m := by rw [m1, oN_ix (by omega)]
    have e2 : 2 * v1 (12 + 17 * m) = oN (2 * nn v1 (12 + 17 * m)) := by rw [p1.1, show (2 : Int32) = oN 2 from rfl, oN_mul, nn_n p1.1 (by omega)]
    have hl : P_X7_legs κ1 (ad 20) x = some (oN (2 * nn v1 (12 + 17 * m))) := by rw [m1, X7_legs (by omega), h.mv hP, e2]
    rw [if_pos g, if_neg (by decide), hl, bd_s, X7_isIn, bd_s, hx, e2]
    have e : (l ≤ oN (2 * nn v1 (12 + 17 * m)) - 1) ↔ (l < oN (2 * nn v1 (12 + 17 * m))) := pred_lt (by omega) l
    simp only [e]
    by_cases q : 0 ≤ l ∧ l < oN (2 * nn v1 (12 + 17 * m))
    · rw [if_pos q, if_neg (by decide), if_pos ⟨g.1, g.2, q⟩]
    · rw [if_neg q, if_pos rfl, if_neg (fun z => q z.2.2)]
  · rw [if_neg g, if_pos rfl, if_neg (fun z => g ⟨z.1, z.2.1⟩)]
theorem M0 (hi : ∀ a b, ad a = ad b → a = b) (hP : PT ad κ pr tr pa su) (hv : ∀ j, iS ad κ 21 j = v j) (a b : Int32) : ∃ r κ', P_X7_buys κ (ad 20) a b = some (r, κ') ∧ MO ad κ κ' 0 v (o0 v a b) r := by
  have h0 := MS.refl hv
  unfold o0 P_X7_buys
  rw [X7_isCloth, bd_s]
  by_cases g1 : 0 ≤ a ∧ a ≤ 3
  · obtain ⟨n, n1, n2, n3⟩ := in_n (lo := 0) (hi := 3) g1.1 g1.2 (by omega) (by omega)
    have e8 : (8 + a : Int32) = oN (8 + n) := by rw [n1, show (8 : Int32) = oN 8 from rfl, oN_add]
    rw [if_pos g1, if_neg (by decide), ifnn g1, X7_isIn, bd_s]
    by_cases g2 : 1 ≤ b ∧ b ≤ 999
    · have hix : ix a = n := by rw [n1, oN_ix (by omega)]
      rw [if_pos g2, if_neg (by decide), ifnn g2, e8, ck_t ((oN_jin (by omega)).mpr (by omega)), oN_ix (by omega), h0.rd hP, hix]
      by_cases g3 : v (8 + n) + b ≤ 2000
      · have h1 := h0.W hi hP (8 + n) (v (8 + n) + b)
        have h2 := h1.W hi hP 3 (v 3 + b)
        have r3 : kI (kU κ (kR κ (ad 20) 5) (8 + n) (.int (v (8 + n) + b))) (kR (kU κ (kR κ (ad 20) 5) (8 + n) (.int (v (8 + n) + b))) (ad 20) 5) (ix 3) = v 3 := by
          rw [h1.rd hP, show ix 3 = 3 from rfl, ud_n (by omega)]
        have r4 := h2.rd hP (8 + n)
        rw [ud_n (by omega), ud_e] at r4
        rw [if_pos g3, if_pos g3, ck_t ((oN_jin (by omega)).mpr (by omega)), ck_t ((oN_jin (by omega)).mpr (by omega)), bnd_e, r3, bnd_e, ck_t ((oN_jin (by omega)).mpr (by omega)), show ix 3 = 3 from rfl, r4]
        exact ⟨_, _, rfl, h2.ok⟩
      · rw [if_neg g3, if_neg g3]
        exact MO_fail hi hv rfl
    · rw [if_pos g2, if_neg g2, if_pos rfl]
      exact MO_fail hi hv rfl
  · rw [if_pos g1, if_neg g1, if_pos rfl]
    exact MO_fail hi hv rfl
theorem M1 (hi : ∀ a b, ad a = ad b → a = b) (hP : PT ad κ pr tr pa su) (hv : ∀ j, iS ad κ 21 j = v j) (hG : GR v) (a b : Int32) : ∃ r κ', P_X7_adds κ (ad 20) a b = some (r, κ') ∧ MO ad κ κ' 1 v (o1 v a b) r := by
  have h0 := MS.refl hv
  unfold o1 P_X7_adds
  rw [X7_isIn, bd_s]
  by_cases g1 : 1 ≤ a ∧ a ≤ 8
  · obtain ⟨p, p1, p2, p3⟩ := in_n (lo := 1) (hi := 8) g1.1 g1.2 (by omega) (by omega)
    rw [if_pos g1, if_neg (by decide), ifnn g1, X7_isIn, bd_s]
    by_cases g2 : 10 ≤ b ∧ b ≤ 60
    · have hn0 := hG.1
      have hn5 := hn0.2.2
      rw [if_pos g2, if_neg (by decide), ifnn g2, show ix 0 = 0 from rfl, h0.rd hP, bnd_e]
      by_cases g3 : v 0 = 5
      · rw [if_pos g3, if_pos g3]
        exact MO_fail hi hv rfl
      · have hc5 : nn v 0 < 5 := by
          rcases Nat.lt_or_ge (nn v 0) 5 with q | q
          · exact q
          · exact absurd (by rw [hn0.1, show nn v 0 = 5 by omega]; rfl) g3
        have eat : P_X7_at κ (v 0) = some (oN (12 + 17 * nn v 0)) := by rw [hn0.1, nn_n hn0.1 (by omega)]; exact X7_at κ _
        rw [if_neg g3, if_neg g3, eat, bd_s, ck_t ((oN_jin (by omega)).mpr (by omega)), oN_ix (by omega), bnd_e]
        have h1 := h0.W hi hP (12 + 17 * nn v 0) a
        have hpix : ix a = p := by rw [p1, oN_ix (by omega)]
        have e2p : (2 * a : Int32) = oN (2 * p) := by rw [p1, show (2 : Int32) = oN 2 from rfl, oN_mul]
        have L : ∀ (k i f : Nat) (κ2 : jKt), i + k = 16 → k < f → MS ad κ κ2 (fun j => if j = 12 + 17 * nn v 0 then a else if 13 + 17 * nn v 0 ≤ j ∧ j < 13 + 17 * nn v 0 + i then (if j < 13 + 17 * nn v 0 + 2 * p then b else 0) else v j) →
            ∃ r κ', P_X7_adds_58 (ad 20) a b (v 0) f κ2 (oN i) = some (r, κ') ∧ MO ad κ κ' 1 v (.ok (v 0, fun j => if j = 0 then v 0 + 1 else if j = 12 + 17 * nn v 0 then a else if 13 + 17 * nn v 0 ≤ j ∧ j < 29 + 17 * nn v 0 then (if j < 13 + 17 * nn v 0 + 2 * p then b else 0) else v j)) r := by
          intro k
          induction k with
          | zero =>
            intro i f κ2 k1 k2 hM
            obtain ⟨f, rfl⟩ : ∃ g, f = g + 1 := ⟨f - 1, by omega⟩
            have r0 := hM.rd hP 0
            rw [if_neg (by omega), if_neg (by omega)] at r0
            have h3 := hM.W hi hP 0 (v 0 + 1)
            refine ⟨v 0, _, ?_, (h3.c fun j => ?_).ok⟩
            · rw [P_X7_adds_58, if_pos (by rw [show (16 : Int32) = oN 16 from rfl]; exact (oN_le (by omega) (by omega)).mpr (by omega)), show ix 0 = 0 from rfl, r0, bnd_e]
            · unfold ud
              try simp only []
              by_cases e0 : j = 0
              · rw [if_pos e0, if_pos e0]
              · rw [if_neg e0, if_neg e0, show i = 16 by omega, show 13 + 17 * nn v 0 + 16 = 29 + 17 * nn v 0 by omega]
          | succ k ih =>
            intro i f κ2 k1 k2 hM
            obtain ⟨f, rfl⟩ : ∃ g, f = g + 1 := ⟨f - 1, by omega⟩
            have e1 : (oN i + 1 : Int32) = oN (i + 1) := oN_add i 1
            have eat2 : P_X7_at κ2 (v 0) = some (oN (12 + 17 * nn v 0)) := by rw [hn0.1, nn_n hn0.1 (by omega)]; exact X7_at κ2 _
            have e3 : (oN (12 + 17 * nn v 0) + 1 + oN i : Int32) = oN (13 + 17 * nn v 0 + i) := by rw [show (1 : Int32) = oN 1 from rfl, oN_add, oN_add]; congr 1; omega
            rw [P_X7_adds_58, if_neg (by rw [show (16 : Int32) = oN 16 from rfl]; exact fun h => by have := (oN_le (by omega) (by omega)).mp h; omega), eat2, bd_s, e2p, e3, e1]
            have nxt : ∀ x, x = (if 13 + 17 * nn v 0 + i < 13 + 17 * nn v 0 + 2 * p then b else 0) → ∃ r κ', P_X7_adds_58 (ad 20) a b (v 0) f (kU κ2 (kR κ2 (ad 20) 5) (13 + 17 * nn v 0 + i) (.int x)) (oN (i + 1)) = some (r, κ') ∧ MO ad κ κ' 1 v (.ok (v 0, fun j => if j = 0 then v 0 + 1 else if j = 12 + 17 * nn v 0 then a else if 13 + 17 * nn v 0 ≤ j ∧ j < 29 + 17 * nn v 0 then (if j < 13 + 17 * nn v 0 + 2 * p then b else 0) else v j)) r := by
              intro x hx
              refine ih (i + 1) f _ (by omega) (by omega) ((hM.W hi hP (13 + 17 * nn v 0 + i) x).c fun j => ?_)
              unfold ud
              try simp only []
              by_cases e : j = 13 + 17 * nn v 0 + i
              · rw [if_pos e, if_neg (by omega), if_pos (by omega), hx, e]
              · rw [if_neg e]
                by_cases e2 : j = 12 + 17 * nn v 0
                · rw [if_pos e2, if_pos e2]
                · rw [if_neg e2, if_neg e2]
                  by_cases e3 : 13 + 17 * nn v 0 ≤ j ∧ j < 13 + 17 * nn v 0 + i
                  · rw [if_pos e3, if_pos (show 13 + 17 * nn v 0 ≤ j ∧ j < 13 + 17 * nn v 0 + (i + 1) by omega)]
                  · rw [if_neg e3, if_neg (by omega)]
            by_cases q : i < 2 * p
            · rw [if_neg (fun h => by have := (oN_le (by omega) (by omega)).mp h; omega), ck_t ((oN_jin (by omega)).mpr (by omega)), oN_ix (by omega), bnd_e]
              exact nxt b (by rw [if_pos (by omega)])
            · rw [if_pos ((oN_le (by omega) (by omega)).mpr (by omega)), ck_t ((oN_jin (by omega)).mpr (by omega)), oN_ix (by omega), bnd_e]
              exact nxt 0 (by rw [if_neg (by omega)])
        rw [hpix]
        refine L 16 0 4000 _ (by omega) (by omega) (h1.c fun j => ?_)
        unfold ud
        try simp only []
        by_cases e : j = 12 + 17 * nn v 0
        · rw [if_pos e, if_pos e]
        · rw [if_neg e, if_neg e, if_neg (by omega)]
    · rw [if_pos g2, if_neg g2, if_pos rfl]
      exact MO_fail hi hv rfl
  · rw [if_pos g1, if_neg g1, if_pos rfl]
    exact MO_fail hi hv rfl
theorem M2 (hi : ∀ a b, ad a = ad b → a = b) (hP : PT ad κ pr tr pa su) (hv : ∀ j, iS ad κ 21 j = v j) (hG : GR v) (a l b : Int32) : ∃ r κ', P_X7_fits κ (ad 20) a l b = some (r, κ') ∧ MO ad κ κ' 2 v (o2 v a l b) r := by
  have h0 := MS.refl hv
  unfold o2 P_X7_fits
  rw [X7_isLeg h0 hP hG, bd_s]
  by_cases g1 : 0 ≤ a ∧ a < v 0 ∧ 0 ≤ l ∧ l < 2 * v (12 + 17 * ix a)
  · have h5 := hG.1.2.2
    obtain ⟨m, m1, m2⟩ := lt_n g1.1 (by rw [← hG.1.1]; exact g1.2.1) (by omega)
    have p1 := (hG.2.2.1 m m2).1
    have p8 := p1.2.2
    have hx : ix a = m := by rw [m1, oN_ix (by omega)]
    have e2 : 2 * v (12 + 17 * m) = oN (2 * nn v (12 + 17 * m)) := by rw [p1.1, show (2 : Int32) = oN 2 from rfl, oN_mul, nn_n p1.1 (by omega)]
    obtain ⟨t, t1, t2⟩ := lt_n g1.2.2.1 (by rw [← e2, ← hx]; exact g1.2.2.2) (by omega)
    have hlx : ix l = t := by rw [t1, oN_ix (by omega)]
    rw [if_pos g1, if_neg (by decide), ifnn g1, X7_isIn, bd_s]
    by_cases g2 : 10 ≤ b ∧ b ≤ 60
    · have hleg : P_X7_leg κ (ad 20) a l = some (v (13 + 17 * m + t)) := by rw [m1, t1, X7_leg (by omega) (by omega), h0.mv hP]
      have e3 : (oN (12 + 17 * m) + 1 + l : Int32) = oN (13 + 17 * m + t) := by rw [t1, show (1 : Int32) = oN 1 from rfl, oN_add, oN_add]; congr 1; omega
      rw [if_pos g2, if_neg (by decide), ifnn g2, hleg, bd_s, m1, X7_at, bd_s, e3, ck_t ((oN_jin (by omega)).mpr (by omega)), oN_ix (by omega), bnd_e, ← m1, hx, hlx]
      exact ⟨_, _, rfl, (h0.W hi hP (13 + 17 * m + t) b).ok⟩
    · rw [if_pos g2, if_neg g2, if_pos rfl]
      exact MO_fail hi hv rfl
  · rw [if_pos g1, if_neg g1, if_pos rfl]
    exact MO_fail hi hv rfl
theorem M3 (hi : ∀ a b, ad a = ad b → a = b) (hP : PT ad κ pr tr pa su) (hv : ∀ j, iS ad κ 21 j = v j) (hG : GR v) (a b : Int32) : ∃ r κ', P_X7_orders κ (ad 20) a b = some (r, κ') ∧ MO ad κ κ' 3 v (o3 v a b) r := by
  have h0 := MS.refl hv
  unfold o3 P_X7_orders
  rw [X7_isCustomer h0 hP hG.1, bd_s]
  by_cases g1 : 0 ≤ a ∧ a < v 0
  · rw [if_pos g1, if_neg (by decide), ifnn g1, X7_isCloth, bd_s]
    by_cases g2 : 0 ≤ b ∧ b ≤ 3
    · have hn1 := hG.2.1
      have hn6 := hn1.2.2
      rw [if_pos g2, if_neg (by decide), ifnn g2, show ix 1 = 1 from rfl, h0.rd hP, bnd_e]
      by_cases g3 : v 1 = 6
      · rw [if_pos g3, if_pos g3]
        exact MO_fail hi hv rfl
      · have hs6 : nn v 1 < 6 := by
          rcases Nat.lt_or_ge (nn v 1) 6 with q | q
          · exact q
          · exact absurd (by rw [hn1.1, show nn v 1 = 6 by omega]; rfl) g3
        have eof : ∀ κ2 k, P_X7_of κ2 (v 1) (oN k) = some (oN (97 + 60 * nn v 1 + k)) := fun κ2 k => by rw [hn1.1, nn_n hn1.1 (by omega)]; exact X7_of κ2 _ k
        have eof0 : ∀ κ2, P_X7_of κ2 (v 1) 0 = some (oN (97 + 60 * nn v 1)) := fun κ2 => eof κ2 0
        have eof1 : ∀ κ2, P_X7_of κ2 (v 1) 1 = some (oN (98 + 60 * nn v 1)) := fun κ2 => by rw [show (1 : Int32) = oN 1 from rfl, eof]; congr 2; omega
        have eof2 : ∀ κ2, P_X7_of κ2 (v 1) 2 = some (oN (99 + 60 * nn v 1)) := fun κ2 => by rw [show (2 : Int32) = oN 2 from rfl, eof]; congr 2; omega
        rw [if_neg g3, if_neg g3]
        have L : ∀ (k i f : Nat) (κ2 : jKt), i + k = 60 → k < f → MS ad κ κ2 (fun j => if 97 + 60 * nn v 1 ≤ j ∧ j < 97 + 60 * nn v 1 + i then 0 else v j) →
            ∃ r κ', P_X7_orders_43 (ad 20) a b (v 1) f κ2 (oN i) = some (r, κ') ∧ MO ad κ κ' 3 v (.ok (v 2, fun j => if j = 1 then v 1 + 1 else if j = 2 then v 2 + 1 else if 97 + 60 * nn v 1 ≤ j ∧ j < 157 + 60 * nn v 1 then (if j = 97 + 60 * nn v 1 then v 2 else if j = 98 + 60 * nn v 1 then a else if j = 99 + 60 * nn v 1 then b else 0) else v j)) r := by
          intro k
          induction k with
          | zero =>
            intro i f κ2 k1 k2 hM
            obtain ⟨f, rfl⟩ : ∃ g, f = g + 1 := ⟨f - 1, by omega⟩
            have ei : i = 60 := by omega
            subst ei
            have r2 := hM.rd hP 2
            rw [if_neg (by omega)] at r2
            have h1 := hM.W hi hP (97 + 60 * nn v 1) (v 2)
            have h2 := h1.W hi hP (98 + 60 * nn v 1) a
            have h3 := h2.W hi hP (99 + 60 * nn v 1) b
            have r1 := h3.rd hP 1
            rw [ud_n (by omega), ud_n (by omega), ud_n (by omega)] at r1
            rw [if_neg (by omega)] at r1
            have h4 := h3.W hi hP 1 (v 1 + 1)
            have r22 := h4.rd hP 2
            rw [ud_n (by omega), ud_n (by omega), ud_n (by omega), ud_n (by omega)] at r22
            rw [if_neg (by omega)] at r22
            have h5 := h4.W hi hP 2 (v 2 + 1)
            have r9 := h5.rd hP (97 + 60 * nn v 1)
            rw [ud_n (by omega), ud_n (by omega), ud_n (by omega), ud_n (by omega), ud_e] at r9
            refine ⟨v 2, _, ?_, (h5.c fun j => ?_).ok⟩
            · rw [P_X7_orders_43, if_pos (by rw [show (60 : Int32) = oN 60 from rfl]; exact (oN_le (by omega) (by omega)).mpr (by omega)), eof0, bd_s, ck_t ((oN_jin (by omega)).mpr (by omega)), oN_ix (by omega), show ix 2 = 2 from rfl, show ix 1 = 1 from rfl, r2, bnd_e, eof1, bd_s, ck_t ((oN_jin (by omega)).mpr (by omega)), oN_ix (by omega), bnd_e, eof2, bd_s, ck_t ((oN_jin (by omega)).mpr (by omega)), oN_ix (by omega), bnd_e, r1, bnd_e, r22, bnd_e, eof0, bd_s, ck_t ((oN_jin (by omega)).mpr (by omega)), oN_ix (by omega), r9]
            · unfold ud
              try simp only []
              by_cases e1 : j = 1
              · rw [if_neg (by omega), if_pos e1, if_pos e1]
              · by_cases e2 : j = 2
                · rw [if_pos e2, if_neg e1, if_pos e2]
                · rw [if_neg e2, if_neg e1, if_neg e1, if_neg e2]
                  by_cases e3 : j = 99 + 60 * nn v 1
                  · rw [if_pos e3, if_pos (by omega), if_neg (by omega), if_neg (by omega), if_pos e3]
                  · rw [if_neg e3]
                    by_cases e4 : j = 98 + 60 * nn v 1
                    · rw [if_pos e4, if_pos (by omega), if_neg (by omega), if_pos e4]
                    · rw [if_neg e4]
                      by_cases e5 : j = 97 + 60 * nn v 1
                      · rw [if_pos e5, if_pos (by omega), if_pos e5]
                      · rw [if_neg e5]
                        by_cases e6 : 97 + 60 * nn v 1 ≤ j ∧ j < 97 + 60 * nn v 1 + 60
                        · rw [if_pos e6, if_pos (by omega), if_neg e5, if_neg e4, if_neg e3]
                        · rw [if_neg e6, if_neg (by omega)]
          | succ k ih =>
            intro i f κ2 k1 k2 hM
            obtain ⟨f, rfl⟩ : ∃ g, f = g + 1 := ⟨f - 1, by omega⟩
            have e1 : (oN i + 1 : Int32) = oN (i + 1) := oN_add i 1
            rw [P_X7_orders_43, if_neg (by rw [show (60 : Int32) = oN 60 from rfl]; exact fun h => by have := (oN_le (by omega) (by omega)).mp h; omega), eof, bd_s, ck_t ((oN_jin (by omega)).mpr (by omega)), oN_ix (by omega), bnd_e, e1]
            refine ih (i + 1) f _ (by omega) (by omega) ((hM.W hi hP (97 + 60 * nn v 1 + i) 0).c fun j => ?_)
            unfold ud
            try simp only []
            by_cases e : j = 97 + 60 * nn v 1 + i
            · rw [if_pos e, if_pos (by omega)]
            · rw [if_neg e]
              by_cases e3 : 97 + 60 * nn v 1 ≤ j ∧ j < 97 + 60 * nn v 1 + i
              · rw [if_pos e3, if_pos (by omega)]
              · rw [if_neg e3, if_neg (by omega)]
        exact L 60 0 4000 κ (by omega) (by omega) (h0.c fun j => by rw [if_neg (by omega)])
    · rw [if_pos g2, if_neg g2, if_pos rfl]
      exact MO_fail hi hv rfl
  · rw [if_pos g1, if_neg g1, if_pos rfl]
    exact MO_fail hi hv rfl
end MOPS
