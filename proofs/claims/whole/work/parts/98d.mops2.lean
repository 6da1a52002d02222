/-! ===== layer 3: the model's changes of one suit ===== -/
section MOPS2
variable {ad : Nat → Nat} {κ κ1 : jKt} {pr tr : Nat} {pa : Nat → Nat} {su : Nat → Nat → Nat} {v v1 : Nat → Int32}
theorem X7_ofi (κ : jKt) {s k i : Nat} (h : i = 97 + 60 * s + k) : P_X7_of κ (oN s) (oN k) = some (oN i) := by rw [X7_of, h]
theorem MS.find (h : MS ad κ κ1 v1) (hP : PT ad κ pr tr pa su) (hG : GR v1) (id : Int32) : P_X7_find κ1 (ad 20) id = some (match fd v1 id with | some t => oN t | none => -1) := by
  have := X7_find (κ := κ1) (m := ad 20) (by rw [h.mv hP]; exact hG) id
  rw [h.mv hP] at this
  exact this
theorem MS.isSleeve (h : MS ad κ κ1 v1) (hP : PT ad κ pr tr pa su) (hG : GR v1) {s : Nat} (hs : s < nn v1 1) (x : Int32) : P_X7_isSleeve κ1 (ad 20) (oN s) x = some (if 0 ≤ x ∧ x < oN (sl v1 s) then 1 else 0) := by
  have := X7_isSleeve (κ := κ1) (m := ad 20) (by rw [h.mv hP]; exact hG) (by rw [h.mv hP]; exact hs) x
  rw [h.mv hP] at this
  exact this
theorem MS.state (h : MS ad κ κ1 v1) (hP : PT ad κ pr tr pa su) {s l : Nat} (hs : s < 6) (hl : l < 56) : P_X7_state κ1 (ad 20) (oN s) (oN l) = some (v1 (101 + 60 * s + l)) := by rw [X7_state hs hl, h.mv hP]
theorem MS.own (h : MS ad κ κ1 v1) (hP : PT ad κ pr tr pa su) {s l : Nat} (hs : s < 6) (hl : l < 40) : P_X7_own κ1 (ad 20) (oN s) (oN l) = some (v1 (117 + 60 * s + l)) := by rw [X7_own hs hl, h.mv hP]
theorem MS.first (h : MS ad κ κ1 v1) (hP : PT ad κ pr tr pa su) {s d : Nat} (hs : s < 6) (hd : d < 12) : P_X7_first κ1 (ad 20) (oN s) (oN d) = some (v1 (133 + 60 * s + 2 * d)) := by rw [X7_first hs hd, h.mv hP]
theorem MS.second (h : MS ad κ κ1 v1) (hP : PT ad κ pr tr pa su) {s d : Nat} (hs : s < 6) (hd : d < 12) : P_X7_second κ1 (ad 20) (oN s) (oN d) = some (v1 (134 + 60 * s + 2 * d)) := by rw [X7_second hs hd, h.mv hP]
theorem MS.wanted (h : MS ad κ κ1 v1) (hP : PT ad κ pr tr pa su) (hG : GR v1) {s l : Nat} (hs : s < nn v1 1) (hl : l < 17) : P_X7_wanted κ1 (ad 20) (oN s) (oN l) = some (v1 (13 + 17 * nn v1 (98 + 60 * s) + l)) := by
  have := X7_wanted (κ := κ1) (m := ad 20) (by rw [h.mv hP]; exact hG) (by rw [h.mv hP]; exact hs) hl
  rw [h.mv hP] at this
  exact this
theorem MS.asked (h : MS ad κ κ1 v1) (hP : PT ad κ pr tr pa su) (s : Nat) : kI κ1 (kR κ1 (ad 20) 5) (100 + 60 * s) = v1 (100 + 60 * s) := h.rd hP _
/-- no suit has the number: -1 is found -/
theorem MO_none (hi : ∀ a b, ad a = ad b → a = b) (hv : ∀ j, iS ad κ 21 j = v j) {k : Nat} (ht : thk k (-1) = 1) : ∃ r κ', (bd2 (P_X7_fail κ (ad 20) 1) fun y κ' => some (y, κ')) = some (r, κ') ∧ MO ad κ κ' k v (.error (-1)) r := MO_fail hi hv ht
theorem nneg1 : ¬ (0 : Int32) ≤ -1 := by decide
theorem M4 (hi : ∀ a b, ad a = ad b → a = b) (hP : PT ad κ pr tr pa su) (hv : ∀ j, iS ad κ 21 j = v j) (hG : GR v) (id l : Int32) : ∃ r κ', (bd (P_X7_find κ (ad 20) id) fun y => P_X7_cuts κ (ad 20) y l) = some (r, κ') ∧ MO ad κ κ' 4 v (o4 v id l) r := by
  have h0 := MS.refl hv
  have s6 := hG.2.1.2.2
  unfold o4 oS
  rw [h0.find hP hG, bd_s]
  cases hf : fd v id with
  | none =>
    simp only []
    unfold P_X7_cuts
    rw [if_neg nneg1]
    exact MO_none hi hv rfl
  | some s =>
    obtain ⟨hs, -⟩ := fd_some hf
    obtain ⟨g1, g2, g3, g4, g5, g6⟩ := (GR_iff.mp hG).2.2.2 s hs
    have h16 := (hG.sl16 hs).1
    simp only []
    unfold P_X7_cuts
    rw [if_pos (oN_0 (by omega)), h0.isSleeve hP hG hs, bd_s]
    by_cases q1 : 0 ≤ l ∧ l < oN (sl v s)
    · obtain ⟨t, t1, t2, t3⟩ := slv h16 q1
      rw [if_pos q1, if_neg (by decide), ifnn q1, t1, h0.state hP (by omega) (by omega), bd_s, ← t1, t2]
      by_cases q2 : v (101 + 60 * s + t) = 0
      · have w4 := g1.2.2
        have k3 := g3.2.2
        have eo2 : ∀ κ2, P_X7_of κ2 (oN s) 2 = some (oN (99 + 60 * s)) := fun κ2 => X7_ofi κ2 (k := 2) (by omega)
        have eo4 : ∀ κ2, P_X7_of κ2 (oN s) (4 + l) = some (oN (101 + 60 * s + t)) := fun κ2 => by rw [t1, show (4 : Int32) = oN 4 from rfl, oN_add]; exact X7_ofi κ2 (by omega)
        have eo20 : ∀ κ2, P_X7_of κ2 (oN s) (20 + l) = some (oN (117 + 60 * s + t)) := fun κ2 => by rw [t1, show (20 : Int32) = oN 20 from rfl, oN_add]; exact X7_ofi κ2 (by omega)
        have e8 : (8 + v (99 + 60 * s) : Int32) = oN (8 + nn v (99 + 60 * s)) := by rw [g3.1, show (8 : Int32) = oN 8 from rfl, oN_add, nn_n g3.1 (by omega)]
        have hw : P_X7_wanted κ (ad 20) (oN s) l = some (v (13 + 17 * nn v (98 + 60 * s) + t)) := by rw [t1]; exact h0.wanted hP hG hs (by omega)
        rw [if_pos q2, ifnn q2, hw, bd_s, eo2, bd_s, ck_t ((oN_jin (by omega)).mpr (by omega)), oN_ix (by omega), h0.rd hP, bnd_e, e8, ck_t ((oN_jin (by omega)).mpr (by omega)), oN_ix (by omega), h0.rd hP]
        by_cases q3 : v (13 + 17 * nn v (98 + 60 * s) + t) + 2 ≤ v (8 + nn v (99 + 60 * s))
        · have ew : v (13 + 17 * nn v (98 + 60 * s) + t) + 2 - 2 = v (13 + 17 * nn v (98 + 60 * s) + t) := Int32.add_sub_cancel _ _
          have h1 := h0.W hi hP (8 + nn v (99 + 60 * s)) (v (8 + nn v (99 + 60 * s)) - (v (13 + 17 * nn v (98 + 60 * s) + t) + 2))
          have h2 := h1.W hi hP (101 + 60 * s + t) 1
          have h3 := h2.W hi hP (117 + 60 * s + t) (v (13 + 17 * nn v (98 + 60 * s) + t))
          have r3 := h3.rd hP (8 + nn v (99 + 60 * s))
          rw [ud_n (by omega), ud_n (by omega), ud_e] at r3
          rw [if_pos q3, if_pos q3, ck_t ((oN_jin (by omega)).mpr (by omega)), ck_t ((oN_jin (by omega)).mpr (by omega)), bnd_e, eo4, bd_s, ck_t ((oN_jin (by omega)).mpr (by omega)), oN_ix (by omega), bnd_e, eo20, bd_s, ck_t ((oN_jin (by omega)).mpr (by omega)), oN_ix (by omega), ew, bnd_e, ck_t ((oN_jin (by omega)).mpr (by omega)), r3]
          exact ⟨_, _, rfl, h3.ok⟩
        · rw [if_neg q3, if_neg q3]
          exact MO_fail hi hv rfl
      · rw [if_neg q2, if_pos q2]
        exact MO_fail hi hv rfl
    · rw [if_neg q1, if_pos rfl, if_pos q1]
      exact MO_fail hi hv rfl
theorem M5 (hi : ∀ a b, ad a = ad b → a = b) (hP : PT ad κ pr tr pa su) (hv : ∀ j, iS ad κ 21 j = v j) {K : Nat} (hX : GX v K) (id l : Int32) : ∃ r κ', (bd (P_X7_find κ (ad 20) id) fun y => P_X7_sews κ (ad 20) y l) = some (r, κ') ∧ MO ad κ κ' 5 v (o5 v id l) r := by
  have h0 := MS.refl hv
  have hG := hX.1
  have s6 := hG.2.1.2.2
  have hI : ∀ x w, o5 v id l = .ok (x, w) → GX w K := fun x w e => (I5 hX e).1
  revert hI
  unfold o5 oS
  rw [h0.find hP hG, bd_s]
  cases hf : fd v id with
  | none =>
    intro _
    simp only []
    unfold P_X7_sews
    rw [if_neg nneg1]
    exact MO_none hi hv rfl
  | some s =>
    obtain ⟨hs, -⟩ := fd_some hf
    obtain ⟨g1, g2, g3, g4, g5, g6⟩ := (GR_iff.mp hG).2.2.2 s hs
    have h16 := (hG.sl16 hs).1
    have h12 := g4.2.2
    simp only []
    unfold P_X7_sews
    rw [if_pos (oN_0 (by omega)), h0.isSleeve hP hG hs, bd_s]
    by_cases q1 : 0 ≤ l ∧ l < oN (sl v s)
    · obtain ⟨t, t1, t2, t3⟩ := slv h16 q1
      rw [if_pos q1, if_neg (show ¬ (1 : Int32) = 0 by decide), ifnn q1, t1, h0.state hP (by omega) (by omega), bd_s, ← t1, t2]
      by_cases q2 : v (101 + 60 * s + t) = 1
      · rw [if_pos q2, ifnn q2]
        intro hI
        have eo3 : ∀ κ2, P_X7_of κ2 (oN s) 3 = some (oN (100 + 60 * s)) := fun κ2 => X7_ofi κ2 (k := 3) (by omega)
        have eo4 : ∀ κ2, P_X7_of κ2 (oN s) (4 + l) = some (oN (101 + 60 * s + t)) := fun κ2 => by rw [t1, show (4 : Int32) = oN 4 from rfl, oN_add]; exact X7_ofi κ2 (by omega)
        have L : ∀ (q d f : Nat), d + q = nn v (100 + 60 * s) → q < f → (∀ e, e < d → nn v (134 + 60 * s + 2 * e) = t → v (101 + 60 * s + nn v (133 + 60 * s + 2 * e)) = 2) →
            ∃ r κ', P_X7_sews_43 (ad 20) (oN s) l f κ (oN d) = some (r, κ') ∧ MO ad κ κ' 5 v (if pb (∃ f, dmB v s t f ∧ v (101 + 60 * s + f) ≠ 2) = true then .error (-5) else .ok (sm (fun j => if ud v (101 + 60 * s + t) 2 (101 + 60 * s + j) = 2 then 1 else 0) 0 (sl v s) 0, ud v (101 + 60 * s + t) 2)) r := by
          intro q
          induction q with
          | zero =>
            intro d f k1 k2 hE
            obtain ⟨f, rfl⟩ : ∃ g, f = g + 1 := ⟨f - 1, by omega⟩
            have hno : ¬ pb (∃ f, dmB v s t f ∧ v (101 + 60 * s + f) ≠ 2) = true := by
              rw [pb_t]
              rintro ⟨f, ⟨e, e1, e2, e3⟩, e4⟩
              exact e4 (by rw [← e2]; exact hE e (by omega) e3)
            have h1 := h0.W hi hP (101 + 60 * s + t) 2
            have hX1 := hI _ _ (if_neg hno)
            have hcount := X7_count (κ := kU κ (kR κ (ad 20) 5) (101 + 60 * s + t) (.int 2)) (m := ad 20) (s := s) (by rw [h1.mv hP]; exact hX1.1) (by rw [h1.mv hP, nn_c (v := v) (i := 1) (ud_n (by omega))]; exact hs) 2
            rw [h1.mv hP, sl_c (v := v) (ud_n (by omega)) (ud_n (by have := g1.2.2; omega))] at hcount
            rw [P_X7_sews_43, eo3, bd_s, ck_t ((oN_jin (by omega)).mpr (by omega)), oN_ix (by omega), h0.rd hP, g4.1, if_pos ((oN_le (by omega) (by omega)).mpr (by omega)), eo4, bd_s, ck_t ((oN_jin (by omega)).mpr (by omega)), oN_ix (by omega), bnd_e, hcount, bd_s, if_neg hno]
            exact ⟨_, _, rfl, h1.ok⟩
          | succ q ih =>
            intro d f k1 k2 hE
            obtain ⟨f, rfl⟩ : ∃ g, f = g + 1 := ⟨f - 1, by omega⟩
            obtain ⟨p1, p2, p3, p4, p5⟩ := g6 d (by omega)
            have hF := p1.2.2
            have hS := p2.2.2
            have e1 : (oN d + 1 : Int32) = oN (d + 1) := oN_add d 1
            rw [P_X7_sews_43, eo3, bd_s, ck_t ((oN_jin (by omega)).mpr (by omega)), oN_ix (by omega), h0.rd hP, g4.1, if_neg (fun h => by have := (oN_le (by omega) (by omega)).mp h; omega), h0.second hP (by omega) (by omega), bd_s, p2.1, t1, e1]
            by_cases q4 : nn v (134 + 60 * s + 2 * d) = t
            · rw [if_pos (by rw [q4]), h0.first hP (by omega) (by omega), bd_s, p1.1, h0.state hP (by omega) (by omega), bd_s]
              by_cases q5 : v (101 + 60 * s + nn v (133 + 60 * s + 2 * d)) = 2
              · rw [if_pos q5, ← t1]
                refine ih (d + 1) f (by omega) (by omega) (fun e k3 k4 => ?_)
                by_cases ee : e = d
                · rw [ee]; exact q5
                · exact hE e (by omega) k4
              · rw [if_neg q5, if_pos (pb_t.mpr ⟨_, ⟨d, by omega, rfl, q4⟩, q5⟩)]
                exact MO_fail hi hv rfl
            · rw [if_neg (fun g => q4 ((oN_eq (by omega) (by omega)).mp g)), ← t1]
              refine ih (d + 1) f (by omega) (by omega) (fun e k3 k4 => ?_)
              by_cases ee : e = d
              · rw [ee] at k4; exact absurd k4 q4
              · exact hE e (by omega) k4
        exact L (nn v (100 + 60 * s)) 0 4000 (by omega) (by omega) (fun e he => by omega)
      · rw [if_neg q2, if_pos q2]
        intro _
        exact MO_fail hi hv rfl
    · rw [if_neg q1, if_pos rfl, if_pos q1]
      intro _
      exact MO_fail hi hv rfl
theorem M6 (hi : ∀ a b, ad a = ad b → a = b) (hP : PT ad κ pr tr pa su) (hv : ∀ j, iS ad κ 21 j = v j) (hG : GR v) (id l : Int32) : ∃ r κ', (bd (P_X7_find κ (ad 20) id) fun y => P_X7_unpicks κ (ad 20) y l) = some (r, κ') ∧ MO ad κ κ' 6 v (o6 v id l) r := by
  have h0 := MS.refl hv
  have s6 := hG.2.1.2.2
  unfold o6 oS
  rw [h0.find hP hG, bd_s]
  cases hf : fd v id with
  | none =>
    simp only []
    unfold P_X7_unpicks
    rw [if_neg nneg1]
    exact MO_none hi hv rfl
  | some s =>
    obtain ⟨hs, -⟩ := fd_some hf
    obtain ⟨g1, g2, g3, g4, g5, g6⟩ := (GR_iff.mp hG).2.2.2 s hs
    have h16 := (hG.sl16 hs).1
    have h12 := g4.2.2
    simp only []
    unfold P_X7_unpicks
    rw [if_pos (oN_0 (by omega)), h0.isSleeve hP hG hs, bd_s]
    by_cases q1 : 0 ≤ l ∧ l < oN (sl v s)
    · obtain ⟨t, t1, t2, t3⟩ := slv h16 q1
      rw [if_pos q1, if_neg (by decide), ifnn q1, t1, h0.state hP (by omega) (by omega), bd_s, ← t1, t2]
      by_cases q2 : v (101 + 60 * s + t) = 0
      · rw [if_pos q2, if_pos q2]
        exact MO_fail hi hv rfl
      · rw [if_neg q2, if_neg q2]
        have eo3 : ∀ κ2, P_X7_of κ2 (oN s) 3 = some (oN (100 + 60 * s)) := fun κ2 => X7_ofi κ2 (k := 3) (by omega)
        have eo4 : ∀ κ2, P_X7_of κ2 (oN s) (4 + l) = some (oN (101 + 60 * s + t)) := fun κ2 => by rw [t1, show (4 : Int32) = oN 4 from rfl, oN_add]; exact X7_ofi κ2 (by omega)
        have eo20 : ∀ κ2, P_X7_of κ2 (oN s) (20 + l) = some (oN (117 + 60 * s + t)) := fun κ2 => by rw [t1, show (20 : Int32) = oN 20 from rfl, oN_add]; exact X7_ofi κ2 (by omega)
        have hown : P_X7_own κ (ad 20) (oN s) l = some (v (117 + 60 * s + t)) := by rw [t1]; exact h0.own hP (by omega) (by omega)
        have L : ∀ (q d f : Nat), d + q = nn v (100 + 60 * s) → q < f → (∀ e, e < d → nn v (133 + 60 * s + 2 * e) = t → v (101 + 60 * s + nn v (134 + 60 * s + 2 * e)) ≠ 2) →
            ∃ r κ', P_X7_unpicks_42 (ad 20) (oN s) l f κ (oN d) = some (r, κ') ∧ MO ad κ κ' 6 v (if pb (∃ f, dmB v s f t ∧ v (101 + 60 * s + f) = 2) = true then .error (-5) else .ok (v (117 + 60 * s + t) + 2, ud (ud (ud v (101 + 60 * s + t) 0) (117 + 60 * s + t) 0) 4 (v 4 + (v (117 + 60 * s + t) + 2)))) r := by
          intro q
          induction q with
          | zero =>
            intro d f k1 k2 hE
            obtain ⟨f, rfl⟩ : ∃ g, f = g + 1 := ⟨f - 1, by omega⟩
            have hno : ¬ pb (∃ f, dmB v s f t ∧ v (101 + 60 * s + f) = 2) = true := by
              rw [pb_t]
              rintro ⟨f, ⟨e, e1, e2, e3⟩, e4⟩
              exact hE e (by omega) e2 (by rw [e3]; exact e4)
            have h1 := h0.W hi hP (101 + 60 * s + t) 0
            have h2 := h1.W hi hP (117 + 60 * s + t) 0
            have r4 := h2.rd hP 4
            rw [ud_n (by omega), ud_n (by omega)] at r4
            have h3 := h2.W hi hP 4 (v 4 + (v (117 + 60 * s + t) + 2))
            rw [P_X7_unpicks_42, eo3, bd_s, ck_t ((oN_jin (by omega)).mpr (by omega)), oN_ix (by omega), h0.rd hP, g4.1, if_pos ((oN_le (by omega) (by omega)).mpr (by omega)), hown, bd_s, eo4, bd_s, ck_t ((oN_jin (by omega)).mpr (by omega)), oN_ix (by omega), bnd_e, eo20, bd_s, ck_t ((oN_jin (by omega)).mpr (by omega)), oN_ix (by omega), bnd_e, show ix 4 = 4 from rfl, r4, bnd_e, if_neg hno]
            exact ⟨_, _, rfl, h3.ok⟩
          | succ q ih =>
            intro d f k1 k2 hE
            obtain ⟨f, rfl⟩ : ∃ g, f = g + 1 := ⟨f - 1, by omega⟩
            obtain ⟨p1, p2, p3, p4, p5⟩ := g6 d (by omega)
            have hF := p1.2.2
            have hS := p2.2.2
            have e1 : (oN d + 1 : Int32) = oN (d + 1) := oN_add d 1
            rw [P_X7_unpicks_42, eo3, bd_s, ck_t ((oN_jin (by omega)).mpr (by omega)), oN_ix (by omega), h0.rd hP, g4.1, if_neg (fun h => by have := (oN_le (by omega) (by omega)).mp h; omega), h0.first hP (by omega) (by omega), bd_s, p1.1, t1, e1]
            by_cases q4 : nn v (133 + 60 * s + 2 * d) = t
            · rw [if_pos (by rw [q4]), h0.second hP (by omega) (by omega), bd_s, p2.1, h0.state hP (by omega) (by omega), bd_s]
              by_cases q5 : v (101 + 60 * s + nn v (134 + 60 * s + 2 * d)) = 2
              · rw [if_pos q5, if_pos (pb_t.mpr ⟨_, ⟨d, by omega, q4, rfl⟩, q5⟩)]
                exact MO_fail hi hv rfl
              · rw [if_neg q5, ← t1]
                refine ih (d + 1) f (by omega) (by omega) (fun e k3 k4 => ?_)
                by_cases ee : e = d
                · rw [ee]; exact q5
                · exact hE e (by omega) k4
            · rw [if_neg (fun g => q4 ((oN_eq (by omega) (by omega)).mp g)), ← t1]
              refine ih (d + 1) f (by omega) (by omega) (fun e k3 k4 => ?_)
              by_cases ee : e = d
              · rw [ee] at k4; exact absurd k4 q4
              · exact hE e (by omega) k4
        exact L (nn v (100 + 60 * s)) 0 4000 (by omega) (by omega) (fun e he => by omega)
    · rw [if_neg q1, if_pos rfl, if_pos q1]
      exact MO_fail hi hv rfl
theorem X7_isAsked (h0 : MS ad κ κ1 v) (hP : PT ad κ pr tr pa su) (hG : GR v) {s a b : Nat} (hs : s < nn v 1) (ha : a < 2 ^ 31) (hb : b < 2 ^ 31) : isB (P_X7_isAsked κ1 (ad 20) (oN s) (oN a) (oN b)) (dmB v s b a) := by
  have s6 := hG.2.1.2.2
  obtain ⟨g1, g2, g3, g4, g5, g6⟩ := (GR_iff.mp hG).2.2.2 s hs
  have h12 := g4.2.2
  have eo3 : ∀ κ2, P_X7_of κ2 (oN s) 3 = some (oN (100 + 60 * s)) := fun κ2 => X7_ofi κ2 (k := 3) (by omega)
  have L : ∀ (q d f : Nat), d + q = nn v (100 + 60 * s) → q < f → isB (P_X7_isAsked_3 κ1 (ad 20) (oN s) (oN a) (oN b) f (oN d)) (∃ e, d ≤ e ∧ e < nn v (100 + 60 * s) ∧ nn v (133 + 60 * s + 2 * e) = a ∧ nn v (134 + 60 * s + 2 * e) = b) := by
    intro q
    induction q with
    | zero =>
      intro d f k1 k2
      obtain ⟨f, rfl⟩ : ∃ g, f = g + 1 := ⟨f - 1, by omega⟩
      rw [P_X7_isAsked_3, eo3, bd_s, ck_t ((oN_jin (by omega)).mpr (by omega)), oN_ix (by omega), h0.rd hP, g4.1, if_pos ((oN_le (by omega) (by omega)).mpr (by omega))]
      refine ⟨0, rfl, Or.inr ⟨rfl, ?_⟩⟩
      rintro ⟨e, e1, e2, -⟩
      omega
    | succ q ih =>
      intro d f k1 k2
      obtain ⟨f, rfl⟩ : ∃ g, f = g + 1 := ⟨f - 1, by omega⟩
      obtain ⟨p1, p2, p3, p4, p5⟩ := g6 d (by omega)
      have hF := p1.2.2
      have hS := p2.2.2
      have e1 : (oN d + 1 : Int32) = oN (d + 1) := oN_add d 1
      have go : ¬ (nn v (133 + 60 * s + 2 * d) = a ∧ nn v (134 + 60 * s + 2 * d) = b) → isB (P_X7_isAsked_3 κ1 (ad 20) (oN s) (oN a) (oN b) f (oN (d + 1))) (∃ e, d ≤ e ∧ e < nn v (100 + 60 * s) ∧ nn v (133 + 60 * s + 2 * e) = a ∧ nn v (134 + 60 * s + 2 * e) = b) := by
        intro hno
        refine isB_c (ih (d + 1) f (by omega) (by omega)) ⟨?_, ?_⟩
        · rintro ⟨e, e1, e2⟩; exact ⟨e, by omega, e2⟩
        · rintro ⟨e, e1, e2, e3⟩
          by_cases ee : e = d
          · rw [ee] at e3; exact absurd e3 hno
          · exact ⟨e, by omega, e2, e3⟩
      rw [P_X7_isAsked_3, eo3, bd_s, ck_t ((oN_jin (by omega)).mpr (by omega)), oN_ix (by omega), h0.rd hP, g4.1, if_neg (fun h => by have := (oN_le (by omega) (by omega)).mp h; omega), h0.first hP (by omega) (by omega), bd_s, p1.1, e1]
      by_cases q4 : nn v (133 + 60 * s + 2 * d) = a
      · rw [if_pos (by rw [q4]), h0.second hP (by omega) (by omega), bd_s, p2.1]
        by_cases q5 : nn v (134 + 60 * s + 2 * d) = b
        · rw [if_pos (by rw [q5])]
          exact ⟨1, rfl, Or.inl ⟨rfl, d, Nat.le_refl _, by omega, q4, q5⟩⟩
        · rw [if_neg (fun g => q5 ((oN_eq (by omega) (by omega)).mp g))]
          exact go (fun g => q5 g.2)
      · rw [if_neg (fun g => q4 ((oN_eq (by omega) (by omega)).mp g))]
        exact go (fun g => q4 g.1)
  refine isB_c (L _ 0 4000 (Nat.zero_add _) (by omega)) ⟨?_, ?_⟩
  · rintro ⟨e, -, e1, e2, e3⟩; exact ⟨e, e1, e2, e3⟩
  · rintro ⟨e, e1, e2, e3⟩; exact ⟨e, by omega, e1, e2, e3⟩
theorem M7 (hi : ∀ a b, ad a = ad b → a = b) (hP : PT ad κ pr tr pa su) (hv : ∀ j, iS ad κ 21 j = v j) (hG : GR v) (id a b : Int32) : ∃ r κ', (bd (P_X7_find κ (ad 20) id) fun y => P_X7_demands κ (ad 20) y a b) = some (r, κ') ∧ MO ad κ κ' 7 v (o7 v id a b) r := by
  have h0 := MS.refl hv
  have s6 := hG.2.1.2.2
  unfold o7 oS
  rw [h0.find hP hG, bd_s]
  cases hf : fd v id with
  | none =>
    simp only []
    unfold P_X7_demands
    rw [if_neg nneg1]
    exact MO_none hi hv rfl
  | some s =>
    obtain ⟨hs, -⟩ := fd_some hf
    obtain ⟨g1, g2, g3, g4, g5, g6⟩ := (GR_iff.mp hG).2.2.2 s hs
    have h16 := (hG.sl16 hs).1
    have h12 := g4.2.2
    simp only []
    unfold P_X7_demands
    rw [if_pos (oN_0 (by omega)), h0.isSleeve hP hG hs, bd_s]
    by_cases q1 : 0 ≤ a ∧ a < oN (sl v s)
    · obtain ⟨p, p1, p2, p3⟩ := slv h16 q1
      rw [if_pos q1, if_neg (by decide), ifnn q1, h0.isSleeve hP hG hs, bd_s]
      by_cases q2 : 0 ≤ b ∧ b < oN (sl v s)
      · obtain ⟨q, q1', q2', q3'⟩ := slv h16 q2
        rw [if_pos q2, if_neg (by decide), ifnn q2, p2, q2']
        by_cases q3 : a = b
        · rw [if_pos q3, if_pos q3]
          exact MO_fail hi hv rfl
        · rw [if_neg q3, if_neg q3]
          have eo3 : ∀ κ2, P_X7_of κ2 (oN s) 3 = some (oN (100 + 60 * s)) := fun κ2 => X7_ofi κ2 (k := 3) (by omega)
          have hsb : P_X7_state κ (ad 20) (oN s) b = some (v (101 + 60 * s + q)) := by rw [q1']; exact h0.state hP (by omega) (by omega)
          have hsa : P_X7_state κ (ad 20) (oN s) a = some (v (101 + 60 * s + p)) := by rw [p1]; exact h0.state hP (by omega) (by omega)
          -- what follows once it is known whether the demand is late
          have go : ∀ s0 : Int32, (s0 = 0 ∨ s0 = 1) → (s0 = 1 ↔ (v (101 + 60 * s + q) = 2 ∧ v (101 + 60 * s + p) ≠ 2)) → ∃ r κ', P_X7_demands_70 κ (ad 20) (oN s) a b s0 = some (r, κ') ∧ MO ad κ κ' 7 v (if pb (dmB v s q p) = true ∨ v (100 + 60 * s) = 12 ∨ (v (101 + 60 * s + q) = 2 ∧ v (101 + 60 * s + p) ≠ 2) then .error (-4) else if pb (rch v s q p) = true then .error (-5) else .ok (v (100 + 60 * s) + 1, ud (ud (ud v (133 + 60 * s + 2 * nn v (100 + 60 * s)) a) (134 + 60 * s + 2 * nn v (100 + 60 * s)) b) (100 + 60 * s) (v (100 + 60 * s) + 1))) r := by
            intro s0 hs0 hlate
            obtain ⟨x, x1, x2⟩ := X7_isAsked h0 hP hG (a := p) (b := q) hs (by omega) (by omega)
            rw [← p1, ← q1'] at x1
            unfold P_X7_demands_70
            rw [x1, bd_s]
            rcases x2 with ⟨y1, y2⟩ | ⟨y1, y2⟩
            · rw [y1, if_neg (by decide), if_pos (Or.inl (pb_t.mpr y2))]
              exact MO_fail hi hv rfl
            · have hnp : ¬ pb (dmB v s q p) = true := fun z => y2 (pb_t.mp z)
              rw [y1, if_pos rfl, eo3, bd_s, ck_t ((oN_jin (by omega)).mpr (by omega)), oN_ix (by omega), h0.rd hP]
              by_cases q4 : v (100 + 60 * s) = 12
              · rw [if_pos q4, if_pos (Or.inr (Or.inl q4))]
                exact MO_fail hi hv rfl
              · rw [if_neg q4]
                rcases hs0 with e0 | e0
                · have hnl : ¬ (v (101 + 60 * s + q) = 2 ∧ v (101 + 60 * s + p) ≠ 2) := fun z => by have := hlate.mpr z; rw [e0] at this; exact absurd this (by decide)
                  obtain ⟨R, r1, r2⟩ := X7_behind (κ := κ) (m := ad 20) (s := s) (x := q) (by rw [h0.mv hP]; exact hG) (by rw [h0.mv hP]; exact hs) (by omega)
                  rw [h0.mv hP, ] at r2
                  rw [← q1'] at r1
                  have hn : ¬ (pb (dmB v s q p) = true ∨ v (100 + 60 * s) = 12 ∨ (v (101 + 60 * s + q) = 2 ∧ v (101 + 60 * s + p) ≠ 2)) := by
                    rintro (y | y | y)
                    · exact hnp y
                    · exact q4 y
                    · exact hnl y
                  rw [if_pos e0, r1, bd_s, if_neg hn]
                  by_cases q5 : rch v s q p
                  · rw [p1, if_pos ((b_cont (by omega)).mpr ((r2 p (by omega)).mpr q5)), if_pos (pb_t.mpr q5)]
                    exact MO_fail hi hv rfl
                  · have hD12 : nn v (100 + 60 * s) < 12 := by
                      rcases Nat.lt_or_ge (nn v (100 + 60 * s)) 12 with z | z
                      · exact z
                      · exact absurd (by rw [g4.1, show nn v (100 + 60 * s) = 12 by omega]; rfl) q4
                    have eA : (36 + 2 * v (100 + 60 * s) : Int32) = oN (36 + 2 * nn v (100 + 60 * s)) := by rw [g4.1, show (2 : Int32) = oN 2 from rfl, oN_mul, show (36 : Int32) = oN 36 from rfl, oN_add, nn_n g4.1 (by omega)]
                    have eB : (oN (36 + 2 * nn v (100 + 60 * s)) + 1 : Int32) = oN (37 + 2 * nn v (100 + 60 * s)) := by have := oN_add (36 + 2 * nn v (100 + 60 * s)) 1; rw [show 36 + 2 * nn v (100 + 60 * s) + 1 = 37 + 2 * nn v (100 + 60 * s) by omega] at this; exact this
                    have eoA : ∀ κ2, P_X7_of κ2 (oN s) (oN (36 + 2 * nn v (100 + 60 * s))) = some (oN (133 + 60 * s + 2 * nn v (100 + 60 * s))) := fun κ2 => X7_ofi κ2 (by omega)
                    have eoB : ∀ κ2, P_X7_of κ2 (oN s) (oN (37 + 2 * nn v (100 + 60 * s))) = some (oN (134 + 60 * s + 2 * nn v (100 + 60 * s))) := fun κ2 => X7_ofi κ2 (by omega)
                    have h1 := h0.W hi hP (133 + 60 * s + 2 * nn v (100 + 60 * s)) a
                    have h2 := h1.W hi hP (134 + 60 * s + 2 * nn v (100 + 60 * s)) b
                    have r3 := h2.rd hP (100 + 60 * s)
                    rw [ud_n (by omega), ud_n (by omega)] at r3
                    have h3 := h2.W hi hP (100 + 60 * s) (v (100 + 60 * s) + 1)
                    have r4 := h3.rd hP (100 + 60 * s)
                    rw [ud_e] at r4
                    rw [if_neg (show ¬ ((R >>> (a &&& 31)) &&& 1 = 1) from fun z => q5 ((r2 p (by omega)).mp ((b_cont (by omega)).mp (by rw [← p1]; exact z)))), if_neg (fun z => q5 (pb_t.mp z)), bd_s, ck_t ((oN_jin (by omega)).mpr (by omega)), oN_ix (by omega), h0.rd hP, bnd_e, eA, eoA, bd_s, ck_t ((oN_jin (by omega)).mpr (by omega)), oN_ix (by omega), bnd_e, eB, eoB, bd_s, ck_t ((oN_jin (by omega)).mpr (by omega)), oN_ix (by omega), bnd_e, eo3, bd_s, ck_t ((oN_jin (by omega)).mpr (by omega)), ck_t ((oN_jin (by omega)).mpr (by omega)), oN_ix (by omega), r3, bnd_e, eo3, bd_s, ck_t ((oN_jin (by omega)).mpr (by omega)), oN_ix (by omega), r4]
                    exact ⟨_, _, rfl, h3.ok⟩
                · rw [if_neg (by rw [e0]; decide), if_pos (Or.inr (Or.inr (hlate.mp e0)))]
                  exact MO_fail hi hv rfl
          rw [hsb, bd_s]
          by_cases z1 : v (101 + 60 * s + q) = 2
          · rw [if_pos z1, hsa, bd_s]
            by_cases z2 : v (101 + 60 * s + p) = 2
            · rw [if_pos z2]
              unfold P_X7_demands_69
              exact go 0 (Or.inl rfl) ⟨fun z => absurd z (by decide), fun z => absurd z2 z.2⟩
            · rw [if_neg z2]
              exact go 1 (Or.inr rfl) ⟨fun _ => ⟨z1, z2⟩, fun _ => rfl⟩
          · rw [if_neg z1]
            unfold P_X7_demands_69
            exact go 0 (Or.inl rfl) ⟨fun z => absurd z (by decide), fun z => absurd z.1 z1⟩
      · rw [if_neg q2, if_pos rfl, if_pos q2]
        exact MO_fail hi hv rfl
    · rw [if_neg q1, if_pos rfl, if_pos q1]
      exact MO_fail hi hv rfl
/-- the suit goes -/
theorem X7_goes (hi : ∀ a b, ad a = ad b → a = b) (hP : PT ad κ pr tr pa su) (h : MS ad κ κ1 v1) {s : Nat} (hs : s < 6) : ∃ κ', P_X7_goes κ1 (ad 20) (oN s) = some κ' ∧ MS ad κ κ' (rem v1 s) := by
  have L : ∀ (q i f : Nat) (κ2 : jKt), i + q = 457 → 97 + 60 * s ≤ i → q < f → MS ad κ κ2 (fun j => if 97 + 60 * s ≤ j ∧ j < i then (if j + 60 < 457 then v1 (j + 60) else 0) else v1 j) → ∃ κ', P_X7_goes_6 (ad 20) f κ2 (oN i) = some κ' ∧ MS ad κ κ' (rem v1 s) := by
    intro q
    induction q with
    | zero =>
      intro i f κ2 k1 k0 k2 hM
      obtain ⟨f, rfl⟩ : ∃ g, f = g + 1 := ⟨f - 1, by omega⟩
      have r1 := hM.rd hP 1
      rw [if_neg (by omega)] at r1
      refine ⟨_, ?_, (hM.W hi hP 1 (v1 1 - 1)).c fun j => ?_⟩
      · rw [P_X7_goes_6, if_pos (by rw [show (457 : Int32) = oN 457 from rfl]; exact (oN_le (by omega) (by omega)).mpr (by omega)), show ix 1 = 1 from rfl, r1, bnd_e]
      · unfold ud rem
        try simp only []
        by_cases e : j = 1
        · rw [if_pos e, if_pos e]
        · rw [if_neg e, if_neg e, show i = 457 by omega]
    | succ q ih =>
      intro i f κ2 k1 k0 k2 hM
      obtain ⟨f, rfl⟩ : ∃ g, f = g + 1 := ⟨f - 1, by omega⟩
      have e1 : (oN i + 1 : Int32) = oN (i + 1) := oN_add i 1
      have e60 : (oN i + 60 : Int32) = oN (i + 60) := oN_add i 60
      have nxt : ∀ x, x = (if i + 60 < 457 then v1 (i + 60) else 0) → ∃ κ', P_X7_goes_6 (ad 20) f (kU κ2 (kR κ2 (ad 20) 5) i (.int x)) (oN (i + 1)) = some κ' ∧ MS ad κ κ' (rem v1 s) := by
        intro x hx
        refine ih (i + 1) f _ (by omega) (by omega) (by omega) ((hM.W hi hP i x).c fun j => ?_)
        unfold ud
        try simp only []
        by_cases e : j = i
        · rw [if_pos e, if_pos (show 97 + 60 * s ≤ j ∧ j < i + 1 by omega), hx, e]
        · rw [if_neg e]
          by_cases e3 : 97 + 60 * s ≤ j ∧ j < i
          · rw [if_pos e3, if_pos (show 97 + 60 * s ≤ j ∧ j < i + 1 by omega)]
          · rw [if_neg e3, if_neg (by omega)]
      rw [P_X7_goes_6, if_neg (by rw [show (457 : Int32) = oN 457 from rfl]; exact fun h => by have := (oN_le (by omega) (by omega)).mp h; omega), e60, e1]
      by_cases g : 457 ≤ i + 60
      · rw [if_pos (by rw [show (457 : Int32) = oN 457 from rfl]; exact (oN_le (by omega) (by omega)).mpr (by omega)), ck_t ((oN_jin (by omega)).mpr (by omega)), oN_ix (by omega), bnd_e]
        exact nxt 0 (by rw [if_neg (by omega)])
      · have r6 := hM.rd hP (i + 60)
        rw [if_neg (by omega)] at r6
        rw [if_neg (by rw [show (457 : Int32) = oN 457 from rfl]; exact fun h => by have := (oN_le (by omega) (by omega)).mp h; omega), ck_t ((oN_jin (by omega)).mpr (by omega)), ck_t ((oN_jin (by omega)).mpr (by omega)), oN_ix (by omega), oN_ix (by omega), r6, bnd_e]
        exact nxt _ (by rw [if_pos (by omega)])
  have eo0 : P_X7_of κ1 (oN s) 0 = some (oN (97 + 60 * s)) := X7_ofi κ1 (k := 0) (by omega)
  unfold P_X7_goes
  rw [eo0, bd_s]
  exact L (457 - (97 + 60 * s)) (97 + 60 * s) 4000 κ1 (by omega) (by omega) (by omega) (h.c fun j => by rw [if_neg (by omega)])
theorem MS.cloth (h : MS ad κ κ1 v1) (hP : PT ad κ pr tr pa su) (hG : GR v1) {s : Nat} (hs : s < nn v1 1) : P_X7_cloth κ1 (ad 20) (oN s) = some (clo v1 s) := by
  have := X7_cloth (κ := κ1) (m := ad 20) (by rw [h.mv hP]; exact hG) (by rw [h.mv hP]; exact hs)
  rw [h.mv hP] at this
  exact this
theorem MS.worth (h : MS ad κ κ1 v1) (hP : PT ad κ pr tr pa su) (hG : GR v1) {s : Nat} (hs : s < nn v1 1) : P_X7_worth κ1 (ad 20) (oN s) = some (wor v1 s) := by
  have := X7_worth (κ := κ1) (m := ad 20) (by rw [h.mv hP]; exact hG) (by rw [h.mv hP]; exact hs)
  rw [h.mv hP] at this
  exact this
theorem MS.due (h : MS ad κ κ1 v1) (hP : PT ad κ pr tr pa su) (hG : GR v1) {s : Nat} (hs : s < nn v1 1) : isB (P_X7_isDue κ1 (ad 20) (oN s)) (dueP v1 s) := by
  have := X7_isDue (κ := κ1) (m := ad 20) (s := s) (q := nn v1 (12 + 17 * nn v1 (98 + 60 * s))) (by rw [h.mv hP]; exact hG) (by rw [h.mv hP]; exact hs) (by rw [h.mv hP]; rfl)
  rw [h.mv hP] at this
  exact this
theorem M8 (hi : ∀ a b, ad a = ad b → a = b) (hP : PT ad κ pr tr pa su) (hv : ∀ j, iS ad κ 21 j = v j) (hG : GR v) (id : Int32) : ∃ r κ', (bd (P_X7_find κ (ad 20) id) fun y => P_X7_delivers κ (ad 20) y) = some (r, κ') ∧ MO ad κ κ' 8 v (o8 v id) r := by
  have h0 := MS.refl hv
  have s6 := hG.2.1.2.2
  unfold o8 oS
  rw [h0.find hP hG, bd_s]
  cases hf : fd v id with
  | none =>
    simp only []
    unfold P_X7_delivers
    rw [if_neg nneg1]
    exact MO_none hi hv rfl
  | some s =>
    obtain ⟨hs, -⟩ := fd_some hf
    obtain ⟨x, x1, x2⟩ := h0.due hP hG hs
    simp only []
    unfold P_X7_delivers
    rw [if_pos (oN_0 (by omega)), x1, bd_s]
    rcases x2 with ⟨y1, y2⟩ | ⟨y1, y2⟩
    · have h1 := h0.W hi hP 5 (v 5 + clo v s)
      have r6 := h1.rd hP 6
      rw [ud_n (by omega)] at r6
      have h2 := h1.W hi hP 6 (v 6 + wor v s)
      have r7 := h2.rd hP 7
      rw [ud_n (by omega), ud_n (by omega)] at r7
      have h3 := h2.W hi hP 7 (v 7 + 1)
      obtain ⟨κ', z1, z2⟩ := X7_goes hi hP h3 (s := s) (by omega)
      rw [y1, if_neg (by decide), h0.worth hP hG hs, bd_s, h0.cloth hP hG hs, bd_s, show ix 5 = 5 from rfl, show ix 6 = 6 from rfl, show ix 7 = 7 from rfl, h0.rd hP, bnd_e, r6, bnd_e, r7, bnd_e, z1, bd_s, if_pos (pb_t.mpr y2)]
      exact ⟨_, _, rfl, z2.ok⟩
    · rw [y1, if_pos rfl, if_neg (fun z => y2 (pb_t.mp z))]
      exact MO_fail hi hv rfl
theorem M9 (hi : ∀ a b, ad a = ad b → a = b) (hP : PT ad κ pr tr pa su) (hv : ∀ j, iS ad κ 21 j = v j) (hG : GR v) (id : Int32) : ∃ r κ', (bd (P_X7_find κ (ad 20) id) fun y => P_X7_scraps κ (ad 20) y) = some (r, κ') ∧ MO ad κ κ' 9 v (o9 v id) r := by
  have h0 := MS.refl hv
  have s6 := hG.2.1.2.2
  unfold o9 oS
  rw [h0.find hP hG, bd_s]
  cases hf : fd v id with
  | none =>
    simp only []
    unfold P_X7_scraps
    rw [if_neg nneg1]
    exact MO_none hi hv rfl
  | some s =>
    obtain ⟨hs, -⟩ := fd_some hf
    have h1 := h0.W hi hP 4 (v 4 + clo v s)
    obtain ⟨κ', z1, z2⟩ := X7_goes hi hP h1 (s := s) (by omega)
    simp only []
    unfold P_X7_scraps
    rw [if_pos (oN_0 (by omega)), h0.cloth hP hG hs, bd_s, show ix 4 = 4 from rfl, h0.rd hP, bnd_e, z1, bd_s]
    exact ⟨_, _, rfl, z2.ok⟩
end MOPS2
