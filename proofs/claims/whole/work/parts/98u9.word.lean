/-! ===== layer 3: the model reads a word: one column ===== -/
section WORD
variable {ad : Nat → Nat} {κ κ1 κ2 : jKt} {T : Nat → Int32} {n p j : Nat}
/-- the model's tables of words -/
def MW (ad : Nat → Nat) (κ : jKt) : Prop := kR κ (ad 20) 13 = ad 29 ∧ kR κ (ad 20) 14 = ad 30 ∧ kR κ (ad 20) 15 = ad 31 ∧ WD ad κ
/-- the flags of the words -/
def FG (ad : Nat → Nat) (κ : jKt) (F : Nat → Bool) : Prop := ∀ k, k < 10 → kI κ (ad 29) k = if F k then 1 else 0
/-- the word k has a letter in column j, and it stands at p -/
def hd (T : Nat → Int32) (n p j k : Nat) : Bool := waL.getD k 0 + j < waL.getD (k + 1) 0 && (p < n && T p == oN (wdL.getD (waL.getD k 0 + j) 0))
theorem wa_b : ∀ k, k < 11 → waL.getD k 0 < 58 := by decide +kernel
theorem wd_b : ∀ i, i < 57 → wdL.getD i 0 < 127 := by decide +kernel
def F29 (ad : Nat → Nat) (κ κ' : jKt) : Prop := ∀ m i, m ≠ 29 → κ' (ad m) i = κ (ad m) i
theorem F29.U (hi : ∀ a b, ad a = ad b → a = b) (i : Nat) (x : Int32) : F29 ad κ (kU κ (ad 29) i (.int x)) := fun m q h => by
  unfold kU
  rw [if_neg (fun g => h (hi _ _ g.1))]
theorem MW.f (h : MW ad κ) (f : F29 ad κ κ1) : MW ad κ1 := by
  obtain ⟨h1, h2, h3, h4, h5⟩ := h
  refine ⟨?_, ?_, ?_, fun i hi => ?_, fun i hi => ?_⟩
  · unfold kR at *; rw [f 20 13 (by omega)]; exact h1
  · unfold kR at *; rw [f 20 14 (by omega)]; exact h2
  · unfold kR at *; rw [f 20 15 (by omega)]; exact h3
  · have := h4 i hi; unfold iS kI at *; rw [f 30 i (by omega)]; exact this
  · have := h5 i hi; unfold iS kI at *; rw [f 31 i (by omega)]; exact this
theorem SM.f {e : Int32} (h : SM ad κ T n p e) (f : F29 ad κ κ1) : SM ad κ1 T n p e := by
  obtain ⟨⟨h1, h2, h3, h4, h5⟩, h6, h7⟩ := h
  refine ⟨⟨h1, h2, ?_, ?_, fun i hi => ?_⟩, ?_, ?_⟩
  · unfold kR at *; rw [f 20 11 (by omega)]; exact h3
  · unfold kI at *; rw [f 20 18 (by omega)]; exact h4
  · have := h5 i hi; unfold kI at *; rw [f 27 i (by omega)]; exact this
  · unfold kI at *; rw [f 20 17 (by omega)]; exact h6
  · unfold kI at *; rw [f 20 20 (by omega)]; exact h7
theorem m_col (hi : ∀ a b, ad a = ad b → a = b) (v2 : Int32) (K25 : jKt → Int32 → Int32 → Option (Int32 × jKt)) (hj : j < 60) : ∀ (q i f : Nat) (κ : jKt) (b : Bool) (F : Nat → Bool), i + q = 10 → q < f → MW ad κ → SM ad κ T n p 0 → FG ad κ F →
    ∃ κ' F', P_X7_word_41 (ad 20) (oN j) v2 K25 f κ (if b then 1 else 0) (oN i) = P_X7_word_140 κ' (ad 20) (oN j) v2 (if b || (List.range q).any (fun t => F (i + t) && hd T n p j (i + t)) then 1 else 0) (if b || (List.range q).any (fun t => F (i + t) && hd T n p j (i + t)) then 0 else 1) (ad 20) K25 ∧ FG ad κ' F' ∧ (∀ k, k < 10 → F' k = if i ≤ k then F k && hd T n p j k else F k) ∧ F29 ad κ κ' := by
  intro q
  induction q with
  | zero =>
    intro i f κ b F g1 g2 hW hS hF
    obtain ⟨f, rfl⟩ : ∃ g, f = g + 1 := ⟨f - 1, by omega⟩
    have hi10 : i = 10 := by omega
    subst hi10
    refine ⟨κ, F, ?_, hF, fun k hk => by rw [if_neg (by omega)], fun _ _ _ => rfl⟩
    rw [P_X7_word_41, if_pos (by decide)]
    cases b
    · rw [if_pos (by decide)]; rfl
    · rw [if_neg (by decide)]; rfl
  | succ q ih =>
    intro i f κ b F g1 g2 hW hS hF
    obtain ⟨f, rfl⟩ : ∃ g, f = g + 1 := ⟨f - 1, by omega⟩
    obtain ⟨w1, w2, w3, w4, w5⟩ := id hW
    have w4' : ∀ j, j < 57 → kI κ (ad 30) j = oN (wdL.getD j 0) := w4
    have w5' : ∀ j, j < 11 → kI κ (ad 31) j = oN (waL.getD j 0) := w5
    have hni : ¬ (10 : Int32) ≤ oN i := fun h => by have := (oN_le (a := 10) (by omega) (by omega)).mp h; omega
    have e1 : (oN i + 1 : Int32) = oN (i + 1) := oN_add _ 1
    have b1 := wa_b i (by omega)
    have b2 := wa_b (i + 1) (by omega)
    -- what is laid at the flag i
    have lay : ∀ (h : Bool), ∃ κ' F', P_X7_word_103 κ (ad 20) (oN j) v2 (if b then 1 else 0) (oN i) (if h then 1 else 0) (kI κ (ad 29) i) (oN i) (ad 29) K25 (P_X7_word_41 (ad 20) (oN j) v2 K25 f) = P_X7_word_140 κ' (ad 20) (oN j) v2 (if b || (F i && h) || (List.range q).any (fun t => F (i + 1 + t) && hd T n p j (i + 1 + t)) then 1 else 0) (if b || (F i && h) || (List.range q).any (fun t => F (i + 1 + t) && hd T n p j (i + 1 + t)) then 0 else 1) (ad 20) K25 ∧ FG ad κ' F' ∧ (∀ k, k < 10 → F' k = if i + 1 ≤ k then F k && hd T n p j k else if k = i then F i && h else F k) ∧ F29 ad κ κ' := by
      intro h
      have hx : (kI κ (ad 29) i &&& (if h then 1 else 0) : Int32) = if F i && h then 1 else 0 := by
        rw [hF i (by omega)]
        cases F i <;> cases h <;> decide
      have f1 : F29 ad κ (kU κ (ad 29) i (.int (if F i && h then 1 else 0))) := F29.U hi _ _
      have hF1 : FG ad (kU κ (ad 29) i (.int (if F i && h then 1 else 0))) (fun k => if k = i then F i && h else F k) := fun k hk => by
        show kI (kU κ (ad 29) i (.int (if F i && h then 1 else 0))) (ad 29) k = if (if k = i then F i && h else F k) then 1 else 0
        rw [kI_Un hi]
        by_cases z : k = i
        · rw [if_pos ⟨rfl, z⟩, if_pos z]
        · rw [if_neg (fun g => z g.2), if_neg z]; exact hF k hk
      have r1 : kI (kU κ (ad 29) i (.int (if F i && h then 1 else 0))) (ad 29) i = if F i && h then 1 else 0 := by rw [kI_Un hi, if_pos ⟨rfl, rfl⟩]
      have r2 : kR (kU κ (ad 29) i (.int (if F i && h then 1 else 0))) (ad 20) 13 = ad 29 := (hW.f f1).1
      obtain ⟨κ', F', s1, s2, s3, s4⟩ := ih (i + 1) f (kU κ (ad 29) i (.int (if F i && h then 1 else 0))) (b || (F i && h)) (fun k => if k = i then F i && h else F k) (by omega) (by omega) (hW.f f1) (hS.f f1) hF1
      have sa : (List.range q).any (fun t => (if i + 1 + t = i then F i && h else F (i + 1 + t)) && hd T n p j (i + 1 + t)) = (List.range q).any (fun t => F (i + 1 + t) && hd T n p j (i + 1 + t)) := by
        congr 1
        funext t
        rw [if_neg (by omega)]
      rw [sa] at s1
      refine ⟨κ', F', ?_, s2, fun k hk => ?_, fun m i' hm => (s4 m i' hm).trans (f1 m i' hm)⟩
      · rw [← s1]
        unfold P_X7_word_103
        rw [ck_t (jin_N (by omega) (by omega)), oN_ix (by omega), hx, bnd_e, ck_t (jin_N (by omega) (by omega)), r2, r1, e1]
        cases b <;> cases F i <;> cases h <;> rfl
      · rw [s3 k hk]
        by_cases z : i + 1 ≤ k
        · rw [if_pos z, if_pos z, if_neg (by omega)]
        · rw [if_neg z, if_neg z]
    have hr : (List.range (q + 1)).any (fun t => F (i + t) && hd T n p j (i + t)) = ((F i && hd T n p j i) || (List.range q).any (fun t => F (i + 1 + t) && hd T n p j (i + 1 + t))) := by
      rw [List.range_succ_eq_map, List.any_cons, List.any_map]
      congr 1
      congr 1
      funext t
      show (F (i + (t + 1)) && hd T n p j (i + (t + 1))) = _
      rw [show i + (t + 1) = i + 1 + t from by omega]
    have close : ∀ h : Bool, hd T n p j i = h → P_X7_word_41 (ad 20) (oN j) v2 K25 (f + 1) κ (if b then 1 else 0) (oN i) = P_X7_word_103 κ (ad 20) (oN j) v2 (if b then 1 else 0) (oN i) (if h then 1 else 0) (kI κ (ad 29) i) (oN i) (ad 29) K25 (P_X7_word_41 (ad 20) (oN j) v2 K25 f) → ∃ κ' F', P_X7_word_41 (ad 20) (oN j) v2 K25 (f + 1) κ (if b then 1 else 0) (oN i) = P_X7_word_140 κ' (ad 20) (oN j) v2 (if b || (List.range (q + 1)).any (fun t => F (i + t) && hd T n p j (i + t)) then 1 else 0) (if b || (List.range (q + 1)).any (fun t => F (i + t) && hd T n p j (i + t)) then 0 else 1) (ad 20) K25 ∧ FG ad κ' F' ∧ (∀ k, k < 10 → F' k = if i ≤ k then F k && hd T n p j k else F k) ∧ F29 ad κ κ' := by
      intro h hh he
      obtain ⟨κ', F', s1, s2, s3, s4⟩ := lay h
      rw [hr, hh, ← Bool.or_assoc]
      refine ⟨κ', F', he.trans s1, s2, fun k hk => ?_, s4⟩
      rw [s3 k hk]
      by_cases z : i + 1 ≤ k
      · rw [if_pos z, if_pos (by omega)]
      · rw [if_neg z]
        by_cases y : k = i
        · rw [if_pos y, if_pos (by omega), y, hh]
        · rw [if_neg y, if_neg (by omega)]
    have ea : (oN (waL.getD i 0) + oN j : Int32) = oN (waL.getD i 0 + j) := oN_add _ _
    by_cases z : waL.getD i 0 + j < waL.getD (i + 1) 0
    · have nz : ¬ oN (waL.getD (i + 1) 0) ≤ oN (waL.getD i 0 + j) := fun h => by have := (oN_le (by omega) (by omega)).mp h; omega
      have hsg := m_sign hS
      by_cases y : p < n ∧ T p = oN (wdL.getD (waL.getD i 0 + j) 0)
      · refine close true ?_ ?_
        · unfold hd; rw [decide_eq_true z, decide_eq_true y.1, beq_iff_eq.mpr y.2]; rfl
        · rw [P_X7_word_41, if_neg hni, ck_t (jin_N (by omega) (by omega)), ck_t (jin_N (by omega) (by omega)), e1, ck_t (jin_N (by omega) (by omega)), w3, w1, oN_ix (by omega), oN_ix (by omega), w5' _ (by omega), w5' _ (by omega), ea, if_neg nz, ck_t (jin_N (by omega) (by omega)), ck_t (jin_N (by omega) (by omega)), hsg, bd_s, w2, oN_ix (by omega), w4' _ (by omega), if_pos y.1, if_pos y.2.symm]
          rfl
      · refine close false ?_ ?_
        · unfold hd
          rw [decide_eq_true z]
          by_cases x : p < n
          · rw [decide_eq_true x, Bool.true_and, Bool.true_and]
            exact beq_eq_false_iff_ne.mpr (fun g => y ⟨x, g⟩)
          · rw [decide_eq_false x]; rfl
        · have hne : ¬ oN (wdL.getD (waL.getD i 0 + j) 0) = (if p < n then T p else -1) := by
            intro g
            by_cases x : p < n
            · rw [if_pos x] at g; exact y ⟨x, g.symm⟩
            · rw [if_neg x] at g
              have h0 := oN_nneg (n := wdL.getD (waL.getD i 0 + j) 0) (by have := wd_b (waL.getD i 0 + j) (by omega); omega)
              rw [g] at h0
              exact h0 (by decide)
          rw [P_X7_word_41, if_neg hni, ck_t (jin_N (by omega) (by omega)), ck_t (jin_N (by omega) (by omega)), e1, ck_t (jin_N (by omega) (by omega)), w3, w1, oN_ix (by omega), oN_ix (by omega), w5' _ (by omega), w5' _ (by omega), ea, if_neg nz, ck_t (jin_N (by omega) (by omega)), ck_t (jin_N (by omega) (by omega)), hsg, bd_s, w2, oN_ix (by omega), w4' _ (by omega), if_neg hne]
          rfl
    · refine close false ?_ ?_
      · unfold hd; rw [decide_eq_false z]; rfl
      · rw [P_X7_word_41, if_neg hni, ck_t (jin_N (by omega) (by omega)), ck_t (jin_N (by omega) (by omega)), e1, ck_t (jin_N (by omega) (by omega)), w3, w1, oN_ix (by omega), oN_ix (by omega), w5' _ (by omega), w5' _ (by omega), ea, if_pos ((oN_le (by omega) (by omega)).mpr (by omega))]
        rfl
end WORD
