/-! ===== layer 3: the class reads a form ===== -/
theorem fm_chr : ∀ a, a < 32 → 22 ≤ a → ∀ i, i < kSn a → jch (i2c ((kSb a i) &&& 255)) ∧ i2c ((kSb a i) &&& 255) = kSb a i := by decide +kernel
theorem fm_len : ∀ a, a < 32 → 22 ≤ a → kSn a < 20 ∧ (Int32.ofNat (kSn a)) >>> ((0 : Int32) &&& 31) = oN (kSn a) := by decide +kernel
def isA (c : Int32) : Bool := c == 35 || c == 64
/-- how many arguments a form has -/
def na (G : List Int32) : Nat := (G.filter isA).length
/-- a form read from p: where it goes wrong, or the place behind it and the arguments -/
def rF (T : Nat → Int32) (n : Nat) : List Int32 → Nat → Except Nat (Nat × List Int32)
  | [], p => .ok (p, [])
  | c :: G, p => if eS T n c p = p then .error p else match rF T n G (eS T n c p) with
    | .error e => .error e
    | .ok (p', as) => .ok (p', if isA c then vO T (eS T n c p - p) p 0 :: as else as)
theorem gD32 (L : List Int32) (i : Nat) (h : i < L.length) : L[i] = L.getD i 0 := by simp [h]
section FORM
variable {ad : Nat → Nat} {κ κ1 κ2 : jKt} {T : Nat → Int32} {n : Nat}
theorem c_chr {a i : Nat} (ha : a < 32) (ha2 : 22 ≤ a) (h : i < kSn a) : P_J0_charAt_5068e κ a (oN i) = some (kSb a i) := by
  obtain ⟨q1, q2⟩ := fm_chr a ha ha2 i h
  have hl := (fm_len a ha ha2).1
  unfold P_J0_charAt_5068e P_J0_isLatin1_aae02 P_J1_charAt_3b067 P_J0_checkIndex_df160
  rw [bd_s, if_neg (by decide), ck_t (oN_nneg (by omega)), ck_t ((oN_lt (by omega) (by omega)).mpr h), bd_s, ck_t (jin_N h (by omega)), oN_ix (by omega), ck_t q1, bd_s, q2, ck_t (by rw [← q2]; exact q1)]
theorem c_fml {a : Nat} (ha : a < 32) (ha2 : 22 ≤ a) : P_J0_length_8abf5 κ a = some (oN (kSn a)) := by
  unfold P_J0_length_8abf5 P_J0_coder_7d493
  rw [bd_s, (fm_len a ha ha2).2]
theorem eS_ge (c : Int32) (p : Nat) : p ≤ eS T n c p ∧ (p ≤ n → eS T n c p ≤ n) := by
  unfold eS
  by_cases z1 : c = 35
  · rw [if_pos z1]; exact ⟨(eD_ge _ _).1, eD_le _ _⟩
  · rw [if_neg z1]
    by_cases z2 : c = 64
    · rw [if_pos z2]; exact ⟨(eD_ge _ _).1, eD_le _ _⟩
    · rw [if_neg z2]
      by_cases z : p < n ∧ T p = c
      · rw [if_pos z]; exact ⟨by omega, fun _ => by omega⟩
      · rw [if_neg z]; exact ⟨Nat.le_refl _, fun h => h⟩
/-- only arguments from b on change -/
def FA11 (ad : Nat → Nat) (b : Nat) (κ κ' : jKt) : Prop := ∀ m j, ¬ (m = 11 ∧ b ≤ j) → κ' (ad m) j = κ (ad m) j
theorem SC.f (h : SC ad κ T n) {b : Nat} (f : FA11 ad b κ κ1) : SC ad κ1 T n := by
  obtain ⟨h1, h2, h3, h4⟩ := h
  refine ⟨h1, ?_, ?_, fun j hj => ?_⟩
  · unfold kI at *; rw [f 8 1 (by omega)]; exact h2
  · unfold kR at *; rw [f 8 0 (by omega)]; exact h3
  · have := h4 j hj
    unfold kI at *; rw [f 9 j (by omega)]; exact this
theorem na_c (c : Int32) (G : List Int32) : na (c :: G) = (if isA c then 1 else 0) + na G := by
  unfold na
  by_cases z : isA c = true
  · rw [List.filter_cons_of_pos z, if_pos z, List.length_cons]; omega
  · rw [List.filter_cons_of_neg z, if_neg z]; omega
theorem c_form (hi : ∀ a b, ad a = ad b → a = b) {a : Nat} (ha : a < 32) (ha2 : 22 ≤ a) : ∀ (q i f p b : Nat) (κ : jKt), i + q = kSn a → q < f → SC ad κ T n → kR κ (ad 8) 3 = ad 11 → p ≤ n → b + na ((jbyts.getD a []).drop i) ≤ 180 →
    match rF T n ((jbyts.getD a []).drop i) p with
    | .error e => ∃ κ', P_X2_readForm_19 (ad 8) a f κ (oN p) (oN b) (oN i) = some (oN e ^^^ (-1), κ') ∧ e ≤ n ∧ FA11 ad b κ κ'
    | .ok (p', as) => ∃ κ', P_X2_readForm_19 (ad 8) a f κ (oN p) (oN b) (oN i) = some (oN p', κ') ∧ p' ≤ n ∧ FA11 ad b κ κ' ∧ ∀ t (ht : t < as.length), kI κ' (ad 11) (b + t) = as[t] := by
  have hl := (fm_len a ha ha2).1
  intro q
  induction q with
  | zero =>
    intro i f p b κ g1 g2 hS h3 hp hb
    obtain ⟨f, rfl⟩ : ∃ g, f = g + 1 := ⟨f - 1, by omega⟩
    rw [show (jbyts.getD a []).drop i = [] from List.drop_eq_nil_of_le (by show kSn a ≤ i; omega)]
    refine ⟨κ, ?_, hp, fun _ _ _ => rfl, fun t ht => absurd ht (Nat.not_lt_zero _)⟩
    rw [P_X2_readForm_19, c_fml ha ha2, bd_s, if_pos ((oN_le (by omega) (by omega)).mpr (by omega))]
  | succ q ih =>
    intro i f p b κ g1 g2 hS h3 hp hb
    obtain ⟨f, rfl⟩ : ∃ g, f = g + 1 := ⟨f - 1, by omega⟩
    have hn6 := hS.1
    have hil : i < (jbyts.getD a []).length := by show i < kSn a; omega
    have ed : (jbyts.getD a []).drop i = kSb a i :: (jbyts.getD a []).drop (i + 1) := by
      rw [List.drop_eq_getElem_cons hil]
      congr 1
      exact gD32 _ _ hil
    rw [ed, na_c] at hb
    rw [ed, rF]
    have hge := eS_ge (T := T) (n := n) (kSb a i) p
    have eE : P_X2_endOfSign κ (ad 8) (kSb a i) (oN p) = some (oN (eS T n (kSb a i) p)) := c_endS hS _ hp
    have e1 : (oN i + 1 : Int32) = oN (i + 1) := oN_add _ 1
    have eb : (oN b + 1 : Int32) = oN (b + 1) := oN_add _ 1
    have hni : ¬ oN (kSn a) ≤ oN i := fun h => by have := (oN_le (by omega) (by omega)).mp h; omega
    rw [P_X2_readForm_19, c_fml ha ha2, bd_s, if_neg hni, c_chr ha ha2 (by omega), bd_s, eE, bd_s]
    generalize hc : kSb a i = c at *
    by_cases z : eS T n c p = p
    · rw [if_pos z, if_pos (by rw [z])]
      exact ⟨κ, rfl, hp, fun _ _ _ => rfl⟩
    · have hpe := hge.2 hp
      have hne : ¬ oN (eS T n c p) = oN p := fun h => z ((oN_eq (by omega) (by omega)).mp h)
      rw [if_neg z, if_neg hne, e1]
      by_cases y : isA c = true
      · -- an argument
        have hval : P_X2_valueOf κ (ad 8) (oN p) (oN (eS T n c p)) = some (vO T (eS T n c p - p) p 0) := by
          have := c_val hS (p := p) (k := eS T n c p - p) (by omega)
          rw [show p + (eS T n c p - p) = eS T n c p from by omega] at this
          exact this
        rw [if_pos y] at hb
        have go : P_X2_readForm_72 κ (ad 8) a (oN p) (oN b) (oN i) (oN (eS T n c p)) (P_X2_readForm_19 (ad 8) a f) = P_X2_readForm_19 (ad 8) a f (kU κ (ad 11) b (.int (vO T (eS T n c p - p) p 0))) (oN (eS T n c p)) (oN (b + 1)) (oN (i + 1)) := by
          unfold P_X2_readForm_72
          rw [hval, bd_s, ck_t (jin_N (by omega) (by omega)), h3, oN_ix (by omega), bnd_e, eb, e1]
        have ff : FA11 ad b κ (kU κ (ad 11) b (.int (vO T (eS T n c p - p) p 0))) := fun m j hm => by
          unfold kU
          rw [if_neg (fun g => hm (by have := hi _ _ g.1; omega))]
        have hr := ih (i + 1) f (eS T n c p) (b + 1) (kU κ (ad 11) b (.int (vO T (eS T n c p - p) p 0))) (by omega) (by omega) (hS.f ff) (by rw [kR_Un hi (by omega)]; exact h3) hpe (by omega)
        have pick : (if c = 35 then P_X2_readForm_72 κ (ad 8) a (oN p) (oN b) (oN i) (oN (eS T n c p)) (P_X2_readForm_19 (ad 8) a f) else if c = 64 then P_X2_readForm_72 κ (ad 8) a (oN p) (oN b) (oN i) (oN (eS T n c p)) (P_X2_readForm_19 (ad 8) a f) else P_X2_readForm_19 (ad 8) a f κ (oN (eS T n c p)) (oN b) (oN (i + 1))) = P_X2_readForm_72 κ (ad 8) a (oN p) (oN b) (oN i) (oN (eS T n c p)) (P_X2_readForm_19 (ad 8) a f) := by
          by_cases x : c = 35
          · rw [if_pos x]
          · rw [if_neg x]
            have : c = 64 := by unfold isA at y; simpa [x] using y
            rw [if_pos this]
        rw [pick, go]
        cases hR : rF T n ((jbyts.getD a []).drop (i + 1)) (eS T n c p) with
        | error e =>
          rw [hR] at hr
          obtain ⟨κ', r1, r2, r3⟩ := hr
          exact ⟨κ', r1, r2, fun m j hm => (r3 m j (by omega)).trans (ff m j hm)⟩
        | ok w =>
          obtain ⟨p', as⟩ := w
          rw [hR] at hr
          obtain ⟨κ', r1, r2, r3, r4⟩ := hr
          simp only [if_pos y]
          refine ⟨κ', r1, r2, fun m j hm => (r3 m j (by omega)).trans (ff m j hm), fun t ht => ?_⟩
          cases t with
          | zero =>
            have : kI κ' (ad 11) (b + 0) = kI (kU κ (ad 11) b (.int (vO T (eS T n c p - p) p 0))) (ad 11) b := by unfold kI; rw [Nat.add_zero, r3 11 b (by omega)]
            rw [this, kI_Un hi, if_pos ⟨rfl, rfl⟩]; rfl
          | succ t =>
            have := r4 t (by simpa using ht)
            rw [show b + (t + 1) = b + 1 + t from by omega]
            simpa using this
      · have x1 : ¬ c = 35 := fun x => y (by rw [x]; rfl)
        have x2 : ¬ c = 64 := fun x => y (by rw [x]; rfl)
        rw [if_neg x1, if_neg x2]
        rw [if_neg y] at hb
        have hr := ih (i + 1) f (eS T n c p) b κ (by omega) (by omega) hS h3 hpe (by omega)
        cases hR : rF T n ((jbyts.getD a []).drop (i + 1)) (eS T n c p) with
        | error e => rw [hR] at hr; exact hr
        | ok w =>
          obtain ⟨p', as⟩ := w
          rw [hR] at hr
          simp only [if_neg y]
          exact hr
end FORM
