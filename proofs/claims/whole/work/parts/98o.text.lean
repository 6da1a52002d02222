/-! ===== layer 3: what is rendered; what can be typed ===== -/
def numL (x : Nat) : List Nat := if x < 10 then [48 + x] else [48 + x / 10, 48 + x % 10]
def ltrN (x : Int32) : Nat := if x = 1 then 99 else 115
/-- a sleeve's letters -/
def pce (v : Nat → Int32) (s i : Nat) : List Nat := if v (101 + 60 * s + i) = 0 then [46] else numL (nn v (117 + 60 * s + i)) ++ [ltrN (v (101 + 60 * s + i))]
def sepS (i : Nat) : List Nat := if i = 0 then [] else if i % 2 = 0 then [124] else [32]
def txS (v : Nat → Int32) (s : Nat) : Nat → Nat → List Nat
  | _, 0 => []
  | i, k + 1 => sepS i ++ (pce v s i ++ txS v s (i + 1) k)
def txO : Nat → List Nat → List Nat
  | _, [] => []
  | i, x :: L => (if i = 0 then [] else [44]) ++ (numL x ++ txO (i + 1) L)
theorem numL_len {x : Nat} : 1 ≤ (numL x).length ∧ (numL x).length ≤ 2 := by
  unfold numL
  split <;> simp
theorem pce_len (v : Nat → Int32) (s i : Nat) : (pce v s i).length ≤ 3 := by
  unfold pce
  split
  · simp
  · have := (numL_len (x := nn v (117 + 60 * s + i))).2
    simp only [List.length_append, List.length_cons, List.length_nil]
    omega
theorem sepS_len (i : Nat) : (sepS i).length ≤ 1 := by
  unfold sepS
  split
  · simp
  · split <;> simp
theorem lst_app {h h' : Nat → Int32} {c x : Nat} {L : List Nat} (hl : lst h c L) (e : ∀ t, t < L.length → h' (c + t) = h (c + t)) (hx : h' (c + L.length) = oN x) : lst h' c (L ++ [x]) := by
  intro t ht
  simp only [List.length_append, List.length_cons, List.length_nil] at ht
  by_cases q : t < L.length
  · rw [e t q, hl t q, List.getElem_append_left q]
  · have et : t = L.length := by omega
    subst et
    rw [hx, List.getElem_append_right (Nat.le_refl _)]
    simp
/-- the class's text -/
def CT (ad : Nat → Nat) (κ : jKt) (L : List Nat) : Prop := iS ad κ 12 0 = oN L.length ∧ lst (iS ad κ 12) 1 L
/-- the model's text -/
def MT (ad : Nat → Nat) (κ : jKt) (L : List Nat) : Prop := iS ad κ 20 19 = oN L.length ∧ lst (iS ad κ 28) 0 L
/-- the model's text alone changes -/
def FT (ad : Nat → Nat) (κ κ' : jKt) : Prop := ∀ n j, n ≠ 28 → ¬ (n = 20 ∧ j = 19) → κ' (ad n) j = κ (ad n) j
section TEXT
variable {ad : Nat → Nat} {κ κ1 κ2 : jKt} {pr tr : Nat} {pa : Nat → Nat} {su : Nat → Nat → Nat} {v : Nat → Int32} {K : Nat}
theorem PT.ou (hP : PT ad κ pr tr pa su) : kR κ (ad 0) 10 = ad 12 := hP.1.2.2.2.2.2.2
theorem PT.ln (hP : PT ad κ pr tr pa su) : kR κ (ad 20) 12 = ad 28 := hP.2.2.2.2.1 7 (by omega)
theorem FT.trans (h : FT ad κ κ1) (g : FT ad κ1 κ2) : FT ad κ κ2 := fun n j a b => (g n j a b).trans (h n j a b)
theorem FT.pt (h : FT ad κ κ1) (hP : PT ad κ pr tr pa su) : PT ad κ1 pr tr pa su := PT_K hP (fun b k hb => by
  unfold kR
  rw [h b k (fun g => hb (by rw [g]; exact iSl_21 k (by omega))) (fun g => hb (by rw [g.1, g.2]; exact iSl_20 (by omega)))])
theorem iSl_12 (j : Nat) : iSl 12 j := Or.inr (Or.inl (by omega))
theorem ap_c (hi : ∀ a b, ad a = ad b → a = b) {L : List Nat} {c : Nat} (h : CT ad κ L) (hl : L.length < 142) (hc : c < 256) : ∃ κ', P_J4_append_cf468 κ (ad 12) (oN c) = some (ad 12, κ') ∧ CT ad κ' (L ++ [c]) ∧ Fr ad (fun n => n = 12) κ κ' := by
  have e0 : kI κ (ad 12) 0 = oN L.length := h.1
  have e1 : (oN L.length + 1 : Int32) = oN (L.length + 1) := oN_add _ 1
  have q1 : oN c < 256 := (oN_lt (a := c) (b := 256) (by omega) (by omega)).mpr hc
  have q2 : oN L.length < 142 := (oN_lt (a := L.length) (b := 142) (by omega) (by omega)).mpr hl
  refine ⟨kU (kU κ (ad 12) (L.length + 1) (.int (oN c))) (ad 12) 0 (.int (oN (L.length + 1))), ?_, ⟨?_, lst_app h.2 (fun t ht => ?_) ?_⟩, (Fr.U hi (A := fun n => n = 12) (iSl_12 _) rfl).trans (Fr.U hi (A := fun n => n = 12) (iSl_12 _) rfl)⟩
  · unfold P_J4_append_cf468
    rw [ck_t ⟨oN_0 (by omega), q1⟩, e0, ck_t ⟨oN_0 (by omega), q2⟩, oN_ix (by omega), e1]
  · rw [iS_U hi, if_pos ⟨rfl, rfl⟩, List.length_append]; rfl
  · rw [iS_U hi, if_neg (by omega), iS_U hi, if_neg (by omega)]
  · rw [iS_U hi, if_neg (by omega), iS_U hi, if_pos ⟨rfl, by omega⟩]
theorem num_d : ∀ x, x < 100 → 10 ≤ x → ((oN x / 10 + 48 : Int32) = oN (48 + x / 10) ∧ (irem (oN x) 10 + 48 : Int32) = oN (48 + x % 10)) := by decide +kernel
theorem num_e : ∀ x, x < 100 → ((48 + oN x / 10 : Int32) = oN (48 + x / 10) ∧ (48 + irem (oN x) 10 : Int32) = oN (48 + x % 10)) := by decide +kernel
theorem ap_n (hi : ∀ a b, ad a = ad b → a = b) {L : List Nat} {x : Nat} (h : CT ad κ L) (hl : L.length < 141) (hx : x < 100) : ∃ κ', P_J4_append_bf812 κ (ad 12) (oN x) = some (ad 12, κ') ∧ CT ad κ' (L ++ numL x) ∧ Fr ad (fun n => n = 12) κ κ' := by
  have e0 : kI κ (ad 12) 0 = oN L.length := h.1
  have e1 : (oN L.length + 1 : Int32) = oN (L.length + 1) := oN_add _ 1
  have e2 : (oN L.length + 2 : Int32) = oN (L.length + 2) := oN_add _ 2
  have q1 : oN x < 100 := (oN_lt (a := x) (b := 100) (by omega) (by omega)).mpr hx
  have q2 : oN L.length < 141 := (oN_lt (a := L.length) (b := 141) (by omega) (by omega)).mpr hl
  have q3 : oN x < 10 ↔ x < 10 := oN_lt (a := x) (b := 10) (by omega) (by omega)
  unfold P_J4_append_bf812 numL
  rw [ck_t ⟨oN_0 (by omega), q1⟩, e0, ck_t ⟨oN_0 (by omega), q2⟩, oN_ix (by omega), e1, e2]
  by_cases g : x < 10
  · have ex : (oN x + 48 : Int32) = oN (48 + x) := by rw [show (48 : Int32) = oN 48 from rfl, oN_add, Nat.add_comm]
    rw [if_pos (q3.mpr g), if_pos g, ex]
    refine ⟨kU (kU κ (ad 12) (L.length + 1) (.int (oN (48 + x)))) (ad 12) 0 (.int (oN (L.length + 1))), rfl, ⟨?_, lst_app h.2 (fun t ht => ?_) ?_⟩, (Fr.U hi (A := fun n => n = 12) (iSl_12 _) rfl).trans (Fr.U hi (A := fun n => n = 12) (iSl_12 _) rfl)⟩
    · rw [iS_U hi, if_pos ⟨rfl, rfl⟩, List.length_append]; rfl
    · rw [iS_U hi, if_neg (by omega), iS_U hi, if_neg (by omega)]
    · rw [iS_U hi, if_neg (by omega), iS_U hi, if_pos ⟨rfl, by omega⟩]
  · obtain ⟨d1, d2⟩ := num_d x hx (by omega)
    rw [if_neg (fun q => g (q3.mp q)), if_neg g, d1, d2]
    refine ⟨kU (kU (kU κ (ad 12) (L.length + 1) (.int (oN (48 + x / 10)))) (ad 12) (L.length + 2) (.int (oN (48 + x % 10)))) (ad 12) 0 (.int (oN (L.length + 2))), rfl, ⟨?_, ?_⟩, ((Fr.U hi (A := fun n => n = 12) (iSl_12 _) rfl).trans (Fr.U hi (A := fun n => n = 12) (iSl_12 _) rfl)).trans (Fr.U hi (A := fun n => n = 12) (iSl_12 _) rfl)⟩
    · rw [iS_U hi, if_pos ⟨rfl, rfl⟩, List.length_append]; rfl
    · rw [show L ++ [48 + x / 10, 48 + x % 10] = (L ++ [48 + x / 10]) ++ [48 + x % 10] by simp]
      refine lst_app (h := fun j => if j = L.length + 1 then oN (48 + x / 10) else iS ad κ 12 j) (lst_app h.2 (fun t ht => ?_) ?_) (fun t ht => ?_) ?_
      · rw [if_neg (by omega)]
      · rw [if_pos (by omega)]
      · simp only [List.length_append, List.length_cons, List.length_nil] at ht
        rw [iS_U hi, if_neg (by omega), iS_U hi, if_neg (by omega), iS_U hi]
        by_cases q : 1 + t = L.length + 1
        · rw [if_pos ⟨rfl, q⟩, if_pos q]
        · rw [if_neg (fun z => q z.2), if_neg q]
      · simp only [List.length_append, List.length_cons, List.length_nil]
        rw [iS_U hi, if_neg (by omega), iS_U hi, if_pos ⟨rfl, by omega⟩]
theorem wr_c (hi : ∀ a b, ad a = ad b → a = b) (hP : PT ad κ pr tr pa su) {L : List Nat} {c : Nat} (h : MT ad κ L) (hl : L.length < 70) : ∃ κ', P_X7_writes κ (ad 20) (oN c) = some κ' ∧ MT ad κ' (L ++ [c]) ∧ FT ad κ κ' := by
  have e0 : kI κ (ad 20) 19 = oN L.length := h.1
  have e1 : (oN L.length + 1 : Int32) = oN (L.length + 1) := oN_add _ 1
  have r1 : kI (kU κ (ad 28) L.length (.int (oN c))) (ad 20) 19 = oN L.length := by
    have := iS_U hi (κ := κ) (n := 28) (j := L.length) (x := oN c) 20 19
    rw [if_neg (by omega)] at this
    exact this.trans h.1
  refine ⟨kU (kU κ (ad 28) L.length (.int (oN c))) (ad 20) 19 (.int (oN (L.length + 1))), ?_, ⟨?_, lst_app h.2 (fun t ht => ?_) ?_⟩, fun n j h1 h2 => ?_⟩
  · unfold P_X7_writes
    rw [e0, ck_t ((oN_jin (by omega)).mpr (by omega)), oN_ix (by omega), hP.ln, bnd_e, r1, e1, bnd_e]
  · rw [iS_U hi, if_pos ⟨rfl, rfl⟩, List.length_append]; rfl
  · rw [iS_U hi, if_neg (by omega), iS_U hi, if_neg (by omega)]
  · rw [iS_U hi, if_neg (by omega), iS_U hi, if_pos ⟨rfl, by omega⟩]
  · unfold kU
    rw [if_neg (fun g => h2 ⟨hi _ _ g.1, g.2⟩), if_neg (fun g => h1 (hi _ _ g.1))]
theorem wr_n (hi : ∀ a b, ad a = ad b → a = b) (hP : PT ad κ pr tr pa su) {L : List Nat} {x : Nat} (h : MT ad κ L) (hl : L.length < 69) (hx : x < 100) : ∃ κ', P_X7_writesNumber κ (ad 20) (oN x) = some κ' ∧ MT ad κ' (L ++ numL x) ∧ FT ad κ κ' := by
  obtain ⟨d1, d2⟩ := num_e x hx
  have q3 : oN x < 10 ↔ x < 10 := oN_lt (a := x) (b := 10) (by omega) (by omega)
  unfold P_X7_writesNumber numL
  by_cases g : x < 10
  · rw [if_pos (q3.mpr g), if_pos g, d2, show x % 10 = x by omega]
    obtain ⟨κ', a1, a2, a3⟩ := wr_c (c := 48 + x) hi hP h (by omega)
    rw [a1, bd_s]
    exact ⟨κ', rfl, a2, a3⟩
  · rw [if_neg (fun q => g (q3.mp q)), if_neg g, d1, d2]
    obtain ⟨κ1, a1, a2, a3⟩ := wr_c (c := 48 + x / 10) hi hP h (by omega)
    obtain ⟨κ', b1, b2, b3⟩ := wr_c (c := 48 + x % 10) hi (a3.pt hP) a2 (by simp only [List.length_append, List.length_cons, List.length_nil]; omega)
    rw [a1, bd_s, b1, bd_s]
    refine ⟨κ', rfl, ?_, a3.trans b3⟩
    rw [show L ++ [48 + x / 10, 48 + x % 10] = (L ++ [48 + x / 10]) ++ [48 + x % 10] by simp]
    exact b2
theorem rem_2 : ∀ i, i < 17 → ((irem (oN i) 2 = 0 ↔ i % 2 = 0) ∧ (irem (oN i) 2 = 1 ↔ i % 2 = 1)) := by decide +kernel
/-- the letter of a piece -/
theorem ltr_N {x : Int32} (h : x ≠ 0) : ltr x = oN (ltrN x) := by
  unfold ltr ltrN
  rw [if_neg h]
  by_cases g : x = 1
  · rw [if_pos g, if_pos g]; rfl
  · rw [if_neg g, if_neg g]; rfl
theorem ltrN_b (x : Int32) : ltrN x < 127 := by
  unfold ltrN
  split <;> omega
/-- the class renders one sleeve -/
theorem c_sleeve (hi : ∀ a b, ad a = ad b → a = b) (h : PS ad κ pr tr pa su v K) {s i : Nat} (hs : s < nn v 1) (hi2 : i < sl v s) {L : List Nat} (hL : CT ad κ L) (hl : L.length < 100) :
    ∃ κ', P_X6_renderSleeve κ (ad 0) (ad (bR pr + 14 + 4 * su pr s)) (oN i) = some κ' ∧ CT ad κ' (L ++ pce v s i) ∧ Fr ad (fun n => n = 12) κ κ' := by
  have hG := h.2.2.2.1.1
  have m6 := hG.2.1.2.2
  have h16 := (hG.sl16 hs).1
  have hV := h.sv hs
  have k6 := h.1.s6 h.2.1 (i := s) (by omega)
  have g5 := ((GR_iff.mp hG).2.2.2 s hs).2.2.2.2.1 i (by omega)
  unfold P_X6_renderSleeve pce
  rw [hV.planned h16 rfl hi2, bd_s]
  by_cases z : v (101 + 60 * s + i) = 0
  · obtain ⟨κ', a1, a2, a3⟩ := ap_c (c := 46) hi hL (by omega) (by omega)
    rw [if_pos z, if_pos z, if_neg (by decide), h.1.ou, show (46 : Int32) = oN 46 from rfl, a1, bd2_s]
    exact ⟨κ', rfl, a2, a3⟩
  · have hln := g5.2 z
    have hb := hln.2.2
    obtain ⟨κ1, a1, a2, a3⟩ := ap_n (x := nn v (117 + 60 * s + i)) hi hL (by omega) (by omega)
    have hP1 := a3.pt h.1
    have hV1 : SV κ1 (ad (bR pr + 14 + 4 * su pr s)) v s := SV.fr a3 h.1 h.2.1 k6 (fun i _ => by unfold bR; omega) hV
    obtain ⟨κ', b1, b2, b3⟩ := ap_c (c := ltrN (v (101 + 60 * s + i))) hi a2 (by have := (numL_len (x := nn v (117 + 60 * s + i))).2; simp only [List.length_append]; omega) (by have := ltrN_b (v (101 + 60 * s + i)); omega)
    have r6 : kI κ (kR κ (ad (bR pr + 14 + 4 * su pr s)) 6) i = oN (nn v (117 + 60 * s + i)) := by rw [← hln.1]; exact (hV.2.2.2.2.2 i hi2).2.1 z
    have r5 : kI κ1 (kR κ1 (ad (bR pr + 14 + 4 * su pr s)) 5) i = oN (ltrN (v (101 + 60 * s + i))) := by rw [← ltr_N z]; exact (hV1.2.2.2.2.2 i hi2).1
    rw [if_neg z, if_neg z, if_pos rfl, ck_t ((oN_jin (by omega)).mpr (by omega)), oN_ix (by omega), h.1.ou, r6, a1, bd2_s, ck_t ((oN_jin (by omega)).mpr (by omega)), hP1.ou, r5, b1, bd2_s]
    refine ⟨κ', rfl, ?_, a3.trans b3⟩
    rw [← List.append_assoc]
    exact b2
theorem PS.f12 (h : PS ad κ pr tr pa su v K) (f : Fr ad (fun n => n = 12) κ κ1) : PS ad κ1 pr tr pa su v K := by
  obtain ⟨h1, h2, h3, h4, h5⟩ := h
  exact ⟨f.pt h1, h2, RRel_k h3 (fun i h6 => h1.s6 h2 h6) h4.1 (fun n j n1 n2 => f n j (fun g => by unfold bR at n1; omega)), h4, fun j => by rw [f.i (by omega)]; exact h5 j⟩
theorem PS.ft (h : PS ad κ pr tr pa su v K) (f : FT ad κ κ1) : PS ad κ1 pr tr pa su v K := by
  obtain ⟨h1, h2, h3, h4, h5⟩ := h
  exact ⟨f.pt h1, h2, RRel_k h3 (fun i h6 => h1.s6 h2 h6) h4.1 (fun n j n1 n2 => f n j (by unfold bR at n1; omega) (by unfold bR at n1; omega)), h4, fun j => by unfold iS kI; rw [f 21 j (by omega) (by omega)]; exact h5 j⟩
theorem c_render (hi : ∀ a b, ad a = ad b → a = b) (h : PS ad κ pr tr pa su v K) (id : Int32) : match fd v id with
    | none => P_X6_renderSuit κ (ad 0) id = some (.error "java/util/NoSuchElementException", κ)
    | some s => ∃ κ', P_X6_renderSuit κ (ad 0) id = some (.ok (oN (txS v s 0 (sl v s)).length), κ') ∧ CT ad κ' (txS v s 0 (sl v s)) ∧ Fr ad (fun n => n = 12) κ κ' := by
  unfold P_X6_renderSuit
  rw [X6_existing h]
  cases hf : fd v id with
  | none => rfl
  | some s =>
    obtain ⟨hs, -⟩ := fd_some hf
    have hG := h.2.2.2.1.1
    have h16 := (hG.sl16 hs).1
    simp only []
    have F0 : Fr ad (fun n => n = 12) κ (kU κ (ad 12) 0 (.int 0)) := Fr.U hi (iSl_12 _) rfl
    have T0 : CT ad (kU κ (ad 12) 0 (.int 0)) [] := ⟨by rw [iS_U hi, if_pos ⟨rfl, rfl⟩]; rfl, fun t ht => by cases ht⟩
    have W : ∀ (k i f : Nat) (κ1 : jKt) (L : List Nat), i + k = sl v s → k < f → PS ad κ1 pr tr pa su v K → Fr ad (fun n => n = 12) κ κ1 → CT ad κ1 L → L.length + 4 * k ≤ 64 →
        ∃ κ', P_X6_renderSuit_16 (ad 0) (ad (bR pr + 14 + 4 * su pr s)) f κ1 (oN i) = some (.ok (oN (L ++ txS v s i k).length), κ') ∧ CT ad κ' (L ++ txS v s i k) ∧ Fr ad (fun n => n = 12) κ κ' := by
      intro k
      induction k with
      | zero =>
        intro i f κ1 L g1 g2 hp hF hT hl
        obtain ⟨f, rfl⟩ : ∃ g, f = g + 1 := ⟨f - 1, by omega⟩
        have e0 : P_J4_length_8abf5 κ1 (ad 12) = some (oN L.length) := congrArg some hT.1
        refine ⟨κ1, ?_, by rw [show txS v s i 0 = [] from rfl, List.append_nil]; exact hT, hF⟩
        rw [P_X6_renderSuit_16, (hp.sv hs).2.2.2.1, if_pos ((oN_le (by omega) (by omega)).mpr (by omega)), hp.1.ou, e0, bd_s, show txS v s i 0 = [] from rfl, List.append_nil]
      | succ k ih =>
        intro i f κ1 L g1 g2 hp hF hT hl
        obtain ⟨f, rfl⟩ : ∃ g, f = g + 1 := ⟨f - 1, by omega⟩
        have e1 : (oN i + 1 : Int32) = oN (i + 1) := oN_add _ 1
        have step : ∀ (κ2 : jKt) (S : List Nat), S.length ≤ 1 → PS ad κ2 pr tr pa su v K → Fr ad (fun n => n = 12) κ κ2 → CT ad κ2 (L ++ S) → S = sepS i → ∃ κ', (bd (P_X6_renderSleeve κ2 (ad 0) (ad (bR pr + 14 + 4 * su pr s)) (oN i)) fun κ63 => P_X6_renderSuit_16 (ad 0) (ad (bR pr + 14 + 4 * su pr s)) f κ63 (oN (i + 1))) = some (.ok (oN (L ++ txS v s i (k + 1)).length), κ') ∧ CT ad κ' (L ++ txS v s i (k + 1)) ∧ Fr ad (fun n => n = 12) κ κ' := by
          intro κ2 S hSl hp2 hF2 hT2 hS
          obtain ⟨κ3, a1, a2, a3⟩ := c_sleeve hi hp2 hs (by omega : i < sl v s) hT2 (by simp only [List.length_append]; omega)
          have hpl := pce_len v s i
          obtain ⟨κ', b1, b2, b3⟩ := ih (i + 1) f κ3 ((L ++ S) ++ pce v s i) (by omega) (by omega) (hp2.f12 a3) (hF2.trans a3) a2 (by simp only [List.length_append]; omega)
          have eL : (L ++ S) ++ pce v s i ++ txS v s (i + 1) k = L ++ txS v s i (k + 1) := by
            rw [show txS v s i (k + 1) = sepS i ++ (pce v s i ++ txS v s (i + 1) k) from rfl, ← hS]
            simp only [List.append_assoc]
          rw [eL] at b1 b2
          rw [a1, bd_s]
          exact ⟨κ', b1, b2, b3⟩
        rw [P_X6_renderSuit_16, (hp.sv hs).2.2.2.1, if_neg (fun h => by have := (oN_le (by omega) (by omega)).mp h; omega), e1]
        by_cases z : i = 0
        · subst z
          rw [if_pos (by decide)]
          exact step κ1 [] (by simp) hp hF (by rw [List.append_nil]; exact hT) rfl
        · rw [if_neg (show ¬ oN i ≤ 0 from fun q => by have := (oN_le (b := 0) (by omega) (by omega)).mp q; omega)]
          by_cases y : i % 2 = 0
          · obtain ⟨κ2, a1, a2, a3⟩ := ap_c (c := 124) hi hT (by omega) (by omega)
            rw [if_pos ((rem_2 i (by omega)).1.mpr y), hp.1.ou, show (124 : Int32) = oN 124 from rfl, a1, bd2_s]
            exact step κ2 [124] (by simp) (hp.f12 a3) (hF.trans a3) a2 (by unfold sepS; rw [if_neg z, if_pos y])
          · obtain ⟨κ2, a1, a2, a3⟩ := ap_c (c := 32) hi hT (by omega) (by omega)
            rw [if_neg (fun q => y ((rem_2 i (by omega)).1.mp q)), hp.1.ou, show (32 : Int32) = oN 32 from rfl, a1, bd2_s]
            exact step κ2 [32] (by simp) (hp.f12 a3) (hF.trans a3) a2 (by unfold sepS; rw [if_neg z, if_neg y])
    obtain ⟨κ', q1, q2, q3⟩ := W (sl v s) 0 17 _ [] (by omega) (by omega) (h.f12 F0) F0 T0 (by simp only [List.length_nil]; omega)
    rw [List.nil_append] at q1 q2
    refine ⟨κ', ?_, q2, q3⟩
    have q1' : P_X6_renderSuit_16 (ad 0) (ad (bR pr + 14 + 4 * su pr s)) 17 (kU κ (ad 12) 0 (.int 0)) 0 = some (.ok (oN (txS v s 0 (sl v s)).length), κ') := q1
    unfold P_J4_setLength_d00df
    rw [bdx_o, h.1.ou, ck_t rfl, bd_s, q1']
theorem m_render (hi : ∀ a b, ad a = ad b → a = b) (h : PS ad κ pr tr pa su v K) (id : Int32) : match fd v id with
    | none => ∃ κ', P_X7_renderSuit κ (ad 20) id = some (0, κ') ∧ iS ad κ' 20 0 = 1 ∧ ZF ad κ κ'
    | some s => ∃ κ', P_X7_renderSuit κ (ad 20) id = some (oN (txS v s 0 (sl v s)).length, κ') ∧ MT ad κ' (txS v s 0 (sl v s)) ∧ iS ad κ' 20 0 = 0 ∧ ∀ n j, n ≠ 28 → ¬ (n = 20 ∧ (j = 0 ∨ j = 19)) → κ' (ad n) j = κ (ad n) j := by
  unfold P_X7_renderSuit P_X7_renderSuit_14
  have hG := h.2.2.2.1.1
  have m6 := hG.2.1.2.2
  rw [h.find]
  cases hf : fd v id with
  | none =>
    obtain ⟨h1, h2, h3⟩ := h.thr hi 1
    simp only []
    rw [bd_s, if_neg nneg1, bnd_e, h2, if_neg (by decide)]
    exact ⟨_, rfl, h2, h3⟩
  | some s =>
    obtain ⟨hs, -⟩ := fd_some hf
    have h16 := (hG.sl16 hs).1
    obtain ⟨h1, h2, h3⟩ := h.thr hi 0
    have hf2 := h1.find id
    rw [hf] at hf2
    simp only [] at hf2
    simp only []
    have F0 : FT ad (kU κ (ad 20) 0 (.int 0)) (kU (kU κ (ad 20) 0 (.int 0)) (ad 20) 19 (.int 0)) := fun n j n1 n2 => by
      show kU (kU κ (ad 20) 0 (.int 0)) (ad 20) 19 (.int 0) (ad n) j = _
      unfold kU
      rw [if_neg (fun g => n2 ⟨hi _ _ g.1, g.2⟩)]
    have T0 : MT ad (kU (kU κ (ad 20) 0 (.int 0)) (ad 20) 19 (.int 0)) [] := ⟨by rw [iS_U hi, if_pos ⟨rfl, rfl⟩]; rfl, fun t ht => by cases ht⟩
    have W : ∀ (k i f : Nat) (κ1 : jKt) (L : List Nat), i + k = sl v s → k < f → PS ad κ1 pr tr pa su v K → FT ad (kU κ (ad 20) 0 (.int 0)) κ1 → MT ad κ1 L → L.length + 4 * k ≤ 64 →
        ∃ κ', P_X7_renderSuit_39 (ad 20) (oN s) f κ1 (oN i) = some (oN (L ++ txS v s i k).length, κ') ∧ MT ad κ' (L ++ txS v s i k) ∧ FT ad (kU κ (ad 20) 0 (.int 0)) κ' := by
      intro k
      induction k with
      | zero =>
        intro i f κ1 L g1 g2 hp hF hT hl
        obtain ⟨f, rfl⟩ : ∃ g, f = g + 1 := ⟨f - 1, by omega⟩
        have e0 : kI κ1 (ad 20) 19 = oN L.length := hT.1
        refine ⟨κ1, ?_, by rw [show txS v s i 0 = [] from rfl, List.append_nil]; exact hT, hF⟩
        rw [P_X7_renderSuit_39, hp.ms.sleeves hp.1 hG hs, bd_s, if_pos ((oN_le (by omega) (by omega)).mpr (by omega)), e0, show txS v s i 0 = [] from rfl, List.append_nil]
      | succ k ih =>
        intro i f κ1 L g1 g2 hp hF hT hl
        obtain ⟨f, rfl⟩ : ∃ g, f = g + 1 := ⟨f - 1, by omega⟩
        have e1 : (oN i + 1 : Int32) = oN (i + 1) := oN_add _ 1
        have g5 := ((GR_iff.mp hG).2.2.2 s hs).2.2.2.2.1 i (by omega)
        have hpl := pce_len v s i
        have step : ∀ (κ2 : jKt) (S : List Nat), S.length ≤ 1 → PS ad κ2 pr tr pa su v K → FT ad (kU κ (ad 20) 0 (.int 0)) κ2 → MT ad κ2 (L ++ S) → S = sepS i → ∃ κ', P_X7_renderSuit_70 κ2 (ad 20) (oN s) (oN i) (P_X7_renderSuit_39 (ad 20) (oN s) f) = some (oN (L ++ txS v s i (k + 1)).length, κ') ∧ MT ad κ' (L ++ txS v s i (k + 1)) ∧ FT ad (kU κ (ad 20) 0 (.int 0)) κ' := by
          intro κ2 S hSl hp2 hF2 hT2 hS
          have eL : (L ++ S) ++ pce v s i ++ txS v s (i + 1) k = L ++ txS v s i (k + 1) := by
            rw [show txS v s i (k + 1) = sepS i ++ (pce v s i ++ txS v s (i + 1) k) from rfl, ← hS]
            simp only [List.append_assoc]
          have go : ∀ κ3, FT ad κ2 κ3 → MT ad κ3 ((L ++ S) ++ pce v s i) → ∃ κ', P_X7_renderSuit_39 (ad 20) (oN s) f κ3 (oN (i + 1)) = some (oN (L ++ txS v s i (k + 1)).length, κ') ∧ MT ad κ' (L ++ txS v s i (k + 1)) ∧ FT ad (kU κ (ad 20) 0 (.int 0)) κ' := by
            intro κ3 hF3 hT3
            obtain ⟨κ', b1, b2, b3⟩ := ih (i + 1) f κ3 ((L ++ S) ++ pce v s i) (by omega) (by omega) (hp2.ft hF3) (hF2.trans hF3) hT3 (by simp only [List.length_append]; omega)
            rw [eL] at b1 b2
            exact ⟨κ', b1, b2, b3⟩
          unfold P_X7_renderSuit_70
          rw [hp2.ms.state hp2.1 (by omega) (by omega), bd_s, e1]
          by_cases z : v (101 + 60 * s + i) = 0
          · obtain ⟨κ3, a1, a2, a3⟩ := wr_c (c := 46) hi hp2.1 hT2 (by simp only [List.length_append]; omega)
            rw [if_pos z, show (46 : Int32) = oN 46 from rfl, a1, bd_s]
            exact go κ3 a3 (by unfold pce; rw [if_pos z]; exact a2)
          · have hln := g5.2 z
            have hb := hln.2.2
            have hnl := (numL_len (x := nn v (117 + 60 * s + i))).2
            obtain ⟨κ3, a1, a2, a3⟩ := wr_n (x := nn v (117 + 60 * s + i)) hi hp2.1 hT2 (by simp only [List.length_append]; omega) (by omega)
            have hp3 := hp2.ft a3
            obtain ⟨κ4, b1, b2, b3⟩ := wr_c (c := ltrN (v (101 + 60 * s + i))) hi hp3.1 a2 (by simp only [List.length_append]; omega)
            have ho : P_X7_own κ2 (ad 20) (oN s) (oN i) = some (oN (nn v (117 + 60 * s + i))) := by rw [hp2.ms.own hp2.1 (by omega) (by omega), ← hln.1]
            have hT4 : MT ad κ4 ((L ++ S) ++ pce v s i) := by
              unfold pce; rw [if_neg z, ← List.append_assoc]; exact b2
            rw [if_neg z, ho, bd_s, a1, bd_s, hp3.ms.state hp3.1 (by omega) (by omega), bd_s]
            unfold ltrN at b1
            by_cases y : v (101 + 60 * s + i) = 1
            · rw [if_pos y] at b1
              rw [if_pos y, show (99 : Int32) = oN 99 from rfl, b1, bd_s]
              exact go κ4 (a3.trans b3) hT4
            · rw [if_neg y] at b1
              rw [if_neg y, show (115 : Int32) = oN 115 from rfl, b1, bd_s]
              exact go κ4 (a3.trans b3) hT4
        rw [P_X7_renderSuit_39, hp.ms.sleeves hp.1 hG hs, bd_s, if_neg (fun h => by have := (oN_le (by omega) (by omega)).mp h; omega)]
        by_cases z : i = 0
        · subst z
          rw [if_pos (by decide)]
          exact step κ1 [] (by simp) hp hF (by rw [List.append_nil]; exact hT) rfl
        · rw [if_neg (show ¬ oN i ≤ 0 from fun q => by have := (oN_le (b := 0) (by omega) (by omega)).mp q; omega)]
          unfold P_X7_renderSuit_67
          by_cases y : i % 2 = 1
          · obtain ⟨κ2, a1, a2, a3⟩ := wr_c (c := 32) hi hp.1 hT (by omega)
            rw [if_pos ((rem_2 i (by omega)).2.mpr y), show (32 : Int32) = oN 32 from rfl, a1, bd_s]
            exact step κ2 [32] (by simp) (hp.ft a3) (hF.trans a3) a2 (by unfold sepS; rw [if_neg z, if_neg (by omega)])
          · obtain ⟨κ2, a1, a2, a3⟩ := wr_c (c := 124) hi hp.1 hT (by omega)
            rw [if_neg (fun q => y ((rem_2 i (by omega)).2.mp q)), show (124 : Int32) = oN 124 from rfl, a1, bd_s]
            exact step κ2 [124] (by simp) (hp.ft a3) (hF.trans a3) a2 (by unfold sepS; rw [if_neg z, if_pos (by omega)])
    obtain ⟨κ', q1, q2, q3⟩ := W (sl v s) 0 4000 _ [] (by omega) (by omega) (h1.ft F0) F0 T0 (by simp only [List.length_nil]; omega)
    rw [List.nil_append] at q1 q2
    have q1' : P_X7_renderSuit_39 (ad 20) (oN s) 4000 (kU (kU κ (ad 20) 0 (.int 0)) (ad 20) 19 (.int 0)) 0 = some (oN (txS v s 0 (sl v s)).length, κ') := q1
    refine ⟨κ', ?_, q2, ?_, fun n j n1 n2 => ?_⟩
    · rw [bd_s, if_pos (oN_0 (by omega)), bnd_e, h2, if_pos rfl, hf2, bd_s, bnd_e, q1']
    · unfold iS kI
      rw [q3 20 0 (by omega) (by omega)]
      exact h2
    · rw [q3 n j n1 (by omega)]
      unfold kU
      rw [if_neg (fun g => by have := hi _ _ g.1; omega)]
end TEXT
