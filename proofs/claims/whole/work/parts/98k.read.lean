/-! ===== layer 3: the readers: class and model give one answer ===== -/
/-- slots that no one looks at between two calls -/
def Zf (n j : Nat) : Prop := n = 3 ∨ n = 4 ∨ n = 5 ∨ (n = 6 ∧ j = 1) ∨ n = 7 ∨ n = 25 ∨ n = 26 ∨ n = 29 ∨ (n = 20 ∧ (j = 0 ∨ j = 17 ∨ j = 18 ∨ j = 20 ∨ j = 21))
def ZF (ad : Nat → Nat) (κ κ' : jKt) : Prop := ∀ n j, ¬ Zf n j → κ' (ad n) j = κ (ad n) j
theorem Zf_i {n j : Nat} (h : Zf n j) : iSl n j := by unfold Zf at h; unfold iSl; omega
abbrev rI : Type := Except (String × Int32) Int32
/-- what a reader answers, as the class gives it -/
def rC (r : rI) : Except String Int32 := match r with
  | .error (E, _) => .error E
  | .ok x => .ok x
section READ
variable {ad : Nat → Nat} {κ κ1 κ2 : jKt} {pr tr : Nat} {pa : Nat → Nat} {su : Nat → Nat → Nat} {v : Nat → Int32} {K : Nat}
theorem ZF.refl (κ : jKt) : ZF ad κ κ := fun _ _ _ => rfl
theorem ZF.trans (h : ZF ad κ κ1) (g : ZF ad κ1 κ2) : ZF ad κ κ2 := fun n j a => (g n j a).trans (h n j a)
theorem ZF.U (hi : ∀ a b, ad a = ad b → a = b) {n j : Nat} {w : Value} (h : Zf n j) : ZF ad κ (kU κ (ad n) j w) := by
  intro a b h1
  unfold kU
  rw [if_neg (fun g => ?_)]
  have e := hi _ _ g.1
  subst e
  exact h1 (by rw [g.2]; exact h)
theorem ZF.i (h : ZF ad κ κ1) {n j : Nat} (hn : ¬ Zf n j) : iS ad κ1 n j = iS ad κ n j := by
  unfold iS kI
  rw [h n j hn]
theorem ZF.pt (h : ZF ad κ κ1) (hP : PT ad κ pr tr pa su) : PT ad κ1 pr tr pa su := PT_K hP (fun b k hb => by
  unfold kR
  rw [h b k (fun g => hb (Zf_i g))])
theorem ZF.fr {A : Nat → Prop} (h : Fr ad A κ κ1) (hA : ∀ n, A n → ∀ j, iSl n j → Zf n j) : ZF ad κ κ1 := fun n j hz => h n j (fun hAn hs => hz (hA n hAn j hs))
/-- the state as the readers see it -/
def PS (ad : Nat → Nat) (κ : jKt) (pr tr : Nat) (pa : Nat → Nat) (su : Nat → Nat → Nat) (v : Nat → Int32) (K : Nat) : Prop := PT ad κ pr tr pa su ∧ pr < 11 ∧ RRel (iS ad κ) pr (su pr) v ∧ GX v K ∧ ∀ j, iS ad κ 21 j = v j
theorem PS.zf (h : PS ad κ pr tr pa su v K) (z : ZF ad κ κ1) : PS ad κ1 pr tr pa su v K := by
  obtain ⟨h1, h2, h3, h4, h5⟩ := h
  exact ⟨z.pt h1, h2, RRel_k h3 (fun i h6 => h1.s6 h2 h6) h4.1 (fun n j n1 n2 => z n j (by unfold Zf; unfold bR at n1; omega)), h4, fun j => by rw [z.i (by unfold Zf; omega)]; exact h5 j⟩
theorem PS.ms (h : PS ad κ pr tr pa su v K) : MS ad κ κ v := MS.refl h.2.2.2.2
theorem PS.p0 (h : PS ad κ pr tr pa su v K) : kR κ (ad 0) 0 = ad (bR pr) := h.1.1.1
theorem X6_existing (h : PS ad κ pr tr pa su v K) (id : Int32) : P_X6_existing κ (ad 0) id = some (match fd v id with | none => .error "java/util/NoSuchElementException" | some s => .ok (ad (bR pr + 14 + 4 * su pr s))) := by
  unfold P_X6_existing
  rw [h.p0, X5_suit h.1 h.2.1 h.2.2.1 h.2.2.2.1.1]
  cases fd v id with
  | none => rfl
  | some s => rfl
theorem X6_known (h : PS ad κ pr tr pa su v K) (x : Int32) : P_X6_known κ (ad 0) x = some (if 0 ≤ x ∧ x < v 0 then .ok (ad (bR pr + 4 + 2 * ix x)) else .error "java/lang/IndexOutOfBoundsException") := by
  have hn0 := h.2.2.2.1.1.1
  have c5 := hn0.2.2
  have e2 : kI κ (ad (bR pr)) 2 = v 0 := h.2.2.1.2.1.1
  unfold P_X6_known
  rw [h.p0, X5_hasCust e2, bd_s]
  by_cases g : 0 ≤ x ∧ x < v 0
  · obtain ⟨m, m1, m2⟩ := lt_n g.1 (by rw [← hn0.1]; exact g.2) (by omega)
    have hj : jin x 5 := by rw [m1]; exact (oN_jin (by omega)).mpr (by omega)
    have hx : ix x = m := by rw [m1, oN_ix (by omega)]
    rw [if_pos g, if_neg (by decide), ck_t hj, if_pos g, hx, h.1.r1 h.2.1, h.1.cu h.2.1 (by omega)]
  · rw [if_neg g, if_pos rfl, if_neg g]
theorem leg_n (hG : GR v) {x l : Int32} (g : 0 ≤ x ∧ x < v 0 ∧ 0 ≤ l ∧ l < 2 * v (12 + 17 * ix x)) : ∃ m t, x = oN m ∧ ix x = m ∧ m < nn v 0 ∧ m < 5 ∧ l = oN t ∧ ix l = t ∧ t < 2 * nn v (12 + 17 * m) ∧ t < 16 := by
  have h5 := hG.1.2.2
  obtain ⟨m, m1, m2⟩ := lt_n g.1 (by rw [← hG.1.1]; exact g.2.1) (by omega)
  have p1 := (hG.2.2.1 m m2).1
  have p8 := p1.2.2
  have hx : ix x = m := by rw [m1, oN_ix (by omega)]
  have e2 : 2 * v (12 + 17 * m) = oN (2 * nn v (12 + 17 * m)) := by rw [p1.1, show (2 : Int32) = oN 2 from rfl, oN_mul, nn_n p1.1 (by omega)]
  obtain ⟨t, t1, t2⟩ := lt_n g.2.2.1 (by rw [← e2, ← hx]; exact g.2.2.2) (by omega)
  exact ⟨m, t, m1, hx, m2, by omega, t1, by rw [t1, oN_ix (by omega)], t2, by omega⟩
theorem X6_knownLeg (h : PS ad κ pr tr pa su v K) (x l : Int32) : P_X6_knownWithLeg κ (ad 0) x l = some (if 0 ≤ x ∧ x < v 0 ∧ 0 ≤ l ∧ l < 2 * v (12 + 17 * ix x) then .ok (ad (bR pr + 4 + 2 * ix x)) else .error "java/lang/IndexOutOfBoundsException") := by
  have hG := h.2.2.2.1.1
  have hn0 := hG.1
  have c5 := hn0.2.2
  unfold P_X6_knownWithLeg
  rw [X6_known h]
  by_cases g : 0 ≤ x ∧ x < v 0
  · obtain ⟨m, m1, m2⟩ := lt_n g.1 (by rw [← hn0.1]; exact g.2) (by omega)
    have p1 := (hG.2.2.1 m m2).1
    have p8 := p1.2.2
    have hx : ix x = m := by rw [m1, oN_ix (by omega)]
    have e2 : 2 * v (12 + 17 * m) = oN (2 * nn v (12 + 17 * m)) := by rw [p1.1, show (2 : Int32) = oN 2 from rfl, oN_mul, nn_n p1.1 (by omega)]
    have hlc : kI κ (ad (bR pr + 4 + 2 * m)) 0 = oN (2 * nn v (12 + 17 * m)) := (h.2.2.1.2.2.1 m m2).1
    rw [if_pos g, bdx_o, hx, X0_hasLeg hlc, bd_s, e2]
    by_cases q : 0 ≤ l ∧ l < oN (2 * nn v (12 + 17 * m))
    · rw [if_pos q, if_neg (by decide), if_pos ⟨g.1, g.2, q⟩]
    · rw [if_neg q, if_pos rfl, if_neg (fun z => q z.2.2)]
  · rw [if_neg g, bdx_e, if_neg (fun z => g ⟨z.1, z.2.1⟩)]
theorem PS.sv (h : PS ad κ pr tr pa su v K) {s : Nat} (hs : s < nn v 1) : SV κ (ad (bR pr + 14 + 4 * su pr s)) v s := RRel.sv h.1 h.2.1 h.2.2.1 hs (h.1.s6 h.2.1 (by have := h.2.2.2.1.1.2.1.2.2; omega))
theorem PS.cv (h : PS ad κ pr tr pa su v K) {c : Nat} (hc : c < nn v 0) : CV κ (ad (bR pr + 4 + 2 * c)) v c := RRel.cv h.1 h.2.1 h.2.2.1 hc (by have := h.2.2.2.1.1.1.2.2; omega)
theorem PS.wear (h : PS ad κ pr tr pa su v K) {s : Nat} (hs : s < nn v 1) : P_X5_wearerOf κ (kR κ (ad 0) 0) (ad (bR pr + 14 + 4 * su pr s)) = some (ad (bR pr + 4 + 2 * nn v (98 + 60 * s))) := by
  rw [h.p0]; exact X5_wearer h.1 h.2.1 (h.sv hs) h.2.2.2.1.1 hs
theorem X6_exSleeve (h : PS ad κ pr tr pa su v K) (id l : Int32) : P_X6_existingWithSleeve κ (ad 0) id l = some (match fd v id with | none => .error "java/util/NoSuchElementException" | some s => if 0 ≤ l ∧ l < oN (sl v s) then .ok (ad (bR pr + 14 + 4 * su pr s)) else .error "java/lang/IndexOutOfBoundsException") := by
  unfold P_X6_existingWithSleeve
  rw [X6_existing h]
  cases hf : fd v id with
  | none => rfl
  | some s =>
    obtain ⟨hs, -⟩ := fd_some hf
    simp only []
    rw [bdx_o, X4_hasSleeve (h.sv hs).2.2.2.1, bd_s]
    by_cases g : 0 ≤ l ∧ l < oN (sl v s)
    · rw [if_pos g, if_neg (by decide), if_pos g]
    · rw [if_neg g, if_pos rfl, if_neg g]
theorem SV.planned {κ : jKt} {a : Nat} {v : Nat → Int32} {s : Nat} (h : SV κ a v s) (h16 : sl v s ≤ 16) {l : Int32} {t : Nat} (e : l = oN t) (ht : t < sl v s) : P_X4_isPlanned κ a l = some (if v (101 + 60 * s + t) = 0 then 1 else 0) := by
  rw [e, X4_isPlanned (by omega), (h.2.2.2.2.2 t ht).1]
  by_cases z : v (101 + 60 * s + t) = 0
  · rw [if_pos ((ltr_p _).mpr z), if_pos z]
  · rw [if_neg (fun y => z ((ltr_p _).mp y)), if_neg z]
theorem X6_exPiece (h : PS ad κ pr tr pa su v K) (id l : Int32) : P_X6_existingWithPiece κ (ad 0) id l = some (match fd v id with | none => .error "java/util/NoSuchElementException" | some s => if 0 ≤ l ∧ l < oN (sl v s) then (if v (101 + 60 * s + ix l) = 0 then .error "java/lang/IllegalStateException" else .ok (ad (bR pr + 14 + 4 * su pr s))) else .error "java/lang/IndexOutOfBoundsException") := by
  unfold P_X6_existingWithPiece
  rw [X6_exSleeve h]
  cases hf : fd v id with
  | none => rfl
  | some s =>
    obtain ⟨hs, -⟩ := fd_some hf
    have h16 := (h.2.2.2.1.1.sl16 hs).1
    simp only []
    by_cases g : 0 ≤ l ∧ l < oN (sl v s)
    · obtain ⟨t, t1, t2, t3⟩ := slv h16 g
      rw [if_pos g, bdx_o, (h.sv hs).planned h16 t1 t3, bd_s, if_pos g, t2]
      by_cases z : v (101 + 60 * s + t) = 0
      · rw [if_pos z, if_neg (by decide), if_pos z]
      · rw [if_neg z, if_pos rfl, if_neg z]
    · rw [if_neg g, bdx_e, if_neg g]
/-- the model: what is thrown is laid -/
theorem PS.thr (hi : ∀ a b, ad a = ad b → a = b) (h : PS ad κ pr tr pa su v K) (t : Int32) : PS ad (kU κ (ad 20) 0 (.int t)) pr tr pa su v K ∧ kI (kU κ (ad 20) 0 (.int t)) (ad 20) 0 = t ∧ ZF ad κ (kU κ (ad 20) 0 (.int t)) := by
  have z : ZF ad κ (kU κ (ad 20) 0 (.int t)) := ZF.U hi (by unfold Zf; omega)
  refine ⟨h.zf z, ?_, z⟩
  have := iS_U hi (κ := κ) (n := 20) (j := 0) (x := t) 20 0
  rw [if_pos ⟨rfl, rfl⟩] at this
  exact this
/-- the model's answer -/
def rM (ad : Nat → Nat) (κ : jKt) (r : rI) (q : Option (Int32 × jKt)) : Prop := ∃ y κ', q = some (y, κ') ∧ ZF ad κ κ' ∧ match r with
  | .error (_, t) => iS ad κ' 20 0 = t
  | .ok x => y = x ∧ iS ad κ' 20 0 = 0
def rStock (v : Nat → Int32) (c : Int32) : rI := if 0 ≤ c ∧ c ≤ 3 then .ok (v (8 + ix c)) else .error ("java/lang/IndexOutOfBoundsException", 1)
theorem c_stock (h : PS ad κ pr tr pa su v K) (c : Int32) : P_X6_stock κ (ad 0) c = some (rC (rStock v c)) := by
  unfold P_X6_stock rStock
  have e4 : (c < 4) ↔ (c ≤ 3) := by rw [Int32.lt_iff_toInt_lt, Int32.le_iff_toInt_le, show (4 : Int32).toInt = 4 from rfl, show (3 : Int32).toInt = 3 from rfl]; omega
  by_cases h0 : c < 0
  · rw [if_pos h0, if_neg (fun g => absurd h0 (Int32.not_lt.mpr g.1))]; rfl
  · rw [if_neg h0]
    by_cases h3 : c ≤ 3
    · obtain ⟨n, n1, n2, n3⟩ := in_n (lo := 0) (hi := 3) (Int32.not_lt.mp h0) h3 (by omega) (by omega)
      have hix : ix c = n := by rw [n1, oN_ix (by omega)]
      have hj : jin c 4 := by rw [n1]; exact (oN_jin (by omega)).mpr (by omega)
      have hst : kI κ (ad (bR pr + 1)) n = v (8 + n) := h.2.2.1.1 n (by omega)
      rw [if_pos (e4.mpr h3), ck_t hj, if_pos ⟨Int32.not_lt.mp h0, h3⟩, hix, h.p0, h.1.r0 h.2.1, hst]; rfl
    · rw [if_neg (fun g => h3 (e4.mp g)), if_neg (fun g => h3 g.2)]; rfl
theorem m_stock (hi : ∀ a b, ad a = ad b → a = b) (h : PS ad κ pr tr pa su v K) (c : Int32) : rM ad κ (rStock v c) (P_X7_stock κ (ad 20) c) := by
  unfold P_X7_stock P_X7_stock_13 rStock
  rw [X7_isCloth, bd_s]
  by_cases g : 0 ≤ c ∧ c ≤ 3
  · obtain ⟨n, n1, n2, n3⟩ := in_n (lo := 0) (hi := 3) g.1 g.2 (by omega) (by omega)
    have hix : ix c = n := by rw [n1, oN_ix (by omega)]
    have e8 : (8 + c : Int32) = oN (8 + n) := by rw [n1, show (8 : Int32) = oN 8 from rfl, oN_add]
    obtain ⟨h1, h2, h3⟩ := h.thr hi 0
    rw [if_pos g, if_pos g, if_neg (by decide), bnd_e, h2, if_pos rfl, e8, ck_t ((oN_jin (by omega)).mpr (by omega)), oN_ix (by omega), h1.ms.rd h1.1, hix]
    exact ⟨_, _, rfl, h3, rfl, h2⟩
  · obtain ⟨h1, h2, h3⟩ := h.thr hi 1
    rw [if_neg g, if_neg g, if_pos rfl, bnd_e, h2, if_neg (by decide)]
    exact ⟨_, _, rfl, h3, h2⟩
def rPairs (v : Nat → Int32) (c : Int32) : rI := if 0 ≤ c ∧ c < v 0 then .ok (v (12 + 17 * ix c)) else .error ("java/lang/IndexOutOfBoundsException", 1)
theorem half2 : ∀ p, p < 9 → (oN (2 * p) / 2 : Int32) = oN p := by decide +kernel
theorem c_pairs (h : PS ad κ pr tr pa su v K) (c : Int32) : P_X6_pairs κ (ad 0) c = some (rC (rPairs v c)) := by
  unfold P_X6_pairs rPairs
  have hG := h.2.2.2.1.1
  have hn0 := hG.1
  have c5 := hn0.2.2
  rw [X6_known h]
  by_cases g : 0 ≤ c ∧ c < v 0
  · obtain ⟨m, m1, m2⟩ := lt_n g.1 (by rw [← hn0.1]; exact g.2) (by omega)
    have p1 := (hG.2.2.1 m m2).1
    have p8 := p1.2.2
    have hx : ix c = m := by rw [m1, oN_ix (by omega)]
    have hlc : kI κ (ad (bR pr + 4 + 2 * m)) 0 = oN (2 * nn v (12 + 17 * m)) := (h.2.2.1.2.2.1 m m2).1
    rw [if_pos g, bdx_o, if_pos g, hx, hlc, half2 _ (by omega), ← p1.1]; rfl
  · rw [if_neg g, bdx_e, if_neg g]; rfl
theorem m_pairs (hi : ∀ a b, ad a = ad b → a = b) (h : PS ad κ pr tr pa su v K) (c : Int32) : rM ad κ (rPairs v c) (P_X7_pairs κ (ad 20) c) := by
  unfold P_X7_pairs P_X7_pairs_14 rPairs
  have hn0 := h.2.2.2.1.1.1
  have c5 := hn0.2.2
  rw [X7_isCustomer h.ms h.1 hn0, bd_s]
  by_cases g : 0 ≤ c ∧ c < v 0
  · obtain ⟨m, m1, m2⟩ := lt_n g.1 (by rw [← hn0.1]; exact g.2) (by omega)
    have hx : ix c = m := by rw [m1, oN_ix (by omega)]
    obtain ⟨h1, h2, h3⟩ := h.thr hi 0
    have ea : P_X7_at (kU κ (ad 20) 0 (.int 0)) c = some (oN (12 + 17 * m)) := by rw [m1]; exact X7_at _ m
    rw [if_pos g, if_pos g, if_neg (by decide), bnd_e, h2, if_pos rfl, ea, bd_s, ck_t ((oN_jin (by omega)).mpr (by omega)), oN_ix (by omega), h1.ms.rd h1.1, hx]
    exact ⟨_, _, rfl, h3, rfl, h2⟩
  · obtain ⟨h1, h2, h3⟩ := h.thr hi 1
    rw [if_neg g, if_neg g, if_pos rfl, bnd_e, h2, if_neg (by decide)]
    exact ⟨_, _, rfl, h3, h2⟩
def rLeg (v : Nat → Int32) (c l : Int32) : rI := if 0 ≤ c ∧ c < v 0 ∧ 0 ≤ l ∧ l < 2 * v (12 + 17 * ix c) then .ok (v (13 + 17 * ix c + ix l)) else .error ("java/lang/IndexOutOfBoundsException", 1)
theorem c_leg (h : PS ad κ pr tr pa su v K) (c l : Int32) : P_X6_legLength κ (ad 0) c l = some (rC (rLeg v c l)) := by
  unfold P_X6_legLength rLeg
  rw [X6_knownLeg h]
  by_cases g : 0 ≤ c ∧ c < v 0 ∧ 0 ≤ l ∧ l < 2 * v (12 + 17 * ix c)
  · obtain ⟨m, t, m1, hx, m2, m5, t1, hl, t2, t16⟩ := leg_n h.2.2.2.1.1 g
    have hj : jin l 16 := by rw [t1]; exact (oN_jin (by omega)).mpr (by omega)
    have r7 := (h.cv m2).2 t t2
    rw [if_pos g, bdx_o, ck_t hj, if_pos g, hx, hl, show kI κ (kR κ (ad (bR pr + 4 + 2 * m)) 1) t = v (13 + 17 * m + t) from r7]; rfl
  · rw [if_neg g, bdx_e, if_neg g]; rfl
theorem m_leg (hi : ∀ a b, ad a = ad b → a = b) (h : PS ad κ pr tr pa su v K) (c l : Int32) : rM ad κ (rLeg v c l) (P_X7_legLength κ (ad 20) c l) := by
  unfold P_X7_legLength P_X7_legLength_15 rLeg
  rw [X7_isLeg h.ms h.1 h.2.2.2.1.1, bd_s]
  by_cases g : 0 ≤ c ∧ c < v 0 ∧ 0 ≤ l ∧ l < 2 * v (12 + 17 * ix c)
  · obtain ⟨m, t, m1, hx, m2, m5, t1, hl, t2, t16⟩ := leg_n h.2.2.2.1.1 g
    obtain ⟨h1, h2, h3⟩ := h.thr hi 0
    have ea : P_X7_leg (kU κ (ad 20) 0 (.int 0)) (ad 20) c l = some (v (13 + 17 * m + t)) := by rw [m1, t1, X7_leg m5 (by omega), h1.ms.mv h1.1]
    rw [if_pos g, if_pos g, if_neg (by decide), bnd_e, h2, if_pos rfl, ea, bd_s, hx, hl]
    exact ⟨_, _, rfl, h3, rfl, h2⟩
  · obtain ⟨h1, h2, h3⟩ := h.thr hi 1
    rw [if_neg g, if_neg g, if_pos rfl, bnd_e, h2, if_neg (by decide)]
    exact ⟨_, _, rfl, h3, h2⟩
def rMir (v : Nat → Int32) (c l : Int32) : rI := if 0 ≤ c ∧ c < v 0 ∧ 0 ≤ l ∧ l < 2 * v (12 + 17 * ix c) then .ok (l ^^^ 1) else .error ("java/lang/IndexOutOfBoundsException", 1)
theorem mir_n : ∀ t, t < 16 → (if irem (oN t) 2 = 0 then oN t + 1 else oN t - 1) = oN t ^^^ 1 := by decide +kernel
theorem c_mir (h : PS ad κ pr tr pa su v K) (c l : Int32) : P_X6_mirrorLeg κ (ad 0) c l = some (rC (rMir v c l)) := by
  unfold P_X6_mirrorLeg rMir
  rw [X6_knownLeg h]
  by_cases g : 0 ≤ c ∧ c < v 0 ∧ 0 ≤ l ∧ l < 2 * v (12 + 17 * ix c)
  · obtain ⟨m, t, m1, hx, m2, m5, t1, hl, t2, t16⟩ := leg_n h.2.2.2.1.1 g
    rw [if_pos g, bdx_o, if_pos g, t1, ← mir_n t t16]
    by_cases z : irem (oN t) 2 = 0
    · rw [if_pos z, if_pos z]; rfl
    · rw [if_neg z, if_neg z]; rfl
  · rw [if_neg g, bdx_e, if_neg g]; rfl
theorem m_mir (hi : ∀ a b, ad a = ad b → a = b) (h : PS ad κ pr tr pa su v K) (c l : Int32) : rM ad κ (rMir v c l) (P_X7_mirrorLeg κ (ad 20) c l) := by
  unfold P_X7_mirrorLeg P_X7_mirrorLeg_15 rMir
  rw [X7_isLeg h.ms h.1 h.2.2.2.1.1, bd_s]
  by_cases g : 0 ≤ c ∧ c < v 0 ∧ 0 ≤ l ∧ l < 2 * v (12 + 17 * ix c)
  · obtain ⟨h1, h2, h3⟩ := h.thr hi 0
    rw [if_pos g, if_pos g, if_neg (by decide), bnd_e, h2, if_pos rfl]
    exact ⟨_, _, rfl, h3, rfl, h2⟩
  · obtain ⟨h1, h2, h3⟩ := h.thr hi 1
    rw [if_neg g, if_neg g, if_pos rfl, bnd_e, h2, if_neg (by decide)]
    exact ⟨_, _, rfl, h3, h2⟩
def rAt (v : Nat → Int32) (p : Int32) : rI := if 0 ≤ p ∧ p < v 1 then .ok (v (97 + 60 * ix p)) else .error ("java/util/NoSuchElementException", 1)
theorem c_at (h : PS ad κ pr tr pa su v K) (p : Int32) : P_X6_suitAt κ (ad 0) p = some (rC (rAt v p)) := by
  unfold P_X6_suitAt rAt
  have hn1 := h.2.2.2.1.1.2.1
  have m6 := hn1.2.2
  have e4 : kI κ (ad (bR pr)) 4 = v 1 := h.2.2.1.2.1.2.1
  by_cases h0 : p < 0
  · rw [if_pos h0, if_neg (fun g => absurd h0 (Int32.not_lt.mpr g.1))]; rfl
  · rw [if_neg h0, h.p0, e4]
    by_cases h3 : p < v 1
    · obtain ⟨m, m1, m2⟩ := lt_n (Int32.not_lt.mp h0) (by rw [← hn1.1]; exact h3) (by omega)
      have hx : ix p = m := by rw [m1, oN_ix (by omega)]
      have hj : jin p 6 := by rw [m1]; exact (oN_jin (by omega)).mpr (by omega)
      rw [if_pos h3, ck_t hj, if_pos ⟨Int32.not_lt.mp h0, h3⟩, hx, h.1.r3 h.2.1, h.1.st h.2.1 (by omega), (h.sv m2).1]; rfl
    · rw [if_neg h3, if_neg (fun g => h3 g.2)]; rfl
theorem m_at (hi : ∀ a b, ad a = ad b → a = b) (h : PS ad κ pr tr pa su v K) (p : Int32) : rM ad κ (rAt v p) (P_X7_suitAt κ (ad 20) p) := by
  unfold P_X7_suitAt P_X7_suitAt_22 rAt
  have hn1 := h.2.2.2.1.1.2.1
  have m6 := hn1.2.2
  have e : (p ≤ v 1 - 1) ↔ (p < v 1) := by rw [hn1.1]; exact pred_lt (by omega) p
  rw [show ix 1 = 1 from rfl, h.ms.rd h.1, X7_isIn, bd_s]
  simp only [e]
  by_cases g : 0 ≤ p ∧ p < v 1
  · obtain ⟨m, m1, m2⟩ := lt_n g.1 (by rw [← hn1.1]; exact g.2) (by omega)
    have hx : ix p = m := by rw [m1, oN_ix (by omega)]
    obtain ⟨h1, h2, h3⟩ := h.thr hi 0
    have ea : P_X7_of (kU κ (ad 20) 0 (.int 0)) p 0 = some (oN (97 + 60 * m)) := by rw [m1]; exact X7_ofi _ (k := 0) (by omega)
    rw [if_pos g, if_pos g, if_neg (by decide), bnd_e, h2, if_pos rfl, ea, bd_s, ck_t ((oN_jin (by omega)).mpr (by omega)), oN_ix (by omega), h1.ms.rd h1.1, hx]
    exact ⟨_, _, rfl, h3, rfl, h2⟩
  · obtain ⟨h1, h2, h3⟩ := h.thr hi 1
    rw [if_neg g, if_neg g, if_pos rfl, bnd_e, h2, if_neg (by decide)]
    exact ⟨_, _, rfl, h3, h2⟩
/-- one of the suit's numbers -/
def rOf (v : Nat → Int32) (id : Int32) (k : Nat) : rI := match fd v id with
  | none => .error ("java/util/NoSuchElementException", 1)
  | some s => .ok (v (97 + 60 * s + k))
theorem c_of1 (h : PS ad κ pr tr pa su v K) (id : Int32) : P_X6_customerOf κ (ad 0) id = some (rC (rOf v id 1)) := by
  unfold P_X6_customerOf rOf
  rw [X6_existing h]
  cases hf : fd v id with
  | none => rfl
  | some s =>
    simp only []
    rw [bdx_o, (h.sv (fd_some hf).1).2.1, show 97 + 60 * s + 1 = 98 + 60 * s by omega]; rfl
theorem c_of2 (h : PS ad κ pr tr pa su v K) (id : Int32) : P_X6_clothOf κ (ad 0) id = some (rC (rOf v id 2)) := by
  unfold P_X6_clothOf rOf
  rw [X6_existing h]
  cases hf : fd v id with
  | none => rfl
  | some s =>
    simp only []
    rw [bdx_o, (h.sv (fd_some hf).1).2.2.1, show 97 + 60 * s + 2 = 99 + 60 * s by omega]; rfl
theorem c_of3 (h : PS ad κ pr tr pa su v K) (id : Int32) : P_X6_demandCount κ (ad 0) id = some (rC (rOf v id 3)) := by
  unfold P_X6_demandCount rOf
  rw [X6_existing h]
  cases hf : fd v id with
  | none => rfl
  | some s =>
    simp only []
    rw [bdx_o, (h.sv (fd_some hf).1).2.2.2.2.1, show 97 + 60 * s + 3 = 100 + 60 * s by omega]; rfl
theorem m_of (hi : ∀ a b, ad a = ad b → a = b) (h : PS ad κ pr tr pa su v K) (id : Int32) {k : Nat} (hk : k < 60) : rM ad κ (rOf v id k) (P_X7_tellsOf κ (ad 20) id (oN k)) := by
  unfold P_X7_tellsOf P_X7_tellsOf_14 rOf
  have hG := h.2.2.2.1.1
  have m6 := hG.2.1.2.2
  rw [h.ms.find h.1 hG, bd_s]
  cases hf : fd v id with
  | none =>
    obtain ⟨h1, h2, h3⟩ := h.thr hi 1
    simp only []
    rw [if_neg nneg1, bnd_e, h2, if_neg (by decide)]
    exact ⟨_, _, rfl, h3, h2⟩
  | some s =>
    obtain ⟨hs, -⟩ := fd_some hf
    obtain ⟨h1, h2, h3⟩ := h.thr hi 0
    have hf2 := h1.ms.find h1.1 hG id
    rw [hf] at hf2
    simp only [] at hf2
    simp only []
    rw [if_pos (oN_0 (by omega)), bnd_e, h2, if_pos rfl, hf2, bd_s, X7_of, bd_s, ck_t ((oN_jin (by omega)).mpr (by omega)), oN_ix (by omega), h1.ms.rd h1.1]
    exact ⟨_, _, rfl, h3, rfl, h2⟩
end READ
