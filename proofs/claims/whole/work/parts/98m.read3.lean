/-! ===== layer 3: mirrored customers, ranks, sums, accounts, orders ===== -/
theorem iSl_6 {j : Nat} (h : iSl 6 j) : j = 1 := by
  unfold iSl bR at h
  rcases h with h | h | h | h | h | h | ⟨r9, h | h | ⟨i9, hi9, h | h⟩ | ⟨k9, hk9, h | h | h | h⟩⟩ <;> omega
theorem Zf_5 {n j : Nat} (hn : n = 3 ∨ n = 4 ∨ n = 5 ∨ n = 6 ∨ n = 7) (hs : iSl n j) : Zf n j := by
  by_cases e : n = 6
  · subst e
    have := iSl_6 hs
    unfold Zf; omega
  · unfold Zf; omega
section READ3
variable {ad : Nat → Nat} {κ κ1 κ2 : jKt} {pr tr : Nat} {pa : Nat → Nat} {su : Nat → Nat → Nat} {v : Nat → Int32} {K : Nat}
def mirP (v : Nat → Int32) (c : Nat) : Prop := ∀ u, u < nn v (12 + 17 * c) → jabs (v (13 + 17 * c + 2 * u) - v (13 + 17 * c + (2 * u + 1))) ≤ 1
noncomputable def rIsM (v : Nat → Int32) (c : Int32) : rI := if 0 ≤ c ∧ c < v 0 then .ok (if pb (mirP v (ix c)) = true then 1 else 0) else .error ("java/lang/IndexOutOfBoundsException", 1)
theorem c_isM (h : PS ad κ pr tr pa su v K) (c : Int32) : P_X6_isMirrored κ (ad 0) c = some (rC (rIsM v c)) := by
  unfold P_X6_isMirrored rIsM
  have hG := h.2.2.2.1.1
  have hn0 := hG.1
  have c5 := hn0.2.2
  rw [X6_known h]
  by_cases g : 0 ≤ c ∧ c < v 0
  · obtain ⟨m, m1, m2⟩ := lt_n g.1 (by rw [← hn0.1]; exact g.2) (by omega)
    have p1 := (hG.2.2.1 m m2).1
    have p8 := p1.2.2
    have hx : ix c = m := by rw [m1, oN_ix (by omega)]
    have hc := h.cv m2
    obtain ⟨x, x1, x2⟩ := X0_hasEvenPairs (q := nn v (12 + 17 * m)) hc.1 (by omega) rfl
    have key : (∀ u, u < nn v (12 + 17 * m) → jabs (cLg κ (ad (bR pr + 4 + 2 * m)) (2 * u) - cLg κ (ad (bR pr + 4 + 2 * m)) (2 * u + 1)) ≤ 1) ↔ mirP v m := by
      unfold mirP
      constructor
      · intro q u hu
        have := q u hu
        rw [hc.2 _ (by omega), hc.2 _ (by omega)] at this
        exact this
      · intro q u hu
        rw [hc.2 _ (by omega), hc.2 _ (by omega)]
        exact q u hu
    rw [if_pos g, bdx_o, hx, x1, bd_s, if_pos g]
    rcases x2 with ⟨y1, y2⟩ | ⟨y1, y2⟩
    · rw [y1, ck_t (Or.inr rfl), if_pos (pb_t.mpr (key.mp y2))]; rfl
    · rw [y1, ck_t (Or.inl rfl), if_neg (fun z => y2 (key.mpr (pb_t.mp z)))]; rfl
  · rw [if_neg g, bdx_e, if_neg g]; rfl
theorem m_isM (hi : ∀ a b, ad a = ad b → a = b) (h : PS ad κ pr tr pa su v K) (c : Int32) : rM ad κ (rIsM v c) (P_X7_isMirrored κ (ad 20) c) := by
  unfold P_X7_isMirrored P_X7_isMirrored_14 rIsM
  have hG := h.2.2.2.1.1
  have hn0 := hG.1
  have c5 := hn0.2.2
  rw [X7_isCustomer h.ms h.1 hn0, bd_s]
  by_cases g : 0 ≤ c ∧ c < v 0
  · obtain ⟨m, m1, m2⟩ := lt_n g.1 (by rw [← hn0.1]; exact g.2) (by omega)
    obtain ⟨p1, pl⟩ := hG.2.2.1 m m2
    have p8 := p1.2.2
    have hx : ix c = m := by rw [m1, oN_ix (by omega)]
    obtain ⟨h1, h2, h3⟩ := h.thr hi 0
    have hlg : P_X7_legs (kU κ (ad 20) 0 (.int 0)) (ad 20) c = some (oN (2 * nn v (12 + 17 * m))) := by
      rw [m1, X7_legs (by omega), h1.ms.mv h1.1, p1.1, show (2 : Int32) = oN 2 from rfl, oN_mul, nn_n p1.1 (by omega)]
    have L : ∀ (q t f : Nat), t + q = nn v (12 + 17 * m) → q < f → ∃ y, P_X7_isMirrored_28 (ad 20) c f (kU κ (ad 20) 0 (.int 0)) (oN (2 * t)) = some (y, kU κ (ad 20) 0 (.int 0)) ∧ y = if pb (∀ u, t ≤ u → u < nn v (12 + 17 * m) → jabs (v (13 + 17 * m + 2 * u) - v (13 + 17 * m + (2 * u + 1))) ≤ 1) = true then 1 else 0 := by
      intro q
      induction q with
      | zero =>
        intro t f g1 g2
        obtain ⟨f, rfl⟩ : ∃ g, f = g + 1 := ⟨f - 1, by omega⟩
        refine ⟨1, ?_, by rw [if_pos (pb_t.mpr fun u u1 u2 => by omega)]⟩
        rw [P_X7_isMirrored_28, hlg, bd_s, if_pos ((oN_le (by omega) (by omega)).mpr (by omega))]
      | succ q ih =>
        intro t f g1 g2
        obtain ⟨f, rfl⟩ : ∃ g, f = g + 1 := ⟨f - 1, by omega⟩
        have e1 : (oN (2 * t) + 1 : Int32) = oN (2 * t + 1) := oN_add _ 1
        have e2 : (oN (2 * t) + 2 : Int32) = oN (2 * (t + 1)) := oN_add _ 2
        have la : P_X7_leg (kU κ (ad 20) 0 (.int 0)) (ad 20) c (oN (2 * t)) = some (v (13 + 17 * m + 2 * t)) := by rw [m1, X7_leg (by omega) (by omega), h1.ms.mv h1.1]
        have lb : P_X7_leg (kU κ (ad 20) 0 (.int 0)) (ad 20) c (oN (2 * t + 1)) = some (v (13 + 17 * m + (2 * t + 1))) := by rw [m1, X7_leg (by omega) (by omega), h1.ms.mv h1.1]
        obtain ⟨x, x1, x2⟩ := X7_areAlike (kU κ (ad 20) 0 (.int 0)) (v (13 + 17 * m + 2 * t)) (v (13 + 17 * m + (2 * t + 1)))
        have ba := pl (2 * t) (by omega)
        have bb := pl (2 * t + 1) (by omega)
        have al : jabs (v (13 + 17 * m + 2 * t) - v (13 + 17 * m + (2 * t + 1))) ≤ 1 ↔ ¬ 1 < v (13 + 17 * m + 2 * t) - v (13 + 17 * m + (2 * t + 1)) ∧ ¬ 1 < v (13 + 17 * m + (2 * t + 1)) - v (13 + 17 * m + 2 * t) := by
          rw [ba.1, bb.1]
          exact alike_n _ (by have := ba.2.2; omega) _ (by have := bb.2.2; omega)
        rw [P_X7_isMirrored_28, hlg, bd_s, if_neg (fun h => by have := (oN_le (by omega) (by omega)).mp h; omega), la, bd_s, e1, lb, bd_s, x1, bd_s, e2]
        rcases x2 with ⟨y1, y2⟩ | ⟨y1, y2⟩
        · obtain ⟨y, z1, z2⟩ := ih (t + 1) f (by omega) (by omega)
          rw [y1, if_neg (by decide)]
          refine ⟨y, z1, z2.trans ?_⟩
          have key : (∀ u, t + 1 ≤ u → u < nn v (12 + 17 * m) → jabs (v (13 + 17 * m + 2 * u) - v (13 + 17 * m + (2 * u + 1))) ≤ 1) ↔ (∀ u, t ≤ u → u < nn v (12 + 17 * m) → jabs (v (13 + 17 * m + 2 * u) - v (13 + 17 * m + (2 * u + 1))) ≤ 1) := by
            constructor
            · intro q u u1 u2
              by_cases e : u = t
              · rw [e]; exact al.mpr y2
              · exact q u (by omega) u2
            · intro q u u1 u2; exact q u (by omega) u2
          rw [key]
        · rw [y1, if_pos rfl]
          refine ⟨0, rfl, ?_⟩
          rw [if_neg (fun z => y2 (al.mp ((pb_t.mp z) t (Nat.le_refl _) (by omega))))]
    obtain ⟨y, z1, z2⟩ := L (nn v (12 + 17 * m)) 0 4000 (by omega) (by omega)
    have z1' : P_X7_isMirrored_28 (ad 20) c 4000 (kU κ (ad 20) 0 (.int 0)) 0 = some (y, kU κ (ad 20) 0 (.int 0)) := z1
    rw [if_pos g, if_pos g, if_neg (show ¬ (1 : Int32) = 0 by decide), bnd_e, h2, if_pos rfl, z1', hx]
    refine ⟨_, _, rfl, h3, ?_, h2⟩
    rw [z2]
    have key : (∀ u, 0 ≤ u → u < nn v (12 + 17 * m) → jabs (v (13 + 17 * m + 2 * u) - v (13 + 17 * m + (2 * u + 1))) ≤ 1) ↔ mirP v m := ⟨fun q u u1 => q u (by omega) u1, fun q u _ u1 => q u u1⟩
    rw [key]
  · obtain ⟨h1, h2, h3⟩ := h.thr hi 1
    rw [if_neg g, if_neg g, if_pos rfl, bnd_e, h2, if_neg (by decide)]
    exact ⟨_, _, rfl, h3, h2⟩
/-- the sum of a customer's legs -/
def lgs (v : Nat → Int32) (c : Nat) : Int32 := sm (fun l => v (13 + 17 * c + l)) 0 (2 * nn v (12 + 17 * c)) 0
/-- a customer's rank: how many stand ahead -/
def ahd (v : Nat → Int32) (c o : Nat) : Int32 := if lgs v c < lgs v o then 1 else if lgs v o = lgs v c then (if o < c then 1 else 0) else 0
def rnk (v : Nat → Int32) (c : Nat) : Int32 := sm (ahd v c) 0 (nn v 0) 0
theorem c_lgs (h : PS ad κ pr tr pa su v K) {c : Nat} (hc : c < nn v 0) : P_X0_legSum κ (ad (bR pr + 4 + 2 * c)) = some (lgs v c) := by
  have p8 := (h.2.2.2.1.1.2.2.1 c hc).1.2.2
  rw [X0_legSum (h.cv hc).1 (by omega)]
  congr 1
  exact sm_c _ _ _ (fun l _ hl => (h.cv hc).2 l (by omega))
theorem c_rank (h : PS ad κ pr tr pa su v K) {c : Nat} (hc : c < nn v 0) : P_X5_rankOf κ (ad (bR pr)) (oN c) = some (rnk v c) := by
  have hn0 := h.2.2.2.1.1.1
  have c5 := hn0.2.2
  have e2 : kI κ (ad (bR pr)) 2 = oN (nn v 0) := by rw [← hn0.1]; exact h.2.2.1.2.1.1
  have L : ∀ (q i f : Nat) (acc : Int32), i + q = nn v 0 → q < f → P_X5_rankOf_15 κ (ad (bR pr)) (oN c) (lgs v c) f acc (oN i) = some (sm (ahd v c) i q acc) := by
    intro q
    induction q with
    | zero =>
      intro i f acc g1 g2
      obtain ⟨f, rfl⟩ : ∃ g, f = g + 1 := ⟨f - 1, by omega⟩
      rw [P_X5_rankOf_15, e2, if_pos ((oN_le (by omega) (by omega)).mpr (by omega))]; rfl
    | succ q ih =>
      intro i f acc g1 g2
      obtain ⟨f, rfl⟩ : ∃ g, f = g + 1 := ⟨f - 1, by omega⟩
      have e1 : (oN i + 1 : Int32) = oN (i + 1) := oN_add _ 1
      rw [P_X5_rankOf_15, e2, if_neg (fun h => by have := (oN_le (by omega) (by omega)).mp h; omega), ck_t ((oN_jin (by omega)).mpr (by omega)), oN_ix (by omega), h.1.r1 h.2.1, h.1.cu h.2.1 (by omega), c_lgs h (by omega), bd_s, e1, sm]
      unfold ahd
      by_cases a1 : lgs v c < lgs v i
      · rw [if_pos a1, if_pos a1]; exact ih _ _ _ (by omega) (by omega)
      · rw [if_neg a1, if_neg a1]
        by_cases a2 : lgs v i = lgs v c
        · rw [if_pos a2, if_pos a2]
          by_cases a3 : i < c
          · rw [if_neg (fun h => by have := (oN_le (by omega) (by omega)).mp h; omega), if_pos a3]; exact ih _ _ _ (by omega) (by omega)
          · rw [if_pos ((oN_le (by omega) (by omega)).mpr (by omega)), if_neg a3, Int32.add_zero]; exact ih _ _ _ (by omega) (by omega)
        · rw [if_neg a2, if_neg a2, Int32.add_zero]; exact ih _ _ _ (by omega) (by omega)
  unfold P_X5_rankOf
  rw [ck_t ((oN_jin (by omega)).mpr (by omega)), oN_ix (by omega), h.1.r1 h.2.1, h.1.cu h.2.1 (by omega), c_lgs h hc, bd_s]
  exact L (nn v 0) 0 4000 0 (by omega) (by omega)
/-- the customer of a rank -/
def atR (v : Nat → Int32) (r : Int32) : Option Nat := nxF (fun c => decide (rnk v c = r)) 0 (nn v 0)
def rByL (v : Nat → Int32) (r : Int32) : rI := match atR v r with
  | none => .error ("java/util/NoSuchElementException", 1)
  | some c => .ok (oN c)
theorem c_byL (h : PS ad κ pr tr pa su v K) (r : Int32) : P_X6_customerByLegs κ (ad 0) r = some (rC (rByL v r)) := by
  have hn0 := h.2.2.2.1.1.1
  have c5 := hn0.2.2
  have e2 : kI κ (ad (bR pr)) 2 = oN (nn v 0) := by rw [← hn0.1]; exact h.2.2.1.2.1.1
  have L : ∀ (q i f : Nat), i + q = nn v 0 → q < f → P_X5_customerAtRank_2 κ (ad (bR pr)) r f (oN i) = some (match nxF (fun c => decide (rnk v c = r)) i q with | none => -1 | some c => oN c) := by
    intro q
    induction q with
    | zero =>
      intro i f g1 g2
      obtain ⟨f, rfl⟩ : ∃ g, f = g + 1 := ⟨f - 1, by omega⟩
      rw [P_X5_customerAtRank_2, e2, if_pos ((oN_le (by omega) (by omega)).mpr (by omega))]; rfl
    | succ q ih =>
      intro i f g1 g2
      obtain ⟨f, rfl⟩ : ∃ g, f = g + 1 := ⟨f - 1, by omega⟩
      have e1 : (oN i + 1 : Int32) = oN (i + 1) := oN_add _ 1
      rw [P_X5_customerAtRank_2, e2, if_neg (fun h => by have := (oN_le (by omega) (by omega)).mp h; omega), c_rank h (by omega), bd_s, e1, nxF]
      by_cases a1 : rnk v i = r
      · rw [if_pos a1, if_pos (decide_eq_true a1)]
      · rw [if_neg a1, if_neg (by rw [decide_eq_false a1]; decide)]
        exact ih _ _ (by omega) (by omega)
  have L0 := L (nn v 0) 0 4000 (by omega) (by omega)
  have L0' : P_X5_customerAtRank_2 κ (ad (bR pr)) r 4000 0 = some (match atR v r with | none => -1 | some c => oN c) := L0
  unfold P_X6_customerByLegs P_X5_customerAtRank rByL
  rw [h.p0, L0', bd_s]
  cases ha : atR v r with
  | none => rfl
  | some c =>
    have := (nxF_some _ _ _).mp ha
    simp only []
    rw [if_pos (oN_0 (by omega))]; rfl
theorem m_byL (hi : ∀ a b, ad a = ad b → a = b) (h : PS ad κ pr tr pa su v K) (r : Int32) : rM ad κ (rByL v r) (P_X7_customerByLegs κ (ad 20) r) := by
  have hG := h.2.2.2.1.1
  have hn0 := hG.1
  have c5 := hn0.2.2
  obtain ⟨h1, h2, h3⟩ := h.thr hi 0
  have r0 : kI (kU κ (ad 20) 0 (.int 0)) (kR (kU κ (ad 20) 0 (.int 0)) (ad 20) 5) (ix 0) = oN (nn v 0) := by rw [show ix 0 = 0 from rfl, h1.ms.rd h1.1, ← hn0.1]
  have ha : ∀ c, c < nn v 0 → P_X7_all (kU κ (ad 20) 0 (.int 0)) (ad 20) (oN c) = some (lgs v c) := by
    intro c hc
    have := X7_all (κ := kU κ (ad 20) 0 (.int 0)) (m := ad 20) (c := c) (by rw [h1.ms.mv h1.1]; exact hG) (by rw [h1.ms.mv h1.1]; exact hc)
    rw [h1.ms.mv h1.1] at this
    exact this
  have L2 : ∀ (c : Nat) (Kt : jKt → Int32 → Option (Int32 × jKt)) (q i f : Nat) (acc : Int32), c < nn v 0 → i + q = nn v 0 → q < f → P_X7_customerByLegs_22 (ad 20) r (oN c) Kt f (kU κ (ad 20) 0 (.int 0)) acc (oN i) = if sm (ahd v c) i q acc = r then some (oN c, kU κ (ad 20) 0 (.int 0)) else Kt (kU κ (ad 20) 0 (.int 0)) (oN (c + 1)) := by
    intro c Kt q
    induction q with
    | zero =>
      intro i f acc g0 g1 g2
      obtain ⟨f, rfl⟩ : ∃ g, f = g + 1 := ⟨f - 1, by omega⟩
      have e1 : (oN c + 1 : Int32) = oN (c + 1) := oN_add _ 1
      rw [P_X7_customerByLegs_22, r0, if_pos ((oN_le (by omega) (by omega)).mpr (by omega)), e1]; rfl
    | succ q ih =>
      intro i f acc g0 g1 g2
      obtain ⟨f, rfl⟩ : ∃ g, f = g + 1 := ⟨f - 1, by omega⟩
      have e1 : (oN i + 1 : Int32) = oN (i + 1) := oN_add _ 1
      rw [P_X7_customerByLegs_22, r0, if_neg (fun h => by have := (oN_le (by omega) (by omega)).mp h; omega), ha i (by omega), bd_s, ha c g0, bd_s, bd_s, bd_s, e1, Int32.add_zero, sm]
      unfold ahd
      by_cases a1 : lgs v c < lgs v i
      · rw [if_pos a1, if_pos a1]; exact ih _ _ _ g0 (by omega) (by omega)
      · rw [if_neg a1, if_neg a1]
        by_cases a2 : lgs v i = lgs v c
        · rw [if_pos a2, if_pos a2]
          by_cases a3 : i < c
          · rw [if_neg (fun h => by have := (oN_le (by omega) (by omega)).mp h; omega), if_pos a3]; exact ih _ _ _ g0 (by omega) (by omega)
          · rw [if_pos ((oN_le (by omega) (by omega)).mpr (by omega)), if_neg a3, Int32.add_zero]; exact ih _ _ _ g0 (by omega) (by omega)
        · rw [if_neg a2, if_neg a2, Int32.add_zero]; exact ih _ _ _ g0 (by omega) (by omega)
  have L : ∀ (q i f : Nat), i + q = nn v 0 → q < f → P_X7_customerByLegs_7 (ad 20) r f (kU κ (ad 20) 0 (.int 0)) (oN i) = match nxF (fun c => decide (rnk v c = r)) i q with | none => (bd2 (P_X7_fail (kU κ (ad 20) 0 (.int 0)) (ad 20) 1) fun y60 κ61 => some (y60, κ61)) | some c => some (oN c, kU κ (ad 20) 0 (.int 0)) := by
    intro q
    induction q with
    | zero =>
      intro i f g1 g2
      obtain ⟨f, rfl⟩ : ∃ g, f = g + 1 := ⟨f - 1, by omega⟩
      rw [P_X7_customerByLegs_7, r0, if_pos ((oN_le (by omega) (by omega)).mpr (by omega))]; rfl
    | succ q ih =>
      intro i f g1 g2
      obtain ⟨f, rfl⟩ : ∃ g, f = g + 1 := ⟨f - 1, by omega⟩
      have l2 := L2 i (P_X7_customerByLegs_7 (ad 20) r f) (nn v 0) 0 4000 0 (by omega) (by omega) (by omega)
      have l2' : P_X7_customerByLegs_22 (ad 20) r (oN i) (P_X7_customerByLegs_7 (ad 20) r f) 4000 (kU κ (ad 20) 0 (.int 0)) 0 0 = if rnk v i = r then some (oN i, kU κ (ad 20) 0 (.int 0)) else P_X7_customerByLegs_7 (ad 20) r f (kU κ (ad 20) 0 (.int 0)) (oN (i + 1)) := l2
      rw [P_X7_customerByLegs_7, r0, if_neg (fun h => by have := (oN_le (by omega) (by omega)).mp h; omega), l2', nxF]
      by_cases a1 : rnk v i = r
      · rw [if_pos a1, if_pos (decide_eq_true a1)]
      · rw [if_neg a1, if_neg (by rw [decide_eq_false a1]; decide)]
        exact ih _ _ (by omega) (by omega)
  have L0 := L (nn v 0) 0 4000 (by omega) (by omega)
  have L0' : P_X7_customerByLegs_7 (ad 20) r 4000 (kU κ (ad 20) 0 (.int 0)) 0 = match atR v r with | none => (bd2 (P_X7_fail (kU κ (ad 20) 0 (.int 0)) (ad 20) 1) fun y60 κ61 => some (y60, κ61)) | some c => some (oN c, kU κ (ad 20) 0 (.int 0)) := L0
  unfold P_X7_customerByLegs rByL
  rw [bnd_e, L0']
  cases hx : atR v r with
  | none =>
    obtain ⟨k1, k2, k3⟩ := h1.thr hi 1
    exact ⟨_, _, rfl, h3.trans k3, k2⟩
  | some c => exact ⟨_, _, rfl, h3, rfl, h2⟩
/-- a number in front of the row -/
theorem m_tells (hi : ∀ a b, ad a = ad b → a = b) (h : PS ad κ pr tr pa su v K) {k : Nat} (hk : k < 457) : ∃ κ', P_X7_tells κ (ad 20) (oN k) = some (v k, κ') ∧ ZF ad κ κ' ∧ iS ad κ' 20 0 = 0 := by
  obtain ⟨h1, h2, h3⟩ := h.thr hi 0
  unfold P_X7_tells
  rw [bnd_e, ck_t ((oN_jin (by omega)).mpr (by omega)), oN_ix (by omega), h1.ms.rd h1.1]
  exact ⟨_, rfl, h3, h2⟩
/-- do the accounts hold -/
def acc (v : Nat → Int32) : Int32 := sm (clo v) 0 (nn v 1) (sm (fun c => v (8 + c)) 0 4 (v 5 + v 4))
theorem c_acc (h : PS ad κ pr tr pa su v K) : P_X5_accountsForCloth κ (ad (bR pr)) = some (if acc v = v 3 then 1 else 0) := by
  have hG := h.2.2.2.1.1
  have hn1 := hG.2.1
  have m6 := hn1.2.2
  have e4 : kI κ (ad (bR pr)) 4 = oN (nn v 1) := by rw [← hn1.1]; exact h.2.2.1.2.1.2.1
  have e6 : kI κ (ad (bR pr)) 6 = v 3 := h.2.2.1.2.1.2.2.2.1
  have e7 : kI κ (ad (bR pr)) 7 = v 4 := h.2.2.1.2.1.2.2.2.2.1
  have e8 : kI κ (ad (bR pr)) 8 = v 5 := h.2.2.1.2.1.2.2.2.2.2.1
  have L : ∀ (q i f : Nat) (a : Int32), i + q = nn v 1 → q < f → P_X5_accountsForCloth_34 κ (ad (bR pr)) f a (oN i) = some (if sm (clo v) i q a = v 3 then 1 else 0) := by
    intro q
    induction q with
    | zero =>
      intro i f a g1 g2
      obtain ⟨f, rfl⟩ : ∃ g, f = g + 1 := ⟨f - 1, by omega⟩
      rw [P_X5_accountsForCloth_34, e4, if_pos ((oN_le (by omega) (by omega)).mpr (by omega)), e6]
      by_cases z : a = v 3
      · rw [if_pos z]; unfold sm; rw [if_pos z]
      · rw [if_neg z]; unfold sm; rw [if_neg z]
    | succ q ih =>
      intro i f a g1 g2
      obtain ⟨f, rfl⟩ : ∃ g, f = g + 1 := ⟨f - 1, by omega⟩
      have e1 : (oN i + 1 : Int32) = oN (i + 1) := oN_add _ 1
      rw [P_X5_accountsForCloth_34, e4, if_neg (fun h => by have := (oN_le (by omega) (by omega)).mp h; omega), ck_t ((oN_jin (by omega)).mpr (by omega)), oN_ix (by omega), h.1.r3 h.2.1, h.1.st h.2.1 (by omega), show P_X4_clothInside κ (ad (bR pr + 14 + 4 * su pr i)) = some (clo v i) from SV_cloth (h.sv (by omega)) hG (by omega), bd_s, e1, sm]
      exact ih _ _ _ (by omega) (by omega)
  have L2 : ∀ (q i f : Nat) (a : Int32), i + q = 4 → q < f → P_X5_accountsForCloth_12 κ (ad (bR pr)) f a (oN i) = some (if sm (clo v) 0 (nn v 1) (sm (fun c => v (8 + c)) i q a) = v 3 then 1 else 0) := by
    intro q
    induction q with
    | zero =>
      intro i f a g1 g2
      obtain ⟨f, rfl⟩ : ∃ g, f = g + 1 := ⟨f - 1, by omega⟩
      have ei : i = 4 := by omega
      subst ei
      rw [P_X5_accountsForCloth_12, if_pos (by decide)]
      exact L (nn v 1) 0 4000 a (by omega) (by omega)
    | succ q ih =>
      intro i f a g1 g2
      obtain ⟨f, rfl⟩ : ∃ g, f = g + 1 := ⟨f - 1, by omega⟩
      have e1 : (oN i + 1 : Int32) = oN (i + 1) := oN_add _ 1
      rw [P_X5_accountsForCloth_12, if_neg (by rw [show (4 : Int32) = oN 4 from rfl]; exact fun h => by have := (oN_le (by omega) (by omega)).mp h; omega), ck_t ((oN_jin (by omega)).mpr (by omega)), oN_ix (by omega), h.1.r0 h.2.1, show kI κ (ad (bR pr + 1)) i = v (8 + i) from h.2.2.1.1 i (by omega), bnd_e, e1, sm]
      exact ih _ _ _ (by omega) (by omega)
  unfold P_X5_accountsForCloth acc
  rw [e8, e7, bnd_e]
  exact L2 4 0 4000 _ (by omega) (by omega)
theorem m_acc (hi : ∀ a b, ad a = ad b → a = b) (h : PS ad κ pr tr pa su v K) : ∃ κ', P_X7_isConsistent κ (ad 20) = some (if acc v = v 3 then 1 else 0, κ') ∧ ZF ad κ κ' := by
  have hG := h.2.2.2.1.1
  have hn1 := hG.2.1
  have m6 := hn1.2.2
  obtain ⟨h1, h2, h3⟩ := h.thr hi 0
  have rd := fun j => h1.ms.rd h1.1 j
  have L : ∀ (q i f : Nat) (a : Int32), i + q = nn v 1 → q < f → P_X7_isConsistent_46 (ad 20) f (kU κ (ad 20) 0 (.int 0)) a (oN i) = some (if sm (clo v) i q a = v 3 then 1 else 0, kU κ (ad 20) 0 (.int 0)) := by
    intro q
    induction q with
    | zero =>
      intro i f a g1 g2
      obtain ⟨f, rfl⟩ : ∃ g, f = g + 1 := ⟨f - 1, by omega⟩
      rw [P_X7_isConsistent_46, show ix 1 = 1 from rfl, show ix 3 = 3 from rfl, rd, rd, hn1.1, if_pos ((oN_le (by omega) (by omega)).mpr (by omega))]
      by_cases z : a = v 3
      · rw [if_pos z]; unfold sm; rw [if_pos z]
      · rw [if_neg z]; unfold sm; rw [if_neg z]
    | succ q ih =>
      intro i f a g1 g2
      obtain ⟨f, rfl⟩ : ∃ g, f = g + 1 := ⟨f - 1, by omega⟩
      have e1 : (oN i + 1 : Int32) = oN (i + 1) := oN_add _ 1
      rw [P_X7_isConsistent_46, show ix 1 = 1 from rfl, rd, hn1.1, if_neg (fun h => by have := (oN_le (by omega) (by omega)).mp h; omega), h1.ms.cloth h1.1 hG (by omega), bd_s, e1, sm]
      exact ih _ _ _ (by omega) (by omega)
  have L2 : ∀ (q i f : Nat) (a : Int32), i + q = 4 → q < f → P_X7_isConsistent_21 (ad 20) f (kU κ (ad 20) 0 (.int 0)) a (oN i) = some (if sm (clo v) 0 (nn v 1) (sm (fun c => v (8 + c)) i q a) = v 3 then 1 else 0, kU κ (ad 20) 0 (.int 0)) := by
    intro q
    induction q with
    | zero =>
      intro i f a g1 g2
      obtain ⟨f, rfl⟩ : ∃ g, f = g + 1 := ⟨f - 1, by omega⟩
      have ei : i = 4 := by omega
      subst ei
      rw [P_X7_isConsistent_21, if_pos (by decide)]
      exact L (nn v 1) 0 4000 a (by omega) (by omega)
    | succ q ih =>
      intro i f a g1 g2
      obtain ⟨f, rfl⟩ : ∃ g, f = g + 1 := ⟨f - 1, by omega⟩
      have e1 : (oN i + 1 : Int32) = oN (i + 1) := oN_add _ 1
      have e8 : (8 + oN i : Int32) = oN (8 + i) := oN_add 8 i
      rw [P_X7_isConsistent_21, if_neg (by rw [show (4 : Int32) = oN 4 from rfl]; exact fun h => by have := (oN_le (by omega) (by omega)).mp h; omega), e8, ck_t ((oN_jin (by omega)).mpr (by omega)), oN_ix (by omega), rd, bnd_e, e1, sm]
      exact ih _ _ _ (by omega) (by omega)
  unfold P_X7_isConsistent acc
  rw [bnd_e, show ix 4 = 4 from rfl, show ix 5 = 5 from rfl, rd, rd, bnd_e, Int32.add_comm (v 4)]
  exact ⟨_, L2 4 0 4000 _ (by omega) (by omega), h3⟩
/-- the class's check of a whole shop -/
theorem c_cons (hi : ∀ a b, ad a = ad b → a = b) (h : PS ad κ pr tr pa su v K) : ∃ κ', P_X6_isConsistent κ (ad 0) = some (if acc v = v 3 then 1 else 0, κ') ∧ ZF ad κ κ' := by
  have hG := h.2.2.2.1.1
  have hn1 := hG.2.1
  have m6 := hn1.2.2
  have L : ∀ (q i f : Nat) (κ1 : jKt), i + q = nn v 1 → q < f → ZF ad κ κ1 → ∃ κ', P_X6_isConsistent_2 (ad 0) f κ1 (oN i) = some (if acc v = v 3 then 1 else 0, κ') ∧ ZF ad κ κ' := by
    intro q
    induction q with
    | zero =>
      intro i f κ1 g1 g2 hz
      obtain ⟨f, rfl⟩ : ∃ g, f = g + 1 := ⟨f - 1, by omega⟩
      have h1 := h.zf hz
      have e4 : kI κ1 (ad (bR pr)) 4 = oN (nn v 1) := by rw [← hn1.1]; exact h1.2.2.1.2.1.2.1
      rw [P_X6_isConsistent_2, h1.p0, e4, if_pos ((oN_le (by omega) (by omega)).mpr (by omega)), c_acc h1, bd_s]
      by_cases z : acc v = v 3
      · rw [if_pos z, ck_t (Or.inr rfl)]; exact ⟨_, rfl, hz⟩
      · rw [if_neg z, ck_t (Or.inl rfl)]; exact ⟨_, rfl, hz⟩
    | succ q ih =>
      intro i f κ1 g1 g2 hz
      obtain ⟨f, rfl⟩ : ∃ g, f = g + 1 := ⟨f - 1, by omega⟩
      have h1 := h.zf hz
      have his : i < nn v 1 := by omega
      have e1 : (oN i + 1 : Int32) = oN (i + 1) := oN_add _ 1
      have e4 : kI κ1 (ad (bR pr)) 4 = oN (nn v 1) := by rw [← hn1.1]; exact h1.2.2.1.2.1.2.1
      have k6 := h1.1.s6 h1.2.1 (i := i) (by omega)
      obtain ⟨κ2, a1, a2⟩ := X1_agree hi h1.1 h1.2.1 k6 (h1.sv his) hG his
      have z2 : ZF ad κ1 κ2 := ZF.fr a2 (fun n hn j hs => Zf_5 (by omega) hs)
      have h2 := h1.zf z2
      have g2' := ((GR_iff.mp hG).2.2.2 i his).2.1
      obtain ⟨-, -, x3, x4⟩ := h.2.2.2.1.2.2.2.1 i his
      have hV := h2.sv his
      have h16 := (hG.sl16 his).1
      obtain ⟨y, y1, y2⟩ := X4_hasCycle hV.2.2.2.1 h16 (SV_D hV hG his)
      have y0 : y = 0 := by
        rcases y2 with ⟨b1, b2⟩ | ⟨b1, -⟩
        · obtain ⟨l, l1, l2⟩ := b2
          exact absurd ((SV_bfr hV hG his l l).mp l2) (x3 l)
        · exact b1
      obtain ⟨w, w1, w2⟩ := X4_isSewnInOrder hV.2.2.2.1 h16 (SV_D hV hG his)
      have w0 : w = 1 := by
        rcases w2 with ⟨b1, -⟩ | ⟨-, b2⟩
        · exact b1
        · exfalso
          apply b2
          intro l t l1 l2 l3 l4
          have hd := (hV.E l t l1 l3).mp l4
          have s2 := (hV.sewn hG his l l1).mp l2
          unfold sew0 at s2
          have s3 := x4 l t hd (decide_eq_true_iff.mp s2)
          have tl := hG.E his l t hd
          refine (hV.sewn hG his t tl).mpr ?_
          unfold sew0
          exact decide_eq_true s3
      have q6 : kR κ1 (ad 0) 6 = ad 2 := h1.1.1.2.2.2.2.1
      rw [P_X6_isConsistent_2, h1.p0, e4, if_neg (fun h => by have := (oN_le (by omega) (by omega)).mp h; omega), ck_t ((oN_jin (by omega)).mpr (by omega)), oN_ix (by omega), h1.1.r3 h1.2.1, h1.1.st h1.2.1 (by omega)]
      unfold P_X6_isSuitConsistent
      rw [h1.wear his, bd_s, q6, a1, bd2_s, if_neg (by decide), SV_need hV hG his (h2.cv g2'), bd_s, SV_needd hV hG his (h2.cv g2'), bd_s, if_pos rfl, y1, bd_s, y0, if_pos rfl, w1, bd_s, w0, if_neg (by decide), bd2_s, if_neg (by decide), e1]
      exact ih (i + 1) f κ2 (by omega) (by omega) (hz.trans z2)
  exact L (nn v 1) 0 4000 κ (by omega) (by omega) (ZF.refl κ)
/-- a place of the first sewing order -/
noncomputable def rOrd (v : Nat → Int32) (id p : Int32) : rI := match fd v id with
  | none => .error ("java/util/NoSuchElementException", 1)
  | some s => if 0 ≤ p ∧ p < oN (ordS v s).length then .ok (oN ((ordS v s).getD (ix p) 0)) else .error ("java/lang/IndexOutOfBoundsException", 2)
theorem ordS_len {v : Nat → Int32} {s : Nat} (h16 : sl v s ≤ 16) : (ordS v s).length ≤ 16 := by
  have h1 := ord_len (n := sl v s) (E := dmB v s) (left0 v s) (sew0 v s)
  have h2 := cn_le (fun l => !sew0 v s l) (sl v s)
  unfold ordS
  unfold left0 at h1 ⊢
  omega
theorem lst_at {h : Nat → Int32} {L : List Nat} (hl : lst h 0 L) {t : Nat} (ht : t < L.length) : h t = oN (L.getD t 0) := by
  have := hl t ht
  rw [Nat.zero_add] at this
  rw [this, List.getD_eq_getElem?_getD, List.getElem?_eq_getElem ht]
  rfl
theorem c_place {a n : Nat} {L : List Nat} (hL : L.length ≤ 16) (hl : lst (fun j => kI κ a j) 0 L) (p : Int32) : P_X6_placeInOrder κ a (oN L.length) p = some (if 0 ≤ p ∧ p < oN L.length then .ok (oN (L.getD (ix p) 0)) else .error "java/lang/IndexOutOfBoundsException") := by
  unfold P_X6_placeInOrder
  by_cases h0 : p < 0
  · rw [if_pos h0, if_neg (fun g => absurd h0 (Int32.not_lt.mpr g.1))]
  · rw [if_neg h0]
    by_cases h3 : p < oN L.length
    · obtain ⟨m, m1, m2⟩ := lt_n (Int32.not_lt.mp h0) h3 (by omega)
      have hx : ix p = m := by rw [m1, oN_ix (by omega)]
      have hj : jin p 16 := by rw [m1]; exact (oN_jin (by omega)).mpr (by omega)
      rw [if_pos h3, ck_t hj, if_pos ⟨Int32.not_lt.mp h0, h3⟩, hx]
      congr 2
      exact lst_at hl m2
    · rw [if_neg h3, if_neg (fun g => h3 g.2)]
theorem c_ord (hi : ∀ a b, ad a = ad b → a = b) (h : PS ad κ pr tr pa su v K) (id p : Int32) : ∃ κ', P_X6_sewingOrder κ (ad 0) id p = some (rC (rOrd v id p), κ') ∧ ZF ad κ κ' := by
  unfold P_X6_sewingOrder rOrd
  rw [X6_existing h]
  cases hf : fd v id with
  | none => exact ⟨κ, rfl, ZF.refl κ⟩
  | some s =>
    obtain ⟨hs, -⟩ := fd_some hf
    have hG := h.2.2.2.1.1
    have m6 := hG.2.1.2.2
    have h16 := (hG.sl16 hs).1
    have k6 := h.1.s6 h.2.1 (i := s) (by omega)
    obtain ⟨κ2, a1, a2, a3⟩ := X1_scan hi h.1 h.2.1 k6 (h.sv hs) hG hs
    have z2 : ZF ad κ κ2 := ZF.fr a2 (fun n hn j hs => by unfold Zf; omega)
    have hP2 := a2.pt h.1
    have q6 : kR κ (ad 0) 6 = ad 2 := h.1.1.2.2.2.2.1
    have q6' : kR κ2 (ad 0) 6 = ad 2 := hP2.1.2.2.2.2.1
    have q0 : kR κ2 (ad 2) 0 = ad 3 := hP2.2.2.1.1
    simp only []
    rw [bdx_o, q6, a1, bd2_s, q6', q0, c_place (n := 0) (ordS_len h16) a3]
    by_cases g : 0 ≤ p ∧ p < oN (ordS v s).length
    · rw [if_pos g, bdx_o, if_pos g]; exact ⟨κ2, rfl, z2⟩
    · rw [if_neg g, bdx_e, if_neg g]; exact ⟨κ2, rfl, z2⟩
theorem c_ordQ (hi : ∀ a b, ad a = ad b → a = b) (h : PS ad κ pr tr pa su v K) (id p : Int32) : ∃ κ', P_X6_sewingOrderByQueue κ (ad 0) id p = some (rC (rOrd v id p), κ') ∧ ZF ad κ κ' := by
  unfold P_X6_sewingOrderByQueue rOrd
  rw [X6_existing h]
  cases hf : fd v id with
  | none => exact ⟨κ, rfl, ZF.refl κ⟩
  | some s =>
    obtain ⟨hs, -⟩ := fd_some hf
    have hG := h.2.2.2.1.1
    have m6 := hG.2.1.2.2
    have h16 := (hG.sl16 hs).1
    have k6 := h.1.s6 h.2.1 (i := s) (by omega)
    obtain ⟨κ2, a1, a2, a3⟩ := X1_queue hi h.1 h.2.1 k6 (h.sv hs) hG hs
    have z2 : ZF ad κ κ2 := ZF.fr a2 (fun n hn j hs => Zf_5 (by omega) hs)
    have hP2 := a2.pt h.1
    have q6 : kR κ (ad 0) 6 = ad 2 := h.1.1.2.2.2.2.1
    have q6' : kR κ2 (ad 0) 6 = ad 2 := hP2.1.2.2.2.2.1
    have q1 : kR κ2 (ad 2) 1 = ad 4 := hP2.2.2.1.2.1
    simp only []
    rw [bdx_o, q6, a1, bd2_s, q6', q1, c_place (n := 0) (ordS_len h16) a3]
    by_cases g : 0 ≤ p ∧ p < oN (ordS v s).length
    · rw [if_pos g, bdx_o, if_pos g]; exact ⟨κ2, rfl, z2⟩
    · rw [if_neg g, bdx_e, if_neg g]; exact ⟨κ2, rfl, z2⟩
theorem m_ord (hi : ∀ a b, ad a = ad b → a = b) (h : PS ad κ pr tr pa su v K) (id p : Int32) : rM ad κ (rOrd v id p) (P_X7_sewingOrder κ (ad 20) id p) := by
  unfold P_X7_sewingOrder P_X7_sewingOrder_39 rOrd
  have hG := h.2.2.2.1.1
  have m6 := hG.2.1.2.2
  rw [h.find]
  cases hf : fd v id with
  | none =>
    obtain ⟨h1, h2, h3⟩ := h.thr hi 1
    simp only []
    rw [bd_s, if_neg nneg1]
    exact ⟨_, _, rfl, h3, h2⟩
  | some s =>
    obtain ⟨hs, -⟩ := fd_some hf
    have h16 := (hG.sl16 hs).1
    obtain ⟨κ2, a1, a2, a3⟩ := X7_sorts hi h.1 (h.ms.mv h.1) hG hs
    have z2 : ZF ad κ κ2 := ZF.fr a2 (fun n hn j hs => by unfold Zf; omega)
    have h2 := h.zf z2
    have hl := ordS_len h16
    have e : (p ≤ oN (ordS v s).length - 1) ↔ (p < oN (ordS v s).length) := pred_lt (by omega) p
    simp only []
    rw [bd_s, if_pos (oN_0 (by omega)), bd_s, a1, bd2_s, X7_isIn, bd_s]
    simp only [e]
    by_cases g : 0 ≤ p ∧ p < oN (ordS v s).length
    · obtain ⟨m, m1, m2⟩ := lt_n g.1 g.2 (by omega)
      have hx : ix p = m := by rw [m1, oN_ix (by omega)]
      have hj : jin p 16 := by rw [m1]; exact (oN_jin (by omega)).mpr (by omega)
      obtain ⟨k1, k2, k3⟩ := h2.thr hi 0
      have hr : kI (kU κ2 (ad 20) 0 (.int 0)) (ad 25) m = oN ((ordS v s).getD m 0) := by
        have := iS_U hi (κ := κ2) (n := 20) (j := 0) (x := 0) 25 m
        rw [if_neg (by omega)] at this
        exact this.trans (lst_at a3 m2)
      rw [if_pos g, if_pos g, if_neg (by decide), bnd_e, k2, if_pos rfl, ck_t hj, k1.1.or, hx, hr]
      exact ⟨_, _, rfl, z2.trans k3, rfl, k2⟩
    · obtain ⟨k1, k2, k3⟩ := h2.thr hi 2
      rw [if_neg g, if_neg g, if_pos rfl, bnd_e, k2, if_neg (by decide)]
      exact ⟨_, _, rfl, z2.trans k3, k2⟩
theorem m_ordQ (hi : ∀ a b, ad a = ad b → a = b) (h : PS ad κ pr tr pa su v K) (id p : Int32) : rM ad κ (rOrd v id p) (P_X7_sewingOrderByQueue κ (ad 20) id p) := by
  obtain ⟨y, κ', h1, h2⟩ := m_ord hi h id p
  unfold P_X7_sewingOrderByQueue
  rw [h1, bd2_s]
  exact ⟨y, κ', rfl, h2⟩
end READ3
