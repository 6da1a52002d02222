/-! ===== layer 3: the readers of one suit ===== -/
section READ2
variable {ad : Nat → Nat} {κ κ1 κ2 : jKt} {pr tr : Nat} {pa : Nat → Nat} {su : Nat → Nat → Nat} {v : Nat → Int32} {K : Nat}
def NSE : String := "java/util/NoSuchElementException"
def IOB : String := "java/lang/IndexOutOfBoundsException"
def ISE : String := "java/lang/IllegalStateException"
/-- the model looks for a suit: none, or the one at s -/
theorem PS.find (h : PS ad κ pr tr pa su v K) (id : Int32) : P_X7_find κ (ad 20) id = some (match fd v id with | some t => oN t | none => -1) := h.ms.find h.1 h.2.2.2.1.1 id
def rSt (v : Nat → Int32) (id l : Int32) : rI := match fd v id with
  | none => .error ("java/util/NoSuchElementException", 1)
  | some s => if 0 ≤ l ∧ l < oN (sl v s) then .ok (ltr (v (101 + 60 * s + ix l))) else .error ("java/lang/IndexOutOfBoundsException", 2)
theorem ltr_jch (x : Int32) : jch (ltr x) := by
  unfold ltr
  split
  · decide
  · split <;> decide
theorem c_st (h : PS ad κ pr tr pa su v K) (id l : Int32) : P_X6_sleeveState κ (ad 0) id l = some (rC (rSt v id l)) := by
  unfold P_X6_sleeveState rSt
  rw [X6_exSleeve h]
  cases hf : fd v id with
  | none => rfl
  | some s =>
    obtain ⟨hs, -⟩ := fd_some hf
    have h16 := (h.2.2.2.1.1.sl16 hs).1
    simp only []
    by_cases g : 0 ≤ l ∧ l < oN (sl v s)
    · obtain ⟨t, t1, t2, t3⟩ := slv h16 g
      have hj : jin l 16 := by rw [t1]; exact (oN_jin (by omega)).mpr (by omega)
      have hst : kI κ (kR κ (ad (bR pr + 14 + 4 * su pr s)) 5) t = ltr (v (101 + 60 * s + t)) := ((h.sv hs).2.2.2.2.2 t t3).1
      rw [if_pos g, bdx_o, ck_t hj, t2, hst, ck_t (ltr_jch _), if_pos g]; rfl
    · rw [if_neg g, bdx_e, if_neg g]; rfl
/-- the model looks at a sleeve -/
theorem m_looks (hi : ∀ a b, ad a = ad b → a = b) (h : PS ad κ pr tr pa su v K) (id l : Int32) : ∃ t κ', P_X7_looks κ (ad 20) id l = some (t, κ') ∧ PS ad κ' pr tr pa su v K ∧ ZF ad κ κ' ∧ kI κ' (ad 20) 0 = t ∧ match fd v id with
    | none => t = 1
    | some s => if 0 ≤ l ∧ l < oN (sl v s) then t = 0 else t = 2 := by
  unfold P_X7_looks
  have hG := h.2.2.2.1.1
  have m6 := hG.2.1.2.2
  rw [h.find]
  cases hf : fd v id with
  | none =>
    obtain ⟨h1, h2, h3⟩ := h.thr hi 1
    simp only []
    rw [bd_s, if_neg nneg1, bnd_e, h2]
    exact ⟨_, _, rfl, h1, h3, h2, rfl⟩
  | some s =>
    obtain ⟨hs, -⟩ := fd_some hf
    simp only []
    rw [bd_s, if_pos (oN_0 (by omega)), bd_s, h.ms.isSleeve h.1 hG hs, bd_s]
    by_cases g : 0 ≤ l ∧ l < oN (sl v s)
    · obtain ⟨h1, h2, h3⟩ := h.thr hi 0
      rw [if_pos g, if_neg (by decide), bnd_e, h2]
      exact ⟨_, _, rfl, h1, h3, h2, by rw [if_pos g]⟩
    · obtain ⟨h1, h2, h3⟩ := h.thr hi 2
      rw [if_neg g, if_pos rfl, bnd_e, h2]
      exact ⟨_, _, rfl, h1, h3, h2, by rw [if_neg g]⟩
theorem m_st (hi : ∀ a b, ad a = ad b → a = b) (h : PS ad κ pr tr pa su v K) (id l : Int32) : rM ad κ (rSt v id l) (P_X7_sleeveState κ (ad 20) id l) := by
  unfold P_X7_sleeveState rSt
  have hG := h.2.2.2.1.1
  have m6 := hG.2.1.2.2
  obtain ⟨t, κ1, q1, q2, q3, q4, q5⟩ := m_looks hi h id l
  rw [q1, bd2_s]
  cases hf : fd v id with
  | none =>
    rw [hf] at q5
    simp only [] at q5
    subst q5
    rw [if_neg (by decide), ck_t (by decide)]
    exact ⟨_, _, rfl, q3, q4⟩
  | some s =>
    obtain ⟨hs, -⟩ := fd_some hf
    have h16 := (hG.sl16 hs).1
    rw [hf] at q5
    simp only [] at q5 ⊢
    by_cases g : 0 ≤ l ∧ l < oN (sl v s)
    · obtain ⟨u, t1, t2, t3⟩ := slv h16 g
      rw [if_pos g] at q5
      subst q5
      have hf2 := q2.find id
      rw [hf] at hf2
      simp only [] at hf2
      rw [if_pos rfl, hf2, bd_s, t1, q2.ms.state q2.1 (by omega) (by omega), bd_s, ← t1, if_pos g, t2]
      rcases hG.st hs (by omega : u < 16) with e | e | e
      · rw [e, if_pos rfl, ck_t (by decide)]
        exact ⟨_, _, rfl, q3, rfl, q4⟩
      · rw [e, if_neg (by decide), if_pos rfl, ck_t (by decide)]
        exact ⟨_, _, rfl, q3, rfl, q4⟩
      · rw [e, if_neg (by decide), if_neg (by decide), ck_t (by decide)]
        exact ⟨_, _, rfl, q3, rfl, q4⟩
    · rw [if_neg g] at q5
      subst q5
      rw [if_neg g, if_neg (by decide), ck_t (by decide)]
      exact ⟨_, _, rfl, q3, q4⟩
/-- a piece's answer: thrown 1, 2, 3, or f -/
def rPc (v : Nat → Int32) (id l : Int32) (f : Nat → Nat → Int32) : rI := match fd v id with
  | none => .error ("java/util/NoSuchElementException", 1)
  | some s => if 0 ≤ l ∧ l < oN (sl v s) then (if v (101 + 60 * s + ix l) = 0 then .error ("java/lang/IllegalStateException", 3) else .ok (f s (ix l))) else .error ("java/lang/IndexOutOfBoundsException", 2)
def fLen (v : Nat → Int32) : Nat → Nat → Int32 := fun s t => v (117 + 60 * s + t)
def fFit (v : Nat → Int32) : Nat → Nat → Int32 := fun s t => if v (117 + 60 * s + t) = v (13 + 17 * nn v (98 + 60 * s) + t) then 1 else 0
theorem c_len (h : PS ad κ pr tr pa su v K) (id l : Int32) : P_X6_sleeveLength κ (ad 0) id l = some (rC (rPc v id l (fLen v))) := by
  unfold P_X6_sleeveLength rPc
  rw [X6_exPiece h]
  cases hf : fd v id with
  | none => rfl
  | some s =>
    obtain ⟨hs, -⟩ := fd_some hf
    have h16 := (h.2.2.2.1.1.sl16 hs).1
    simp only []
    by_cases g : 0 ≤ l ∧ l < oN (sl v s)
    · obtain ⟨t, t1, t2, t3⟩ := slv h16 g
      have hj : jin l 16 := by rw [t1]; exact (oN_jin (by omega)).mpr (by omega)
      rw [if_pos g, if_pos g, t2]
      by_cases z : v (101 + 60 * s + t) = 0
      · rw [if_pos z, bdx_e, if_pos z]; rfl
      · have hln : kI κ (kR κ (ad (bR pr + 14 + 4 * su pr s)) 6) t = v (117 + 60 * s + t) := ((h.sv hs).2.2.2.2.2 t t3).2.1 z
        rw [if_neg z, bdx_o, ck_t hj, hln, if_neg z]; rfl
    · rw [if_neg g, bdx_e, if_neg g]; rfl
theorem c_fit (h : PS ad κ pr tr pa su v K) (id l : Int32) : P_X6_doesFit κ (ad 0) id l = some (rC (rPc v id l (fFit v))) := by
  unfold P_X6_doesFit rPc
  rw [X6_exPiece h]
  cases hf : fd v id with
  | none => rfl
  | some s =>
    obtain ⟨hs, -⟩ := fd_some hf
    have hG := h.2.2.2.1.1
    have h16 := (hG.sl16 hs).1
    have g2 := ((GR_iff.mp hG).2.2.2 s hs).2.1
    simp only []
    by_cases g : 0 ≤ l ∧ l < oN (sl v s)
    · obtain ⟨t, t1, t2, t3⟩ := slv h16 g
      rw [if_pos g, if_pos g, t2]
      by_cases z : v (101 + 60 * s + t) = 0
      · rw [if_pos z, bdx_e, if_pos z]; rfl
      · have hln : sLn κ (ad (bR pr + 14 + 4 * su pr s)) t = v (117 + 60 * s + t) := ((h.sv hs).2.2.2.2.2 t t3).2.1 z
        have hlg : cLg κ (ad (bR pr + 4 + 2 * nn v (98 + 60 * s))) t = v (13 + 17 * nn v (98 + 60 * s) + t) := (h.cv g2).2 t (by unfold sl at t3; exact t3)
        rw [if_neg z, bdx_o, h.wear hs, bd_s, t1, X4_fitsAt (by omega), bd_s, hln, hlg, if_neg z]
        unfold fFit
        by_cases y : v (117 + 60 * s + t) = v (13 + 17 * nn v (98 + 60 * s) + t)
        · rw [if_pos y, ck_t (Or.inr rfl)]; rfl
        · rw [if_neg y, ck_t (Or.inl rfl)]; rfl
    · rw [if_neg g, bdx_e, if_neg g]; rfl
theorem m_cut (hi : ∀ a b, ad a = ad b → a = b) (h : PS ad κ pr tr pa su v K) (id l : Int32) : ∃ t κ', P_X7_looksCut κ (ad 20) id l = some (t, κ') ∧ PS ad κ' pr tr pa su v K ∧ ZF ad κ κ' ∧ kI κ' (ad 20) 0 = t ∧ match fd v id with
    | none => t = 1
    | some s => if 0 ≤ l ∧ l < oN (sl v s) then (if v (101 + 60 * s + ix l) = 0 then t = 3 else t = 0) else t = 2 := by
  unfold P_X7_looksCut
  have hG := h.2.2.2.1.1
  have m6 := hG.2.1.2.2
  obtain ⟨t, κ1, q1, q2, q3, q4, q5⟩ := m_looks hi h id l
  rw [q1, bd2_s]
  cases hf : fd v id with
  | none =>
    rw [hf] at q5
    simp only [] at q5
    subst q5
    rw [if_neg (by decide), q4]
    exact ⟨_, _, rfl, q2, q3, q4, rfl⟩
  | some s =>
    obtain ⟨hs, -⟩ := fd_some hf
    have h16 := (hG.sl16 hs).1
    rw [hf] at q5
    simp only [] at q5 ⊢
    by_cases g : 0 ≤ l ∧ l < oN (sl v s)
    · obtain ⟨u, t1, t2, t3⟩ := slv h16 g
      rw [if_pos g] at q5
      subst q5
      have hf2 := q2.find id
      rw [hf] at hf2
      simp only [] at hf2
      rw [if_pos rfl, hf2, bd_s, t1, q2.ms.state q2.1 (by omega) (by omega), bd_s, ← t1, t2]
      by_cases z : v (101 + 60 * s + u) = 0
      · obtain ⟨h1, h2, h3⟩ := q2.thr hi 3
        rw [if_pos z, bnd_e, h2]
        exact ⟨_, _, rfl, h1, q3.trans h3, h2, by rw [if_pos g, if_pos z]⟩
      · obtain ⟨h1, h2, h3⟩ := q2.thr hi 0
        rw [if_neg z, bnd_e, h2]
        exact ⟨_, _, rfl, h1, q3.trans h3, h2, by rw [if_pos g, if_neg z]⟩
    · rw [if_neg g] at q5
      subst q5
      rw [if_neg (by decide), q4]
      exact ⟨_, _, rfl, q2, q3, q4, by rw [if_neg g]⟩
theorem m_len (hi : ∀ a b, ad a = ad b → a = b) (h : PS ad κ pr tr pa su v K) (id l : Int32) : rM ad κ (rPc v id l (fLen v)) (P_X7_sleeveLength κ (ad 20) id l) := by
  unfold P_X7_sleeveLength rPc
  have hG := h.2.2.2.1.1
  have m6 := hG.2.1.2.2
  obtain ⟨t, κ1, q1, q2, q3, q4, q5⟩ := m_cut hi h id l
  rw [q1, bd2_s]
  cases hf : fd v id with
  | none =>
    rw [hf] at q5
    simp only [] at q5
    subst q5
    rw [if_neg (by decide)]
    exact ⟨_, _, rfl, q3, q4⟩
  | some s =>
    obtain ⟨hs, -⟩ := fd_some hf
    have h16 := (hG.sl16 hs).1
    rw [hf] at q5
    simp only [] at q5 ⊢
    by_cases g : 0 ≤ l ∧ l < oN (sl v s)
    · obtain ⟨u, t1, t2, t3⟩ := slv h16 g
      rw [if_pos g, t2] at q5
      rw [if_pos g, t2]
      by_cases z : v (101 + 60 * s + u) = 0
      · rw [if_pos z] at q5
        subst q5
        rw [if_pos z, if_neg (by decide)]
        exact ⟨_, _, rfl, q3, q4⟩
      · rw [if_neg z] at q5
        subst q5
        have hf2 := q2.find id
        rw [hf] at hf2
        simp only [] at hf2
        have ho : P_X7_own κ1 (ad 20) (oN s) l = some (v (117 + 60 * s + u)) := by rw [t1]; exact q2.ms.own q2.1 (by omega) (by omega)
        rw [if_pos rfl, hf2, bd_s, ho, bd_s, if_neg z]
        exact ⟨_, _, rfl, q3, rfl, q4⟩
    · rw [if_neg g] at q5
      subst q5
      rw [if_neg g, if_neg (by decide)]
      exact ⟨_, _, rfl, q3, q4⟩
theorem m_fit (hi : ∀ a b, ad a = ad b → a = b) (h : PS ad κ pr tr pa su v K) (id l : Int32) : rM ad κ (rPc v id l (fFit v)) (P_X7_doesFit κ (ad 20) id l) := by
  unfold P_X7_doesFit rPc
  have hG := h.2.2.2.1.1
  have m6 := hG.2.1.2.2
  obtain ⟨t, κ1, q1, q2, q3, q4, q5⟩ := m_cut hi h id l
  rw [q1, bd2_s]
  cases hf : fd v id with
  | none =>
    rw [hf] at q5
    simp only [] at q5
    subst q5
    rw [if_neg (by decide)]
    exact ⟨_, _, rfl, q3, q4⟩
  | some s =>
    obtain ⟨hs, -⟩ := fd_some hf
    have h16 := (hG.sl16 hs).1
    rw [hf] at q5
    simp only [] at q5 ⊢
    by_cases g : 0 ≤ l ∧ l < oN (sl v s)
    · obtain ⟨u, t1, t2, t3⟩ := slv h16 g
      rw [if_pos g, t2] at q5
      rw [if_pos g, t2]
      by_cases z : v (101 + 60 * s + u) = 0
      · rw [if_pos z] at q5
        subst q5
        rw [if_pos z, if_neg (by decide)]
        exact ⟨_, _, rfl, q3, q4⟩
      · rw [if_neg z] at q5
        subst q5
        have hf2 := q2.find id
        rw [hf] at hf2
        simp only [] at hf2
        have ho : P_X7_own κ1 (ad 20) (oN s) l = some (v (117 + 60 * s + u)) := by rw [t1]; exact q2.ms.own q2.1 (by omega) (by omega)
        have hw : P_X7_wanted κ1 (ad 20) (oN s) l = some (v (13 + 17 * nn v (98 + 60 * s) + u)) := by rw [t1]; exact q2.ms.wanted q2.1 hG hs (by omega)
        rw [if_pos rfl, hf2, bd_s, ho, bd_s, bd_s, hw, bd_s, if_neg z]
        unfold fFit
        by_cases y : v (117 + 60 * s + u) = v (13 + 17 * nn v (98 + 60 * s) + u)
        · rw [if_pos y, if_pos y]
          exact ⟨_, _, rfl, q3, rfl, q4⟩
        · rw [if_neg y, if_neg y]
          exact ⟨_, _, rfl, q3, rfl, q4⟩
    · rw [if_neg g] at q5
      subst q5
      rw [if_neg g, if_neg (by decide)]
      exact ⟨_, _, rfl, q3, q4⟩
/-- a suit's answer: thrown 1, or f -/
def rSu (v : Nat → Int32) (id : Int32) (f : Nat → Int32) : rI := match fd v id with
  | none => .error ("java/util/NoSuchElementException", 1)
  | some s => .ok (f s)
def fSewn (v : Nat → Int32) : Nat → Int32 := fun s => sm (fun l => if v (101 + 60 * s + l) = 2 then 1 else 0) 0 (sl v s) 0
def fLeft (v : Nat → Int32) : Nat → Int32 := fun s => oN (sl v s) - fSewn v s
noncomputable def fDue (v : Nat → Int32) : Nat → Int32 := fun s => if pb (dueP v s) = true then 1 else 0
def fNeed (v : Nat → Int32) : Nat → Int32 := fun s => sm (fun l => if v (101 + 60 * s + l) = 0 then v (13 + 17 * nn v (98 + 60 * s) + l) + 2 else 0) 0 (sl v s) 0
theorem SV.cnt {κ : jKt} {a : Nat} {v : Nat → Int32} {s : Nat} (h : SV κ a v s) (hG : GR v) (hs : s < nn v 1) : P_X4_sewnCount κ a = some (fSewn v s) ∧ P_X4_unsewnCount κ a = some (fLeft v s) := by
  have h16 := (hG.sl16 hs).1
  have e : sm (fun l => if sSt κ a l = 115 then (1 : Int32) else 0) 0 (sl v s) 0 = fSewn v s := by
    refine sm_c _ _ _ (fun l _ hl => ?_)
    have st := h.sewn hG hs l (by omega)
    unfold sew0 at st
    rw [decide_eq_true_iff] at st
    by_cases hp : v (101 + 60 * s + l) = 2
    · rw [if_pos hp, if_pos (st.mpr hp)]
    · rw [if_neg hp, if_neg (fun g => hp (st.mp g))]
  obtain ⟨c1, c2⟩ := X4_sewnCount h.2.2.2.1 h16
  rw [c1, c2, e]
  exact ⟨rfl, rfl⟩
theorem MS.count (h : MS ad κ κ1 v) (hP : PT ad κ pr tr pa su) (hG : GR v) {s : Nat} (hs : s < nn v 1) : P_X7_count κ1 (ad 20) (oN s) 2 = some (fSewn v s) := by
  have := X7_count (κ := κ1) (m := ad 20) (s := s) (by rw [h.mv hP]; exact hG) (by rw [h.mv hP]; exact hs) 2
  rw [h.mv hP] at this
  exact this
theorem MS.sleeves (h : MS ad κ κ1 v) (hP : PT ad κ pr tr pa su) (hG : GR v) {s : Nat} (hs : s < nn v 1) : P_X7_sleeves κ1 (ad 20) (oN s) = some (oN (sl v s)) := by
  have := (X7_sleeves (κ := κ1) (m := ad 20) (s := s) (by rw [h.mv hP]; exact hG) (by rw [h.mv hP]; exact hs)).1
  rw [h.mv hP] at this
  exact this
theorem c_sewn (h : PS ad κ pr tr pa su v K) (id : Int32) : P_X6_sewnSleeves κ (ad 0) id = some (rC (rSu v id (fSewn v))) := by
  unfold P_X6_sewnSleeves rSu
  rw [X6_existing h]
  cases hf : fd v id with
  | none => rfl
  | some s =>
    obtain ⟨hs, -⟩ := fd_some hf
    simp only []
    rw [bdx_o, ((h.sv hs).cnt h.2.2.2.1.1 hs).1, bd_s]; rfl
theorem c_left (h : PS ad κ pr tr pa su v K) (id : Int32) : P_X6_sleevesLeft κ (ad 0) id = some (rC (rSu v id (fLeft v))) := by
  unfold P_X6_sleevesLeft rSu
  rw [X6_existing h]
  cases hf : fd v id with
  | none => rfl
  | some s =>
    obtain ⟨hs, -⟩ := fd_some hf
    simp only []
    rw [bdx_o, ((h.sv hs).cnt h.2.2.2.1.1 hs).2, bd_s]; rfl
theorem c_price (h : PS ad κ pr tr pa su v K) (id : Int32) : P_X6_price κ (ad 0) id = some (rC (rSu v id (wor v))) := by
  unfold P_X6_price rSu
  rw [X6_existing h]
  cases hf : fd v id with
  | none => rfl
  | some s =>
    obtain ⟨hs, -⟩ := fd_some hf
    have g2 := ((GR_iff.mp h.2.2.2.1.1).2.2.2 s hs).2.1
    simp only []
    rw [bdx_o, h.wear hs, bd_s, show P_X4_priceFor κ (ad (bR pr + 14 + 4 * su pr s)) (ad (bR pr + 4 + 2 * nn v (98 + 60 * s))) = some (wor v s) from SV_worth (h.sv hs) h.2.2.2.1.1 hs (h.cv g2), bd_s]; rfl
theorem c_need (h : PS ad κ pr tr pa su v K) (id : Int32) : P_X6_clothNeeded κ (ad 0) id = some (rC (rSu v id (fNeed v))) := by
  unfold P_X6_clothNeeded rSu
  rw [X6_existing h]
  cases hf : fd v id with
  | none => rfl
  | some s =>
    obtain ⟨hs, -⟩ := fd_some hf
    have g2 := ((GR_iff.mp h.2.2.2.1.1).2.2.2 s hs).2.1
    simp only []
    rw [bdx_o, h.wear hs, bd_s, SV_need (h.sv hs) h.2.2.2.1.1 hs (h.cv g2), bd_s]; rfl
theorem c_needd (h : PS ad κ pr tr pa su v K) (id : Int32) : P_X6_clothNeededByDifference κ (ad 0) id = some (rC (rSu v id (fNeed v))) := by
  unfold P_X6_clothNeededByDifference rSu
  rw [X6_existing h]
  cases hf : fd v id with
  | none => rfl
  | some s =>
    obtain ⟨hs, -⟩ := fd_some hf
    have g2 := ((GR_iff.mp h.2.2.2.1.1).2.2.2 s hs).2.1
    simp only []
    rw [bdx_o, h.wear hs, bd_s, SV_needd (h.sv hs) h.2.2.2.1.1 hs (h.cv g2), bd_s]; rfl
theorem c_due (h : PS ad κ pr tr pa su v K) (id : Int32) : P_X6_canDeliver κ (ad 0) id = some (rC (rSu v id (fDue v))) := by
  unfold P_X6_canDeliver rSu
  rw [X6_existing h]
  cases hf : fd v id with
  | none => rfl
  | some s =>
    obtain ⟨hs, -⟩ := fd_some hf
    have m6 := h.2.2.2.1.1.2.1.2.2
    obtain ⟨x, x1, x2⟩ := X4_ready h.1 h.2.1 h.2.2.1 h.2.2.2.1.1 hs (h.1.s6 h.2.1 (by omega))
    simp only []
    rw [bdx_o, h.wear hs, bd_s, x1, bd_s]
    unfold fDue
    rcases x2 with ⟨y1, y2⟩ | ⟨y1, y2⟩
    · rw [y1, ck_t (Or.inr rfl), if_pos (pb_t.mpr y2)]; rfl
    · rw [y1, ck_t (Or.inl rfl), if_neg (fun z => y2 (pb_t.mp z))]; rfl
theorem m_sewn (hi : ∀ a b, ad a = ad b → a = b) (h : PS ad κ pr tr pa su v K) (id : Int32) : rM ad κ (rSu v id (fSewn v)) (P_X7_sewnSleeves κ (ad 20) id) := by
  unfold P_X7_sewnSleeves P_X7_sewnSleeves_14 rSu
  have hG := h.2.2.2.1.1
  have m6 := hG.2.1.2.2
  rw [h.find, bd_s]
  cases hf : fd v id with
  | none =>
    obtain ⟨h1, h2, h3⟩ := h.thr hi 1
    simp only []
    rw [if_neg nneg1, bnd_e, h2, if_neg (by decide)]
    exact ⟨_, _, rfl, h3, h2⟩
  | some s =>
    obtain ⟨hs, -⟩ := fd_some hf
    obtain ⟨h1, h2, h3⟩ := h.thr hi 0
    have hf2 := h1.find id
    rw [hf] at hf2
    simp only [] at hf2
    simp only []
    rw [if_pos (oN_0 (by omega)), bnd_e, h2, if_pos rfl, hf2, bd_s, h1.ms.count h1.1 hG hs, bd_s]
    exact ⟨_, _, rfl, h3, rfl, h2⟩
theorem m_left (hi : ∀ a b, ad a = ad b → a = b) (h : PS ad κ pr tr pa su v K) (id : Int32) : rM ad κ (rSu v id (fLeft v)) (P_X7_sleevesLeft κ (ad 20) id) := by
  unfold P_X7_sleevesLeft P_X7_sleevesLeft_14 rSu
  have hG := h.2.2.2.1.1
  have m6 := hG.2.1.2.2
  rw [h.find, bd_s]
  cases hf : fd v id with
  | none =>
    obtain ⟨h1, h2, h3⟩ := h.thr hi 1
    simp only []
    rw [if_neg nneg1, bnd_e, h2, if_neg (by decide)]
    exact ⟨_, _, rfl, h3, h2⟩
  | some s =>
    obtain ⟨hs, -⟩ := fd_some hf
    obtain ⟨h1, h2, h3⟩ := h.thr hi 0
    have hf2 := h1.find id
    rw [hf] at hf2
    simp only [] at hf2
    simp only []
    rw [if_pos (oN_0 (by omega)), bnd_e, h2, if_pos rfl, hf2, bd_s, h1.ms.sleeves h1.1 hG hs, bd_s, bd_s, h1.ms.count h1.1 hG hs, bd_s]
    exact ⟨_, _, rfl, h3, rfl, h2⟩
theorem m_price (hi : ∀ a b, ad a = ad b → a = b) (h : PS ad κ pr tr pa su v K) (id : Int32) : rM ad κ (rSu v id (wor v)) (P_X7_price κ (ad 20) id) := by
  unfold P_X7_price P_X7_price_14 rSu
  have hG := h.2.2.2.1.1
  have m6 := hG.2.1.2.2
  rw [h.find, bd_s]
  cases hf : fd v id with
  | none =>
    obtain ⟨h1, h2, h3⟩ := h.thr hi 1
    simp only []
    rw [if_neg nneg1, bnd_e, h2, if_neg (by decide)]
    exact ⟨_, _, rfl, h3, h2⟩
  | some s =>
    obtain ⟨hs, -⟩ := fd_some hf
    obtain ⟨h1, h2, h3⟩ := h.thr hi 0
    have hf2 := h1.find id
    rw [hf] at hf2
    simp only [] at hf2
    simp only []
    rw [if_pos (oN_0 (by omega)), bnd_e, h2, if_pos rfl, hf2, bd_s, h1.ms.worth h1.1 hG hs, bd_s]
    exact ⟨_, _, rfl, h3, rfl, h2⟩
theorem m_due (hi : ∀ a b, ad a = ad b → a = b) (h : PS ad κ pr tr pa su v K) (id : Int32) : rM ad κ (rSu v id (fDue v)) (P_X7_canDeliver κ (ad 20) id) := by
  unfold P_X7_canDeliver P_X7_canDeliver_14 rSu
  have hG := h.2.2.2.1.1
  have m6 := hG.2.1.2.2
  rw [h.find, bd_s]
  cases hf : fd v id with
  | none =>
    obtain ⟨h1, h2, h3⟩ := h.thr hi 1
    simp only []
    rw [if_neg nneg1, bnd_e, h2, if_neg (by decide)]
    exact ⟨_, _, rfl, h3, h2⟩
  | some s =>
    obtain ⟨hs, -⟩ := fd_some hf
    obtain ⟨h1, h2, h3⟩ := h.thr hi 0
    have hf2 := h1.find id
    rw [hf] at hf2
    simp only [] at hf2
    obtain ⟨x, x1, x2⟩ := h1.ms.due h1.1 hG hs
    simp only []
    rw [if_pos (oN_0 (by omega)), bnd_e, h2, if_pos rfl, hf2, bd_s, x1, bd_s]
    unfold fDue
    rcases x2 with ⟨y1, y2⟩ | ⟨y1, y2⟩
    · rw [if_pos (pb_t.mpr y2), y1, if_neg (by decide)]
      exact ⟨_, _, rfl, h3, rfl, h2⟩
    · rw [if_neg (show ¬ pb (dueP v s) = true from fun z => y2 (pb_t.mp z)), y1, if_pos rfl]
      exact ⟨_, _, rfl, h3, rfl, h2⟩
theorem m_need (hi : ∀ a b, ad a = ad b → a = b) (h : PS ad κ pr tr pa su v K) (id : Int32) : rM ad κ (rSu v id (fNeed v)) (P_X7_clothNeeded κ (ad 20) id) := by
  unfold P_X7_clothNeeded P_X7_clothNeeded_14 rSu
  have hG := h.2.2.2.1.1
  have m6 := hG.2.1.2.2
  rw [h.find, bd_s]
  cases hf : fd v id with
  | none =>
    obtain ⟨h1, h2, h3⟩ := h.thr hi 1
    simp only []
    rw [if_neg nneg1, bnd_e, h2, if_neg (by decide)]
    exact ⟨_, _, rfl, h3, h2⟩
  | some s =>
    obtain ⟨hs, -⟩ := fd_some hf
    obtain ⟨h1, h2, h3⟩ := h.thr hi 0
    have hf2 := h1.find id
    rw [hf] at hf2
    simp only [] at hf2
    have hn := X7_needs (κ := kU κ (ad 20) 0 (.int 0)) (m := ad 20) (s := s) (by rw [h1.ms.mv h1.1]; exact hG) (by rw [h1.ms.mv h1.1]; exact hs)
    rw [h1.ms.mv h1.1] at hn
    simp only []
    rw [if_pos (oN_0 (by omega)), bnd_e, h2, if_pos rfl, hf2, bd_s, hn]
    exact ⟨_, _, rfl, h3, rfl, h2⟩
theorem m_needd (hi : ∀ a b, ad a = ad b → a = b) (h : PS ad κ pr tr pa su v K) (id : Int32) : rM ad κ (rSu v id (fNeed v)) (P_X7_clothNeededByDifference κ (ad 20) id) := by
  obtain ⟨y, κ', h1, h2⟩ := m_need hi h id
  unfold P_X7_clothNeededByDifference
  rw [h1, bd2_s]
  exact ⟨y, κ', rfl, h2⟩
/-- is one sleeve before another -/
noncomputable def rBef (v : Nat → Int32) (id a b : Int32) : rI := match fd v id with
  | none => .error ("java/util/NoSuchElementException", 1)
  | some s => if 0 ≤ a ∧ a < oN (sl v s) then (if 0 ≤ b ∧ b < oN (sl v s) then .ok (if pb (rch v s (ix a) (ix b)) = true then 1 else 0) else .error ("java/lang/IndexOutOfBoundsException", 2)) else .error ("java/lang/IndexOutOfBoundsException", 2)
theorem c_bef (h : PS ad κ pr tr pa su v K) (id a b : Int32) : P_X6_isBefore κ (ad 0) id a b = some (rC (rBef v id a b)) := by
  unfold P_X6_isBefore rBef
  rw [X6_exSleeve h, X6_exSleeve h]
  cases hf : fd v id with
  | none => rfl
  | some s =>
    obtain ⟨hs, -⟩ := fd_some hf
    have hG := h.2.2.2.1.1
    have h16 := (hG.sl16 hs).1
    simp only []
    by_cases g : 0 ≤ a ∧ a < oN (sl v s)
    · rw [if_pos g, bdx_o, if_pos g]
      by_cases q : 0 ≤ b ∧ b < oN (sl v s)
      · obtain ⟨p, p1, p2, p3⟩ := slv h16 g
        obtain ⟨r, r1, r2, r3⟩ := slv h16 q
        obtain ⟨y, y1, y2, y3⟩ := SV_before (h.sv hs) hG hs p3 r3
        rw [← p1, ← r1] at y1
        rw [if_pos q, bdx_o, y1, bd_s, if_pos q, p2, r2]
        by_cases z : rch v s p r
        · rw [y3.mpr z, ck_t (Or.inr rfl), if_pos (pb_t.mpr z)]; rfl
        · have y0 : y = 0 := by
            rcases y2 with e | e
            · exact e
            · exact absurd (y3.mp e) z
          rw [y0, ck_t (Or.inl rfl), if_neg (fun w => z (pb_t.mp w))]; rfl
      · rw [if_neg q, bdx_e, if_neg q]; rfl
    · rw [if_neg g, bdx_e, if_neg g]; rfl
theorem m_bef (hi : ∀ a b, ad a = ad b → a = b) (h : PS ad κ pr tr pa su v K) (id a b : Int32) : rM ad κ (rBef v id a b) (P_X7_isBefore κ (ad 20) id a b) := by
  unfold P_X7_isBefore rBef
  have hG := h.2.2.2.1.1
  have m6 := hG.2.1.2.2
  obtain ⟨t, κ1, q1, q2, q3, q4, q5⟩ := m_looks hi h id a
  rw [q1, bd2_s]
  cases hf : fd v id with
  | none =>
    rw [hf] at q5
    simp only [] at q5
    subst q5
    rw [if_neg (by decide)]
    exact ⟨_, _, rfl, q3, q4⟩
  | some s =>
    obtain ⟨hs, -⟩ := fd_some hf
    have h16 := (hG.sl16 hs).1
    rw [hf] at q5
    simp only [] at q5 ⊢
    by_cases g : 0 ≤ a ∧ a < oN (sl v s)
    · obtain ⟨p, p1, p2, p3⟩ := slv h16 g
      rw [if_pos g] at q5
      subst q5
      obtain ⟨t, κ2, z1, z2, z3, z4, z5⟩ := m_looks hi q2 id b
      rw [hf] at z5
      simp only [] at z5
      rw [if_pos rfl, z1, bd2_s, if_pos g]
      by_cases q : 0 ≤ b ∧ b < oN (sl v s)
      · obtain ⟨r, r1, r2, r3⟩ := slv h16 q
        rw [if_pos q] at z5
        subst z5
        have hf2 := z2.find id
        rw [hf] at hf2
        simp only [] at hf2
        obtain ⟨R, w1, w2⟩ := X7_behind (κ := κ2) (m := ad 20) (s := s) (x := p) (by rw [z2.ms.mv z2.1]; exact hG) (by rw [z2.ms.mv z2.1]; exact hs) (by omega)
        rw [z2.ms.mv z2.1] at w2
        rw [← p1] at w1
        rw [if_pos rfl, hf2, bd_s, w1, bd_s, if_pos q, p2, r2, r1]
        by_cases y : rch v s p r
        · rw [if_pos ((b_cont (by omega)).mpr ((w2 r (by omega)).mpr y)), if_pos (pb_t.mpr y)]
          exact ⟨_, _, rfl, q3.trans z3, rfl, z4⟩
        · rw [if_neg (fun c => y ((w2 r (by omega)).mp ((b_cont (by omega)).mp c))), if_neg (fun c => y (pb_t.mp c))]
          exact ⟨_, _, rfl, q3.trans z3, rfl, z4⟩
      · rw [if_neg q] at z5
        subst z5
        rw [if_neg q, if_neg (by decide)]
        exact ⟨_, _, rfl, q3.trans z3, z4⟩
    · rw [if_neg g] at q5
      subst q5
      rw [if_neg g, if_neg (by decide)]
      exact ⟨_, _, rfl, q3, q4⟩
/-- how many rounds are left: the one number that the waves give -/
theorem rounds_one {v : Nat → Int32} {s m m' : Nat} (h : ∀ l, l < sl v s → Tk (dmB v s) (sew0 v s) m l = true) (h2 : ∀ j, j < m → ∃ l, l < sl v s ∧ Tk (dmB v s) (sew0 v s) j l = false) (g : ∀ l, l < sl v s → Tk (dmB v s) (sew0 v s) m' l = true) (g2 : ∀ j, j < m' → ∃ l, l < sl v s ∧ Tk (dmB v s) (sew0 v s) j l = false) : m = m' := by
  rcases Nat.lt_trichotomy m m' with e | e | e
  · obtain ⟨l, l1, l2⟩ := g2 m e
    rw [h l l1] at l2; cases l2
  · exact e
  · obtain ⟨l, l1, l2⟩ := h2 m' e
    rw [g l l1] at l2; cases l2
/-- rounds, class and model together -/
theorem cm_rounds (hi : ∀ a b, ad a = ad b → a = b) (h : PS ad κ pr tr pa su v K) (id : Int32) : ∃ r : rI, (∀ κ0, PS ad κ0 pr tr pa su v K → P_X6_rounds κ0 (ad 0) id = some (rC r)) ∧ rM ad κ r (P_X7_rounds κ (ad 20) id) ∧ (∀ E t, r = .error (E, t) → E = "java/util/NoSuchElementException" ∧ t = 1) := by
  have hG := h.2.2.2.1.1
  have m6 := hG.2.1.2.2
  cases hf : fd v id with
  | none =>
    obtain ⟨h1, h2, h3⟩ := h.thr hi 1
    refine ⟨.error ("java/util/NoSuchElementException", 1), fun κ0 h0 => ?_, ?_, fun E t e => ?_⟩
    · unfold P_X6_rounds
      rw [X6_existing h0, hf]; rfl
    · unfold P_X7_rounds P_X7_rounds_14
      rw [h.find, hf]
      simp only []
      rw [bd_s, if_neg nneg1, bnd_e, h2, if_neg (by decide)]
      exact ⟨_, _, rfl, h3, h2⟩
    · injection e with e
      injection e with e1 e2
      exact ⟨e1.symm, e2.symm⟩
  | some s =>
    obtain ⟨hs, -⟩ := fd_some hf
    have hac := (h.2.2.2.1.2.2.2.1 s hs).2.2.1
    obtain ⟨h1, h2, h3⟩ := h.thr hi 0
    have hf2 := h1.find id
    rw [hf] at hf2
    simp only [] at hf2
    obtain ⟨κ2, a1, a2, a3⟩ := X7_sorts hi h1.1 (h1.ms.mv h1.1) hG hs
    have hP2 := a2.pt h1.1
    have hF0 : ∀ (q i f : Nat) (κ3 : jKt), i + q = 16 → q < f → Fr ad (fun n => n = 26) κ2 κ3 → (∀ l, l < i → iS ad κ3 26 l = 0) → ∃ κ4, P_X7_rounds_44 (ad 20) (oN s) (oN (ordS v s).length) 0 f κ3 (oN i) = P_X7_rounds_68 (ad 20) (oN s) (oN (ordS v s).length) 4000 κ4 0 0 ∧ Fr ad (fun n => n = 26) κ2 κ4 ∧ ∀ l, l < 16 → iS ad κ4 26 l = 0 := by
      intro q
      induction q with
      | zero =>
        intro i f κ3 g1 g2 hF hZ
        obtain ⟨f, rfl⟩ : ∃ g, f = g + 1 := ⟨f - 1, by omega⟩
        have ei : i = 16 := by omega
        subst ei
        exact ⟨κ3, by rw [P_X7_rounds_44, if_pos (by decide)], hF, hZ⟩
      | succ q ih =>
        intro i f κ3 g1 g2 hF hZ
        obtain ⟨f, rfl⟩ : ∃ g, f = g + 1 := ⟨f - 1, by omega⟩
        have e1 : (oN i + 1 : Int32) = oN (i + 1) := oN_add i 1
        rw [P_X7_rounds_44, if_neg (by rw [show (16 : Int32) = oN 16 from rfl]; exact fun h => by have := (oN_le (by omega) (by omega)).mp h; omega), ck_t ((oN_jin (by omega)).mpr (by omega)), oN_ix (by omega), bnd_e, (hF.pt hP2).dn, e1]
        refine ih (i + 1) f _ (by omega) (by omega) (hF.trans (Fr.U hi (by unfold iSl; omega) rfl)) (fun l hl => ?_)
        rw [iS_U hi]
        by_cases e : l = i
        · rw [if_pos ⟨rfl, e⟩]
        · rw [if_neg (by omega)]; exact hZ l (by omega)
    obtain ⟨κ4, b1, b2, b3⟩ := hF0 16 0 4000 κ2 (by omega) (by omega) (Fr.refl κ2) (fun l hl => by omega)
    have hP4 := b2.pt hP2
    have hv4 : mv κ4 (ad 20) = v := by
      rw [hP4.mv]
      funext j
      rw [b2.i (n := 21) (by omega), a2.i (n := 21) (by omega)]
      exact h1.2.2.2.2 j
    obtain ⟨m, κ5, c1, c2, c3, c4, c5⟩ := X7_rounds68 hi hP4 hv4 hG hs hac (fun t ht => by rw [b2.i (n := 25) (by omega)]; exact a3 t ht) b3
    refine ⟨.ok (oN m), fun κ0 h0 => ?_, ?_, fun E t e => by cases e⟩
    · unfold P_X6_rounds
      rw [X6_existing h0, hf]
      simp only []
      rw [bdx_o, X4_rounds (h0.sv hs) hG hs c3 c4 c5, bd_s]; rfl
    · unfold P_X7_rounds P_X7_rounds_14
      rw [h.find, hf]
      simp only []
      have b1' : P_X7_rounds_44 (ad 20) (oN s) (oN (ordS v s).length) 0 4000 κ2 0 = P_X7_rounds_68 (ad 20) (oN s) (oN (ordS v s).length) 4000 κ4 0 0 := b1
      rw [bd_s, if_pos (oN_0 (by omega)), bnd_e, h2, if_pos rfl, hf2, bd_s, a1, bd2_s, b1', c1]
      have zz : ZF ad κ κ5 := (h3.trans (ZF.fr a2 (fun n hn j _ => by unfold Zf; omega))).trans ((ZF.fr b2 (fun n hn j _ => by unfold Zf; omega)).trans (ZF.fr c2 (fun n hn j _ => by unfold Zf; omega)))
      refine ⟨_, _, rfl, zz, rfl, ?_⟩
      rw [c2.i (n := 20) (by omega), b2.i (n := 20) (by omega), a2.i (n := 20) (by omega)]
      exact h2
end READ2
