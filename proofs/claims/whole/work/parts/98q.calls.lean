/-! ===== layer 3: the calls of the law, one by one: readers (begun by a program) ===== -/
section CALLS
variable {ad : Nat → Nat} {κ κ1 κ2 : jKt} {pr tr : Nat} {pa : Nat → Nat} {su : Nat → Nat → Nat} {v : Nat → Int32} {K : Nat}
/-- what a reader may throw, and the law's number for it -/
def T1 (r : rI) (E1 : String) : Prop := ∀ E t, r = .error (E, t) → E = E1 ∧ t = 1
def T2 (r : rI) (E1 E2 : String) : Prop := ∀ E t, r = .error (E, t) → (E = E1 ∧ t = 1) ∨ (E = E2 ∧ t = 2)
def T3 (r : rI) (E1 E2 E3 : String) : Prop := ∀ E t, r = .error (E, t) → (E = E1 ∧ t = 1) ∨ (E = E2 ∧ t = 2) ∨ (E = E3 ∧ t = 3)
theorem rI_e {E E' : String} {t t' : Int32} (h : (Except.error (E, t) : rI) = .error (E', t')) : E' = E ∧ t' = t := by
  injection h with h
  injection h with h1 h2
  exact ⟨h1.symm, h2.symm⟩
theorem LS_pure (hi : ∀ a b, ad a = ad b → a = b) (hI : INV ad κ K) (hp : PS ad κ pr tr pa su v K) {r : rI} {cc : Option (Except String Int32)} {f : String → Option (Int32 × jKt)} {md : jKt → Option (Int32 × jKt)} (hc : cc = some (rC r)) (hf : ∀ E t, r = .error (E, t) → f E = some (t, κ) ∧ t ≠ 0) (hmd : ∀ κ2, PS ad κ2 pr tr pa su v K → rM ad κ2 r (md κ2)) :
    LSt ad K (bdx cc f fun y => bnd (kU κ (ad 40) (ix 0) (.long y.toInt64)) fun κ17 => some (0, κ17)) md := by
  refine LS_read hi hI hp (ZF.refl κ) ?_ hmd
  rw [hc]
  cases r with
  | error p => obtain ⟨E, t⟩ := p; exact hf E t rfl
  | ok y => rfl
theorem LB_pure (hi : ∀ a b, ad a = ad b → a = b) (hI : INV ad κ K) (hp : PS ad κ pr tr pa su v K) {r : rI} {cc : Option (Except String Int32)} {f : String → Option (Int32 × jKt)} {md : jKt → Option (Int32 × jKt)} (hc : cc = some (rC r)) (hf : ∀ E t, r = .error (E, t) → f E = some (t, κ) ∧ t ≠ 0) (hmd : ∀ κ2, PS ad κ2 pr tr pa su v K → rM ad κ2 r (md κ2)) :
    LBt ad K (bdx cc f fun y => if y = 0 then bnd (kU κ (ad 40) (ix 0) (.long 0)) (fun κ17 => some (0, κ17)) else bnd (kU κ (ad 40) (ix 0) (.long 1)) fun κ17 => some (0, κ17)) md := by
  refine LB_read hi hI hp (ZF.refl κ) ?_ hmd
  rw [hc]
  cases r with
  | error p => obtain ⟨E, t⟩ := p; exact hf E t rfl
  | ok y =>
    show (if y = 0 then _ else _) = _
    by_cases e : y = 0
    · rw [if_pos e, if_pos e]; rfl
    · rw [if_neg e, if_neg e]; rfl
theorem LS_two (hi : ∀ a b, ad a = ad b → a = b) (hI : INV ad κ K) (hp : PS ad κ pr tr pa su v K) {r : rI} {cc : Option (Except String Int32 × jKt)} {f : String → jKt → Option (Int32 × jKt)} {md : jKt → Option (Int32 × jKt)} (hc : ∃ κ1, cc = some (rC r, κ1) ∧ ZF ad κ κ1) (hf : ∀ E t κ1, r = .error (E, t) → f E κ1 = some (t, κ1) ∧ t ≠ 0) (hmd : ∀ κ2, PS ad κ2 pr tr pa su v K → rM ad κ2 r (md κ2)) :
    LSt ad K (bdx2 cc f fun y κ20 => bnd (kU κ20 (ad 40) (ix 0) (.long y.toInt64)) fun κ17 => some (0, κ17)) md := by
  obtain ⟨κ1, c1, c2⟩ := hc
  refine LS_read (κ1 := κ1) hi hI hp c2 ?_ hmd
  rw [c1]
  cases r with
  | error p => obtain ⟨E, t⟩ := p; exact hf E t κ1 rfl
  | ok y => rfl
theorem f1_of {r : rI} {E1 : String} (h : T1 r E1) {κ : jKt} : ∀ E t, r = .error (E, t) → (if E = E1 then some ((1 : Int32), κ) else none) = some (t, κ) ∧ t ≠ 0 := by
  intro E t e
  obtain ⟨h1, h2⟩ := h E t e
  subst h1; subst h2
  exact ⟨if_pos rfl, by decide⟩
theorem f2_of {r : rI} {E1 E2 : String} (h : T2 r E1 E2) (n12 : E2 ≠ E1) {κ : jKt} : ∀ E t, r = .error (E, t) → (if E = E1 then some ((1 : Int32), κ) else if E = E2 then some (2, κ) else none) = some (t, κ) ∧ t ≠ 0 := by
  intro E t e
  rcases h E t e with ⟨h1, h2⟩ | ⟨h1, h2⟩
  · subst h1; subst h2
    exact ⟨if_pos rfl, by decide⟩
  · subst h1; subst h2
    exact ⟨by rw [if_neg n12, if_pos rfl], by decide⟩
theorem f3_of {r : rI} {E1 E2 E3 : String} (h : T3 r E1 E2 E3) (n12 : E2 ≠ E1) (n13 : E3 ≠ E1) (n23 : E3 ≠ E2) {κ : jKt} : ∀ E t, r = .error (E, t) → (if E = E1 then some ((1 : Int32), κ) else if E = E2 then some (2, κ) else if E = E3 then some (3, κ) else none) = some (t, κ) ∧ t ≠ 0 := by
  intro E t e
  rcases h E t e with ⟨h1, h2⟩ | ⟨h1, h2⟩ | ⟨h1, h2⟩
  · subst h1; subst h2
    exact ⟨if_pos rfl, by decide⟩
  · subst h1; subst h2
    exact ⟨by rw [if_neg n12, if_pos rfl], by decide⟩
  · subst h1; subst h2
    exact ⟨by rw [if_neg n13, if_neg n23, if_pos rfl], by decide⟩
theorem s_io_ns : "java/lang/IndexOutOfBoundsException" ≠ "java/util/NoSuchElementException" := by decide
theorem s_is_ns : "java/lang/IllegalStateException" ≠ "java/util/NoSuchElementException" := by decide
theorem s_is_io : "java/lang/IllegalStateException" ≠ "java/lang/IndexOutOfBoundsException" := by decide
theorem T_rStock (v : Nat → Int32) (c l : Int32) : T1 (rStock v c) "java/lang/IndexOutOfBoundsException" := by
  intro E t e
  unfold rStock at e
  split at e
  · cases e
  · exact rI_e e
theorem T_rPairs (v : Nat → Int32) (c l : Int32) : T1 (rPairs v c) "java/lang/IndexOutOfBoundsException" := by
  intro E t e
  unfold rPairs at e
  split at e
  · cases e
  · exact rI_e e
theorem T_rLeg (v : Nat → Int32) (c l : Int32) : T1 (rLeg v c l) "java/lang/IndexOutOfBoundsException" := by
  intro E t e
  unfold rLeg at e
  split at e
  · cases e
  · exact rI_e e
theorem T_rMir (v : Nat → Int32) (c l : Int32) : T1 (rMir v c l) "java/lang/IndexOutOfBoundsException" := by
  intro E t e
  unfold rMir at e
  split at e
  · cases e
  · exact rI_e e
theorem T_rIsM (v : Nat → Int32) (c l : Int32) : T1 (rIsM v c) "java/lang/IndexOutOfBoundsException" := by
  intro E t e
  unfold rIsM at e
  split at e
  · cases e
  · exact rI_e e
theorem T_rAt (v : Nat → Int32) (p : Int32) : T1 (rAt v p) "java/util/NoSuchElementException" := by
  intro E t e
  unfold rAt at e
  split at e
  · cases e
  · exact rI_e e
theorem T_rOf (v : Nat → Int32) (id : Int32) (k : Nat) : T1 (rOf v id k) "java/util/NoSuchElementException" := by
  intro E t e
  unfold rOf at e
  split at e
  · exact rI_e e
  · cases e
theorem T_rSu (v : Nat → Int32) (id : Int32) (f : Nat → Int32) : T1 (rSu v id f) "java/util/NoSuchElementException" := by
  intro E t e
  unfold rSu at e
  split at e
  · exact rI_e e
  · cases e
theorem T_rByL (v : Nat → Int32) (id : Int32) : T1 (rByL v id) "java/util/NoSuchElementException" := by
  intro E t e
  unfold rByL at e
  split at e
  · exact rI_e e
  · cases e
theorem T_rSt (v : Nat → Int32) (id l : Int32) : T2 (rSt v id l) "java/util/NoSuchElementException" "java/lang/IndexOutOfBoundsException" := by
  intro E t e
  unfold rSt at e
  split at e
  · exact Or.inl (rI_e e)
  · split at e
    · cases e
    · exact Or.inr (rI_e e)
theorem T_rOrd (v : Nat → Int32) (id l : Int32) : T2 (rOrd v id l) "java/util/NoSuchElementException" "java/lang/IndexOutOfBoundsException" := by
  intro E t e
  unfold rOrd at e
  split at e
  · exact Or.inl (rI_e e)
  · split at e
    · cases e
    · exact Or.inr (rI_e e)
theorem T_rBef (v : Nat → Int32) (id a b : Int32) : T2 (rBef v id a b) "java/util/NoSuchElementException" "java/lang/IndexOutOfBoundsException" := by
  intro E t e
  unfold rBef at e
  split at e
  · exact Or.inl (rI_e e)
  · split at e
    · split at e
      · cases e
      · exact Or.inr (rI_e e)
    · exact Or.inr (rI_e e)
theorem T_rPc (v : Nat → Int32) (id l : Int32) (f : Nat → Nat → Int32) : T3 (rPc v id l f) "java/util/NoSuchElementException" "java/lang/IndexOutOfBoundsException" "java/lang/IllegalStateException" := by
  intro E t e
  unfold rPc at e
  split at e
  · exact Or.inl (rI_e e)
  · split at e
    · split at e
      · exact Or.inr (Or.inr (rI_e e))
      · cases e
    · exact Or.inr (Or.inl (rI_e e))
theorem l_stock (hi : ∀ a b, ad a = ad b → a = b) (hI : INV ad κ K) (c : Int32) : LSt ad K (P_L_stock κ (ad 0) c (ad 40)) (fun κ1 => P_X7_stock κ1 (ad 20) c) := by
  obtain ⟨⟨v, ch, ps, hs, sv, h1, h2, h3⟩, -⟩ := id hI
  obtain ⟨pr, tr, pa, su, hp, -⟩ := h1.see h2 h3
  exact LS_pure hi hI hp (c_stock hp c) (f1_of (T_rStock v c c)) (fun κ2 h => m_stock hi h c)
theorem l_pairs (hi : ∀ a b, ad a = ad b → a = b) (hI : INV ad κ K) (c : Int32) : LSt ad K (P_L_pairs κ (ad 0) c (ad 40)) (fun κ1 => P_X7_pairs κ1 (ad 20) c) := by
  obtain ⟨⟨v, ch, ps, hs, sv, h1, h2, h3⟩, -⟩ := id hI
  obtain ⟨pr, tr, pa, su, hp, -⟩ := h1.see h2 h3
  exact LS_pure hi hI hp (c_pairs hp c) (f1_of (T_rPairs v c c)) (fun κ2 h => m_pairs hi h c)
theorem l_legLength (hi : ∀ a b, ad a = ad b → a = b) (hI : INV ad κ K) (c l : Int32) : LSt ad K (P_L_legLength κ (ad 0) c l (ad 40)) (fun κ1 => P_X7_legLength κ1 (ad 20) c l) := by
  obtain ⟨⟨v, ch, ps, hs, sv, h1, h2, h3⟩, -⟩ := id hI
  obtain ⟨pr, tr, pa, su, hp, -⟩ := h1.see h2 h3
  exact LS_pure hi hI hp (c_leg hp c l) (f1_of (T_rLeg v c l)) (fun κ2 h => m_leg hi h c l)
theorem l_mirrorLeg (hi : ∀ a b, ad a = ad b → a = b) (hI : INV ad κ K) (c l : Int32) : LSt ad K (P_L_mirrorLeg κ (ad 0) c l (ad 40)) (fun κ1 => P_X7_mirrorLeg κ1 (ad 20) c l) := by
  obtain ⟨⟨v, ch, ps, hs, sv, h1, h2, h3⟩, -⟩ := id hI
  obtain ⟨pr, tr, pa, su, hp, -⟩ := h1.see h2 h3
  exact LS_pure hi hI hp (c_mir hp c l) (f1_of (T_rMir v c l)) (fun κ2 h => m_mir hi h c l)
theorem l_isMirrored (hi : ∀ a b, ad a = ad b → a = b) (hI : INV ad κ K) (c : Int32) : LBt ad K (P_L_isMirrored κ (ad 0) c (ad 40)) (fun κ1 => P_X7_isMirrored κ1 (ad 20) c) := by
  obtain ⟨⟨v, ch, ps, hs, sv, h1, h2, h3⟩, -⟩ := id hI
  obtain ⟨pr, tr, pa, su, hp, -⟩ := h1.see h2 h3
  exact LB_pure hi hI hp (c_isM hp c) (f1_of (T_rIsM v c c)) (fun κ2 h => m_isM hi h c)
theorem l_customerByLegs (hi : ∀ a b, ad a = ad b → a = b) (hI : INV ad κ K) (c : Int32) : LSt ad K (P_L_customerByLegs κ (ad 0) c (ad 40)) (fun κ1 => P_X7_customerByLegs κ1 (ad 20) c) := by
  obtain ⟨⟨v, ch, ps, hs, sv, h1, h2, h3⟩, -⟩ := id hI
  obtain ⟨pr, tr, pa, su, hp, -⟩ := h1.see h2 h3
  exact LS_pure hi hI hp (c_byL hp c) (f1_of (T_rByL v c)) (fun κ2 h => m_byL hi h c)
theorem l_suitAt (hi : ∀ a b, ad a = ad b → a = b) (hI : INV ad κ K) (c : Int32) : LSt ad K (P_L_suitAt κ (ad 0) c (ad 40)) (fun κ1 => P_X7_suitAt κ1 (ad 20) c) := by
  obtain ⟨⟨v, ch, ps, hs, sv, h1, h2, h3⟩, -⟩ := id hI
  obtain ⟨pr, tr, pa, su, hp, -⟩ := h1.see h2 h3
  exact LS_pure hi hI hp (c_at hp c) (f1_of (T_rAt v c)) (fun κ2 h => m_at hi h c)
theorem m_two {md : jKt → Option (Int32 × jKt)} {r : rI} (h : rM ad κ r (md κ)) : rM ad κ r (bd2 (md κ) fun y8 κ9 => some (y8, κ9)) := by
  obtain ⟨y, κ', a1, a2⟩ := h
  exact ⟨y, κ', by rw [a1]; rfl, a2⟩
theorem l_customerOf (hi : ∀ a b, ad a = ad b → a = b) (hI : INV ad κ K) (c : Int32) : LSt ad K (P_L_customerOf κ (ad 0) c (ad 40)) (fun κ1 => P_X7_customerOf κ1 (ad 20) c) := by
  obtain ⟨⟨v, ch, ps, hs, sv, h1, h2, h3⟩, -⟩ := id hI
  obtain ⟨pr, tr, pa, su, hp, -⟩ := h1.see h2 h3
  exact LS_pure hi hI hp (c_of1 hp c) (f1_of (T_rOf v c 1)) (fun κ2 h => m_two (md := fun κ2 => P_X7_tellsOf κ2 (ad 20) c 1) (m_of hi h c (k := 1) (by omega)))
theorem l_clothOf (hi : ∀ a b, ad a = ad b → a = b) (hI : INV ad κ K) (c : Int32) : LSt ad K (P_L_clothOf κ (ad 0) c (ad 40)) (fun κ1 => P_X7_clothOf κ1 (ad 20) c) := by
  obtain ⟨⟨v, ch, ps, hs, sv, h1, h2, h3⟩, -⟩ := id hI
  obtain ⟨pr, tr, pa, su, hp, -⟩ := h1.see h2 h3
  exact LS_pure hi hI hp (c_of2 hp c) (f1_of (T_rOf v c 2)) (fun κ2 h => m_two (md := fun κ2 => P_X7_tellsOf κ2 (ad 20) c 2) (m_of hi h c (k := 2) (by omega)))
theorem l_demandCount (hi : ∀ a b, ad a = ad b → a = b) (hI : INV ad κ K) (c : Int32) : LSt ad K (P_L_demandCount κ (ad 0) c (ad 40)) (fun κ1 => P_X7_demandCount κ1 (ad 20) c) := by
  obtain ⟨⟨v, ch, ps, hs, sv, h1, h2, h3⟩, -⟩ := id hI
  obtain ⟨pr, tr, pa, su, hp, -⟩ := h1.see h2 h3
  exact LS_pure hi hI hp (c_of3 hp c) (f1_of (T_rOf v c 3)) (fun κ2 h => m_two (md := fun κ2 => P_X7_tellsOf κ2 (ad 20) c 3) (m_of hi h c (k := 3) (by omega)))
theorem l_sleeveState (hi : ∀ a b, ad a = ad b → a = b) (hI : INV ad κ K) (c l : Int32) : LSt ad K (P_L_sleeveState κ (ad 0) c l (ad 40)) (fun κ1 => P_X7_sleeveState κ1 (ad 20) c l) := by
  obtain ⟨⟨v, ch, ps, hs, sv, h1, h2, h3⟩, -⟩ := id hI
  obtain ⟨pr, tr, pa, su, hp, -⟩ := h1.see h2 h3
  exact LS_pure hi hI hp (c_st hp c l) (f2_of (T_rSt v c l) s_io_ns) (fun κ2 h => m_st hi h c l)
theorem l_sleeveLength (hi : ∀ a b, ad a = ad b → a = b) (hI : INV ad κ K) (c l : Int32) : LSt ad K (P_L_sleeveLength κ (ad 0) c l (ad 40)) (fun κ1 => P_X7_sleeveLength κ1 (ad 20) c l) := by
  obtain ⟨⟨v, ch, ps, hs, sv, h1, h2, h3⟩, -⟩ := id hI
  obtain ⟨pr, tr, pa, su, hp, -⟩ := h1.see h2 h3
  exact LS_pure hi hI hp (c_len hp c l) (f3_of (T_rPc v c l (fLen v)) s_io_ns s_is_ns s_is_io) (fun κ2 h => m_len hi h c l)
theorem l_doesFit (hi : ∀ a b, ad a = ad b → a = b) (hI : INV ad κ K) (c l : Int32) : LBt ad K (P_L_doesFit κ (ad 0) c l (ad 40)) (fun κ1 => P_X7_doesFit κ1 (ad 20) c l) := by
  obtain ⟨⟨v, ch, ps, hs, sv, h1, h2, h3⟩, -⟩ := id hI
  obtain ⟨pr, tr, pa, su, hp, -⟩ := h1.see h2 h3
  exact LB_pure hi hI hp (c_fit hp c l) (f3_of (T_rPc v c l (fFit v)) s_io_ns s_is_ns s_is_io) (fun κ2 h => m_fit hi h c l)
theorem l_sewnSleeves (hi : ∀ a b, ad a = ad b → a = b) (hI : INV ad κ K) (c : Int32) : LSt ad K (P_L_sewnSleeves κ (ad 0) c (ad 40)) (fun κ1 => P_X7_sewnSleeves κ1 (ad 20) c) := by
  obtain ⟨⟨v, ch, ps, hs, sv, h1, h2, h3⟩, -⟩ := id hI
  obtain ⟨pr, tr, pa, su, hp, -⟩ := h1.see h2 h3
  exact LS_pure hi hI hp (c_sewn hp c) (f1_of (T_rSu v c (fSewn v))) (fun κ2 h => m_sewn hi h c)
theorem l_isBefore (hi : ∀ a b, ad a = ad b → a = b) (hI : INV ad κ K) (c l m : Int32) : LBt ad K (P_L_isBefore κ (ad 0) c l m (ad 40)) (fun κ1 => P_X7_isBefore κ1 (ad 20) c l m) := by
  obtain ⟨⟨v, ch, ps, hs, sv, h1, h2, h3⟩, -⟩ := id hI
  obtain ⟨pr, tr, pa, su, hp, -⟩ := h1.see h2 h3
  exact LB_pure hi hI hp (c_bef hp c l m) (f2_of (T_rBef v c l m) s_io_ns) (fun κ2 h => m_bef hi h c l m)
theorem l_canDeliver (hi : ∀ a b, ad a = ad b → a = b) (hI : INV ad κ K) (c : Int32) : LBt ad K (P_L_canDeliver κ (ad 0) c (ad 40)) (fun κ1 => P_X7_canDeliver κ1 (ad 20) c) := by
  obtain ⟨⟨v, ch, ps, hs, sv, h1, h2, h3⟩, -⟩ := id hI
  obtain ⟨pr, tr, pa, su, hp, -⟩ := h1.see h2 h3
  exact LB_pure hi hI hp (c_due hp c) (f1_of (T_rSu v c (fDue v))) (fun κ2 h => m_due hi h c)
theorem l_price (hi : ∀ a b, ad a = ad b → a = b) (hI : INV ad κ K) (c : Int32) : LSt ad K (P_L_price κ (ad 0) c (ad 40)) (fun κ1 => P_X7_price κ1 (ad 20) c) := by
  obtain ⟨⟨v, ch, ps, hs, sv, h1, h2, h3⟩, -⟩ := id hI
  obtain ⟨pr, tr, pa, su, hp, -⟩ := h1.see h2 h3
  exact LS_pure hi hI hp (c_price hp c) (f1_of (T_rSu v c (wor v))) (fun κ2 h => m_price hi h c)
theorem l_sleevesLeft (hi : ∀ a b, ad a = ad b → a = b) (hI : INV ad κ K) (c : Int32) : LSt ad K (P_L_sleevesLeft κ (ad 0) c (ad 40)) (fun κ1 => P_X7_sleevesLeft κ1 (ad 20) c) := by
  obtain ⟨⟨v, ch, ps, hs, sv, h1, h2, h3⟩, -⟩ := id hI
  obtain ⟨pr, tr, pa, su, hp, -⟩ := h1.see h2 h3
  exact LS_pure hi hI hp (c_left hp c) (f1_of (T_rSu v c (fLeft v))) (fun κ2 h => m_left hi h c)
theorem l_sewingOrder (hi : ∀ a b, ad a = ad b → a = b) (hI : INV ad κ K) (c l : Int32) : LSt ad K (P_L_sewingOrder κ (ad 0) c l (ad 40)) (fun κ1 => P_X7_sewingOrder κ1 (ad 20) c l) := by
  obtain ⟨⟨v, ch, ps, hs, sv, h1, h2, h3⟩, -⟩ := id hI
  obtain ⟨pr, tr, pa, su, hp, -⟩ := h1.see h2 h3
  exact LS_two hi hI hp (c_ord hi hp c l) (fun E t κ1 e => f2_of (T_rOrd v c l) s_io_ns E t e) (fun κ2 h => m_ord hi h c l)
theorem l_sewingOrderByQueue (hi : ∀ a b, ad a = ad b → a = b) (hI : INV ad κ K) (c l : Int32) : LSt ad K (P_L_sewingOrderByQueue κ (ad 0) c l (ad 40)) (fun κ1 => P_X7_sewingOrderByQueue κ1 (ad 20) c l) := by
  obtain ⟨⟨v, ch, ps, hs, sv, h1, h2, h3⟩, -⟩ := id hI
  obtain ⟨pr, tr, pa, su, hp, -⟩ := h1.see h2 h3
  exact LS_two hi hI hp (c_ordQ hi hp c l) (fun E t κ1 e => f2_of (T_rOrd v c l) s_io_ns E t e) (fun κ2 h => m_ordQ hi h c l)
theorem l_clothNeeded (hi : ∀ a b, ad a = ad b → a = b) (hI : INV ad κ K) (c : Int32) : LSt ad K (P_L_clothNeeded κ (ad 0) c (ad 40)) (fun κ1 => P_X7_clothNeeded κ1 (ad 20) c) := by
  obtain ⟨⟨v, ch, ps, hs, sv, h1, h2, h3⟩, -⟩ := id hI
  obtain ⟨pr, tr, pa, su, hp, -⟩ := h1.see h2 h3
  exact LS_pure hi hI hp (c_need hp c) (f1_of (T_rSu v c (fNeed v))) (fun κ2 h => m_need hi h c)
theorem l_clothNeededByDifference (hi : ∀ a b, ad a = ad b → a = b) (hI : INV ad κ K) (c : Int32) : LSt ad K (P_L_clothNeededByDifference κ (ad 0) c (ad 40)) (fun κ1 => P_X7_clothNeededByDifference κ1 (ad 20) c) := by
  obtain ⟨⟨v, ch, ps, hs, sv, h1, h2, h3⟩, -⟩ := id hI
  obtain ⟨pr, tr, pa, su, hp, -⟩ := h1.see h2 h3
  exact LS_pure hi hI hp (c_needd hp c) (f1_of (T_rSu v c (fNeed v))) (fun κ2 h => m_needd hi h c)
/-- a number that is only told -/
def LNt (ad : Nat → Nat) (K : Nat) (cl : Option Int32) (md : Option (Int32 × jKt)) : Prop := ∃ x κ2, cl = some x ∧ md = some (x, κ2) ∧ INV ad κ2 K
theorem l_customerCount (hi : ∀ a b, ad a = ad b → a = b) (hI : INV ad κ K) : LNt ad K (P_X6_customerCount κ (ad 0)) (P_X7_customerCount κ (ad 20)) := by
  obtain ⟨⟨v, ch, ps, hs, sv, h1, h2, h3⟩, -⟩ := id hI
  obtain ⟨pr, tr, pa, su, hp, -⟩ := h1.see h2 h3
  obtain ⟨κ', a1, a2, a3⟩ := m_tells hi hp (k := 0) (by omega)
  have a1' : P_X7_tells κ (ad 20) 0 = some (v 0, κ') := a1
  have e : kI κ (ad (bR pr)) 2 = v 0 := hp.2.2.1.2.1.1
  refine ⟨v 0, κ', ?_, ?_, hI.zf a2.two⟩
  · unfold P_X6_customerCount
    rw [hp.p0, e]
  · unfold P_X7_customerCount
    rw [a1', bd2_s]
theorem l_suitCount (hi : ∀ a b, ad a = ad b → a = b) (hI : INV ad κ K) : LNt ad K (P_X6_suitCount κ (ad 0)) (P_X7_suitCount κ (ad 20)) := by
  obtain ⟨⟨v, ch, ps, hs, sv, h1, h2, h3⟩, -⟩ := id hI
  obtain ⟨pr, tr, pa, su, hp, -⟩ := h1.see h2 h3
  obtain ⟨κ', a1, a2, a3⟩ := m_tells hi hp (k := 1) (by omega)
  have a1' : P_X7_tells κ (ad 20) 1 = some (v 1, κ') := a1
  have e : kI κ (ad (bR pr)) 4 = v 1 := hp.2.2.1.2.1.2.1
  refine ⟨v 1, κ', ?_, ?_, hI.zf a2.two⟩
  · unfold P_X6_suitCount
    rw [hp.p0, e]
  · unfold P_X7_suitCount
    rw [a1', bd2_s]
theorem l_boughtTotal (hi : ∀ a b, ad a = ad b → a = b) (hI : INV ad κ K) : LNt ad K (P_X6_boughtTotal κ (ad 0)) (P_X7_boughtTotal κ (ad 20)) := by
  obtain ⟨⟨v, ch, ps, hs, sv, h1, h2, h3⟩, -⟩ := id hI
  obtain ⟨pr, tr, pa, su, hp, -⟩ := h1.see h2 h3
  obtain ⟨κ', a1, a2, a3⟩ := m_tells hi hp (k := 3) (by omega)
  have a1' : P_X7_tells κ (ad 20) 3 = some (v 3, κ') := a1
  have e : kI κ (ad (bR pr)) 6 = v 3 := hp.2.2.1.2.1.2.2.2.1
  refine ⟨v 3, κ', ?_, ?_, hI.zf a2.two⟩
  · unfold P_X6_boughtTotal
    rw [hp.p0, e]
  · unfold P_X7_boughtTotal
    rw [a1', bd2_s]
theorem l_wasteTotal (hi : ∀ a b, ad a = ad b → a = b) (hI : INV ad κ K) : LNt ad K (P_X6_wasteTotal κ (ad 0)) (P_X7_wasteTotal κ (ad 20)) := by
  obtain ⟨⟨v, ch, ps, hs, sv, h1, h2, h3⟩, -⟩ := id hI
  obtain ⟨pr, tr, pa, su, hp, -⟩ := h1.see h2 h3
  obtain ⟨κ', a1, a2, a3⟩ := m_tells hi hp (k := 4) (by omega)
  have a1' : P_X7_tells κ (ad 20) 4 = some (v 4, κ') := a1
  have e : kI κ (ad (bR pr)) 7 = v 4 := hp.2.2.1.2.1.2.2.2.2.1
  refine ⟨v 4, κ', ?_, ?_, hI.zf a2.two⟩
  · unfold P_X6_wasteTotal
    rw [hp.p0, e]
  · unfold P_X7_wasteTotal
    rw [a1', bd2_s]
theorem l_deliveredTotal (hi : ∀ a b, ad a = ad b → a = b) (hI : INV ad κ K) : LNt ad K (P_X6_deliveredTotal κ (ad 0)) (P_X7_deliveredTotal κ (ad 20)) := by
  obtain ⟨⟨v, ch, ps, hs, sv, h1, h2, h3⟩, -⟩ := id hI
  obtain ⟨pr, tr, pa, su, hp, -⟩ := h1.see h2 h3
  obtain ⟨κ', a1, a2, a3⟩ := m_tells hi hp (k := 5) (by omega)
  have a1' : P_X7_tells κ (ad 20) 5 = some (v 5, κ') := a1
  have e : kI κ (ad (bR pr)) 8 = v 5 := hp.2.2.1.2.1.2.2.2.2.2.1
  refine ⟨v 5, κ', ?_, ?_, hI.zf a2.two⟩
  · unfold P_X6_deliveredTotal
    rw [hp.p0, e]
  · unfold P_X7_deliveredTotal
    rw [a1', bd2_s]
theorem l_income (hi : ∀ a b, ad a = ad b → a = b) (hI : INV ad κ K) : LNt ad K (P_X6_income κ (ad 0)) (P_X7_income κ (ad 20)) := by
  obtain ⟨⟨v, ch, ps, hs, sv, h1, h2, h3⟩, -⟩ := id hI
  obtain ⟨pr, tr, pa, su, hp, -⟩ := h1.see h2 h3
  obtain ⟨κ', a1, a2, a3⟩ := m_tells hi hp (k := 6) (by omega)
  have a1' : P_X7_tells κ (ad 20) 6 = some (v 6, κ') := a1
  have e : kI κ (ad (bR pr)) 9 = v 6 := hp.2.2.1.2.1.2.2.2.2.2.2.1
  refine ⟨v 6, κ', ?_, ?_, hI.zf a2.two⟩
  · unfold P_X6_income
    rw [hp.p0, e]
  · unfold P_X7_income
    rw [a1', bd2_s]
theorem l_deliveredSuits (hi : ∀ a b, ad a = ad b → a = b) (hI : INV ad κ K) : LNt ad K (P_X6_deliveredSuits κ (ad 0)) (P_X7_deliveredSuits κ (ad 20)) := by
  obtain ⟨⟨v, ch, ps, hs, sv, h1, h2, h3⟩, -⟩ := id hI
  obtain ⟨pr, tr, pa, su, hp, -⟩ := h1.see h2 h3
  obtain ⟨κ', a1, a2, a3⟩ := m_tells hi hp (k := 7) (by omega)
  have a1' : P_X7_tells κ (ad 20) 7 = some (v 7, κ') := a1
  have e : kI κ (ad (bR pr)) 10 = v 7 := hp.2.2.1.2.1.2.2.2.2.2.2.2
  refine ⟨v 7, κ', ?_, ?_, hI.zf a2.two⟩
  · unfold P_X6_deliveredSuits
    rw [hp.p0, e]
  · unfold P_X7_deliveredSuits
    rw [a1', bd2_s]
theorem l_isConsistent (hi : ∀ a b, ad a = ad b → a = b) (hI : INV ad κ K) : ∃ x κ1 κ2, P_X6_isConsistent κ (ad 0) = some (x, κ1) ∧ P_X7_isConsistent κ1 (ad 20) = some (x, κ2) ∧ INV ad κ2 K := by
  obtain ⟨⟨v, ch, ps, hs, sv, h1, h2, h3⟩, -⟩ := id hI
  obtain ⟨pr, tr, pa, su, hp, -⟩ := h1.see h2 h3
  obtain ⟨κ1, a1, a2⟩ := c_cons hi hp
  obtain ⟨κ2, b1, b2⟩ := m_acc hi (hp.zf a2)
  exact ⟨_, κ1, κ2, a1, b1, hI.zf (a2.trans b2).two⟩
theorem l_rounds (hi : ∀ a b, ad a = ad b → a = b) (hI : INV ad κ K) (c : Int32) : LSt ad K (P_L_rounds κ (ad 0) c (ad 40)) (fun κ1 => P_X7_rounds κ1 (ad 20) c) := by
  obtain ⟨⟨v, ch, ps, hs, sv, h1, h2, h3⟩, -⟩ := id hI
  obtain ⟨pr, tr, pa, su, hp, -⟩ := h1.see h2 h3
  obtain ⟨r, r1, -, r3⟩ := cm_rounds hi hp c
  refine LS_pure hi hI hp (r1 κ hp) (f1_of r3) (fun κ2 h => ?_)
  obtain ⟨r', q1, q2, q3⟩ := cm_rounds hi h c
  have e : r' = r := by
    have a := q1 κ hp
    rw [r1 κ hp] at a
    injection a with a
    cases r with
    | error p =>
      cases r' with
      | error p' =>
        obtain ⟨E, t⟩ := p
        obtain ⟨E', t'⟩ := p'
        obtain ⟨z1, z2⟩ := r3 E t rfl
        obtain ⟨y1, y2⟩ := q3 E' t' rfl
        rw [z1, z2, y1, y2]
      | ok x => cases a
    | ok x =>
      cases r' with
      | error p' => obtain ⟨E', t'⟩ := p'; cases a
      | ok x' => injection a with a; rw [a]
  rw [← e]; exact q2
end CALLS
