/-! ===== layer 3: the shop: the trial is adopted ===== -/
section ADOPT
variable {ad : Nat → Nat} {κ κ1 : jKt} {pr tr x : Nat} {pa : Nat → Nat} {su : Nat → Nat → Nat} {v : Nat → Int32}
def paU (pa : Nat → Nat) (i x : Nat) : Nat → Nat := fun j => if j = i then x else pa j
theorem PT_pr (hi : ∀ a b, ad a = ad b → a = b) (h : PT ad κ pr tr pa su)  : PT ad (kU κ (ad 0) 0 (.ref (ad (bR x)))) x tr pa su := by
  have key : ∀ b k, ¬ (b = 0 ∧ k = 0) → kR (kU κ (ad 0) 0 (.ref (ad (bR x)))) (ad b) k = kR κ (ad b) k := fun b k hb => kR_sw hi hb
  obtain ⟨⟨a0, a1, a2, a3, a4, a5, a6⟩, b0, ⟨c0, c1, c2, c3, c4⟩, ⟨d0, d1, d2⟩, e0, f0⟩ := h
  refine ⟨⟨?_, ?_, ?_, ?_, ?_, ?_, ?_⟩, fun i2 hi8 => ?_, ⟨?_, ?_, ?_, ?_, ?_⟩, ⟨?_, ?_, ?_⟩, fun k hk => ?_, fun r2 hr => ?_⟩
  · rw [kR_Ur, if_pos ⟨rfl, rfl⟩]
  · rw [key _ _ (by omega)]; exact a1
  · rw [key _ _ (by omega)]; exact a2
  · rw [key _ _ (by omega)]; exact a3
  · rw [key _ _ (by omega)]; exact a4
  · rw [key _ _ (by omega)]; exact a5
  · rw [key _ _ (by omega)]; exact a6
  · rw [key _ _ (by omega)]; exact b0 i2 hi8
  · rw [key _ _ (by omega)]; exact c0
  · rw [key _ _ (by omega)]; exact c1
  · rw [key _ _ (by omega)]; exact c2
  · rw [key _ _ (by omega)]; exact c3
  · rw [key _ _ (by omega)]; exact c4
  · rw [key _ _ (by omega)]; exact d0
  · rw [key _ _ (by omega)]; exact d1
  · rw [key _ _ (by omega)]; exact d2
  · rw [key _ _ (by omega)]; exact e0 k hk
  · obtain ⟨⟨g0, g1, g2⟩, g3, g4, g5⟩ := f0 r2 hr
    refine ⟨⟨?_, ?_, ?_⟩, fun i2 h5 => ⟨?_, ?_⟩, fun i2 h6 => ⟨?_, (g4 i2 h6).2⟩, fun k h6 => ⟨?_, ?_, ?_⟩⟩
    · rw [key _ _ (by unfold bR; omega)]; exact g0
    · rw [key _ _ (by unfold bR; omega)]; exact g1
    · rw [key _ _ (by unfold bR; omega)]; exact g2
    · rw [key _ _ (by unfold bR; omega)]; exact (g3 i2 h5).1
    · rw [key _ _ (by unfold bR; omega)]; exact (g3 i2 h5).2
    · rw [key _ _ (by unfold bR; omega)]; exact (g4 i2 h6).1
    · rw [key _ _ (by unfold bR; omega)]; exact (g5 k h6).1
    · rw [key _ _ (by unfold bR; omega)]; exact (g5 k h6).2.1
    · rw [key _ _ (by unfold bR; omega)]; exact (g5 k h6).2.2
theorem PT_tr (hi : ∀ a b, ad a = ad b → a = b) (h : PT ad κ pr tr pa su)  : PT ad (kU κ (ad 0) 1 (.ref (ad (bR x)))) pr x pa su := by
  have key : ∀ b k, ¬ (b = 0 ∧ k = 1) → kR (kU κ (ad 0) 1 (.ref (ad (bR x)))) (ad b) k = kR κ (ad b) k := fun b k hb => kR_sw hi hb
  obtain ⟨⟨a0, a1, a2, a3, a4, a5, a6⟩, b0, ⟨c0, c1, c2, c3, c4⟩, ⟨d0, d1, d2⟩, e0, f0⟩ := h
  refine ⟨⟨?_, ?_, ?_, ?_, ?_, ?_, ?_⟩, fun i2 hi8 => ?_, ⟨?_, ?_, ?_, ?_, ?_⟩, ⟨?_, ?_, ?_⟩, fun k hk => ?_, fun r2 hr => ?_⟩
  · rw [key _ _ (by omega)]; exact a0
  · rw [kR_Ur, if_pos ⟨rfl, rfl⟩]
  · rw [key _ _ (by omega)]; exact a2
  · rw [key _ _ (by omega)]; exact a3
  · rw [key _ _ (by omega)]; exact a4
  · rw [key _ _ (by omega)]; exact a5
  · rw [key _ _ (by omega)]; exact a6
  · rw [key _ _ (by omega)]; exact b0 i2 hi8
  · rw [key _ _ (by omega)]; exact c0
  · rw [key _ _ (by omega)]; exact c1
  · rw [key _ _ (by omega)]; exact c2
  · rw [key _ _ (by omega)]; exact c3
  · rw [key _ _ (by omega)]; exact c4
  · rw [key _ _ (by omega)]; exact d0
  · rw [key _ _ (by omega)]; exact d1
  · rw [key _ _ (by omega)]; exact d2
  · rw [key _ _ (by omega)]; exact e0 k hk
  · obtain ⟨⟨g0, g1, g2⟩, g3, g4, g5⟩ := f0 r2 hr
    refine ⟨⟨?_, ?_, ?_⟩, fun i2 h5 => ⟨?_, ?_⟩, fun i2 h6 => ⟨?_, (g4 i2 h6).2⟩, fun k h6 => ⟨?_, ?_, ?_⟩⟩
    · rw [key _ _ (by unfold bR; omega)]; exact g0
    · rw [key _ _ (by unfold bR; omega)]; exact g1
    · rw [key _ _ (by unfold bR; omega)]; exact g2
    · rw [key _ _ (by unfold bR; omega)]; exact (g3 i2 h5).1
    · rw [key _ _ (by unfold bR; omega)]; exact (g3 i2 h5).2
    · rw [key _ _ (by unfold bR; omega)]; exact (g4 i2 h6).1
    · rw [key _ _ (by unfold bR; omega)]; exact (g5 k h6).1
    · rw [key _ _ (by unfold bR; omega)]; exact (g5 k h6).2.1
    · rw [key _ _ (by unfold bR; omega)]; exact (g5 k h6).2.2
theorem PT_pa (hi : ∀ a b, ad a = ad b → a = b) (h : PT ad κ pr tr pa su) {i : Nat} : PT ad (kU κ (ad 1) i (.ref (ad (bR x)))) pr tr (paU pa i x) su := by
  have key : ∀ b k, ¬ (b = 1 ∧ k = i) → kR (kU κ (ad 1) i (.ref (ad (bR x)))) (ad b) k = kR κ (ad b) k := fun b k hb => kR_sw hi hb
  obtain ⟨⟨a0, a1, a2, a3, a4, a5, a6⟩, b0, ⟨c0, c1, c2, c3, c4⟩, ⟨d0, d1, d2⟩, e0, f0⟩ := h
  refine ⟨⟨?_, ?_, ?_, ?_, ?_, ?_, ?_⟩, fun i2 hi8 => ?_, ⟨?_, ?_, ?_, ?_, ?_⟩, ⟨?_, ?_, ?_⟩, fun k hk => ?_, fun r2 hr => ?_⟩
  · rw [key _ _ (by omega)]; exact a0
  · rw [key _ _ (by omega)]; exact a1
  · rw [key _ _ (by omega)]; exact a2
  · rw [key _ _ (by omega)]; exact a3
  · rw [key _ _ (by omega)]; exact a4
  · rw [key _ _ (by omega)]; exact a5
  · rw [key _ _ (by omega)]; exact a6
  · unfold paU
    by_cases e : i2 = i
    · rw [if_pos e, e, kR_Ur, if_pos ⟨rfl, rfl⟩]
    · rw [if_neg e, key _ _ (by omega)]; exact b0 i2 hi8
  · rw [key _ _ (by omega)]; exact c0
  · rw [key _ _ (by omega)]; exact c1
  · rw [key _ _ (by omega)]; exact c2
  · rw [key _ _ (by omega)]; exact c3
  · rw [key _ _ (by omega)]; exact c4
  · rw [key _ _ (by omega)]; exact d0
  · rw [key _ _ (by omega)]; exact d1
  · rw [key _ _ (by omega)]; exact d2
  · rw [key _ _ (by omega)]; exact e0 k hk
  · obtain ⟨⟨g0, g1, g2⟩, g3, g4, g5⟩ := f0 r2 hr
    refine ⟨⟨?_, ?_, ?_⟩, fun i2 h5 => ⟨?_, ?_⟩, fun i2 h6 => ⟨?_, (g4 i2 h6).2⟩, fun k h6 => ⟨?_, ?_, ?_⟩⟩
    · rw [key _ _ (by unfold bR; omega)]; exact g0
    · rw [key _ _ (by unfold bR; omega)]; exact g1
    · rw [key _ _ (by unfold bR; omega)]; exact g2
    · rw [key _ _ (by unfold bR; omega)]; exact (g3 i2 h5).1
    · rw [key _ _ (by unfold bR; omega)]; exact (g3 i2 h5).2
    · rw [key _ _ (by unfold bR; omega)]; exact (g4 i2 h6).1
    · rw [key _ _ (by unfold bR; omega)]; exact (g5 k h6).1
    · rw [key _ _ (by unfold bR; omega)]; exact (g5 k h6).2.1
    · rw [key _ _ (by unfold bR; omega)]; exact (g5 k h6).2.2
theorem iSl_0 {j : Nat} (h : j = 3 ∨ j = 5 ∨ j = 8 ∨ j = 9) : iSl 0 j := Or.inl ⟨rfl, h⟩
/-- the cells that the shop's own turning changes -/
def FA (ad : Nat → Nat) (κ κ' : jKt) : Prop := ∀ n j, n ≠ 1 → ¬ (n = 0 ∧ (j = 0 ∨ j = 1 ∨ j = 5)) → κ' (ad n) j = κ (ad n) j
theorem FA.trans {κ2 : jKt} (h : FA ad κ κ1) (g : FA ad κ1 κ2) : FA ad κ κ2 := fun n j a b => (g n j a b).trans (h n j a b)
theorem FA.U (hi : ∀ a b, ad a = ad b → a = b) {n j : Nat} {w : Value} (h : n = 1 ∨ (n = 0 ∧ (j = 0 ∨ j = 1 ∨ j = 5))) : FA ad κ (kU κ (ad n) j w) := by
  intro a b h1 h2
  unfold kU
  rw [if_neg (fun g => ?_)]
  have e := hi _ _ g.1
  omega
theorem PT.pp (hP : PT ad κ pr tr pa su) : kR κ (ad 0) 4 = ad 1 := hP.1.2.2.2.1
theorem X6_adopt13 (hi : ∀ a b, ad a = ad b → a = b) (hP : PT ad κ pr tr pa su) {ch : Nat} (hch : ch < 8) (h5 : iS ad κ 0 5 = oN ch) :
    ∃ κ', P_X6_adoptTrial_13 κ (ad 0) = some κ' ∧ PT ad κ' tr (pa ch) (paU pa ch pr) su ∧ iS ad κ' 0 5 = oN (ch + 1) ∧ FA ad κ κ' := by
  have e5 : kI κ (ad 0) 5 = oN ch := h5
  have p0 : kR κ (ad 0) 0 = ad (bR pr) := hP.1.1
  have pch : kR κ (ad 1) ch = ad (bR (pa ch)) := hP.2.1 ch hch
  have h1 := PT_pa (x := pr) (i := ch) hi hP
  have f1 : FA ad κ (kU κ (ad 1) ch (.ref (ad (bR pr)))) := FA.U hi (Or.inl rfl)
  have r1 : kI (kU κ (ad 1) ch (.ref (ad (bR pr)))) (ad 0) 5 = oN ch := by
    have := kI_sw (κ := κ) hi (n := 1) (j := ch) (x := ad (bR pr)) (b := 0) (k := 5) (by omega)
    exact this.trans h5
  have e1 : (oN ch + 1 : Int32) = oN (ch + 1) := oN_add ch 1
  have h2 := PT_U (n := 0) (j := 5) (x := oN (ch + 1)) hi h1 (iSl_0 (by omega))
  have f2 := f1.trans (FA.U (κ := kU κ (ad 1) ch (.ref (ad (bR pr)))) hi (n := 0) (j := 5) (w := .int (oN (ch + 1))) (by omega))
  have p1 : kR (kU (kU κ (ad 1) ch (.ref (ad (bR pr)))) (ad 0) 5 (.int (oN (ch + 1)))) (ad 0) 1 = ad (bR tr) := h2.1.2.1
  have h3 := PT_pr (x := tr) hi h2
  have f3 := f2.trans (FA.U (κ := kU (kU κ (ad 1) ch (.ref (ad (bR pr)))) (ad 0) 5 (.int (oN (ch + 1)))) hi (n := 0) (j := 0) (w := .ref (ad (bR tr))) (by omega))
  have h4 := PT_tr (x := pa ch) hi h3
  have f4 := f3.trans (FA.U (κ := kU (kU (kU κ (ad 1) ch (.ref (ad (bR pr)))) (ad 0) 5 (.int (oN (ch + 1)))) (ad 0) 0 (.ref (ad (bR tr)))) hi (n := 0) (j := 1) (w := .ref (ad (bR (pa ch)))) (by omega))
  refine ⟨_, ?_, h4, ?_, f4⟩
  · unfold P_X6_adoptTrial_13
    rw [e5, ck_t ((oN_jin (by omega)).mpr (by omega)), ck_t ((oN_jin (by omega)).mpr (by omega)), oN_ix (by omega), hP.pp, p0, bnd_e, r1, e1, bnd_e, p1, bnd_e, pch, bnd_e]
  · rw [kI_sw hi (by omega), kI_sw hi (by omega), iS_U hi, if_pos ⟨rfl, rfl⟩]
/-- the places of the past, the oldest turned behind -/
def paS (pa : Nat → Nat) (i : Nat) : Nat := if i < 7 then pa (i + 1) else pa 0
theorem X6_forget (hi : ∀ a b, ad a = ad b → a = b) (hP : PT ad κ pr tr pa su) :
    ∃ κ', P_X6_forgetOldest κ (ad 0) = some κ' ∧ PT ad κ' pr tr (paS pa) su ∧ iS ad κ' 0 5 = oN 7 ∧ FA ad κ κ' := by
  have p0 : kR κ (ad 1) 0 = ad (bR (pa 0)) := hP.2.1 0 (by omega)
  have L : ∀ (q i f : Nat) (κ1 : jKt) (pa1 : Nat → Nat), i + q = 8 → 1 ≤ i → q < f → PT ad κ1 pr tr pa1 su → FA ad κ κ1 → (∀ j, j < 8 → pa1 j = if j + 1 < i then pa (j + 1) else pa j) →
      ∃ κ', P_X6_forgetOldest_9 (ad 0) (ad (bR (pa 0))) f κ1 (oN i) = some κ' ∧ PT ad κ' pr tr (paS pa) su ∧ iS ad κ' 0 5 = oN 7 ∧ FA ad κ κ' := by
    intro q
    induction q with
    | zero =>
      intro i f κ1 pa1 g1 g0 g2 hP1 hF hpa
      obtain ⟨f, rfl⟩ : ∃ g, f = g + 1 := ⟨f - 1, by omega⟩
      have ei : i = 8 := by omega
      subst ei
      have h1 := PT_pa (x := pa 0) (i := 7) hi hP1
      have h2 := PT_U (n := 0) (j := 5) (x := 7) hi h1 (iSl_0 (by omega))
      have f1 : FA ad κ1 (kU κ1 (ad 1) 7 (.ref (ad (bR (pa 0))))) := FA.U hi (Or.inl rfl)
      have f2 := f1.trans (FA.U (κ := kU κ1 (ad 1) 7 (.ref (ad (bR (pa 0))))) hi (n := 0) (j := 5) (w := .int 7) (by omega))
      refine ⟨_, ?_, ?_, ?_, hF.trans f2⟩
      · rw [P_X6_forgetOldest_9, if_pos (by decide), hP1.pp, show ix 7 = 7 from rfl, bnd_e, bnd_e]
      · obtain ⟨a0, b0, c0, d0, e0, f0⟩ := h2
        refine ⟨a0, fun i hi8 => ?_, c0, d0, e0, f0⟩
        rw [b0 i hi8]
        unfold paU paS
        by_cases e : i = 7
        · rw [if_pos e, if_neg (by omega)]
        · rw [if_neg e, if_pos (by omega), hpa i hi8, if_pos (by omega)]
      · rw [iS_U hi, if_pos ⟨rfl, rfl⟩]; rfl
    | succ q ih =>
      intro i f κ1 pa1 g1 g0 g2 hP1 hF hpa
      obtain ⟨f, rfl⟩ : ∃ g, f = g + 1 := ⟨f - 1, by omega⟩
      have e1 : (oN i + 1 : Int32) = oN (i + 1) := oN_add i 1
      have e0 : (oN i - 1 : Int32) = oN (i - 1) := by rw [show (1 : Int32) = oN 1 from rfl, oN_sub (by omega)]
      have pi : kR κ1 (ad 1) i = ad (bR (pa1 i)) := hP1.2.1 i (by omega)
      have h1 := PT_pa (x := pa1 i) (i := i - 1) hi hP1
      have f1 : FA ad κ1 (kU κ1 (ad 1) (i - 1) (.ref (ad (bR (pa1 i))))) := FA.U hi (Or.inl rfl)
      rw [P_X6_forgetOldest_9, if_neg (by rw [show (8 : Int32) = oN 8 from rfl]; exact fun h => by have := (oN_le (by omega) (by omega)).mp h; omega), e0, ck_t ((oN_jin (by omega)).mpr (by omega)), ck_t ((oN_jin (by omega)).mpr (by omega)), oN_ix (by omega), oN_ix (by omega), hP1.pp, pi, bnd_e, e1]
      refine ih (i + 1) f _ _ (by omega) (by omega) (by omega) h1 (hF.trans f1) (fun j hj => ?_)
      unfold paU
      by_cases e : j = i - 1
      · rw [if_pos e, if_pos (by omega), hpa i (by omega), if_neg (by omega), show j + 1 = i by omega]
      · rw [if_neg e, hpa j hj]
        by_cases e2 : j + 1 < i
        · rw [if_pos e2, if_pos (by omega)]
        · rw [if_neg e2, if_neg (by omega)]
  unfold P_X6_forgetOldest
  rw [hP.pp, show ix 0 = 0 from rfl, p0]
  exact L 7 1 4000 κ pa (by omega) (by omega) (by omega) hP (fun _ _ _ _ => rfl) (fun j hj => by rw [if_neg (by omega)])
def chN (ch : Nat) : Nat := if ch = 8 then 8 else ch + 1
def psN (ps : Nat → Nat → Int32) (ch : Nat) (v : Nat → Int32) : Nat → Nat → Int32 := fun i => if ch = 8 then (if i < 7 then ps (i + 1) else v) else (if i = ch then v else ps i)
/-- the rooms: present, trial and past are ten rooms, each once -/
def CHp (ad : Nat → Nat) (κ : jKt) (pr tr : Nat) (pa : Nat → Nat) (su : Nat → Nat → Nat) (ch : Nat) : Prop :=
  PT ad κ pr tr pa su ∧ (pr < 10 ∧ tr < 10 ∧ pr ≠ tr) ∧ (∀ i, i < 8 → pa i < 10 ∧ pa i ≠ pr ∧ pa i ≠ tr) ∧ (∀ i j, i < 8 → j < 8 → pa i = pa j → i = j) ∧ (∀ r, r < 11 → ∀ i k, i < 6 → k < 6 → su r i = su r k → i = k) ∧ ch ≤ 8 ∧ iS ad κ 0 5 = oN ch
/-- the class's half of the state: present row, rows of the past, the saved row -/
def CH (ad : Nat → Nat) (κ : jKt) (v : Nat → Int32) (ch : Nat) (ps : Nat → Nat → Int32) (hs : Int32) (sv : Nat → Int32) : Prop :=
  ∃ pr tr pa su, CHp ad κ pr tr pa su ch ∧ RRel (iS ad κ) pr (su pr) v ∧ (∀ i, i < ch → RRel (iS ad κ) (pa i) (su (pa i)) (ps i)) ∧ iS ad κ 0 3 = hs ∧ (hs ≠ 0 → RRel (iS ad κ) 10 (su 10) sv)
/-- all rows of the state are good -/
def GH (v : Nat → Int32) (ch : Nat) (ps : Nat → Nat → Int32) (hs : Int32) (sv : Nat → Int32) (K : Nat) : Prop := GX v K ∧ (∀ i, i < ch → GX (ps i) K) ∧ (hs ≠ 0 → GX sv K)
theorem GH.up {ch : Nat} {ps : Nat → Nat → Int32} {hs : Int32} {sv : Nat → Int32} {K K' : Nat} (h : GH v ch ps hs sv K) (hk : K ≤ K') : GH v ch ps hs sv K' := ⟨h.1.up hk, fun i hi => (h.2.1 i hi).up hk, fun z => (h.2.2 z).up hk⟩
theorem GH.next {ch : Nat} {ps : Nat → Nat → Int32} {hs : Int32} {sv v' : Nat → Int32} {K : Nat} (h : GH v ch ps hs sv K) (hch : ch ≤ 8) (hv : GX v' (K + 1)) : GH v' (chN ch) (psN ps ch v) hs sv (K + 1) := by
  refine ⟨hv, fun i hi => ?_, fun z => (h.2.2 z).up (by omega)⟩
  unfold psN chN at *
  by_cases e : ch = 8
  · rw [if_pos e] at hi ⊢
    by_cases e2 : i < 7
    · rw [if_pos e2]; exact (h.2.1 _ (by omega)).up (by omega)
    · rw [if_neg e2]; exact h.1.up (by omega)
  · rw [if_neg e] at hi ⊢
    by_cases e2 : i = ch
    · rw [if_pos e2]; exact h.1.up (by omega)
    · rw [if_neg e2]; exact (h.2.1 _ (by omega)).up (by omega)
theorem bR_ne {a b x y : Nat} (hab : a ≠ b) (hx : x < 50) (hy : y < 50) : bR a + x ≠ bR b + y := by
  intro e
  unfold bR at e
  rcases Nat.lt_or_gt_of_ne hab with q | q <;> omega
theorem inR_ne {a b n : Nat} (hab : a ≠ b) (h1 : bR a ≤ n) (h2 : n < bR a + 38) : ¬ inR b n := by
  intro g
  have := bR_ne (x := n - bR a) (y := n - bR b) hab (by omega) (by have := g.2; omega)
  have := g.1
  omega
theorem RRel_k {κ' : jKt} {r : Nat} {su1 : Nat → Nat} (h : RRel (iS ad κ) r su1 v) (hsu : ∀ i, i < 6 → su1 i < 6) (hG : GR v) (e : ∀ n j, bR r ≤ n → n < bR r + 38 → κ' (ad n) j = κ (ad n) j) : RRel (iS ad κ') r su1 v := by
  refine h.same hsu hG (fun n j h1 h2 => ?_)
  unfold iS kI
  rw [e n j h1 h2]
theorem X6_adopt (hi : ∀ a b, ad a = ad b → a = b) {ch : Nat} {ps : Nat → Nat → Int32} {hs : Int32} {sv v' : Nat → Int32} {K : Nat} (hC : CHp ad κ pr tr pa su ch) (hG : GH v ch ps hs sv K) (hv' : GR v') (hv : RRel (iS ad κ) pr (su pr) v) (ht : RRel (iS ad κ) tr (su tr) v') (hp : ∀ i, i < ch → RRel (iS ad κ) (pa i) (su (pa i)) (ps i)) (h3 : iS ad κ 0 3 = hs) (h10 : hs ≠ 0 → RRel (iS ad κ) 10 (su 10) sv) :
    ∃ κ', P_X6_adoptTrial κ (ad 0) = some κ' ∧ CH ad κ' v' (chN ch) (psN ps ch v) hs sv ∧ FA ad κ κ' := by
  obtain ⟨hP, ⟨c1, c2, c3⟩, c4, c5, c6, c7, c8⟩ := hC
  have c8' : kI κ (ad 0) 5 = oN ch := c8
  have keep : ∀ {κ'} (_ : FA ad κ κ') {r : Nat} {w : Nat → Int32}, r < 11 → GR w → RRel (iS ad κ) r (su r) w → RRel (iS ad κ') r (su r) w := fun hF r w hr hw hR => RRel_k hR (fun i h6 => hP.s6 hr h6) hw (fun n j n1 n2 => hF n j (by unfold bR at n1; omega) (by unfold bR at n1; omega))
  have i3 : ∀ {κ'}, FA ad κ κ' → iS ad κ' 0 3 = hs := fun hF => by unfold iS kI; rw [hF 0 3 (by omega) (by omega)]; exact h3
  unfold P_X6_adoptTrial
  rw [c8']
  by_cases e : ch = 8
  · subst e
    obtain ⟨κ1, f1, f2, f3, f4⟩ := X6_forget hi hP
    obtain ⟨κ2, g1, g2, g3, g4⟩ := X6_adopt13 (ch := 7) hi f2 (by omega) f3
    have hF := f4.trans g4
    have e0 : paS pa 7 = pa 0 := if_neg (by omega)
    rw [e0] at g2
    rw [if_pos (show oN 8 = 8 from rfl), f1, bd_s]
    refine ⟨κ2, g1, ⟨tr, pa 0, _, su, ⟨g2, ⟨c2, (c4 0 (by omega)).1, fun q => (c4 0 (by omega)).2.2 q.symm⟩, fun i hi8 => ?_, fun i j hi8 hj8 q => ?_, c6, by unfold chN; rw [if_pos rfl]; omega, by unfold chN; rw [if_pos rfl]; exact g3⟩, keep hF (by omega) hv' ht, fun i hic => ?_, i3 hF, fun z => keep hF (by omega) (hG.2.2 z).1 (h10 z)⟩, hF⟩
    · unfold paU paS
      by_cases z : i = 7
      · rw [if_pos z]
        exact ⟨c1, c3, fun q => (c4 0 (by omega)).2.1 q.symm⟩
      · rw [if_neg z, if_pos (by omega)]
        obtain ⟨k1, k2, k3⟩ := c4 (i + 1) (by omega)
        exact ⟨k1, k3, fun q => by have := c5 _ _ (by omega) (by omega) q; omega⟩
    · unfold paU paS at q
      by_cases z : i = 7
      · rw [if_pos z] at q
        by_cases z2 : j = 7
        · omega
        · rw [if_neg z2, if_pos (by omega)] at q
          exact absurd q.symm (c4 (j + 1) (by omega)).2.1
      · rw [if_neg z, if_pos (by omega)] at q
        by_cases z2 : j = 7
        · rw [if_pos z2] at q
          exact absurd q (c4 (i + 1) (by omega)).2.1
        · rw [if_neg z2, if_pos (by omega)] at q
          have := c5 _ _ (by omega) (by omega) q
          omega
    · unfold chN at hic
      rw [if_pos rfl] at hic
      unfold paU psN paS
      rw [if_pos rfl]
      by_cases z : i = 7
      · rw [if_pos z, if_neg (by omega)]
        exact keep hF (by omega) hG.1.1 hv
      · rw [if_neg z, if_pos (by omega), if_pos (by omega)]
        exact keep hF (by have := (c4 (i + 1) (by omega)).1; omega) (hG.2.1 (i + 1) (by omega)).1 (hp (i + 1) (by omega))
  · have hlt : ch < 8 := by omega
    obtain ⟨κ2, g1, g2, g3, g4⟩ := X6_adopt13 hi hP hlt c8
    rw [if_neg (by rw [show (8 : Int32) = oN 8 from rfl]; exact fun z => e ((oN_eq (by omega) (by omega)).mp z))]
    obtain ⟨k1, k2, k3⟩ := c4 ch hlt
    refine ⟨κ2, g1, ⟨tr, pa ch, _, su, ⟨g2, ⟨c2, k1, fun q => k3 q.symm⟩, fun i hi8 => ?_, fun i j hi8 hj8 q => ?_, c6, by unfold chN; rw [if_neg e]; omega, by unfold chN; rw [if_neg e]; exact g3⟩, keep g4 (by omega) hv' ht, fun i hic => ?_, i3 g4, fun z => keep g4 (by omega) (hG.2.2 z).1 (h10 z)⟩, g4⟩
    · unfold paU
      by_cases z : i = ch
      · rw [if_pos z]
        exact ⟨c1, c3, fun q => k2 q.symm⟩
      · rw [if_neg z]
        obtain ⟨m1, m2, m3⟩ := c4 i hi8
        exact ⟨m1, m3, fun q => z (c5 _ _ hi8 hlt q)⟩
    · unfold paU at q
      by_cases z : i = ch
      · rw [if_pos z] at q
        by_cases z2 : j = ch
        · omega
        · rw [if_neg z2] at q
          exact absurd q.symm (c4 j hj8).2.1
      · rw [if_neg z] at q
        by_cases z2 : j = ch
        · rw [if_pos z2] at q
          exact absurd q (c4 i hi8).2.1
        · rw [if_neg z2] at q
          exact c5 _ _ hi8 hj8 q
    · unfold chN at hic
      rw [if_neg e] at hic
      unfold paU psN
      rw [if_neg e]
      by_cases z : i = ch
      · rw [if_pos z, if_pos z]
        exact keep g4 (by omega) hG.1.1 hv
      · rw [if_neg z, if_neg z]
        exact keep g4 (by have := (c4 i (by omega)).1; omega) (hG.2.1 i (by omega)).1 (hp i (by omega))
/-- what a change may touch of the class -/
def FCl (ad : Nat → Nat) (κ κ' : jKt) : Prop := ∀ n j, (2 ≤ n ∧ n < 100) ∨ (n = 0 ∧ j ≠ 0 ∧ j ≠ 1 ∧ j ≠ 3 ∧ j ≠ 5) → κ' (ad n) j = κ (ad n) j
theorem FCl.trans {κ2 : jKt} (h : FCl ad κ κ1) (g : FCl ad κ1 κ2) : FCl ad κ κ2 := fun n j a => (g n j a).trans (h n j a)
theorem FA.cl (h : FA ad κ κ1) : FCl ad κ κ1 := fun n j a => h n j (by omega) (by omega)
theorem X5_perform (hi : ∀ a b, ad a = ad b → a = b) (hP : PT ad κ pr tr pa su) {r : Nat} (hr : r < 11) (hR : RRel (iS ad κ) r (su r) v) {K : Nat} (hX : GX v K) {k : Nat} (hk : k < 10) (a b c : Int32) : ∃ x κ', P_X5_perform κ (ad (bR r)) (oN k) a b c = some (x, κ') ∧ CO ad κ κ' r pr tr pa su (oK k v a b c) x := by
  unfold P_X5_perform
  match k, hk with
  | 0, _ => obtain ⟨x, κ', h1, h2⟩ := C0 hi hP hr hR hX.1 a b; exact ⟨x, κ', by rw [if_pos (by decide), h1, bd2_s], h2⟩
  | 1, _ => obtain ⟨x, κ', h1, h2⟩ := C1 hi hP hr hR hX.1 a b; exact ⟨x, κ', by rw [if_neg (by decide), if_pos (by decide), h1, bd2_s], h2⟩
  | 2, _ => obtain ⟨x, κ', h1, h2⟩ := C2 hi hP hr hR hX.1 a b c; exact ⟨x, κ', by rw [if_neg (by decide), if_neg (by decide), if_pos (by decide), h1, bd2_s], h2⟩
  | 3, _ => obtain ⟨x, κ', h1, h2⟩ := C3 hi hP hr hR hX.1 a b; exact ⟨x, κ', by rw [if_neg (by decide), if_neg (by decide), if_neg (by decide), if_pos (by decide), h1, bd2_s], h2⟩
  | 4, _ => obtain ⟨x, κ', h1, h2⟩ := C4 hi hP hr hR hX.1 a b; exact ⟨x, κ', by rw [if_neg (by decide), if_neg (by decide), if_neg (by decide), if_neg (by decide), if_pos (by decide), h1, bd2_s], h2⟩
  | 5, _ => obtain ⟨x, κ', h1, h2⟩ := C5 hi hP hr hR hX a b; exact ⟨x, κ', by rw [if_neg (by decide), if_neg (by decide), if_neg (by decide), if_neg (by decide), if_neg (by decide), if_pos (by decide), h1, bd2_s], h2⟩
  | 6, _ => obtain ⟨x, κ', h1, h2⟩ := C6 hi hP hr hR hX.1 a b; exact ⟨x, κ', by rw [if_neg (by decide), if_neg (by decide), if_neg (by decide), if_neg (by decide), if_neg (by decide), if_neg (by decide), if_pos (by decide), h1, bd2_s], h2⟩
  | 7, _ => obtain ⟨x, κ', h1, h2⟩ := C7 hi hP hr hR hX.1 a b c; exact ⟨x, κ', by rw [if_neg (by decide), if_neg (by decide), if_neg (by decide), if_neg (by decide), if_neg (by decide), if_neg (by decide), if_neg (by decide), if_pos (by decide), h1, bd2_s], h2⟩
  | 8, _ => obtain ⟨x, κ', h1, h2⟩ := C8 hi hP hr hR hX a; exact ⟨x, κ', by rw [if_neg (by decide), if_neg (by decide), if_neg (by decide), if_neg (by decide), if_neg (by decide), if_neg (by decide), if_neg (by decide), if_neg (by decide), if_pos (by decide), h1, bd2_s], h2⟩
  | 9, _ => obtain ⟨x, κ', h1, h2⟩ := C9 hi hP hr hR hX a; exact ⟨x, κ', by rw [if_neg (by decide), if_neg (by decide), if_neg (by decide), if_neg (by decide), if_neg (by decide), if_neg (by decide), if_neg (by decide), if_neg (by decide), if_neg (by decide), h1, bd2_s], h2⟩
/-- the class of what is thrown -/
def exK (e : Int32) : String := if e = -4 then "java/lang/IllegalStateException" else if e = -3 then "java/lang/IllegalArgumentException" else if e = -2 then "java/lang/IndexOutOfBoundsException" else if e = -1 then "java/util/NoSuchElementException" else "java/lang/UnsupportedOperationException"
theorem X6_refuse (e : Int32) : P_X6_refuse κ e = some (.error (exK e)) := by
  unfold P_X6_refuse exK
  by_cases h4 : e = -4
  · rw [if_pos h4, if_pos h4]
  · rw [if_neg h4, if_neg h4]
    by_cases h3 : e = -3
    · rw [if_pos h3, if_pos h3]
    · rw [if_neg h3, if_neg h3]
      by_cases h2 : e = -2
      · rw [if_pos h2, if_pos h2]
      · rw [if_neg h2, if_neg h2]
        by_cases h1 : e = -1
        · rw [if_pos h1, if_pos h1]
        · rw [if_neg h1, if_neg h1]
/-- what is refused is answered by a number below 0 -/
theorem oS_neg {v : Nat → Int32} {id : Int32} {g : Nat → oR} {e : Int32} (hg : ∀ s, g s = .error e → e < 0) (h : oS v id g = .error e) : e < 0 := by
  unfold oS at h
  cases hf : fd v id with
  | none => rw [hf] at h; injection h with h; rw [← h]; decide
  | some s => rw [hf] at h; exact hg s h
theorem oK_neg {v : Nat → Int32} {k : Nat} {a b c e : Int32} (h : oK k v a b c = .error e) : e < 0 := by
  have fin : ∀ {x : Int32}, (Except.error x : oR) = .error e → x < 0 → e < 0 := fun q z => by injection q with q; rw [← q]; exact z
  unfold oK at h
  split at h
  · unfold o0 at h
    split at h
    · exact fin h (by decide)
    · split at h
      · exact fin h (by decide)
      · split at h
        · cases h
        · exact fin h (by decide)
  · unfold o1 at h
    split at h
    · exact fin h (by decide)
    · split at h
      · exact fin h (by decide)
      · split at h
        · exact fin h (by decide)
        · cases h
  · unfold o2 at h
    split at h
    · exact fin h (by decide)
    · split at h
      · exact fin h (by decide)
      · cases h
  · unfold o3 at h
    split at h
    · exact fin h (by decide)
    · split at h
      · exact fin h (by decide)
      · split at h
        · exact fin h (by decide)
        · cases h
  · refine oS_neg (fun s h => ?_) h
    split at h
    · exact fin h (by decide)
    · split at h
      · exact fin h (by decide)
      · split at h
        · cases h
        · exact fin h (by decide)
  · refine oS_neg (fun s h => ?_) h
    split at h
    · exact fin h (by decide)
    · split at h
      · exact fin h (by decide)
      · split at h
        · exact fin h (by decide)
        · cases h
  · refine oS_neg (fun s h => ?_) h
    split at h
    · exact fin h (by decide)
    · split at h
      · exact fin h (by decide)
      · split at h
        · exact fin h (by decide)
        · cases h
  · refine oS_neg (fun s h => ?_) h
    split at h
    · exact fin h (by decide)
    · split at h
      · exact fin h (by decide)
      · split at h
        · exact fin h (by decide)
        · split at h
          · exact fin h (by decide)
          · split at h
            · exact fin h (by decide)
            · cases h
  · refine oS_neg (fun s h => ?_) h
    split at h
    · cases h
    · exact fin h (by decide)
  · refine oS_neg (fun s h => ?_) h
    cases h
/-- a change in the class -/
theorem X6_change (hi : ∀ a b, ad a = ad b → a = b) {ch : Nat} {ps : Nat → Nat → Int32} {hs : Int32} {sv : Nat → Int32} {K : Nat} (hC : CH ad κ v ch ps hs sv) (hG : GH v ch ps hs sv K) (hK : K < 2 ^ 30) {k : Nat} (hk : k < 10) (a b c : Int32) : match oK k v a b c with
    | .ok (x, v') => ∃ κ', P_X6_change κ (ad 0) (oN k) a b c = some (.ok x, κ') ∧ CH ad κ' v' (chN ch) (psN ps ch v) hs sv ∧ FCl ad κ κ'
    | .error e => ∃ κ', P_X6_change κ (ad 0) (oN k) a b c = some (.error (exK e), κ') ∧ CH ad κ' v ch ps hs sv ∧ FCl ad κ κ' := by
  obtain ⟨pr, tr, pa, su, ⟨hP, ⟨c1, c2, c3⟩, c4, c5, c6, c7, c8⟩, hv, hp, h3, h10⟩ := hC
  obtain ⟨κ1, t1, t2, t3⟩ := X5_take (a := tr) (b := pr) hi hP (by omega) (by omega) (fun q => c3 q.symm) (c6 tr (by omega)) hv hG.1.1
  have hP1 := t2.pt hP
  have keep1 : ∀ {r : Nat} {w : Nat → Int32}, r < 11 → r ≠ tr → GR w → RRel (iS ad κ) r (su r) w → RRel (iS ad κ1) r (su r) w := fun hr hne hw hR => RRel_k hR (fun i h6 => hP.s6 hr h6) hw (fun n j n1 n2 => t2 n j (fun g => absurd g (inR_ne hne n1 n2)))
  have F1 : ∀ n j, n < 100 → κ1 (ad n) j = κ (ad n) j := fun n j hn => t2 n j (fun g => absurd g (by unfold inR bR; omega))
  obtain ⟨x, κ2, q1, su', q2, q3, q4, q5⟩ := X5_perform hi hP1 (by omega : tr < 11) t3 hG.1 hk a b c
  have p1 : kR κ (ad 0) 1 = ad (bR tr) := hP.1.2.1
  have p0 : kR κ (ad 0) 0 = ad (bR pr) := hP.1.1
  have p1' : kR κ1 (ad 0) 1 = ad (bR tr) := hP1.1.2.1
  have i5 : iS ad κ1 0 5 = oN ch := by unfold iS kI; rw [F1 0 5 (by omega)]; exact c8
  have i3 : iS ad κ1 0 3 = hs := by unfold iS kI; rw [F1 0 3 (by omega)]; exact h3
  have head : P_X6_change κ (ad 0) (oN k) a b c = (if 0 ≤ x then bd (P_X6_adoptTrial κ2 (ad 0)) fun κ43 => some (.ok x, κ43) else bdx (P_X6_refuse κ2 x) (fun E46 => some (.error E46, κ2)) fun _ => bd (P_X6_adoptTrial κ2 (ad 0)) fun κ48 => some (.ok x, κ48)) := by
    unfold P_X6_change
    rw [p1, p0, t1, bd_s, p1', q1, bd2_s]
  cases hres : oK k v a b c with
  | error e =>
    rw [hres] at q5
    obtain ⟨e1, e2⟩ := q5
    have hneg := oK_neg hres
    subst e1
    subst e2
    refine ⟨κ2, ?_, ⟨pr, tr, pa, su, ⟨hP1, ⟨c1, c2, c3⟩, c4, c5, c6, c7, i5⟩, keep1 (by omega) c3 hG.1.1 hv, fun i hic => keep1 (by have := (c4 i (by omega)).1; omega) (c4 i (by omega)).2.2 (hG.2.1 i hic).1 (hp i hic), i3, fun z => keep1 (by omega) (by omega) (hG.2.2 z).1 (h10 z)⟩, fun n j hn => F1 n j (by omega)⟩
    rw [head, if_neg (Int32.not_le.mpr hneg), X6_refuse, bdx_e]
  | ok p =>
    obtain ⟨y, v'⟩ := p
    rw [hres] at q5
    obtain ⟨e1, e2⟩ := q5
    obtain ⟨hX', hpos⟩ := IK hG.1 hK hres
    subst e1
    have F2 : ∀ n j, n < 100 → κ2 (ad n) j = κ (ad n) j := fun n j hn => (q4 n j (by unfold inR bR; omega)).trans (F1 n j hn)
    have keep2 : ∀ {r : Nat} {w : Nat → Int32}, r < 11 → r ≠ tr → GR w → RRel (iS ad κ) r (su r) w → RRel (iS ad κ2) r (su' r) w := fun {r w} hr hne hw hR => by
      rw [q2 r hne]
      exact RRel_k (keep1 hr hne hw hR) (fun i h6 => hP.s6 hr h6) hw (fun n j n1 n2 => q4 n j (inR_ne hne n1 n2))
    have hinj : ∀ r, r < 11 → ∀ i k, i < 6 → k < 6 → su' r i = su' r k → i = k := by
      intro r hr
      by_cases e : r = tr
      · rw [e]; exact e2.2.2.2.2
      · rw [q2 r e]; exact c6 r hr
    have j5 : iS ad κ2 0 5 = oN ch := by unfold iS kI; rw [F2 0 5 (by omega)]; exact c8
    have j3 : iS ad κ2 0 3 = hs := by unfold iS kI; rw [F2 0 3 (by omega)]; exact h3
    obtain ⟨κ3, r1, r2, r3⟩ := X6_adopt (K := K) (v := v) (v' := v') (ps := ps) (hs := hs) (sv := sv) hi ⟨q3, ⟨c1, c2, c3⟩, c4, c5, hinj, c7, j5⟩ hG hX'.1 (keep2 (by omega) c3 hG.1.1 hv) e2 (fun i hic => keep2 (by have := (c4 i (by omega)).1; omega) (c4 i (by omega)).2.2 (hG.2.1 i hic).1 (hp i hic)) j3 (fun z => keep2 (by omega) (by omega) (hG.2.2 z).1 (h10 z))
    refine ⟨κ3, ?_, r2, fun n j hn => (r3.cl n j hn).trans (F2 n j (by omega))⟩
    rw [head, if_pos hpos, r1, bd_s]
end ADOPT
